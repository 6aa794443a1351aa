/-! THE METHODS AS FUNCTIONS (by program). -/
noncomputable def f_M_thrown_28 (K : px_K) (N : Nat) (s : px_S) (t : px_W) : Option px_Res :=
  (some (.inl (some (.int (s.1 25))), s, t))
set_option maxRecDepth 100000 in
theorem e_M_thrown_28 (K : px_K) (N : Nat) (s : px_S) (t : px_W) (r : px_Res) (h : f_M_thrown_28 K N s t = some r) : px_E px_ET px_P 1 24 0 (px_ent 1 [.ref 28]) [] (px_w K s t) r.1 (px_w K r.2.1 r.2.2) := by
  have hM : px_P[24]? = some pm_M_thrown := rfl
  unfold f_M_thrown_28 at h
  refine px_blk (i' := 2) (L' := [some (.ref 28)]) (S' := [.int (s.1 25)]) (w' := px_w K s t) (q := []) 2 hM rfl trivial ?_
  cases h
  exact px_E_ret hM rfl rfl rfl trivial
noncomputable def f_M_at (K : px_K) (N : Nat) (a0 : Int32) (a1 : Int32) (s : px_S) (t : px_W) : Option px_Res :=
  (some (.inl (some (.int ((16 : Int32) * (if ¬ a0 = 0 then ((125 : Int32) + a1) else a1)))), s, t))
set_option maxRecDepth 100000 in
theorem e_M_at (K : px_K) (N : Nat) (a0 : Int32) (a1 : Int32) (s : px_S) (t : px_W) (r : px_Res) (h : f_M_at K N a0 a1 s t = some r) : px_E px_ET px_P 1 25 0 (px_ent 2 [.int a0, .int a1]) [] (px_w K s t) r.1 (px_w K r.2.1 r.2.2) := by
  have hM : px_P[25]? = some pm_M_at := rfl
  unfold f_M_at at h
  refine px_blk (i' := 2) (L' := [some (.int a0), some (.int a1)]) (S' := [.int a0, .int (16 : Int32)]) (w' := px_w K s t) (q := []) 2 hM rfl trivial ?_
  have hK : px_E px_ET px_P 1 25 8 [some (.int a0), some (.int a1)] [.int (if ¬ a0 = 0 then ((125 : Int32) + a1) else a1), .int (16 : Int32)] (px_w K s t) r.1 (px_w K r.2.1 r.2.2) := by
    refine px_blk (i' := 9) (L' := [some (.int a0), some (.int a1)]) (S' := [.int ((16 : Int32) * (if ¬ a0 = 0 then ((125 : Int32) + a1) else a1))]) (w' := px_w K s t) (q := []) 1 hM rfl trivial ?_
    cases h
    exact px_E_ret hM rfl rfl rfl trivial
  clear h
  refine px_blkif (c := ¬ a0 = 0) (t := 5) (e := 3) (L' := [some (.int a0), some (.int a1)]) (S' := [.int (16 : Int32)]) (w' := px_w K s t) (q := []) 1 hM rfl trivial (fun hc1 => ?_) (fun hc1 => ?_)
  · rw [if_pos hc1] at hK
    exact px_blk (i' := 8) (L' := [some (.int a0), some (.int a1)]) (S' := [.int ((125 : Int32) + a1), .int (16 : Int32)]) (w' := px_w K s t) (q := []) 3 hM rfl trivial hK
  · rw [if_neg hc1] at hK
    exact px_blk (i' := 8) (L' := [some (.int a0), some (.int a1)]) (S' := [.int a1, .int (16 : Int32)]) (w' := px_w K s t) (q := []) 2 hM rfl trivial hK
noncomputable def l_M_becomesStable_28_15 (K : px_K) (N : Nat) (n : Nat) (u3 : Int32) (u4 : Int32) (m5 : Int32) (s : px_S) (t : px_W) : Option px_LO := match n with
  | 0 => none
  | n + 1 => (if (16 : Int32) ≤ m5 then (some (.inl (34, [], s, t))) else (px_gd ((vp_in (((16 : Int32) * u3) + m5) (K.2.2 32)) ∧ (vp_in (u4 + m5) (K.2.2 29))) (px_let (sA s 29 (u4 + m5).toNatClampNeg ((s.2.2.1 32) (((16 : Int32) * u3) + m5).toNatClampNeg)) (fun s4 => (l_M_becomesStable_28_15 K N n u3 u4 (m5 + (1 : Int32)) s4 t)))))
def a_l_M_becomesStable_28_15 (K : px_K) (u3 : Int32) (u4 : Int32) (z : px_LO) (o : Option Value ⊕ Nat) (w2 : px_W) : Prop := match z with
  | .inr (o', s', t') => o = o' ∧ w2 = px_w K s' t'
  | .inl (34, [], s', t') => px_E px_ET px_P 2 26 34 [none, none, none, none, none, none] [] (px_w K s' t') o w2
  | _ => False
set_option maxRecDepth 100000 in
theorem e_l_M_becomesStable_28_15 (K : px_K) (N : Nat) (u3 : Int32) (u4 : Int32) : ∀ (n : Nat) (m5 : Int32) (s : px_S) (t : px_W) (z : px_LO), l_M_becomesStable_28_15 K N n u3 u4 m5 s t = some z → ∀ (o : Option Value ⊕ Nat) (w2 : px_W), a_l_M_becomesStable_28_15 K u3 u4 z o w2 → px_E px_ET px_P 2 26 15 [some (.ref 28), none, none, some (.int u3), some (.int u4), some (.int m5)] [] (px_w K s t) o w2 := by
  have hM : px_P[26]? = some pm_M_becomesStable := rfl
  intro n
  induction n with
  | zero => intro m5 s t z h; cases h
  | succ n ih =>
    intro m5 s t z h o w2 ha
    unfold l_M_becomesStable_28_15 at h
    refine px_blkif (c := (16 : Int32) ≤ m5) (t := 34) (e := 18) (L' := [some (.ref 28), none, none, some (.int u3), some (.int u4), some (.int m5)]) (S' := []) (w' := px_w K s t) (q := []) 3 hM rfl trivial (fun hc1 => ?_) (fun hc1 => ?_)
    · rw [if_pos hc1] at h
      cases h
      exact px_E_le (px_leC_L _ _ (by simp [px_leC, px_le1, Value.category])) ha
    · rw [if_neg hc1] at h
      refine px_blk (i' := 30) (L' := [some (.ref 28), none, none, some (.int u3), some (.int u4), some (.int m5)]) (S' := [.int (((16 : Int32) * u3) + m5), .ref 32, .int (u4 + m5), .ref 29]) (w' := px_w K s t) (q := []) 12 hM rfl trivial ?_
      obtain ⟨⟨hq2, hq3⟩, h⟩ := px_gd_some h
      refine px_blk (i' := 32) (L' := [some (.ref 28), none, none, some (.int u3), some (.int u4), some (.int m5)]) (S' := []) (w' := px_w K (sA s 29 (u4 + m5).toNatClampNeg ((s.2.2.1 32) (((16 : Int32) * u3) + m5).toNatClampNeg)) t) (q := [vp_in (((16 : Int32) * u3) + m5) (K.2.2 32), vp_in (u4 + m5) (K.2.2 29)]) 2 hM rfl (show (vp_in (((16 : Int32) * u3) + m5) (K.2.2 32)) ∧ (vp_in (u4 + m5) (K.2.2 29)) from ⟨hq2, hq3⟩) ?_
      obtain ⟨s4, hs5, h⟩ := px_let_some h
      rw [← hs5]
      refine px_blk (i' := 15) (L' := [some (.ref 28), none, none, some (.int u3), some (.int u4), some (.int (m5 + (1 : Int32)))]) (S' := []) (w' := px_w K s4 t) (q := []) 2 hM rfl trivial ?_
      exact ih (m5 + (1 : Int32)) s4 t z h o w2 ha
noncomputable def f_M_becomesStable_28 (K : px_K) (N : Nat) (a0 : Int32) (a1 : Int32) (s : px_S) (t : px_W) : Option px_Res :=
  (px_let (((64 : Int32) * a0) + a1) (fun v1 => (px_gd (vp_in v1 (K.2.2 31)) (px_bi (f_M_at K N a0 ((s.2.2.1 31) v1.toNatClampNeg) s t) (fun v7 s4 t5 => (px_lp (l_M_becomesStable_28_15 K N N v1 v7 (0 : Int32) s4 t5) (fun i9 vs10 s11 t12 => (if i9 = 34 then (px_v0 vs10 (some (.inl none, s11, t12))) else none)) (fun z14 => some z14))) (fun x8 s4 t5 => none)))))
set_option maxRecDepth 100000 in
theorem e_M_becomesStable_28 (K : px_K) (N : Nat) (a0 : Int32) (a1 : Int32) (s : px_S) (t : px_W) (r : px_Res) (h : f_M_becomesStable_28 K N a0 a1 s t = some r) : px_E px_ET px_P 2 26 0 (px_ent 6 [.ref 28, .int a0, .int a1]) [] (px_w K s t) r.1 (px_w K r.2.1 r.2.2) := by
  have hM : px_P[26]? = some pm_M_becomesStable := rfl
  unfold f_M_becomesStable_28 at h
  refine px_blk (i' := 6) (L' := [some (.ref 28), some (.int a0), some (.int a1), some (.int (((64 : Int32) * a0) + a1)), none, none]) (S' := []) (w' := px_w K s t) (q := []) 6 hM rfl trivial ?_
  obtain ⟨v1, hv2, h⟩ := px_let_some h
  rw [← hv2]
  obtain ⟨hq3, h⟩ := px_gd_some h
  refine px_blk (i' := 11) (L' := [some (.ref 28), some (.int a0), some (.int a1), some (.int v1), none, none]) (S' := [.int ((s.2.2.1 31) v1.toNatClampNeg), .int a0]) (w' := px_w K s t) (q := [vp_in v1 (K.2.2 31)]) 5 hM rfl (show vp_in v1 (K.2.2 31) from hq3) ?_
  rcases px_bi_some h with ⟨v7, s4, t5, hk6, h⟩ | ⟨x8, s4, t5, hk6, h⟩
  · refine px_E_call hM rfl rfl rfl rfl (px_E_mono (by decide) (e_M_at K N a0 ((s.2.2.1 31) v1.toNatClampNeg) s t _ hk6)) ?_
    refine px_blk (i' := 15) (L' := [some (.ref 28), some (.int a0), some (.int a1), some (.int v1), some (.int v7), some (.int (0 : Int32))]) (S' := []) (w' := px_w K s4 t5) (q := []) 3 hM rfl trivial ?_
    rcases px_lp_some h with ⟨i9, vs10, s11, t12, hl13, h⟩ | ⟨z14, hl13, h⟩
    · by_cases hi15 : i9 = 34
      · subst hi15
        rw [if_pos rfl] at h
        have h9 := px_v0_some h
        clear h
        obtain ⟨rfl, h⟩ := h9
        refine px_E_le (px_leC_L _ _ (by simp [px_leC, px_le1, Value.category])) (e_l_M_becomesStable_28_15 K N v1 v7 N (0 : Int32) s4 t5 _ hl13 _ _ ?_)
        show px_E px_ET px_P 2 26 34 [none, none, none, none, none, none] [] (px_w K s11 t12) _ _
        cases h
        exact px_E_ret hM rfl rfl rfl trivial
      · rw [if_neg hi15] at h
        cases h
    · cases h
      exact px_E_le (px_leC_L _ _ (by simp [px_leC, px_le1, Value.category])) (e_l_M_becomesStable_28_15 K N v1 v7 N (0 : Int32) s4 t5 _ hl13 _ _ ⟨rfl, rfl⟩)
  · cases h
noncomputable def l_M_goes_28_7 (K : px_K) (N : Nat) (n : Nat) (u1 : Int64) (u3 : Int32) (m4 : Int32) (s : px_S) (t : px_W) : Option px_LO := match n with
  | 0 => none
  | n + 1 => (px_gd (vp_in u3 (K.2.2 30)) (if ((s.2.2.1 30) u3.toNatClampNeg) ≤ m4 then (some (.inl (27, [], s, t))) else (if ¬ (lg_cmp ((u1 >>> (m4.toInt64 &&& 63)) &&& (1 : Int64)) (1 : Int64)) = 0 then (l_M_goes_28_7 K N n u1 u3 (m4 + (1 : Int32)) s t) else (px_bv (f_M_becomesStable_28 K N u3 m4 s t) (fun s4 t5 => (l_M_goes_28_7 K N n u1 u3 (m4 + (1 : Int32)) s4 t5)) (fun x8 s4 t5 => none)))))
def a_l_M_goes_28_7 (K : px_K) (u1 : Int64) (u3 : Int32) (z : px_LO) (o : Option Value ⊕ Nat) (w2 : px_W) : Prop := match z with
  | .inr (o', s', t') => o = o' ∧ w2 = px_w K s' t'
  | .inl (27, [], s', t') => px_E px_ET px_P 3 27 27 [some (.ref 28), some (.long u1), none, some (.int u3), none] [] (px_w K s' t') o w2
  | _ => False
noncomputable def l_M_goes_28_2 (K : px_K) (N : Nat) (n : Nat) (u1 : Int64) (m3 : Int32) (s : px_S) (t : px_W) : Option px_LO := match n with
  | 0 => none
  | n + 1 => (if (2 : Int32) ≤ m3 then (some (.inl (34, [], s, t))) else (px_lp (l_M_goes_28_7 K N N u1 m3 (0 : Int32) s t) (fun i2 vs3 s4 t5 => (if i2 = 27 then (px_v0 vs3 (px_gd (vp_in m3 (K.2.2 30)) (px_let (sA s4 30 m3.toNatClampNeg (0 : Int32)) (fun s10 => (l_M_goes_28_2 K N n u1 (m3 + (1 : Int32)) s10 t5))))) else none)) (fun z7 => some (.inr z7))))
def a_l_M_goes_28_2 (K : px_K) (u1 : Int64) (z : px_LO) (o : Option Value ⊕ Nat) (w2 : px_W) : Prop := match z with
  | .inr (o', s', t') => o = o' ∧ w2 = px_w K s' t'
  | .inl (34, [], s', t') => px_E px_ET px_P 3 27 34 [some (.ref 28), some (.long u1), none, none, none] [] (px_w K s' t') o w2
  | _ => False
set_option maxRecDepth 100000 in
theorem e_l_M_goes_28_7 (K : px_K) (N : Nat) (u1 : Int64) (u3 : Int32) : ∀ (n : Nat) (m4 : Int32) (s : px_S) (t : px_W) (z : px_LO), l_M_goes_28_7 K N n u1 u3 m4 s t = some z → ∀ (o : Option Value ⊕ Nat) (w2 : px_W), a_l_M_goes_28_7 K u1 u3 z o w2 → px_E px_ET px_P 3 27 7 [some (.ref 28), some (.long u1), none, some (.int u3), some (.int m4)] [] (px_w K s t) o w2 := by
  have hM : px_P[27]? = some pm_M_goes := rfl
  intro n
  induction n with
  | zero => intro m4 s t z h; cases h
  | succ n ih =>
    intro m4 s t z h o w2 ha
    unfold l_M_goes_28_7 at h
    obtain ⟨hq1, h⟩ := px_gd_some h
    refine px_blkif (c := ((s.2.2.1 30) u3.toNatClampNeg) ≤ m4) (t := 27) (e := 13) (L' := [some (.ref 28), some (.long u1), none, some (.int u3), some (.int m4)]) (S' := []) (w' := px_w K s t) (q := [vp_in u3 (K.2.2 30)]) 6 hM rfl (show vp_in u3 (K.2.2 30) from hq1) (fun hc2 => ?_) (fun hc2 => ?_)
    · rw [if_pos hc2] at h
      cases h
      exact px_E_le (px_leC_L _ _ (by simp [px_leC, px_le1, Value.category])) ha
    · rw [if_neg hc2] at h
      refine px_blkif (c := ¬ (lg_cmp ((u1 >>> (m4.toInt64 &&& 63)) &&& (1 : Int64)) (1 : Int64)) = 0) (t := 25) (e := 21) (L' := [some (.ref 28), some (.long u1), none, some (.int u3), some (.int m4)]) (S' := []) (w' := px_w K s t) (q := []) 8 hM rfl trivial (fun hc3 => ?_) (fun hc3 => ?_)
      · rw [if_pos hc3] at h
        refine px_blk (i' := 7) (L' := [some (.ref 28), some (.long u1), none, some (.int u3), some (.int (m4 + (1 : Int32)))]) (S' := []) (w' := px_w K s t) (q := []) 2 hM rfl trivial ?_
        exact ih (m4 + (1 : Int32)) s t z h o w2 ha
      · rw [if_neg hc3] at h
        refine px_blk (i' := 24) (L' := [some (.ref 28), some (.long u1), none, some (.int u3), some (.int m4)]) (S' := [.int m4, .int u3, .ref 28]) (w' := px_w K s t) (q := []) 3 hM rfl trivial ?_
        rcases px_bv_some h with ⟨s4, t5, hk6, h⟩ | ⟨x8, s4, t5, hk6, h⟩
        · refine px_E_call hM rfl rfl rfl rfl (px_E_mono (by decide) (e_M_becomesStable_28 K N u3 m4 s t _ hk6)) ?_
          refine px_blk (i' := 7) (L' := [some (.ref 28), some (.long u1), none, some (.int u3), some (.int (m4 + (1 : Int32)))]) (S' := []) (w' := px_w K s4 t5) (q := []) 2 hM rfl trivial ?_
          exact ih (m4 + (1 : Int32)) s4 t5 z h o w2 ha
        · cases h
set_option maxRecDepth 100000 in
theorem e_l_M_goes_28_2 (K : px_K) (N : Nat) (u1 : Int64) : ∀ (n : Nat) (m3 : Int32) (s : px_S) (t : px_W) (z : px_LO), l_M_goes_28_2 K N n u1 m3 s t = some z → ∀ (o : Option Value ⊕ Nat) (w2 : px_W), a_l_M_goes_28_2 K u1 z o w2 → px_E px_ET px_P 3 27 2 [some (.ref 28), some (.long u1), none, some (.int m3), none] [] (px_w K s t) o w2 := by
  have hM : px_P[27]? = some pm_M_goes := rfl
  intro n
  induction n with
  | zero => intro m3 s t z h; cases h
  | succ n ih =>
    intro m3 s t z h o w2 ha
    unfold l_M_goes_28_2 at h
    refine px_blkif (c := (2 : Int32) ≤ m3) (t := 34) (e := 5) (L' := [some (.ref 28), some (.long u1), none, some (.int m3), none]) (S' := []) (w' := px_w K s t) (q := []) 3 hM rfl trivial (fun hc1 => ?_) (fun hc1 => ?_)
    · rw [if_pos hc1] at h
      cases h
      exact px_E_le (px_leC_L _ _ (by simp [px_leC, px_le1, Value.category])) ha
    · rw [if_neg hc1] at h
      refine px_blk (i' := 7) (L' := [some (.ref 28), some (.long u1), none, some (.int m3), some (.int (0 : Int32))]) (S' := []) (w' := px_w K s t) (q := []) 2 hM rfl trivial ?_
      rcases px_lp_some h with ⟨i2, vs3, s4, t5, hl6, h⟩ | ⟨z7, hl6, h⟩
      · by_cases hi8 : i2 = 27
        · subst hi8
          rw [if_pos rfl] at h
          have h9 := px_v0_some h
          clear h
          obtain ⟨rfl, h⟩ := h9
          refine e_l_M_goes_28_7 K N u1 m3 N (0 : Int32) s t _ hl6 _ _ ?_
          show px_E px_ET px_P 3 27 27 [some (.ref 28), some (.long u1), none, some (.int m3), none] [] (px_w K s4 t5) _ _
          obtain ⟨hq9, h⟩ := px_gd_some h
          refine px_blk (i' := 32) (L' := [some (.ref 28), some (.long u1), none, some (.int m3), none]) (S' := []) (w' := px_w K (sA s4 30 m3.toNatClampNeg (0 : Int32)) t5) (q := [vp_in m3 (K.2.2 30)]) 5 hM rfl (show vp_in m3 (K.2.2 30) from hq9) ?_
          obtain ⟨s10, hs11, h⟩ := px_let_some h
          rw [← hs11]
          refine px_blk (i' := 2) (L' := [some (.ref 28), some (.long u1), none, some (.int (m3 + (1 : Int32))), none]) (S' := []) (w' := px_w K s10 t5) (q := []) 2 hM rfl trivial ?_
          exact ih (m3 + (1 : Int32)) s10 t5 z h o w2 ha
        · rw [if_neg hi8] at h
          cases h
      · cases h
        obtain ⟨rfl, rfl⟩ := ha
        exact e_l_M_goes_28_7 K N u1 m3 N (0 : Int32) s t _ hl6 _ _ ⟨rfl, rfl⟩
noncomputable def f_M_goes_28 (K : px_K) (N : Nat) (a0 : Int64) (s : px_S) (t : px_W) : Option px_Res :=
  (px_lp (l_M_goes_28_2 K N N a0 (0 : Int32) s t) (fun i1 vs2 s3 t4 => (if i1 = 34 then (px_v0 vs2 (px_let (sR s3 29 (0 : Int32)) (fun s8 => (px_let (sR s8 30 (0 : Int32)) (fun s10 => (some (.inl none, s10, t4))))))) else none)) (fun z6 => some z6))
set_option maxRecDepth 100000 in
theorem e_M_goes_28 (K : px_K) (N : Nat) (a0 : Int64) (s : px_S) (t : px_W) (r : px_Res) (h : f_M_goes_28 K N a0 s t = some r) : px_E px_ET px_P 3 27 0 (px_ent 5 [.ref 28, .long a0]) [] (px_w K s t) r.1 (px_w K r.2.1 r.2.2) := by
  have hM : px_P[27]? = some pm_M_goes := rfl
  unfold f_M_goes_28 at h
  refine px_blk (i' := 2) (L' := [some (.ref 28), some (.long a0), none, some (.int (0 : Int32)), none]) (S' := []) (w' := px_w K s t) (q := []) 2 hM rfl trivial ?_
  rcases px_lp_some h with ⟨i1, vs2, s3, t4, hl5, h⟩ | ⟨z6, hl5, h⟩
  · by_cases hi7 : i1 = 34
    · subst hi7
      rw [if_pos rfl] at h
      have h9 := px_v0_some h
      clear h
      obtain ⟨rfl, h⟩ := h9
      refine e_l_M_goes_28_2 K N a0 N (0 : Int32) s t _ hl5 _ _ ?_
      show px_E px_ET px_P 3 27 34 [some (.ref 28), some (.long a0), none, none, none] [] (px_w K s3 t4) _ _
      refine px_blk (i' := 37) (L' := [some (.ref 28), some (.long a0), none, none, none]) (S' := []) (w' := px_w K (sR s3 29 (0 : Int32)) t4) (q := [(0 : Int32) = 0 ∨ (0 : Int32) = 1]) 3 hM rfl (show (0 : Int32) = 0 ∨ (0 : Int32) = 1 from Or.inl rfl) ?_
      obtain ⟨s8, hs9, h⟩ := px_let_some h
      rw [← hs9]
      refine px_blk (i' := 40) (L' := [some (.ref 28), some (.long a0), none, none, none]) (S' := []) (w' := px_w K (sR s8 30 (0 : Int32)) t4) (q := []) 3 hM rfl trivial ?_
      obtain ⟨s10, hs11, h⟩ := px_let_some h
      rw [← hs11]
      cases h
      exact px_E_ret hM rfl rfl rfl trivial
    · rw [if_neg hi7] at h
      cases h
  · cases h
    exact e_l_M_goes_28_2 K N a0 N (0 : Int32) s t _ hl5 _ _ ⟨rfl, rfl⟩
noncomputable def f_M_acts_28 (K : px_K) (N : Nat) (s : px_S) (t : px_W) : Option px_Res :=
  (if ¬ (s.1 29) = 0 then (if ¬ (s.1 30) = (1 : Int32) then (px_let (sR s 30 (if (s.1 30) ≤ 0 then (0 : Int32) else ((s.1 30) - (1 : Int32)))) (fun s3 => (some (.inl (some (.int (1 : Int32))), s3, t)))) else (px_bv (f_M_goes_28 K N (s.2.1 3) s t) (fun s6 t7 => (some (.inl (some (.int (0 : Int32))), s6, t7))) (fun x10 s6 t7 => none))) else (some (.inl (some (.int (0 : Int32))), s, t)))
set_option maxRecDepth 100000 in
theorem e_M_acts_28 (K : px_K) (N : Nat) (s : px_S) (t : px_W) (r : px_Res) (h : f_M_acts_28 K N s t = some r) : px_E px_ET px_P 4 28 0 (px_ent 1 [.ref 28]) [] (px_w K s t) r.1 (px_w K r.2.1 r.2.2) := by
  have hM : px_P[28]? = some pm_M_acts := rfl
  unfold f_M_acts_28 at h
  refine px_blkif (c := ¬ (s.1 29) = 0) (t := 5) (e := 3) (L' := [some (.ref 28)]) (S' := []) (w' := px_w K s t) (q := []) 3 hM rfl trivial (fun hc1 => ?_) (fun hc1 => ?_)
  · rw [if_pos hc1] at h
    refine px_blkif (c := ¬ (s.1 30) = (1 : Int32)) (t := 15) (e := 9) (L' := [some (.ref 28)]) (S' := []) (w' := px_w K s t) (q := []) 4 hM rfl trivial (fun hc2 => ?_) (fun hc2 => ?_)
    · rw [if_pos hc2] at h
      refine px_blk (i' := 18) (L' := [some (.ref 28)]) (S' := [.int (s.1 30), .ref 28]) (w' := px_w K s t) (q := []) 3 hM rfl trivial ?_
      have hK : px_E px_ET px_P 4 28 25 [some (.ref 28)] [.int (if (s.1 30) ≤ 0 then (0 : Int32) else ((s.1 30) - (1 : Int32))), .ref 28] (px_w K s t) r.1 (px_w K r.2.1 r.2.2) := by
        refine px_blk (i' := 26) (L' := [some (.ref 28)]) (S' := []) (w' := px_w K (sR s 30 (if (s.1 30) ≤ 0 then (0 : Int32) else ((s.1 30) - (1 : Int32)))) t) (q := []) 1 hM rfl trivial ?_
        obtain ⟨s3, hs4, h⟩ := px_let_some h
        rw [← hs4]
        refine px_blk (i' := 27) (L' := [some (.ref 28)]) (S' := [.int (1 : Int32)]) (w' := px_w K s3 t) (q := []) 1 hM rfl trivial ?_
        cases h
        exact px_E_ret hM rfl rfl rfl (show (1 : Int32) = 0 ∨ (1 : Int32) = 1 from Or.inr rfl)
      clear h
      refine px_blkif (c := (s.1 30) ≤ 0) (t := 24) (e := 19) (L' := [some (.ref 28)]) (S' := [.ref 28]) (w' := px_w K s t) (q := []) 1 hM rfl trivial (fun hc5 => ?_) (fun hc5 => ?_)
      · rw [if_pos hc5] at hK
        exact px_blk (i' := 25) (L' := [some (.ref 28)]) (S' := [.int (0 : Int32), .ref 28]) (w' := px_w K s t) (q := []) 1 hM rfl trivial hK
      · rw [if_neg hc5] at hK
        exact px_blk (i' := 25) (L' := [some (.ref 28)]) (S' := [.int ((s.1 30) - (1 : Int32)), .ref 28]) (w' := px_w K s t) (q := []) 5 hM rfl trivial hK
    · rw [if_neg hc2] at h
      refine px_blk (i' := 12) (L' := [some (.ref 28)]) (S' := [.long (s.2.1 3), .ref 28]) (w' := px_w K s t) (q := []) 3 hM rfl trivial ?_
      rcases px_bv_some h with ⟨s6, t7, hk8, h⟩ | ⟨x10, s6, t7, hk8, h⟩
      · refine px_E_call hM rfl rfl rfl rfl (px_E_mono (by decide) (e_M_goes_28 K N (s.2.1 3) s t _ hk8)) ?_
        refine px_blk (i' := 14) (L' := [some (.ref 28)]) (S' := [.int (0 : Int32)]) (w' := px_w K s6 t7) (q := []) 1 hM rfl trivial ?_
        cases h
        exact px_E_ret hM rfl rfl rfl (show (0 : Int32) = 0 ∨ (0 : Int32) = 1 from Or.inl rfl)
      · cases h
  · rw [if_neg hc1] at h
    refine px_blk (i' := 4) (L' := [some (.ref 28)]) (S' := [.int (0 : Int32)]) (w' := px_w K s t) (q := []) 1 hM rfl trivial ?_
    cases h
    exact px_E_ret hM rfl rfl rfl (show (0 : Int32) = 0 ∨ (0 : Int32) = 1 from Or.inl rfl)
noncomputable def l_M_flush_28_14 (K : px_K) (N : Nat) (n : Nat) (u1 : Int32) (m2 : Int32) (s : px_S) (t : px_W) : Option px_LO := match n with
  | 0 => none
  | n + 1 => (px_gd (vp_in u1 (K.2.2 30)) (if ((s.2.2.1 30) u1.toNatClampNeg) ≤ m2 then (some (.inl (26, [], s, t))) else (px_bv (f_M_becomesStable_28 K N u1 m2 s t) (fun s3 t4 => (l_M_flush_28_14 K N n u1 (m2 + (1 : Int32)) s3 t4)) (fun x7 s3 t4 => none))))
def a_l_M_flush_28_14 (K : px_K) (u1 : Int32) (z : px_LO) (o : Option Value ⊕ Nat) (w2 : px_W) : Prop := match z with
  | .inr (o', s', t') => o = o' ∧ w2 = px_w K s' t'
  | .inl (26, [], s', t') => px_E px_ET px_P 5 30 26 [some (.ref 28), some (.int u1), none] [] (px_w K s' t') o w2
  | _ => False
set_option maxRecDepth 100000 in
theorem e_l_M_flush_28_14 (K : px_K) (N : Nat) (u1 : Int32) : ∀ (n : Nat) (m2 : Int32) (s : px_S) (t : px_W) (z : px_LO), l_M_flush_28_14 K N n u1 m2 s t = some z → ∀ (o : Option Value ⊕ Nat) (w2 : px_W), a_l_M_flush_28_14 K u1 z o w2 → px_E px_ET px_P 5 30 14 [some (.ref 28), some (.int u1), some (.int m2)] [] (px_w K s t) o w2 := by
  have hM : px_P[30]? = some pm_M_flush := rfl
  intro n
  induction n with
  | zero => intro m2 s t z h; cases h
  | succ n ih =>
    intro m2 s t z h o w2 ha
    unfold l_M_flush_28_14 at h
    obtain ⟨hq1, h⟩ := px_gd_some h
    refine px_blkif (c := ((s.2.2.1 30) u1.toNatClampNeg) ≤ m2) (t := 26) (e := 20) (L' := [some (.ref 28), some (.int u1), some (.int m2)]) (S' := []) (w' := px_w K s t) (q := [vp_in u1 (K.2.2 30)]) 6 hM rfl (show vp_in u1 (K.2.2 30) from hq1) (fun hc2 => ?_) (fun hc2 => ?_)
    · rw [if_pos hc2] at h
      cases h
      exact px_E_le (px_leC_L _ _ (by simp [px_leC, px_le1, Value.category])) ha
    · rw [if_neg hc2] at h
      refine px_blk (i' := 23) (L' := [some (.ref 28), some (.int u1), some (.int m2)]) (S' := [.int m2, .int u1, .ref 28]) (w' := px_w K s t) (q := []) 3 hM rfl trivial ?_
      rcases px_bv_some h with ⟨s3, t4, hk5, h⟩ | ⟨x7, s3, t4, hk5, h⟩
      · refine px_E_call hM rfl rfl rfl rfl (px_E_mono (by decide) (e_M_becomesStable_28 K N u1 m2 s t _ hk5)) ?_
        refine px_blk (i' := 14) (L' := [some (.ref 28), some (.int u1), some (.int (m2 + (1 : Int32)))]) (S' := []) (w' := px_w K s3 t4) (q := []) 2 hM rfl trivial ?_
        exact ih (m2 + (1 : Int32)) s3 t4 z h o w2 ha
      · cases h
noncomputable def f_M_flush_28 (K : px_K) (N : Nat) (a0 : Int32) (s : px_S) (t : px_W) : Option px_Res :=
  (px_bi (f_M_acts_28 K N s t) (fun v4 s1 t2 => (if ¬ v4 = 0 then (px_gd ((vp_in a0 (K.2.2 34)) ∧ (vp_in a0 (K.2.2 34))) (px_let (sA s1 34 a0.toNatClampNeg (((s1.2.2.1 34) a0.toNatClampNeg) + (1 : Int32))) (fun s9 => (px_lp (l_M_flush_28_14 K N N a0 (0 : Int32) s9 t2) (fun i11 vs12 s13 t14 => (if i11 = 26 then (px_v0 vs12 (px_gd (vp_in a0 (K.2.2 30)) (px_let (sA s13 30 a0.toNatClampNeg (0 : Int32)) (fun s19 => (some (.inl none, s19, t14)))))) else none)) (fun z16 => some z16))))) else (some (.inl none, s1, t2)))) (fun x5 s1 t2 => none))
set_option maxRecDepth 100000 in
theorem e_M_flush_28 (K : px_K) (N : Nat) (a0 : Int32) (s : px_S) (t : px_W) (r : px_Res) (h : f_M_flush_28 K N a0 s t = some r) : px_E px_ET px_P 5 30 0 (px_ent 3 [.ref 28, .int a0]) [] (px_w K s t) r.1 (px_w K r.2.1 r.2.2) := by
  have hM : px_P[30]? = some pm_M_flush := rfl
  unfold f_M_flush_28 at h
  refine px_blk (i' := 1) (L' := [some (.ref 28), some (.int a0), none]) (S' := [.ref 28]) (w' := px_w K s t) (q := []) 1 hM rfl trivial ?_
  rcases px_bi_some h with ⟨v4, s1, t2, hk3, h⟩ | ⟨x5, s1, t2, hk3, h⟩
  · refine px_E_call hM rfl rfl rfl rfl (px_E_mono (by decide) (e_M_acts_28 K N s t _ hk3)) ?_
    refine px_blkif (c := ¬ v4 = 0) (t := 4) (e := 3) (L' := [some (.ref 28), some (.int a0), none]) (S' := []) (w' := px_w K s1 t2) (q := []) 1 hM rfl trivial (fun hc6 => ?_) (fun hc6 => ?_)
    · rw [if_pos hc6] at h
      obtain ⟨⟨hq7, hq8⟩, h⟩ := px_gd_some h
      refine px_blk (i' := 12) (L' := [some (.ref 28), some (.int a0), none]) (S' := []) (w' := px_w K (sA s1 34 a0.toNatClampNeg (((s1.2.2.1 34) a0.toNatClampNeg) + (1 : Int32))) t2) (q := [vp_in a0 (K.2.2 34), vp_in a0 (K.2.2 34)]) 8 hM rfl (show (vp_in a0 (K.2.2 34)) ∧ (vp_in a0 (K.2.2 34)) from ⟨hq7, hq8⟩) ?_
      obtain ⟨s9, hs10, h⟩ := px_let_some h
      rw [← hs10]
      refine px_blk (i' := 14) (L' := [some (.ref 28), some (.int a0), some (.int (0 : Int32))]) (S' := []) (w' := px_w K s9 t2) (q := []) 2 hM rfl trivial ?_
      rcases px_lp_some h with ⟨i11, vs12, s13, t14, hl15, h⟩ | ⟨z16, hl15, h⟩
      · by_cases hi17 : i11 = 26
        · subst hi17
          rw [if_pos rfl] at h
          have h9 := px_v0_some h
          clear h
          obtain ⟨rfl, h⟩ := h9
          refine e_l_M_flush_28_14 K N a0 N (0 : Int32) s9 t2 _ hl15 _ _ ?_
          show px_E px_ET px_P 5 30 26 [some (.ref 28), some (.int a0), none] [] (px_w K s13 t14) _ _
          obtain ⟨hq18, h⟩ := px_gd_some h
          refine px_blk (i' := 31) (L' := [some (.ref 28), some (.int a0), none]) (S' := []) (w' := px_w K (sA s13 30 a0.toNatClampNeg (0 : Int32)) t14) (q := [vp_in a0 (K.2.2 30)]) 5 hM rfl (show vp_in a0 (K.2.2 30) from hq18) ?_
          obtain ⟨s19, hs20, h⟩ := px_let_some h
          rw [← hs20]
          cases h
          exact px_E_ret hM rfl rfl rfl trivial
        · rw [if_neg hi17] at h
          cases h
      · cases h
        exact e_l_M_flush_28_14 K N a0 N (0 : Int32) s9 t2 _ hl15 _ _ ⟨rfl, rfl⟩
    · rw [if_neg hc6] at h
      cases h
      exact px_E_ret hM rfl rfl rfl trivial
  · cases h
noncomputable def l_M_read_28_11 (K : px_K) (N : Nat) (n : Nat) (u1 : Int32) (u2 : Int32) (u3 : Int32) (m4 : Int32) (s : px_S) (t : px_W) : Option px_LO := match n with
  | 0 => none
  | n + 1 => (if m4 < ((64 : Int32) * u1) then (some (.inl (33, [], s, t))) else (px_gd (vp_in m4 (K.2.2 31)) (if ¬ ((s.2.2.1 31) m4.toNatClampNeg) = u2 then (px_let (m4 + (-1 : Int32)) (fun v4 => (l_M_read_28_11 K N n u1 u2 u3 v4 s t))) else (some (.inl (22, [m4], s, t))))))
def a_l_M_read_28_11 (K : px_K) (u1 : Int32) (u2 : Int32) (u3 : Int32) (z : px_LO) (o : Option Value ⊕ Nat) (w2 : px_W) : Prop := match z with
  | .inr (o', s', t') => o = o' ∧ w2 = px_w K s' t'
  | .inl (22, [y4], s', t') => px_E px_ET px_P 2 31 22 [some (.ref 28), none, none, some (.int u3), some (.int y4)] [] (px_w K s' t') o w2
  | .inl (33, [], s', t') => px_E px_ET px_P 2 31 33 [some (.ref 28), some (.int u1), some (.int u2), some (.int u3), none] [] (px_w K s' t') o w2
  | _ => False
set_option maxRecDepth 100000 in
theorem e_l_M_read_28_11 (K : px_K) (N : Nat) (u1 : Int32) (u2 : Int32) (u3 : Int32) : ∀ (n : Nat) (m4 : Int32) (s : px_S) (t : px_W) (z : px_LO), l_M_read_28_11 K N n u1 u2 u3 m4 s t = some z → ∀ (o : Option Value ⊕ Nat) (w2 : px_W), a_l_M_read_28_11 K u1 u2 u3 z o w2 → px_E px_ET px_P 2 31 11 [some (.ref 28), some (.int u1), some (.int u2), some (.int u3), some (.int m4)] [] (px_w K s t) o w2 := by
  have hM : px_P[31]? = some pm_M_read := rfl
  intro n
  induction n with
  | zero => intro m4 s t z h; cases h
  | succ n ih =>
    intro m4 s t z h o w2 ha
    unfold l_M_read_28_11 at h
    refine px_blkif (c := m4 < ((64 : Int32) * u1)) (t := 33) (e := 16) (L' := [some (.ref 28), some (.int u1), some (.int u2), some (.int u3), some (.int m4)]) (S' := []) (w' := px_w K s t) (q := []) 5 hM rfl trivial (fun hc1 => ?_) (fun hc1 => ?_)
    · rw [if_pos hc1] at h
      cases h
      exact px_E_le (px_leC_L _ _ (by simp [px_leC, px_le1, Value.category])) ha
    · rw [if_neg hc1] at h
      obtain ⟨hq2, h⟩ := px_gd_some h
      refine px_blkif (c := ¬ ((s.2.2.1 31) m4.toNatClampNeg) = u2) (t := 31) (e := 22) (L' := [some (.ref 28), some (.int u1), some (.int u2), some (.int u3), some (.int m4)]) (S' := []) (w' := px_w K s t) (q := [vp_in m4 (K.2.2 31)]) 6 hM rfl (show vp_in m4 (K.2.2 31) from hq2) (fun hc3 => ?_) (fun hc3 => ?_)
      · rw [if_pos hc3] at h
        refine px_blk (i' := 32) (L' := [some (.ref 28), some (.int u1), some (.int u2), some (.int u3), some (.int (m4 + (-1 : Int32)))]) (S' := []) (w' := px_w K s t) (q := []) 1 hM rfl trivial ?_
        obtain ⟨v4, hv5, h⟩ := px_let_some h
        rw [← hv5]
        refine px_blk (i' := 11) (L' := [some (.ref 28), some (.int u1), some (.int u2), some (.int u3), some (.int v4)]) (S' := []) (w' := px_w K s t) (q := []) 1 hM rfl trivial ?_
        exact ih v4 s t z h o w2 ha
      · rw [if_neg hc3] at h
        cases h
        exact px_E_le (px_leC_L _ _ (by simp [px_leC, px_le1, Value.category])) ha
noncomputable def f_M_read_28 (K : px_K) (N : Nat) (a0 : Int32) (a1 : Int32) (a2 : Int32) (s : px_S) (t : px_W) : Option px_Res :=
  (px_gd (vp_in a0 (K.2.2 30)) (px_let ((((64 : Int32) * a0) + ((s.2.2.1 30) a0.toNatClampNeg)) - (1 : Int32)) (fun v2 => (px_lp (l_M_read_28_11 K N N a0 a1 a2 v2 s t) (fun i4 vs5 s6 t7 => (if i4 = 22 then (px_v1 vs5 (fun y10 => (px_gd (vp_in (((16 : Int32) * y10) + a2) (K.2.2 32)) (some (.inl (some (.int ((s6.2.2.1 32) (((16 : Int32) * y10) + a2).toNatClampNeg))), s6, t7))))) else (if i4 = 33 then (px_v0 vs5 (px_bi (f_M_at K N a0 a1 s6 t7) (fun v17 s14 t15 => (px_gd (vp_in (v17 + a2) (K.2.2 29)) (some (.inl (some (.int ((s14.2.2.1 29) (v17 + a2).toNatClampNeg))), s14, t15)))) (fun x18 s14 t15 => none))) else none))) (fun z9 => some z9)))))
set_option maxRecDepth 100000 in
theorem e_M_read_28 (K : px_K) (N : Nat) (a0 : Int32) (a1 : Int32) (a2 : Int32) (s : px_S) (t : px_W) (r : px_Res) (h : f_M_read_28 K N a0 a1 a2 s t = some r) : px_E px_ET px_P 2 31 0 (px_ent 5 [.ref 28, .int a0, .int a1, .int a2]) [] (px_w K s t) r.1 (px_w K r.2.1 r.2.2) := by
  have hM : px_P[31]? = some pm_M_read := rfl
  unfold f_M_read_28 at h
  obtain ⟨hq1, h⟩ := px_gd_some h
  refine px_blk (i' := 11) (L' := [some (.ref 28), some (.int a0), some (.int a1), some (.int a2), some (.int ((((64 : Int32) * a0) + ((s.2.2.1 30) a0.toNatClampNeg)) - (1 : Int32)))]) (S' := []) (w' := px_w K s t) (q := [vp_in a0 (K.2.2 30)]) 11 hM rfl (show vp_in a0 (K.2.2 30) from hq1) ?_
  obtain ⟨v2, hv3, h⟩ := px_let_some h
  rw [← hv3]
  rcases px_lp_some h with ⟨i4, vs5, s6, t7, hl8, h⟩ | ⟨z9, hl8, h⟩
  · by_cases hi11 : i4 = 22
    · subst hi11
      rw [if_pos rfl] at h
      have h9 := px_v1_some h
      clear h
      obtain ⟨y10, rfl, h⟩ := h9
      refine e_l_M_read_28_11 K N a0 a1 a2 N v2 s t _ hl8 _ _ ?_
      show px_E px_ET px_P 2 31 22 [some (.ref 28), none, none, some (.int a2), some (.int y10)] [] (px_w K s6 t7) _ _
      obtain ⟨hq12, h⟩ := px_gd_some h
      refine px_blk (i' := 30) (L' := [some (.ref 28), none, none, some (.int a2), some (.int y10)]) (S' := [.int ((s6.2.2.1 32) (((16 : Int32) * y10) + a2).toNatClampNeg)]) (w' := px_w K s6 t7) (q := [vp_in (((16 : Int32) * y10) + a2) (K.2.2 32)]) 8 hM rfl (show vp_in (((16 : Int32) * y10) + a2) (K.2.2 32) from hq12) ?_
      cases h
      exact px_E_ret hM rfl rfl rfl trivial
    · rw [if_neg hi11] at h
      by_cases hi13 : i4 = 33
      · subst hi13
        rw [if_pos rfl] at h
        have h9 := px_v0_some h
        clear h
        obtain ⟨rfl, h⟩ := h9
        refine e_l_M_read_28_11 K N a0 a1 a2 N v2 s t _ hl8 _ _ ?_
        show px_E px_ET px_P 2 31 33 [some (.ref 28), some (.int a0), some (.int a1), some (.int a2), none] [] (px_w K s6 t7) _ _
        refine px_blk (i' := 37) (L' := [some (.ref 28), some (.int a0), some (.int a1), some (.int a2), none]) (S' := [.int a1, .int a0, .ref 29]) (w' := px_w K s6 t7) (q := []) 4 hM rfl trivial ?_
        rcases px_bi_some h with ⟨v17, s14, t15, hk16, h⟩ | ⟨x18, s14, t15, hk16, h⟩
        · refine px_E_call hM rfl rfl rfl rfl (px_E_mono (by decide) (e_M_at K N a0 a1 s6 t7 _ hk16)) ?_
          obtain ⟨hq19, h⟩ := px_gd_some h
          refine px_blk (i' := 41) (L' := [some (.ref 28), some (.int a0), some (.int a1), some (.int a2), none]) (S' := [.int ((s14.2.2.1 29) (v17 + a2).toNatClampNeg)]) (w' := px_w K s14 t15) (q := [vp_in (v17 + a2) (K.2.2 29)]) 3 hM rfl (show vp_in (v17 + a2) (K.2.2 29) from hq19) ?_
          cases h
          exact px_E_ret hM rfl rfl rfl trivial
        · cases h
      · rw [if_neg hi13] at h
        cases h
  · cases h
    exact e_l_M_read_28_11 K N a0 a1 a2 N v2 s t _ hl8 _ _ ⟨rfl, rfl⟩
noncomputable def f_M_landed_28 (K : px_K) (N : Nat) (s : px_S) (t : px_W) : Option px_Res :=
  (px_bi (f_M_read_28 K N (0 : Int32) (1 : Int32) (1 : Int32) s t) (fun v4 s1 t2 => (some (.inl (some (.int v4)), s1, t2))) (fun x5 s1 t2 => none))
set_option maxRecDepth 100000 in
theorem e_M_landed_28 (K : px_K) (N : Nat) (s : px_S) (t : px_W) (r : px_Res) (h : f_M_landed_28 K N s t = some r) : px_E px_ET px_P 3 34 0 (px_ent 1 [.ref 28]) [] (px_w K s t) r.1 (px_w K r.2.1 r.2.2) := by
  have hM : px_P[34]? = some pm_M_landed := rfl
  unfold f_M_landed_28 at h
  refine px_blk (i' := 4) (L' := [some (.ref 28)]) (S' := [.int (1 : Int32), .int (1 : Int32), .int (0 : Int32), .ref 28]) (w' := px_w K s t) (q := []) 4 hM rfl trivial ?_
  rcases px_bi_some h with ⟨v4, s1, t2, hk3, h⟩ | ⟨x5, s1, t2, hk3, h⟩
  · refine px_E_call hM rfl rfl rfl rfl (px_E_mono (by decide) (e_M_read_28 K N (0 : Int32) (1 : Int32) (1 : Int32) s t _ hk3)) ?_
    cases h
    exact px_E_ret hM rfl rfl rfl trivial
  · cases h
noncomputable def l_M_noSlots_28_2 (K : px_K) (N : Nat) (n : Nat) (m1 : Int32) (s : px_S) (t : px_W) : Option px_LO := match n with
  | 0 => none
  | n + 1 => (if (64 : Int32) ≤ m1 then (some (.inl (22, [], s, t))) else (px_gd (vp_in m1 (K.2.2 35)) (px_let (sA s 35 m1.toNatClampNeg (-1 : Int32)) (fun s3 => (px_gd (vp_in m1 (K.2.2 36)) (px_let (sA s3 36 m1.toNatClampNeg (0 : Int32)) (fun s6 => (px_gd (vp_in m1 (K.2.2 37)) (px_let (sA s6 37 m1.toNatClampNeg (0 : Int32)) (fun s9 => (l_M_noSlots_28_2 K N n (m1 + (1 : Int32)) s9 t)))))))))))
def a_l_M_noSlots_28_2 (K : px_K) (z : px_LO) (o : Option Value ⊕ Nat) (w2 : px_W) : Prop := match z with
  | .inr (o', s', t') => o = o' ∧ w2 = px_w K s' t'
  | .inl (22, [], s', t') => px_E px_ET px_P 1 35 22 [some (.ref 28), none] [] (px_w K s' t') o w2
  | _ => False
noncomputable def l_M_noSlots_28_24 (K : px_K) (N : Nat) (n : Nat) (m1 : Int32) (s : px_S) (t : px_W) : Option px_LO := match n with
  | 0 => none
  | n + 1 => (if (8 : Int32) ≤ m1 then (some (.inl (34, [], s, t))) else (px_gd (vp_in m1 (K.2.2 38)) (px_let (sA s 38 m1.toNatClampNeg (0 : Int32)) (fun s3 => (l_M_noSlots_28_24 K N n (m1 + (1 : Int32)) s3 t)))))
def a_l_M_noSlots_28_24 (K : px_K) (z : px_LO) (o : Option Value ⊕ Nat) (w2 : px_W) : Prop := match z with
  | .inr (o', s', t') => o = o' ∧ w2 = px_w K s' t'
  | .inl (34, [], s', t') => px_E px_ET px_P 1 35 34 [none, none] [] (px_w K s' t') o w2
  | _ => False
set_option maxRecDepth 100000 in
theorem e_l_M_noSlots_28_2 (K : px_K) (N : Nat) : ∀ (n : Nat) (m1 : Int32) (s : px_S) (t : px_W) (z : px_LO), l_M_noSlots_28_2 K N n m1 s t = some z → ∀ (o : Option Value ⊕ Nat) (w2 : px_W), a_l_M_noSlots_28_2 K z o w2 → px_E px_ET px_P 1 35 2 [some (.ref 28), some (.int m1)] [] (px_w K s t) o w2 := by
  have hM : px_P[35]? = some pm_M_noSlots := rfl
  intro n
  induction n with
  | zero => intro m1 s t z h; cases h
  | succ n ih =>
    intro m1 s t z h o w2 ha
    unfold l_M_noSlots_28_2 at h
    refine px_blkif (c := (64 : Int32) ≤ m1) (t := 22) (e := 5) (L' := [some (.ref 28), some (.int m1)]) (S' := []) (w' := px_w K s t) (q := []) 3 hM rfl trivial (fun hc1 => ?_) (fun hc1 => ?_)
    · rw [if_pos hc1] at h
      cases h
      exact px_E_le (px_leC_L _ _ (by simp [px_leC, px_le1, Value.category])) ha
    · rw [if_neg hc1] at h
      obtain ⟨hq2, h⟩ := px_gd_some h
      refine px_blk (i' := 10) (L' := [some (.ref 28), some (.int m1)]) (S' := []) (w' := px_w K (sA s 35 m1.toNatClampNeg (-1 : Int32)) t) (q := [vp_in m1 (K.2.2 35)]) 5 hM rfl (show vp_in m1 (K.2.2 35) from hq2) ?_
      obtain ⟨s3, hs4, h⟩ := px_let_some h
      rw [← hs4]
      obtain ⟨hq5, h⟩ := px_gd_some h
      refine px_blk (i' := 15) (L' := [some (.ref 28), some (.int m1)]) (S' := []) (w' := px_w K (sA s3 36 m1.toNatClampNeg (0 : Int32)) t) (q := [vp_in m1 (K.2.2 36)]) 5 hM rfl (show vp_in m1 (K.2.2 36) from hq5) ?_
      obtain ⟨s6, hs7, h⟩ := px_let_some h
      rw [← hs7]
      obtain ⟨hq8, h⟩ := px_gd_some h
      refine px_blk (i' := 20) (L' := [some (.ref 28), some (.int m1)]) (S' := []) (w' := px_w K (sA s6 37 m1.toNatClampNeg (0 : Int32)) t) (q := [vp_in m1 (K.2.2 37), (0 : Int32) = 0 ∨ (0 : Int32) = 1]) 5 hM rfl (show (vp_in m1 (K.2.2 37)) ∧ ((0 : Int32) = 0 ∨ (0 : Int32) = 1) from ⟨hq8, Or.inl rfl⟩) ?_
      obtain ⟨s9, hs10, h⟩ := px_let_some h
      rw [← hs10]
      refine px_blk (i' := 2) (L' := [some (.ref 28), some (.int (m1 + (1 : Int32)))]) (S' := []) (w' := px_w K s9 t) (q := []) 2 hM rfl trivial ?_
      exact ih (m1 + (1 : Int32)) s9 t z h o w2 ha
set_option maxRecDepth 100000 in
theorem e_l_M_noSlots_28_24 (K : px_K) (N : Nat) : ∀ (n : Nat) (m1 : Int32) (s : px_S) (t : px_W) (z : px_LO), l_M_noSlots_28_24 K N n m1 s t = some z → ∀ (o : Option Value ⊕ Nat) (w2 : px_W), a_l_M_noSlots_28_24 K z o w2 → px_E px_ET px_P 1 35 24 [some (.ref 28), some (.int m1)] [] (px_w K s t) o w2 := by
  have hM : px_P[35]? = some pm_M_noSlots := rfl
  intro n
  induction n with
  | zero => intro m1 s t z h; cases h
  | succ n ih =>
    intro m1 s t z h o w2 ha
    unfold l_M_noSlots_28_24 at h
    refine px_blkif (c := (8 : Int32) ≤ m1) (t := 34) (e := 27) (L' := [some (.ref 28), some (.int m1)]) (S' := []) (w' := px_w K s t) (q := []) 3 hM rfl trivial (fun hc1 => ?_) (fun hc1 => ?_)
    · rw [if_pos hc1] at h
      cases h
      exact px_E_le (px_leC_L _ _ (by simp [px_leC, px_le1, Value.category])) ha
    · rw [if_neg hc1] at h
      obtain ⟨hq2, h⟩ := px_gd_some h
      refine px_blk (i' := 32) (L' := [some (.ref 28), some (.int m1)]) (S' := []) (w' := px_w K (sA s 38 m1.toNatClampNeg (0 : Int32)) t) (q := [vp_in m1 (K.2.2 38)]) 5 hM rfl (show vp_in m1 (K.2.2 38) from hq2) ?_
      obtain ⟨s3, hs4, h⟩ := px_let_some h
      rw [← hs4]
      refine px_blk (i' := 24) (L' := [some (.ref 28), some (.int (m1 + (1 : Int32)))]) (S' := []) (w' := px_w K s3 t) (q := []) 2 hM rfl trivial ?_
      exact ih (m1 + (1 : Int32)) s3 t z h o w2 ha
noncomputable def f_M_noSlots_28 (K : px_K) (N : Nat) (s : px_S) (t : px_W) : Option px_Res :=
  (px_lp (l_M_noSlots_28_2 K N N (0 : Int32) s t) (fun i1 vs2 s3 t4 => (if i1 = 22 then (px_v0 vs2 (px_lp (l_M_noSlots_28_24 K N N (0 : Int32) s3 t4) (fun i8 vs9 s10 t11 => (if i8 = 34 then (px_v0 vs9 (some (.inl none, s10, t11))) else none)) (fun z13 => some z13))) else none)) (fun z6 => some z6))
set_option maxRecDepth 100000 in
theorem e_M_noSlots_28 (K : px_K) (N : Nat) (s : px_S) (t : px_W) (r : px_Res) (h : f_M_noSlots_28 K N s t = some r) : px_E px_ET px_P 1 35 0 (px_ent 2 [.ref 28]) [] (px_w K s t) r.1 (px_w K r.2.1 r.2.2) := by
  have hM : px_P[35]? = some pm_M_noSlots := rfl
  unfold f_M_noSlots_28 at h
  refine px_blk (i' := 2) (L' := [some (.ref 28), some (.int (0 : Int32))]) (S' := []) (w' := px_w K s t) (q := []) 2 hM rfl trivial ?_
  rcases px_lp_some h with ⟨i1, vs2, s3, t4, hl5, h⟩ | ⟨z6, hl5, h⟩
  · by_cases hi7 : i1 = 22
    · subst hi7
      rw [if_pos rfl] at h
      have h9 := px_v0_some h
      clear h
      obtain ⟨rfl, h⟩ := h9
      refine e_l_M_noSlots_28_2 K N N (0 : Int32) s t _ hl5 _ _ ?_
      show px_E px_ET px_P 1 35 22 [some (.ref 28), none] [] (px_w K s3 t4) _ _
      refine px_blk (i' := 24) (L' := [some (.ref 28), some (.int (0 : Int32))]) (S' := []) (w' := px_w K s3 t4) (q := []) 2 hM rfl trivial ?_
      rcases px_lp_some h with ⟨i8, vs9, s10, t11, hl12, h⟩ | ⟨z13, hl12, h⟩
      · by_cases hi14 : i8 = 34
        · subst hi14
          rw [if_pos rfl] at h
          have h9 := px_v0_some h
          clear h
          obtain ⟨rfl, h⟩ := h9
          refine e_l_M_noSlots_28_24 K N N (0 : Int32) s3 t4 _ hl12 _ _ ?_
          show px_E px_ET px_P 1 35 34 [none, none] [] (px_w K s10 t11) _ _
          cases h
          exact px_E_ret hM rfl rfl rfl trivial
        · rw [if_neg hi14] at h
          cases h
      · cases h
        exact e_l_M_noSlots_28_24 K N N (0 : Int32) s3 t4 _ hl12 _ _ ⟨rfl, rfl⟩
    · rw [if_neg hi7] at h
      cases h
  · cases h
    exact e_l_M_noSlots_28_2 K N N (0 : Int32) s t _ hl5 _ _ ⟨rfl, rfl⟩
noncomputable def l_M_newest_28_4 (K : px_K) (N : Nat) (n : Nat) (u1 : Int32) (m2 : Int32) (m3 : Int32) (s : px_S) (t : px_W) : Option px_LO := match n with
  | 0 => none
  | n + 1 => (if ((s.1 26) * (s.1 27)) ≤ m3 then (some (.inl (32, [m2], s, t))) else (px_gd (vp_in m3 (K.2.2 35)) (if ¬ ((s.2.2.1 35) m3.toNatClampNeg) = u1 then (l_M_newest_28_4 K N n u1 m2 (m3 + (1 : Int32)) s t) else (if m2 < 0 then (l_M_newest_28_4 K N n u1 m3 (m3 + (1 : Int32)) s t) else (px_gd ((vp_in m3 (K.2.2 36)) ∧ (vp_in m2 (K.2.2 36))) (if ((s.2.2.1 36) m3.toNatClampNeg) ≤ ((s.2.2.1 36) m2.toNatClampNeg) then (l_M_newest_28_4 K N n u1 m2 (m3 + (1 : Int32)) s t) else (l_M_newest_28_4 K N n u1 m3 (m3 + (1 : Int32)) s t)))))))
def a_l_M_newest_28_4 (K : px_K) (u1 : Int32) (z : px_LO) (o : Option Value ⊕ Nat) (w2 : px_W) : Prop := match z with
  | .inr (o', s', t') => o = o' ∧ w2 = px_w K s' t'
  | .inl (32, [y2], s', t') => px_E px_ET px_P 1 36 32 [none, none, some (.int y2), none] [] (px_w K s' t') o w2
  | _ => False
set_option maxRecDepth 100000 in
theorem e_l_M_newest_28_4 (K : px_K) (N : Nat) (u1 : Int32) : ∀ (n : Nat) (m2 : Int32) (m3 : Int32) (s : px_S) (t : px_W) (z : px_LO), l_M_newest_28_4 K N n u1 m2 m3 s t = some z → ∀ (o : Option Value ⊕ Nat) (w2 : px_W), a_l_M_newest_28_4 K u1 z o w2 → px_E px_ET px_P 1 36 4 [some (.ref 28), some (.int u1), some (.int m2), some (.int m3)] [] (px_w K s t) o w2 := by
  have hM : px_P[36]? = some pm_M_newest := rfl
  intro n
  induction n with
  | zero => intro m2 m3 s t z h; cases h
  | succ n ih =>
    intro m2 m3 s t z h o w2 ha
    unfold l_M_newest_28_4 at h
    refine px_blkif (c := ((s.1 26) * (s.1 27)) ≤ m3) (t := 32) (e := 11) (L' := [some (.ref 28), some (.int u1), some (.int m2), some (.int m3)]) (S' := []) (w' := px_w K s t) (q := []) 7 hM rfl trivial (fun hc1 => ?_) (fun hc1 => ?_)
    · rw [if_pos hc1] at h
      cases h
      exact px_E_le (px_leC_L _ _ (by simp [px_leC, px_le1, Value.category])) ha
    · rw [if_neg hc1] at h
      obtain ⟨hq2, h⟩ := px_gd_some h
      refine px_blkif (c := ¬ ((s.2.2.1 35) m3.toNatClampNeg) = u1) (t := 30) (e := 17) (L' := [some (.ref 28), some (.int u1), some (.int m2), some (.int m3)]) (S' := []) (w' := px_w K s t) (q := [vp_in m3 (K.2.2 35)]) 6 hM rfl (show vp_in m3 (K.2.2 35) from hq2) (fun hc3 => ?_) (fun hc3 => ?_)
      · rw [if_pos hc3] at h
        refine px_blk (i' := 4) (L' := [some (.ref 28), some (.int u1), some (.int m2), some (.int (m3 + (1 : Int32)))]) (S' := []) (w' := px_w K s t) (q := []) 2 hM rfl trivial ?_
        exact ih m2 (m3 + (1 : Int32)) s t z h o w2 ha
      · rw [if_neg hc3] at h
        refine px_blkif (c := m2 < 0) (t := 28) (e := 19) (L' := [some (.ref 28), some (.int u1), some (.int m2), some (.int m3)]) (S' := []) (w' := px_w K s t) (q := []) 2 hM rfl trivial (fun hc4 => ?_) (fun hc4 => ?_)
        · rw [if_pos hc4] at h
          refine px_blk (i' := 4) (L' := [some (.ref 28), some (.int u1), some (.int m3), some (.int (m3 + (1 : Int32)))]) (S' := []) (w' := px_w K s t) (q := []) 4 hM rfl trivial ?_
          exact ih m3 (m3 + (1 : Int32)) s t z h o w2 ha
        · rw [if_neg hc4] at h
          obtain ⟨⟨hq5, hq6⟩, h⟩ := px_gd_some h
          refine px_blkif (c := ((s.2.2.1 36) m3.toNatClampNeg) ≤ ((s.2.2.1 36) m2.toNatClampNeg)) (t := 30) (e := 28) (L' := [some (.ref 28), some (.int u1), some (.int m2), some (.int m3)]) (S' := []) (w' := px_w K s t) (q := [vp_in m3 (K.2.2 36), vp_in m2 (K.2.2 36)]) 9 hM rfl (show (vp_in m3 (K.2.2 36)) ∧ (vp_in m2 (K.2.2 36)) from ⟨hq5, hq6⟩) (fun hc7 => ?_) (fun hc7 => ?_)
          · rw [if_pos hc7] at h
            refine px_blk (i' := 4) (L' := [some (.ref 28), some (.int u1), some (.int m2), some (.int (m3 + (1 : Int32)))]) (S' := []) (w' := px_w K s t) (q := []) 2 hM rfl trivial ?_
            exact ih m2 (m3 + (1 : Int32)) s t z h o w2 ha
          · rw [if_neg hc7] at h
            refine px_blk (i' := 4) (L' := [some (.ref 28), some (.int u1), some (.int m3), some (.int (m3 + (1 : Int32)))]) (S' := []) (w' := px_w K s t) (q := []) 4 hM rfl trivial ?_
            exact ih m3 (m3 + (1 : Int32)) s t z h o w2 ha
noncomputable def f_M_newest_28 (K : px_K) (N : Nat) (a0 : Int32) (s : px_S) (t : px_W) : Option px_Res :=
  (px_lp (l_M_newest_28_4 K N N a0 (-1 : Int32) (0 : Int32) s t) (fun i1 vs2 s3 t4 => (if i1 = 32 then (px_v1 vs2 (fun y7 => (some (.inl (some (.int y7)), s3, t4)))) else none)) (fun z6 => some z6))
set_option maxRecDepth 100000 in
theorem e_M_newest_28 (K : px_K) (N : Nat) (a0 : Int32) (s : px_S) (t : px_W) (r : px_Res) (h : f_M_newest_28 K N a0 s t = some r) : px_E px_ET px_P 1 36 0 (px_ent 4 [.ref 28, .int a0]) [] (px_w K s t) r.1 (px_w K r.2.1 r.2.2) := by
  have hM : px_P[36]? = some pm_M_newest := rfl
  unfold f_M_newest_28 at h
  refine px_blk (i' := 4) (L' := [some (.ref 28), some (.int a0), some (.int (-1 : Int32)), some (.int (0 : Int32))]) (S' := []) (w' := px_w K s t) (q := []) 4 hM rfl trivial ?_
  rcases px_lp_some h with ⟨i1, vs2, s3, t4, hl5, h⟩ | ⟨z6, hl5, h⟩
  · by_cases hi8 : i1 = 32
    · subst hi8
      rw [if_pos rfl] at h
      have h9 := px_v1_some h
      clear h
      obtain ⟨y7, rfl, h⟩ := h9
      refine e_l_M_newest_28_4 K N a0 N (-1 : Int32) (0 : Int32) s t _ hl5 _ _ ?_
      show px_E px_ET px_P 1 36 32 [none, none, some (.int y7), none] [] (px_w K s3 t4) _ _
      refine px_blk (i' := 33) (L' := [none, none, some (.int y7), none]) (S' := [.int y7]) (w' := px_w K s3 t4) (q := []) 1 hM rfl trivial ?_
      cases h
      exact px_E_ret hM rfl rfl rfl trivial
    · rw [if_neg hi8] at h
      cases h
  · cases h
    exact e_l_M_newest_28_4 K N a0 N (-1 : Int32) (0 : Int32) s t _ hl5 _ _ ⟨rfl, rfl⟩
noncomputable def l_M_cleanOf_28_4 (K : px_K) (N : Nat) (n : Nat) (u1 : Int32) (m2 : Int32) (m3 : Int32) (s : px_S) (t : px_W) : Option px_LO := match n with
  | 0 => none
  | n + 1 => (if ((s.1 26) * (s.1 27)) ≤ m3 then (some (.inl (26, [m2], s, t))) else (px_gd (vp_in m3 (K.2.2 35)) (if ¬ ((s.2.2.1 35) m3.toNatClampNeg) = u1 then (l_M_cleanOf_28_4 K N n u1 m2 (m3 + (1 : Int32)) s t) else (px_gd (vp_in m3 (K.2.2 36)) (if ¬ ((s.2.2.1 36) m3.toNatClampNeg) = 0 then (l_M_cleanOf_28_4 K N n u1 m2 (m3 + (1 : Int32)) s t) else (l_M_cleanOf_28_4 K N n u1 m3 (m3 + (1 : Int32)) s t))))))
def a_l_M_cleanOf_28_4 (K : px_K) (u1 : Int32) (z : px_LO) (o : Option Value ⊕ Nat) (w2 : px_W) : Prop := match z with
  | .inr (o', s', t') => o = o' ∧ w2 = px_w K s' t'
  | .inl (26, [y2], s', t') => px_E px_ET px_P 1 37 26 [none, none, some (.int y2), none] [] (px_w K s' t') o w2
  | _ => False
set_option maxRecDepth 100000 in
theorem e_l_M_cleanOf_28_4 (K : px_K) (N : Nat) (u1 : Int32) : ∀ (n : Nat) (m2 : Int32) (m3 : Int32) (s : px_S) (t : px_W) (z : px_LO), l_M_cleanOf_28_4 K N n u1 m2 m3 s t = some z → ∀ (o : Option Value ⊕ Nat) (w2 : px_W), a_l_M_cleanOf_28_4 K u1 z o w2 → px_E px_ET px_P 1 37 4 [some (.ref 28), some (.int u1), some (.int m2), some (.int m3)] [] (px_w K s t) o w2 := by
  have hM : px_P[37]? = some pm_M_cleanOf := rfl
  intro n
  induction n with
  | zero => intro m2 m3 s t z h; cases h
  | succ n ih =>
    intro m2 m3 s t z h o w2 ha
    unfold l_M_cleanOf_28_4 at h
    refine px_blkif (c := ((s.1 26) * (s.1 27)) ≤ m3) (t := 26) (e := 11) (L' := [some (.ref 28), some (.int u1), some (.int m2), some (.int m3)]) (S' := []) (w' := px_w K s t) (q := []) 7 hM rfl trivial (fun hc1 => ?_) (fun hc1 => ?_)
    · rw [if_pos hc1] at h
      cases h
      exact px_E_le (px_leC_L _ _ (by simp [px_leC, px_le1, Value.category])) ha
    · rw [if_neg hc1] at h
      obtain ⟨hq2, h⟩ := px_gd_some h
      refine px_blkif (c := ¬ ((s.2.2.1 35) m3.toNatClampNeg) = u1) (t := 24) (e := 17) (L' := [some (.ref 28), some (.int u1), some (.int m2), some (.int m3)]) (S' := []) (w' := px_w K s t) (q := [vp_in m3 (K.2.2 35)]) 6 hM rfl (show vp_in m3 (K.2.2 35) from hq2) (fun hc3 => ?_) (fun hc3 => ?_)
      · rw [if_pos hc3] at h
        refine px_blk (i' := 4) (L' := [some (.ref 28), some (.int u1), some (.int m2), some (.int (m3 + (1 : Int32)))]) (S' := []) (w' := px_w K s t) (q := []) 2 hM rfl trivial ?_
        exact ih m2 (m3 + (1 : Int32)) s t z h o w2 ha
      · rw [if_neg hc3] at h
        obtain ⟨hq4, h⟩ := px_gd_some h
        refine px_blkif (c := ¬ ((s.2.2.1 36) m3.toNatClampNeg) = 0) (t := 24) (e := 22) (L' := [some (.ref 28), some (.int u1), some (.int m2), some (.int m3)]) (S' := []) (w' := px_w K s t) (q := [vp_in m3 (K.2.2 36)]) 5 hM rfl (show vp_in m3 (K.2.2 36) from hq4) (fun hc5 => ?_) (fun hc5 => ?_)
        · rw [if_pos hc5] at h
          refine px_blk (i' := 4) (L' := [some (.ref 28), some (.int u1), some (.int m2), some (.int (m3 + (1 : Int32)))]) (S' := []) (w' := px_w K s t) (q := []) 2 hM rfl trivial ?_
          exact ih m2 (m3 + (1 : Int32)) s t z h o w2 ha
        · rw [if_neg hc5] at h
          refine px_blk (i' := 4) (L' := [some (.ref 28), some (.int u1), some (.int m3), some (.int (m3 + (1 : Int32)))]) (S' := []) (w' := px_w K s t) (q := []) 4 hM rfl trivial ?_
          exact ih m3 (m3 + (1 : Int32)) s t z h o w2 ha
noncomputable def f_M_cleanOf_28 (K : px_K) (N : Nat) (a0 : Int32) (s : px_S) (t : px_W) : Option px_Res :=
  (px_lp (l_M_cleanOf_28_4 K N N a0 (-1 : Int32) (0 : Int32) s t) (fun i1 vs2 s3 t4 => (if i1 = 26 then (px_v1 vs2 (fun y7 => (some (.inl (some (.int y7)), s3, t4)))) else none)) (fun z6 => some z6))
set_option maxRecDepth 100000 in
theorem e_M_cleanOf_28 (K : px_K) (N : Nat) (a0 : Int32) (s : px_S) (t : px_W) (r : px_Res) (h : f_M_cleanOf_28 K N a0 s t = some r) : px_E px_ET px_P 1 37 0 (px_ent 4 [.ref 28, .int a0]) [] (px_w K s t) r.1 (px_w K r.2.1 r.2.2) := by
  have hM : px_P[37]? = some pm_M_cleanOf := rfl
  unfold f_M_cleanOf_28 at h
  refine px_blk (i' := 4) (L' := [some (.ref 28), some (.int a0), some (.int (-1 : Int32)), some (.int (0 : Int32))]) (S' := []) (w' := px_w K s t) (q := []) 4 hM rfl trivial ?_
  rcases px_lp_some h with ⟨i1, vs2, s3, t4, hl5, h⟩ | ⟨z6, hl5, h⟩
  · by_cases hi8 : i1 = 26
    · subst hi8
      rw [if_pos rfl] at h
      have h9 := px_v1_some h
      clear h
      obtain ⟨y7, rfl, h⟩ := h9
      refine e_l_M_cleanOf_28_4 K N a0 N (-1 : Int32) (0 : Int32) s t _ hl5 _ _ ?_
      show px_E px_ET px_P 1 37 26 [none, none, some (.int y7), none] [] (px_w K s3 t4) _ _
      refine px_blk (i' := 27) (L' := [none, none, some (.int y7), none]) (S' := [.int y7]) (w' := px_w K s3 t4) (q := []) 1 hM rfl trivial ?_
      cases h
      exact px_E_ret hM rfl rfl rfl trivial
    · rw [if_neg hi8] at h
      cases h
  · cases h
    exact e_l_M_cleanOf_28_4 K N a0 N (-1 : Int32) (0 : Int32) s t _ hl5 _ _ ⟨rfl, rfl⟩
noncomputable def l_M_dirtyOf_28_4 (K : px_K) (N : Nat) (n : Nat) (u1 : Int32) (m2 : Int32) (m3 : Int32) (s : px_S) (t : px_W) : Option px_LO := match n with
  | 0 => none
  | n + 1 => (if ((s.1 26) * (s.1 27)) ≤ m3 then (some (.inl (25, [m2], s, t))) else (px_gd (vp_in m3 (K.2.2 36)) (px_let (m2 + (if ¬ ((s.2.2.1 36) m3.toNatClampNeg) = u1 then (0 : Int32) else (1 : Int32))) (fun v3 => (l_M_dirtyOf_28_4 K N n u1 v3 (m3 + (1 : Int32)) s t)))))
def a_l_M_dirtyOf_28_4 (K : px_K) (u1 : Int32) (z : px_LO) (o : Option Value ⊕ Nat) (w2 : px_W) : Prop := match z with
  | .inr (o', s', t') => o = o' ∧ w2 = px_w K s' t'
  | .inl (25, [y2], s', t') => px_E px_ET px_P 1 38 25 [none, none, some (.int y2), none] [] (px_w K s' t') o w2
  | _ => False
set_option maxRecDepth 100000 in
theorem e_l_M_dirtyOf_28_4 (K : px_K) (N : Nat) (u1 : Int32) : ∀ (n : Nat) (m2 : Int32) (m3 : Int32) (s : px_S) (t : px_W) (z : px_LO), l_M_dirtyOf_28_4 K N n u1 m2 m3 s t = some z → ∀ (o : Option Value ⊕ Nat) (w2 : px_W), a_l_M_dirtyOf_28_4 K u1 z o w2 → px_E px_ET px_P 1 38 4 [some (.ref 28), some (.int u1), some (.int m2), some (.int m3)] [] (px_w K s t) o w2 := by
  have hM : px_P[38]? = some pm_M_dirtyOf := rfl
  intro n
  induction n with
  | zero => intro m2 m3 s t z h; cases h
  | succ n ih =>
    intro m2 m3 s t z h o w2 ha
    unfold l_M_dirtyOf_28_4 at h
    refine px_blkif (c := ((s.1 26) * (s.1 27)) ≤ m3) (t := 25) (e := 11) (L' := [some (.ref 28), some (.int u1), some (.int m2), some (.int m3)]) (S' := []) (w' := px_w K s t) (q := []) 7 hM rfl trivial (fun hc1 => ?_) (fun hc1 => ?_)
    · rw [if_pos hc1] at h
      cases h
      exact px_E_le (px_leC_L _ _ (by simp [px_leC, px_le1, Value.category])) ha
    · rw [if_neg hc1] at h
      obtain ⟨hq2, h⟩ := px_gd_some h
      refine px_blk (i' := 17) (L' := [some (.ref 28), some (.int u1), some (.int m2), some (.int m3)]) (S' := [.int u1, .int ((s.2.2.1 36) m3.toNatClampNeg), .int m2]) (w' := px_w K s t) (q := [vp_in m3 (K.2.2 36)]) 6 hM rfl (show vp_in m3 (K.2.2 36) from hq2) ?_
      have hK : px_E px_ET px_P 1 38 21 [some (.ref 28), some (.int u1), some (.int m2), some (.int m3)] [.int (if ¬ ((s.2.2.1 36) m3.toNatClampNeg) = u1 then (0 : Int32) else (1 : Int32)), .int m2] (px_w K s t) o w2 := by
        refine px_blk (i' := 23) (L' := [some (.ref 28), some (.int u1), some (.int (m2 + (if ¬ ((s.2.2.1 36) m3.toNatClampNeg) = u1 then (0 : Int32) else (1 : Int32)))), some (.int m3)]) (S' := []) (w' := px_w K s t) (q := []) 2 hM rfl trivial ?_
        obtain ⟨v3, hv4, h⟩ := px_let_some h
        rw [← hv4]
        refine px_blk (i' := 4) (L' := [some (.ref 28), some (.int u1), some (.int v3), some (.int (m3 + (1 : Int32)))]) (S' := []) (w' := px_w K s t) (q := []) 2 hM rfl trivial ?_
        exact ih v3 (m3 + (1 : Int32)) s t z h o w2 ha
      clear h
      refine px_blkif (c := ¬ ((s.2.2.1 36) m3.toNatClampNeg) = u1) (t := 20) (e := 18) (L' := [some (.ref 28), some (.int u1), some (.int m2), some (.int m3)]) (S' := [.int m2]) (w' := px_w K s t) (q := []) 1 hM rfl trivial (fun hc5 => ?_) (fun hc5 => ?_)
      · rw [if_pos hc5] at hK
        exact px_blk (i' := 21) (L' := [some (.ref 28), some (.int u1), some (.int m2), some (.int m3)]) (S' := [.int (0 : Int32), .int m2]) (w' := px_w K s t) (q := []) 1 hM rfl trivial hK
      · rw [if_neg hc5] at hK
        exact px_blk (i' := 21) (L' := [some (.ref 28), some (.int u1), some (.int m2), some (.int m3)]) (S' := [.int (1 : Int32), .int m2]) (w' := px_w K s t) (q := []) 2 hM rfl trivial hK
noncomputable def f_M_dirtyOf_28 (K : px_K) (N : Nat) (a0 : Int32) (s : px_S) (t : px_W) : Option px_Res :=
  (px_lp (l_M_dirtyOf_28_4 K N N a0 (0 : Int32) (0 : Int32) s t) (fun i1 vs2 s3 t4 => (if i1 = 25 then (px_v1 vs2 (fun y7 => (some (.inl (some (.int y7)), s3, t4)))) else none)) (fun z6 => some z6))
set_option maxRecDepth 100000 in
theorem e_M_dirtyOf_28 (K : px_K) (N : Nat) (a0 : Int32) (s : px_S) (t : px_W) (r : px_Res) (h : f_M_dirtyOf_28 K N a0 s t = some r) : px_E px_ET px_P 1 38 0 (px_ent 4 [.ref 28, .int a0]) [] (px_w K s t) r.1 (px_w K r.2.1 r.2.2) := by
  have hM : px_P[38]? = some pm_M_dirtyOf := rfl
  unfold f_M_dirtyOf_28 at h
  refine px_blk (i' := 4) (L' := [some (.ref 28), some (.int a0), some (.int (0 : Int32)), some (.int (0 : Int32))]) (S' := []) (w' := px_w K s t) (q := []) 4 hM rfl trivial ?_
  rcases px_lp_some h with ⟨i1, vs2, s3, t4, hl5, h⟩ | ⟨z6, hl5, h⟩
  · by_cases hi8 : i1 = 25
    · subst hi8
      rw [if_pos rfl] at h
      have h9 := px_v1_some h
      clear h
      obtain ⟨y7, rfl, h⟩ := h9
      refine e_l_M_dirtyOf_28_4 K N a0 N (0 : Int32) (0 : Int32) s t _ hl5 _ _ ?_
      show px_E px_ET px_P 1 38 25 [none, none, some (.int y7), none] [] (px_w K s3 t4) _ _
      refine px_blk (i' := 26) (L' := [none, none, some (.int y7), none]) (S' := [.int y7]) (w' := px_w K s3 t4) (q := []) 1 hM rfl trivial ?_
      cases h
      exact px_E_ret hM rfl rfl rfl trivial
    · rw [if_neg hi8] at h
      cases h
  · cases h
    exact e_l_M_dirtyOf_28_4 K N a0 N (0 : Int32) (0 : Int32) s t _ hl5 _ _ ⟨rfl, rfl⟩
noncomputable def l_M_find_28_2 (K : px_K) (N : Nat) (n : Nat) (u1 : Int32) (m2 : Int32) (s : px_S) (t : px_W) : Option px_LO := match n with
  | 0 => none
  | n + 1 => (if ((2 : Int32) * (s.1 27)) ≤ m2 then (some (.inl (63, [], s, t))) else (px_gd (vp_in u1 (K.2.2 38)) (px_let ((u1 * (s.1 27)) + ((s.2.2.1 38) u1.toNatClampNeg)) (fun v3 => (px_gd ((vp_in u1 (K.2.2 38)) ∧ (¬ (s.1 27) = 0)) (px_gd (vp_in u1 (K.2.2 38)) (px_let (sA s 38 u1.toNatClampNeg ((((s.2.2.1 38) u1.toNatClampNeg) + (1 : Int32)) - (((s.2.2.1 38) u1.toNatClampNeg) + (1 : Int32)) / (s.1 27) * (s.1 27))) (fun s8 => (px_gd (vp_in v3 (K.2.2 36)) (if ((s8.2.2.1 36) v3.toNatClampNeg) ≤ 0 then (px_gd (vp_in v3 (K.2.2 37)) (px_let ((s8.2.2.1 37) v3.toNatClampNeg) (fun v13 => (px_gd (vp_in v3 (K.2.2 37)) (px_let (sA s8 37 v3.toNatClampNeg (0 : Int32)) (fun s16 => (px_gd (vp_in v3 (K.2.2 35)) (if ((s16.2.2.1 35) v3.toNatClampNeg) < 0 then (some (.inl (54, [v3], s16, t))) else (if ¬ v13 = 0 then (l_M_find_28_2 K N n u1 (m2 + (1 : Int32)) s16 t) else (some (.inl (54, [v3], s16, t)))))))))))) else (l_M_find_28_2 K N n u1 (m2 + (1 : Int32)) s8 t)))))))))))
def a_l_M_find_28_2 (K : px_K) (u1 : Int32) (z : px_LO) (o : Option Value ⊕ Nat) (w2 : px_W) : Prop := match z with
  | .inr (o', s', t') => o = o' ∧ w2 = px_w K s' t'
  | .inl (54, [y3], s', t') => px_E px_ET px_P 1 39 54 [some (.ref 28), none, none, some (.int y3), none] [] (px_w K s' t') o w2
  | .inl (63, [], s', t') => px_E px_ET px_P 1 39 63 [none, none, none, none, none] [] (px_w K s' t') o w2
  | _ => False
set_option maxRecDepth 100000 in
theorem e_l_M_find_28_2 (K : px_K) (N : Nat) (u1 : Int32) : ∀ (n : Nat) (m2 : Int32) (s : px_S) (t : px_W) (z : px_LO), l_M_find_28_2 K N n u1 m2 s t = some z → ∀ (o : Option Value ⊕ Nat) (w2 : px_W), a_l_M_find_28_2 K u1 z o w2 → px_E px_ET px_P 1 39 2 [some (.ref 28), some (.int u1), some (.int m2), none, none] [] (px_w K s t) o w2 := by
  have hM : px_P[39]? = some pm_M_find := rfl
  intro n
  induction n with
  | zero => intro m2 s t z h; cases h
  | succ n ih =>
    intro m2 s t z h o w2 ha
    unfold l_M_find_28_2 at h
    refine px_blkif (c := ((2 : Int32) * (s.1 27)) ≤ m2) (t := 63) (e := 8) (L' := [some (.ref 28), some (.int u1), some (.int m2), none, none]) (S' := []) (w' := px_w K s t) (q := []) 6 hM rfl trivial (fun hc1 => ?_) (fun hc1 => ?_)
    · rw [if_pos hc1] at h
      cases h
      exact px_E_le (px_leC_L _ _ (by simp [px_leC, px_le1, Value.category])) ha
    · rw [if_neg hc1] at h
      obtain ⟨hq2, h⟩ := px_gd_some h
      refine px_blk (i' := 18) (L' := [some (.ref 28), some (.int u1), some (.int m2), some (.int ((u1 * (s.1 27)) + ((s.2.2.1 38) u1.toNatClampNeg))), none]) (S' := []) (w' := px_w K s t) (q := [vp_in u1 (K.2.2 38)]) 10 hM rfl (show vp_in u1 (K.2.2 38) from hq2) ?_
      obtain ⟨v3, hv4, h⟩ := px_let_some h
      rw [← hv4]
      obtain ⟨⟨hq5, hq6⟩, h⟩ := px_gd_some h
      refine px_blk (i' := 30) (L' := [some (.ref 28), some (.int u1), some (.int m2), some (.int v3), none]) (S' := [.int ((((s.2.2.1 38) u1.toNatClampNeg) + (1 : Int32)) - (((s.2.2.1 38) u1.toNatClampNeg) + (1 : Int32)) / (s.1 27) * (s.1 27)), .int u1, .ref 38]) (w' := px_w K s t) (q := [vp_in u1 (K.2.2 38), ¬ (s.1 27) = 0]) 12 hM rfl (show (vp_in u1 (K.2.2 38)) ∧ (¬ (s.1 27) = 0) from ⟨hq5, hq6⟩) ?_
      obtain ⟨hq7, h⟩ := px_gd_some h
      refine px_blk (i' := 31) (L' := [some (.ref 28), some (.int u1), some (.int m2), some (.int v3), none]) (S' := []) (w' := px_w K (sA s 38 u1.toNatClampNeg ((((s.2.2.1 38) u1.toNatClampNeg) + (1 : Int32)) - (((s.2.2.1 38) u1.toNatClampNeg) + (1 : Int32)) / (s.1 27) * (s.1 27))) t) (q := [vp_in u1 (K.2.2 38)]) 1 hM rfl (show vp_in u1 (K.2.2 38) from hq7) ?_
      obtain ⟨s8, hs9, h⟩ := px_let_some h
      rw [← hs9]
      obtain ⟨hq10, h⟩ := px_gd_some h
      refine px_blkif (c := ((s8.2.2.1 36) v3.toNatClampNeg) ≤ 0) (t := 37) (e := 36) (L' := [some (.ref 28), some (.int u1), some (.int m2), some (.int v3), none]) (S' := []) (w' := px_w K s8 t) (q := [vp_in v3 (K.2.2 36)]) 5 hM rfl (show vp_in v3 (K.2.2 36) from hq10) (fun hc11 => ?_) (fun hc11 => ?_)
      · rw [if_pos hc11] at h
        obtain ⟨hq12, h⟩ := px_gd_some h
        refine px_blk (i' := 42) (L' := [some (.ref 28), some (.int u1), some (.int m2), some (.int v3), some (.int ((s8.2.2.1 37) v3.toNatClampNeg))]) (S' := []) (w' := px_w K s8 t) (q := [vp_in v3 (K.2.2 37)]) 5 hM rfl (show vp_in v3 (K.2.2 37) from hq12) ?_
        obtain ⟨v13, hv14, h⟩ := px_let_some h
        rw [← hv14]
        obtain ⟨hq15, h⟩ := px_gd_some h
        refine px_blk (i' := 47) (L' := [some (.ref 28), some (.int u1), some (.int m2), some (.int v3), some (.int v13)]) (S' := []) (w' := px_w K (sA s8 37 v3.toNatClampNeg (0 : Int32)) t) (q := [vp_in v3 (K.2.2 37), (0 : Int32) = 0 ∨ (0 : Int32) = 1]) 5 hM rfl (show (vp_in v3 (K.2.2 37)) ∧ ((0 : Int32) = 0 ∨ (0 : Int32) = 1) from ⟨hq15, Or.inl rfl⟩) ?_
        obtain ⟨s16, hs17, h⟩ := px_let_some h
        rw [← hs17]
        obtain ⟨hq18, h⟩ := px_gd_some h
        refine px_blkif (c := ((s16.2.2.1 35) v3.toNatClampNeg) < 0) (t := 54) (e := 52) (L' := [some (.ref 28), some (.int u1), some (.int m2), some (.int v3), some (.int v13)]) (S' := []) (w' := px_w K s16 t) (q := [vp_in v3 (K.2.2 35)]) 5 hM rfl (show vp_in v3 (K.2.2 35) from hq18) (fun hc19 => ?_) (fun hc19 => ?_)
        · rw [if_pos hc19] at h
          cases h
          exact px_E_le (px_leC_L _ _ (by simp [px_leC, px_le1, Value.category])) ha
        · rw [if_neg hc19] at h
          refine px_blkif (c := ¬ v13 = 0) (t := 61) (e := 54) (L' := [some (.ref 28), some (.int u1), some (.int m2), some (.int v3), some (.int v13)]) (S' := []) (w' := px_w K s16 t) (q := []) 2 hM rfl trivial (fun hc20 => ?_) (fun hc20 => ?_)
          · rw [if_pos hc20] at h
            refine px_blk (i' := 2) (L' := [some (.ref 28), some (.int u1), some (.int (m2 + (1 : Int32))), some (.int v3), some (.int v13)]) (S' := []) (w' := px_w K s16 t) (q := []) 2 hM rfl trivial ?_
            exact px_E_le (px_leC_L _ _ (by simp [px_leC, px_le1, Value.category])) (ih (m2 + (1 : Int32)) s16 t z h o w2 ha)
          · rw [if_neg hc20] at h
            cases h
            exact px_E_le (px_leC_L _ _ (by simp [px_leC, px_le1, Value.category])) ha
      · rw [if_neg hc11] at h
        refine px_blk (i' := 2) (L' := [some (.ref 28), some (.int u1), some (.int (m2 + (1 : Int32))), some (.int v3), none]) (S' := []) (w' := px_w K s8 t) (q := []) 3 hM rfl trivial ?_
        exact px_E_le (px_leC_L _ _ (by simp [px_leC, px_le1, Value.category])) (ih (m2 + (1 : Int32)) s8 t z h o w2 ha)
noncomputable def f_M_find_28 (K : px_K) (N : Nat) (a0 : Int32) (s : px_S) (t : px_W) : Option px_Res :=
  (px_lp (l_M_find_28_2 K N N a0 (0 : Int32) s t) (fun i1 vs2 s3 t4 => (if i1 = 54 then (px_v1 vs2 (fun y7 => (px_gd (vp_in y7 (K.2.2 35)) (px_let (sA s3 35 y7.toNatClampNeg (-1 : Int32)) (fun s10 => (some (.inl (some (.int y7)), s10, t4))))))) else (if i1 = 63 then (px_v0 vs2 (some (.inl (some (.int (-1 : Int32))), s3, t4))) else none))) (fun z6 => some z6))
set_option maxRecDepth 100000 in
theorem e_M_find_28 (K : px_K) (N : Nat) (a0 : Int32) (s : px_S) (t : px_W) (r : px_Res) (h : f_M_find_28 K N a0 s t = some r) : px_E px_ET px_P 1 39 0 (px_ent 5 [.ref 28, .int a0]) [] (px_w K s t) r.1 (px_w K r.2.1 r.2.2) := by
  have hM : px_P[39]? = some pm_M_find := rfl
  unfold f_M_find_28 at h
  refine px_blk (i' := 2) (L' := [some (.ref 28), some (.int a0), some (.int (0 : Int32)), none, none]) (S' := []) (w' := px_w K s t) (q := []) 2 hM rfl trivial ?_
  rcases px_lp_some h with ⟨i1, vs2, s3, t4, hl5, h⟩ | ⟨z6, hl5, h⟩
  · by_cases hi8 : i1 = 54
    · subst hi8
      rw [if_pos rfl] at h
      have h9 := px_v1_some h
      clear h
      obtain ⟨y7, rfl, h⟩ := h9
      refine e_l_M_find_28_2 K N a0 N (0 : Int32) s t _ hl5 _ _ ?_
      show px_E px_ET px_P 1 39 54 [some (.ref 28), none, none, some (.int y7), none] [] (px_w K s3 t4) _ _
      obtain ⟨hq9, h⟩ := px_gd_some h
      refine px_blk (i' := 59) (L' := [some (.ref 28), none, none, some (.int y7), none]) (S' := []) (w' := px_w K (sA s3 35 y7.toNatClampNeg (-1 : Int32)) t4) (q := [vp_in y7 (K.2.2 35)]) 5 hM rfl (show vp_in y7 (K.2.2 35) from hq9) ?_
      obtain ⟨s10, hs11, h⟩ := px_let_some h
      rw [← hs11]
      refine px_blk (i' := 60) (L' := [some (.ref 28), none, none, some (.int y7), none]) (S' := [.int y7]) (w' := px_w K s10 t4) (q := []) 1 hM rfl trivial ?_
      cases h
      exact px_E_ret hM rfl rfl rfl trivial
    · rw [if_neg hi8] at h
      by_cases hi12 : i1 = 63
      · subst hi12
        rw [if_pos rfl] at h
        have h9 := px_v0_some h
        clear h
        obtain ⟨rfl, h⟩ := h9
        refine e_l_M_find_28_2 K N a0 N (0 : Int32) s t _ hl5 _ _ ?_
        show px_E px_ET px_P 1 39 63 [none, none, none, none, none] [] (px_w K s3 t4) _ _
        refine px_blk (i' := 64) (L' := [none, none, none, none, none]) (S' := [.int (-1 : Int32)]) (w' := px_w K s3 t4) (q := []) 1 hM rfl trivial ?_
        cases h
        exact px_E_ret hM rfl rfl rfl trivial
      · rw [if_neg hi12] at h
        cases h
  · cases h
    exact e_l_M_find_28_2 K N a0 N (0 : Int32) s t _ hl5 _ _ ⟨rfl, rfl⟩
noncomputable def l_M_copy_28_39_2 (K : px_K) (N : Nat) (n : Nat) (u1 : Int32) (u2 : Int32) (u4 : Int32) (m5 : Int32) (s : px_S) (t : px_W) : Option px_LO := match n with
  | 0 => none
  | n + 1 => (if (16 : Int32) ≤ m5 then (some (.inl (17, [], s, t))) else (px_bi (f_M_read_28 K N u1 u2 m5 s t) (fun v5 s2 t3 => (px_gd (vp_in (u4 + m5) (K.2.2 39)) (px_let (sA s2 39 (u4 + m5).toNatClampNeg v5) (fun s8 => (l_M_copy_28_39_2 K N n u1 u2 u4 (m5 + (1 : Int32)) s8 t3))))) (fun x6 s2 t3 => none)))
def a_l_M_copy_28_39_2 (K : px_K) (u1 : Int32) (u2 : Int32) (u4 : Int32) (z : px_LO) (o : Option Value ⊕ Nat) (w2 : px_W) : Prop := match z with
  | .inr (o', s', t') => o = o' ∧ w2 = px_w K s' t'
  | .inl (17, [], s', t') => px_E px_ET px_P 3 32 17 [none, none, none, none, none, none] [] (px_w K s' t') o w2
  | _ => False
set_option maxRecDepth 100000 in
theorem e_l_M_copy_28_39_2 (K : px_K) (N : Nat) (u1 : Int32) (u2 : Int32) (u4 : Int32) : ∀ (n : Nat) (m5 : Int32) (s : px_S) (t : px_W) (z : px_LO), l_M_copy_28_39_2 K N n u1 u2 u4 m5 s t = some z → ∀ (o : Option Value ⊕ Nat) (w2 : px_W), a_l_M_copy_28_39_2 K u1 u2 u4 z o w2 → px_E px_ET px_P 3 32 2 [some (.ref 28), some (.int u1), some (.int u2), some (.ref 39), some (.int u4), some (.int m5)] [] (px_w K s t) o w2 := by
  have hM : px_P[32]? = some pm_M_copy := rfl
  intro n
  induction n with
  | zero => intro m5 s t z h; cases h
  | succ n ih =>
    intro m5 s t z h o w2 ha
    unfold l_M_copy_28_39_2 at h
    refine px_blkif (c := (16 : Int32) ≤ m5) (t := 17) (e := 5) (L' := [some (.ref 28), some (.int u1), some (.int u2), some (.ref 39), some (.int u4), some (.int m5)]) (S' := []) (w' := px_w K s t) (q := []) 3 hM rfl trivial (fun hc1 => ?_) (fun hc1 => ?_)
    · rw [if_pos hc1] at h
      cases h
      exact px_E_le (px_leC_L _ _ (by simp [px_leC, px_le1, Value.category])) ha
    · rw [if_neg hc1] at h
      refine px_blk (i' := 13) (L' := [some (.ref 28), some (.int u1), some (.int u2), some (.ref 39), some (.int u4), some (.int m5)]) (S' := [.int m5, .int u2, .int u1, .ref 28, .int (u4 + m5), .ref 39]) (w' := px_w K s t) (q := []) 8 hM rfl trivial ?_
      rcases px_bi_some h with ⟨v5, s2, t3, hk4, h⟩ | ⟨x6, s2, t3, hk4, h⟩
      · refine px_E_call hM rfl rfl rfl rfl (px_E_mono (by decide) (e_M_read_28 K N u1 u2 m5 s t _ hk4)) ?_
        obtain ⟨hq7, h⟩ := px_gd_some h
        refine px_blk (i' := 15) (L' := [some (.ref 28), some (.int u1), some (.int u2), some (.ref 39), some (.int u4), some (.int m5)]) (S' := []) (w' := px_w K (sA s2 39 (u4 + m5).toNatClampNeg v5) t3) (q := [vp_in (u4 + m5) (K.2.2 39)]) 1 hM rfl (show vp_in (u4 + m5) (K.2.2 39) from hq7) ?_
        obtain ⟨s8, hs9, h⟩ := px_let_some h
        rw [← hs9]
        refine px_blk (i' := 2) (L' := [some (.ref 28), some (.int u1), some (.int u2), some (.ref 39), some (.int u4), some (.int (m5 + (1 : Int32)))]) (S' := []) (w' := px_w K s8 t3) (q := []) 2 hM rfl trivial ?_
        exact ih (m5 + (1 : Int32)) s8 t3 z h o w2 ha
      · cases h
noncomputable def f_M_copy_28_39 (K : px_K) (N : Nat) (a0 : Int32) (a1 : Int32) (a2 : Int32) (s : px_S) (t : px_W) : Option px_Res :=
  (px_lp (l_M_copy_28_39_2 K N N a0 a1 a2 (0 : Int32) s t) (fun i1 vs2 s3 t4 => (if i1 = 17 then (px_v0 vs2 (some (.inl none, s3, t4))) else none)) (fun z6 => some z6))
set_option maxRecDepth 100000 in
theorem e_M_copy_28_39 (K : px_K) (N : Nat) (a0 : Int32) (a1 : Int32) (a2 : Int32) (s : px_S) (t : px_W) (r : px_Res) (h : f_M_copy_28_39 K N a0 a1 a2 s t = some r) : px_E px_ET px_P 3 32 0 (px_ent 6 [.ref 28, .int a0, .int a1, .ref 39, .int a2]) [] (px_w K s t) r.1 (px_w K r.2.1 r.2.2) := by
  have hM : px_P[32]? = some pm_M_copy := rfl
  unfold f_M_copy_28_39 at h
  refine px_blk (i' := 2) (L' := [some (.ref 28), some (.int a0), some (.int a1), some (.ref 39), some (.int a2), some (.int (0 : Int32))]) (S' := []) (w' := px_w K s t) (q := []) 2 hM rfl trivial ?_
  rcases px_lp_some h with ⟨i1, vs2, s3, t4, hl5, h⟩ | ⟨z6, hl5, h⟩
  · by_cases hi7 : i1 = 17
    · subst hi7
      rw [if_pos rfl] at h
      have h9 := px_v0_some h
      clear h
      obtain ⟨rfl, h⟩ := h9
      refine e_l_M_copy_28_39_2 K N a0 a1 a2 N (0 : Int32) s t _ hl5 _ _ ?_
      show px_E px_ET px_P 3 32 17 [none, none, none, none, none, none] [] (px_w K s3 t4) _ _
      cases h
      exact px_E_ret hM rfl rfl rfl trivial
    · rw [if_neg hi7] at h
      cases h
  · cases h
    exact e_l_M_copy_28_39_2 K N a0 a1 a2 N (0 : Int32) s t _ hl5 _ _ ⟨rfl, rfl⟩
noncomputable def l_M_write_28_39_94 (K : px_K) (N : Nat) (n : Nat) (u1 : Int32) (u4 : Int32) (u5 : Int32) (m6 : Int32) (s : px_S) (t : px_W) : Option px_LO := match n with
  | 0 => none
  | n + 1 => (if (16 : Int32) ≤ m6 then (some (.inl (112, [], s, t))) else (px_gd (vp_in (u4 + m6) (K.2.2 39)) (px_gd (vp_in (((16 : Int32) * u5) + m6) (K.2.2 32)) (px_let (sA s 32 (((16 : Int32) * u5) + m6).toNatClampNeg ((s.2.2.1 39) (u4 + m6).toNatClampNeg)) (fun s4 => (l_M_write_28_39_94 K N n u1 u4 u5 (m6 + (1 : Int32)) s4 t))))))
def a_l_M_write_28_39_94 (K : px_K) (u1 : Int32) (u4 : Int32) (u5 : Int32) (z : px_LO) (o : Option Value ⊕ Nat) (w2 : px_W) : Prop := match z with
  | .inr (o', s', t') => o = o' ∧ w2 = px_w K s' t'
  | .inl (112, [], s', t') => px_E px_ET px_P 5 29 112 [some (.ref 28), some (.int u1), none, none, none, none, none] [] (px_w K s' t') o w2
  | _ => False
noncomputable def l_M_write_28_39_28 (K : px_K) (N : Nat) (n : Nat) (u1 : Int32) (u2 : Int32) (u4 : Int32) (u5 : Int32) (m6 : Int32) (s : px_S) (t : px_W) : Option px_LO := match n with
  | 0 => none
  | n + 1 => (if ((u5 + (64 : Int32)) - (1 : Int32)) ≤ m6 then (some (.inl (47, [], s, t))) else (px_gd ((vp_in (m6 + (1 : Int32)) (K.2.2 31)) ∧ (vp_in m6 (K.2.2 31))) (px_let (sA s 31 m6.toNatClampNeg ((s.2.2.1 31) (m6 + (1 : Int32)).toNatClampNeg)) (fun s4 => (l_M_write_28_39_28 K N n u1 u2 u4 u5 (m6 + (1 : Int32)) s4 t)))))
def a_l_M_write_28_39_28 (K : px_K) (u1 : Int32) (u2 : Int32) (u4 : Int32) (u5 : Int32) (z : px_LO) (o : Option Value ⊕ Nat) (w2 : px_W) : Prop := match z with
  | .inr (o', s', t') => o = o' ∧ w2 = px_w K s' t'
  | .inl (47, [], s', t') => px_E px_ET px_P 5 29 47 [some (.ref 28), some (.int u1), some (.int u2), some (.ref 39), some (.int u4), some (.int u5), none] [] (px_w K s' t') o w2
  | _ => False
noncomputable def l_M_write_28_39_51 (K : px_K) (N : Nat) (n : Nat) (u1 : Int32) (u2 : Int32) (u4 : Int32) (u5 : Int32) (m6 : Int32) (s : px_S) (t : px_W) : Option px_LO := match n with
  | 0 => none
  | n + 1 => (if ((16 : Int32) * ((u5 + (64 : Int32)) - (1 : Int32))) ≤ m6 then (some (.inl (72, [], s, t))) else (px_gd ((vp_in (m6 + (16 : Int32)) (K.2.2 32)) ∧ (vp_in m6 (K.2.2 32))) (px_let (sA s 32 m6.toNatClampNeg ((s.2.2.1 32) (m6 + (16 : Int32)).toNatClampNeg)) (fun s4 => (l_M_write_28_39_51 K N n u1 u2 u4 u5 (m6 + (1 : Int32)) s4 t)))))
def a_l_M_write_28_39_51 (K : px_K) (u1 : Int32) (u2 : Int32) (u4 : Int32) (u5 : Int32) (z : px_LO) (o : Option Value ⊕ Nat) (w2 : px_W) : Prop := match z with
  | .inr (o', s', t') => o = o' ∧ w2 = px_w K s' t'
  | .inl (72, [], s', t') => px_E px_ET px_P 5 29 72 [some (.ref 28), some (.int u1), some (.int u2), some (.ref 39), some (.int u4), some (.int u5), none] [] (px_w K s' t') o w2
  | _ => False
set_option maxRecDepth 100000 in
theorem e_l_M_write_28_39_94 (K : px_K) (N : Nat) (u1 : Int32) (u4 : Int32) (u5 : Int32) : ∀ (n : Nat) (m6 : Int32) (s : px_S) (t : px_W) (z : px_LO), l_M_write_28_39_94 K N n u1 u4 u5 m6 s t = some z → ∀ (o : Option Value ⊕ Nat) (w2 : px_W), a_l_M_write_28_39_94 K u1 u4 u5 z o w2 → px_E px_ET px_P 5 29 94 [some (.ref 28), some (.int u1), none, some (.ref 39), some (.int u4), some (.int u5), some (.int m6)] [] (px_w K s t) o w2 := by
  have hM : px_P[29]? = some pm_M_write := rfl
  intro n
  induction n with
  | zero => intro m6 s t z h; cases h
  | succ n ih =>
    intro m6 s t z h o w2 ha
    unfold l_M_write_28_39_94 at h
    refine px_blkif (c := (16 : Int32) ≤ m6) (t := 112) (e := 97) (L' := [some (.ref 28), some (.int u1), none, some (.ref 39), some (.int u4), some (.int u5), some (.int m6)]) (S' := []) (w' := px_w K s t) (q := []) 3 hM rfl trivial (fun hc1 => ?_) (fun hc1 => ?_)
    · rw [if_pos hc1] at h
      cases h
      exact px_E_le (px_leC_L _ _ (by simp [px_leC, px_le1, Value.category])) ha
    · rw [if_neg hc1] at h
      obtain ⟨hq2, h⟩ := px_gd_some h
      refine px_blk (i' := 109) (L' := [some (.ref 28), some (.int u1), none, some (.ref 39), some (.int u4), some (.int u5), some (.int m6)]) (S' := [.int ((s.2.2.1 39) (u4 + m6).toNatClampNeg), .int (((16 : Int32) * u5) + m6), .ref 32]) (w' := px_w K s t) (q := [vp_in (u4 + m6) (K.2.2 39)]) 12 hM rfl (show vp_in (u4 + m6) (K.2.2 39) from hq2) ?_
      obtain ⟨hq3, h⟩ := px_gd_some h
      refine px_blk (i' := 110) (L' := [some (.ref 28), some (.int u1), none, some (.ref 39), some (.int u4), some (.int u5), some (.int m6)]) (S' := []) (w' := px_w K (sA s 32 (((16 : Int32) * u5) + m6).toNatClampNeg ((s.2.2.1 39) (u4 + m6).toNatClampNeg)) t) (q := [vp_in (((16 : Int32) * u5) + m6) (K.2.2 32)]) 1 hM rfl (show vp_in (((16 : Int32) * u5) + m6) (K.2.2 32) from hq3) ?_
      obtain ⟨s4, hs5, h⟩ := px_let_some h
      rw [← hs5]
      refine px_blk (i' := 94) (L' := [some (.ref 28), some (.int u1), none, some (.ref 39), some (.int u4), some (.int u5), some (.int (m6 + (1 : Int32)))]) (S' := []) (w' := px_w K s4 t) (q := []) 2 hM rfl trivial ?_
      exact ih (m6 + (1 : Int32)) s4 t z h o w2 ha
set_option maxRecDepth 100000 in
theorem e_l_M_write_28_39_28 (K : px_K) (N : Nat) (u1 : Int32) (u2 : Int32) (u4 : Int32) (u5 : Int32) : ∀ (n : Nat) (m6 : Int32) (s : px_S) (t : px_W) (z : px_LO), l_M_write_28_39_28 K N n u1 u2 u4 u5 m6 s t = some z → ∀ (o : Option Value ⊕ Nat) (w2 : px_W), a_l_M_write_28_39_28 K u1 u2 u4 u5 z o w2 → px_E px_ET px_P 5 29 28 [some (.ref 28), some (.int u1), some (.int u2), some (.ref 39), some (.int u4), some (.int u5), some (.int m6)] [] (px_w K s t) o w2 := by
  have hM : px_P[29]? = some pm_M_write := rfl
  intro n
  induction n with
  | zero => intro m6 s t z h; cases h
  | succ n ih =>
    intro m6 s t z h o w2 ha
    unfold l_M_write_28_39_28 at h
    refine px_blkif (c := ((u5 + (64 : Int32)) - (1 : Int32)) ≤ m6) (t := 47) (e := 35) (L' := [some (.ref 28), some (.int u1), some (.int u2), some (.ref 39), some (.int u4), some (.int u5), some (.int m6)]) (S' := []) (w' := px_w K s t) (q := []) 7 hM rfl trivial (fun hc1 => ?_) (fun hc1 => ?_)
    · rw [if_pos hc1] at h
      cases h
      exact px_E_le (px_leC_L _ _ (by simp [px_leC, px_le1, Value.category])) ha
    · rw [if_neg hc1] at h
      obtain ⟨⟨hq2, hq3⟩, h⟩ := px_gd_some h
      refine px_blk (i' := 45) (L' := [some (.ref 28), some (.int u1), some (.int u2), some (.ref 39), some (.int u4), some (.int u5), some (.int m6)]) (S' := []) (w' := px_w K (sA s 31 m6.toNatClampNeg ((s.2.2.1 31) (m6 + (1 : Int32)).toNatClampNeg)) t) (q := [vp_in (m6 + (1 : Int32)) (K.2.2 31), vp_in m6 (K.2.2 31)]) 10 hM rfl (show (vp_in (m6 + (1 : Int32)) (K.2.2 31)) ∧ (vp_in m6 (K.2.2 31)) from ⟨hq2, hq3⟩) ?_
      obtain ⟨s4, hs5, h⟩ := px_let_some h
      rw [← hs5]
      refine px_blk (i' := 28) (L' := [some (.ref 28), some (.int u1), some (.int u2), some (.ref 39), some (.int u4), some (.int u5), some (.int (m6 + (1 : Int32)))]) (S' := []) (w' := px_w K s4 t) (q := []) 2 hM rfl trivial ?_
      exact ih (m6 + (1 : Int32)) s4 t z h o w2 ha
set_option maxRecDepth 100000 in
theorem e_l_M_write_28_39_51 (K : px_K) (N : Nat) (u1 : Int32) (u2 : Int32) (u4 : Int32) (u5 : Int32) : ∀ (n : Nat) (m6 : Int32) (s : px_S) (t : px_W) (z : px_LO), l_M_write_28_39_51 K N n u1 u2 u4 u5 m6 s t = some z → ∀ (o : Option Value ⊕ Nat) (w2 : px_W), a_l_M_write_28_39_51 K u1 u2 u4 u5 z o w2 → px_E px_ET px_P 5 29 51 [some (.ref 28), some (.int u1), some (.int u2), some (.ref 39), some (.int u4), some (.int u5), some (.int m6)] [] (px_w K s t) o w2 := by
  have hM : px_P[29]? = some pm_M_write := rfl
  intro n
  induction n with
  | zero => intro m6 s t z h; cases h
  | succ n ih =>
    intro m6 s t z h o w2 ha
    unfold l_M_write_28_39_51 at h
    refine px_blkif (c := ((16 : Int32) * ((u5 + (64 : Int32)) - (1 : Int32))) ≤ m6) (t := 72) (e := 60) (L' := [some (.ref 28), some (.int u1), some (.int u2), some (.ref 39), some (.int u4), some (.int u5), some (.int m6)]) (S' := []) (w' := px_w K s t) (q := []) 9 hM rfl trivial (fun hc1 => ?_) (fun hc1 => ?_)
    · rw [if_pos hc1] at h
      cases h
      exact px_E_le (px_leC_L _ _ (by simp [px_leC, px_le1, Value.category])) ha
    · rw [if_neg hc1] at h
      obtain ⟨⟨hq2, hq3⟩, h⟩ := px_gd_some h
      refine px_blk (i' := 70) (L' := [some (.ref 28), some (.int u1), some (.int u2), some (.ref 39), some (.int u4), some (.int u5), some (.int m6)]) (S' := []) (w' := px_w K (sA s 32 m6.toNatClampNeg ((s.2.2.1 32) (m6 + (16 : Int32)).toNatClampNeg)) t) (q := [vp_in (m6 + (16 : Int32)) (K.2.2 32), vp_in m6 (K.2.2 32)]) 10 hM rfl (show (vp_in (m6 + (16 : Int32)) (K.2.2 32)) ∧ (vp_in m6 (K.2.2 32)) from ⟨hq2, hq3⟩) ?_
      obtain ⟨s4, hs5, h⟩ := px_let_some h
      rw [← hs5]
      refine px_blk (i' := 51) (L' := [some (.ref 28), some (.int u1), some (.int u2), some (.ref 39), some (.int u4), some (.int u5), some (.int (m6 + (1 : Int32)))]) (S' := []) (w' := px_w K s4 t) (q := []) 2 hM rfl trivial ?_
      exact ih (m6 + (1 : Int32)) s4 t z h o w2 ha
noncomputable def f_M_write_28_39 (K : px_K) (N : Nat) (a0 : Int32) (a1 : Int32) (a2 : Int32) (s : px_S) (t : px_W) : Option px_Res :=
  (px_bi (f_M_acts_28 K N s t) (fun v4 s1 t2 => (if ¬ v4 = 0 then (px_gd ((vp_in a0 (K.2.2 33)) ∧ (vp_in a0 (K.2.2 33))) (px_let (sA s1 33 a0.toNatClampNeg (((s1.2.2.1 33) a0.toNatClampNeg) + (1 : Int32))) (fun s9 => (px_let ((64 : Int32) * a0) (fun v11 => (px_gd (vp_in a0 (K.2.2 30)) (if ¬ ((s9.2.2.1 30) a0.toNatClampNeg) = (64 : Int32) then (px_gd (vp_in a0 (K.2.2 30)) (px_let (v11 + ((s9.2.2.1 30) a0.toNatClampNeg)) (fun v16 => (px_gd (vp_in v16 (K.2.2 31)) (px_let (sA s9 31 v16.toNatClampNeg a1) (fun s19 => (px_lp (l_M_write_28_39_94 K N N a0 a2 v16 (0 : Int32) s19 t2) (fun i21 vs22 s23 t24 => (if i21 = 112 then (px_v0 vs22 (px_gd ((vp_in a0 (K.2.2 30)) ∧ (vp_in a0 (K.2.2 30))) (px_let (sA s23 30 a0.toNatClampNeg (((s23.2.2.1 30) a0.toNatClampNeg) + (1 : Int32))) (fun s30 => (some (.inl none, s30, t24)))))) else none)) (fun z26 => some z26)))))))) else (px_bv (f_M_becomesStable_28 K N a0 (0 : Int32) s9 t2) (fun s32 t33 => (px_lp (l_M_write_28_39_28 K N N a0 a1 a2 v11 v11 s32 t33) (fun i37 vs38 s39 t40 => (if i37 = 47 then (px_v0 vs38 (px_let ((16 : Int32) * v11) (fun v44 => (px_lp (l_M_write_28_39_51 K N N a0 a1 a2 v11 v44 s39 t40) (fun i46 vs47 s48 t49 => (if i46 = 72 then (px_v0 vs47 (px_gd ((vp_in a0 (K.2.2 30)) ∧ (vp_in a0 (K.2.2 30))) (px_let (sA s48 30 a0.toNatClampNeg (((s48.2.2.1 30) a0.toNatClampNeg) - (1 : Int32))) (fun s55 => (px_gd (vp_in a0 (K.2.2 30)) (px_let (v11 + ((s55.2.2.1 30) a0.toNatClampNeg)) (fun v58 => (px_gd (vp_in v58 (K.2.2 31)) (px_let (sA s55 31 v58.toNatClampNeg a1) (fun s61 => (px_lp (l_M_write_28_39_94 K N N a0 a2 v58 (0 : Int32) s61 t49) (fun i63 vs64 s65 t66 => (if i63 = 112 then (px_v0 vs64 (px_gd ((vp_in a0 (K.2.2 30)) ∧ (vp_in a0 (K.2.2 30))) (px_let (sA s65 30 a0.toNatClampNeg (((s65.2.2.1 30) a0.toNatClampNeg) + (1 : Int32))) (fun s72 => (some (.inl none, s72, t66)))))) else none)) (fun z68 => some z68)))))))))))) else none)) (fun z51 => some z51))))) else none)) (fun z42 => some z42))) (fun x36 s32 t33 => none))))))))) else (some (.inl none, s1, t2)))) (fun x5 s1 t2 => none))
set_option maxRecDepth 100000 in
theorem e_M_write_28_39 (K : px_K) (N : Nat) (a0 : Int32) (a1 : Int32) (a2 : Int32) (s : px_S) (t : px_W) (r : px_Res) (h : f_M_write_28_39 K N a0 a1 a2 s t = some r) : px_E px_ET px_P 5 29 0 (px_ent 7 [.ref 28, .int a0, .int a1, .ref 39, .int a2]) [] (px_w K s t) r.1 (px_w K r.2.1 r.2.2) := by
  have hM : px_P[29]? = some pm_M_write := rfl
  unfold f_M_write_28_39 at h
  refine px_blk (i' := 1) (L' := [some (.ref 28), some (.int a0), some (.int a1), some (.ref 39), some (.int a2), none, none]) (S' := [.ref 28]) (w' := px_w K s t) (q := []) 1 hM rfl trivial ?_
  rcases px_bi_some h with ⟨v4, s1, t2, hk3, h⟩ | ⟨x5, s1, t2, hk3, h⟩
  · refine px_E_call hM rfl rfl rfl rfl (px_E_mono (by decide) (e_M_acts_28 K N s t _ hk3)) ?_
    refine px_blkif (c := ¬ v4 = 0) (t := 4) (e := 3) (L' := [some (.ref 28), some (.int a0), some (.int a1), some (.ref 39), some (.int a2), none, none]) (S' := []) (w' := px_w K s1 t2) (q := []) 1 hM rfl trivial (fun hc6 => ?_) (fun hc6 => ?_)
    · rw [if_pos hc6] at h
      obtain ⟨⟨hq7, hq8⟩, h⟩ := px_gd_some h
      refine px_blk (i' := 12) (L' := [some (.ref 28), some (.int a0), some (.int a1), some (.ref 39), some (.int a2), none, none]) (S' := []) (w' := px_w K (sA s1 33 a0.toNatClampNeg (((s1.2.2.1 33) a0.toNatClampNeg) + (1 : Int32))) t2) (q := [vp_in a0 (K.2.2 33), vp_in a0 (K.2.2 33)]) 8 hM rfl (show (vp_in a0 (K.2.2 33)) ∧ (vp_in a0 (K.2.2 33)) from ⟨hq7, hq8⟩) ?_
      obtain ⟨s9, hs10, h⟩ := px_let_some h
      rw [← hs10]
      refine px_blk (i' := 16) (L' := [some (.ref 28), some (.int a0), some (.int a1), some (.ref 39), some (.int a2), some (.int ((64 : Int32) * a0)), none]) (S' := []) (w' := px_w K s9 t2) (q := []) 4 hM rfl trivial ?_
      obtain ⟨v11, hv12, h⟩ := px_let_some h
      rw [← hv12]
      obtain ⟨hq13, h⟩ := px_gd_some h
      refine px_blkif (c := ¬ ((s9.2.2.1 30) a0.toNatClampNeg) = (64 : Int32)) (t := 80) (e := 22) (L' := [some (.ref 28), some (.int a0), some (.int a1), some (.ref 39), some (.int a2), some (.int v11), none]) (S' := []) (w' := px_w K s9 t2) (q := [vp_in a0 (K.2.2 30)]) 6 hM rfl (show vp_in a0 (K.2.2 30) from hq13) (fun hc14 => ?_) (fun hc14 => ?_)
      · rw [if_pos hc14] at h
        obtain ⟨hq15, h⟩ := px_gd_some h
        refine px_blk (i' := 87) (L' := [some (.ref 28), some (.int a0), some (.int a1), some (.ref 39), some (.int a2), some (.int (v11 + ((s9.2.2.1 30) a0.toNatClampNeg))), none]) (S' := []) (w' := px_w K s9 t2) (q := [vp_in a0 (K.2.2 30)]) 7 hM rfl (show vp_in a0 (K.2.2 30) from hq15) ?_
        obtain ⟨v16, hv17, h⟩ := px_let_some h
        rw [← hv17]
        obtain ⟨hq18, h⟩ := px_gd_some h
        refine px_blk (i' := 92) (L' := [some (.ref 28), some (.int a0), some (.int a1), some (.ref 39), some (.int a2), some (.int v16), none]) (S' := []) (w' := px_w K (sA s9 31 v16.toNatClampNeg a1) t2) (q := [vp_in v16 (K.2.2 31)]) 5 hM rfl (show vp_in v16 (K.2.2 31) from hq18) ?_
        obtain ⟨s19, hs20, h⟩ := px_let_some h
        rw [← hs20]
        refine px_blk (i' := 94) (L' := [some (.ref 28), some (.int a0), some (.int a1), some (.ref 39), some (.int a2), some (.int v16), some (.int (0 : Int32))]) (S' := []) (w' := px_w K s19 t2) (q := []) 2 hM rfl trivial ?_
        rcases px_lp_some h with ⟨i21, vs22, s23, t24, hl25, h⟩ | ⟨z26, hl25, h⟩
        · by_cases hi27 : i21 = 112
          · subst hi27
            rw [if_pos rfl] at h
            have h9 := px_v0_some h
            clear h
            obtain ⟨rfl, h⟩ := h9
            refine px_E_le (px_leC_L _ _ (by simp [px_leC, px_le1, Value.category])) (e_l_M_write_28_39_94 K N a0 a2 v16 N (0 : Int32) s19 t2 _ hl25 _ _ ?_)
            show px_E px_ET px_P 5 29 112 [some (.ref 28), some (.int a0), none, none, none, none, none] [] (px_w K s23 t24) _ _
            obtain ⟨⟨hq28, hq29⟩, h⟩ := px_gd_some h
            refine px_blk (i' := 120) (L' := [some (.ref 28), some (.int a0), none, none, none, none, none]) (S' := []) (w' := px_w K (sA s23 30 a0.toNatClampNeg (((s23.2.2.1 30) a0.toNatClampNeg) + (1 : Int32))) t24) (q := [vp_in a0 (K.2.2 30), vp_in a0 (K.2.2 30)]) 8 hM rfl (show (vp_in a0 (K.2.2 30)) ∧ (vp_in a0 (K.2.2 30)) from ⟨hq28, hq29⟩) ?_
            obtain ⟨s30, hs31, h⟩ := px_let_some h
            rw [← hs31]
            cases h
            exact px_E_ret hM rfl rfl rfl trivial
          · rw [if_neg hi27] at h
            cases h
        · cases h
          exact px_E_le (px_leC_L _ _ (by simp [px_leC, px_le1, Value.category])) (e_l_M_write_28_39_94 K N a0 a2 v16 N (0 : Int32) s19 t2 _ hl25 _ _ ⟨rfl, rfl⟩)
      · rw [if_neg hc14] at h
        refine px_blk (i' := 25) (L' := [some (.ref 28), some (.int a0), some (.int a1), some (.ref 39), some (.int a2), some (.int v11), none]) (S' := [.int (0 : Int32), .int a0, .ref 28]) (w' := px_w K s9 t2) (q := []) 3 hM rfl trivial ?_
        rcases px_bv_some h with ⟨s32, t33, hk34, h⟩ | ⟨x36, s32, t33, hk34, h⟩
        · refine px_E_call hM rfl rfl rfl rfl (px_E_mono (by decide) (e_M_becomesStable_28 K N a0 (0 : Int32) s9 t2 _ hk34)) ?_
          refine px_blk (i' := 28) (L' := [some (.ref 28), some (.int a0), some (.int a1), some (.ref 39), some (.int a2), some (.int v11), some (.int v11)]) (S' := []) (w' := px_w K s32 t33) (q := []) 2 hM rfl trivial ?_
          rcases px_lp_some h with ⟨i37, vs38, s39, t40, hl41, h⟩ | ⟨z42, hl41, h⟩
          · by_cases hi43 : i37 = 47
            · subst hi43
              rw [if_pos rfl] at h
              have h9 := px_v0_some h
              clear h
              obtain ⟨rfl, h⟩ := h9
              refine e_l_M_write_28_39_28 K N a0 a1 a2 v11 N v11 s32 t33 _ hl41 _ _ ?_
              show px_E px_ET px_P 5 29 47 [some (.ref 28), some (.int a0), some (.int a1), some (.ref 39), some (.int a2), some (.int v11), none] [] (px_w K s39 t40) _ _
              refine px_blk (i' := 51) (L' := [some (.ref 28), some (.int a0), some (.int a1), some (.ref 39), some (.int a2), some (.int v11), some (.int ((16 : Int32) * v11))]) (S' := []) (w' := px_w K s39 t40) (q := []) 4 hM rfl trivial ?_
              obtain ⟨v44, hv45, h⟩ := px_let_some h
              rw [← hv45]
              rcases px_lp_some h with ⟨i46, vs47, s48, t49, hl50, h⟩ | ⟨z51, hl50, h⟩
              · by_cases hi52 : i46 = 72
                · subst hi52
                  rw [if_pos rfl] at h
                  have h9 := px_v0_some h
                  clear h
                  obtain ⟨rfl, h⟩ := h9
                  refine e_l_M_write_28_39_51 K N a0 a1 a2 v11 N v44 s39 t40 _ hl50 _ _ ?_
                  show px_E px_ET px_P 5 29 72 [some (.ref 28), some (.int a0), some (.int a1), some (.ref 39), some (.int a2), some (.int v11), none] [] (px_w K s48 t49) _ _
                  obtain ⟨⟨hq53, hq54⟩, h⟩ := px_gd_some h
                  refine px_blk (i' := 80) (L' := [some (.ref 28), some (.int a0), some (.int a1), some (.ref 39), some (.int a2), some (.int v11), none]) (S' := []) (w' := px_w K (sA s48 30 a0.toNatClampNeg (((s48.2.2.1 30) a0.toNatClampNeg) - (1 : Int32))) t49) (q := [vp_in a0 (K.2.2 30), vp_in a0 (K.2.2 30)]) 8 hM rfl (show (vp_in a0 (K.2.2 30)) ∧ (vp_in a0 (K.2.2 30)) from ⟨hq53, hq54⟩) ?_
                  obtain ⟨s55, hs56, h⟩ := px_let_some h
                  rw [← hs56]
                  obtain ⟨hq57, h⟩ := px_gd_some h
                  refine px_blk (i' := 87) (L' := [some (.ref 28), some (.int a0), some (.int a1), some (.ref 39), some (.int a2), some (.int (v11 + ((s55.2.2.1 30) a0.toNatClampNeg))), none]) (S' := []) (w' := px_w K s55 t49) (q := [vp_in a0 (K.2.2 30)]) 7 hM rfl (show vp_in a0 (K.2.2 30) from hq57) ?_
                  obtain ⟨v58, hv59, h⟩ := px_let_some h
                  rw [← hv59]
                  obtain ⟨hq60, h⟩ := px_gd_some h
                  refine px_blk (i' := 92) (L' := [some (.ref 28), some (.int a0), some (.int a1), some (.ref 39), some (.int a2), some (.int v58), none]) (S' := []) (w' := px_w K (sA s55 31 v58.toNatClampNeg a1) t49) (q := [vp_in v58 (K.2.2 31)]) 5 hM rfl (show vp_in v58 (K.2.2 31) from hq60) ?_
                  obtain ⟨s61, hs62, h⟩ := px_let_some h
                  rw [← hs62]
                  refine px_blk (i' := 94) (L' := [some (.ref 28), some (.int a0), some (.int a1), some (.ref 39), some (.int a2), some (.int v58), some (.int (0 : Int32))]) (S' := []) (w' := px_w K s61 t49) (q := []) 2 hM rfl trivial ?_
                  rcases px_lp_some h with ⟨i63, vs64, s65, t66, hl67, h⟩ | ⟨z68, hl67, h⟩
                  · by_cases hi69 : i63 = 112
                    · subst hi69
                      rw [if_pos rfl] at h
                      have h9 := px_v0_some h
                      clear h
                      obtain ⟨rfl, h⟩ := h9
                      refine px_E_le (px_leC_L _ _ (by simp [px_leC, px_le1, Value.category])) (e_l_M_write_28_39_94 K N a0 a2 v58 N (0 : Int32) s61 t49 _ hl67 _ _ ?_)
                      show px_E px_ET px_P 5 29 112 [some (.ref 28), some (.int a0), none, none, none, none, none] [] (px_w K s65 t66) _ _
                      obtain ⟨⟨hq70, hq71⟩, h⟩ := px_gd_some h
                      refine px_blk (i' := 120) (L' := [some (.ref 28), some (.int a0), none, none, none, none, none]) (S' := []) (w' := px_w K (sA s65 30 a0.toNatClampNeg (((s65.2.2.1 30) a0.toNatClampNeg) + (1 : Int32))) t66) (q := [vp_in a0 (K.2.2 30), vp_in a0 (K.2.2 30)]) 8 hM rfl (show (vp_in a0 (K.2.2 30)) ∧ (vp_in a0 (K.2.2 30)) from ⟨hq70, hq71⟩) ?_
                      obtain ⟨s72, hs73, h⟩ := px_let_some h
                      rw [← hs73]
                      cases h
                      exact px_E_ret hM rfl rfl rfl trivial
                    · rw [if_neg hi69] at h
                      cases h
                  · cases h
                    exact px_E_le (px_leC_L _ _ (by simp [px_leC, px_le1, Value.category])) (e_l_M_write_28_39_94 K N a0 a2 v58 N (0 : Int32) s61 t49 _ hl67 _ _ ⟨rfl, rfl⟩)
                · rw [if_neg hi52] at h
                  cases h
              · cases h
                exact e_l_M_write_28_39_51 K N a0 a1 a2 v11 N v44 s39 t40 _ hl50 _ _ ⟨rfl, rfl⟩
            · rw [if_neg hi43] at h
              cases h
          · cases h
            exact e_l_M_write_28_39_28 K N a0 a1 a2 v11 N v11 s32 t33 _ hl41 _ _ ⟨rfl, rfl⟩
        · cases h
    · rw [if_neg hc6] at h
      cases h
      exact px_E_ret hM rfl rfl rfl trivial
  · cases h
noncomputable def f_M_readVolume_28 (K : px_K) (N : Nat) (a0 : Int32) (s : px_S) (t : px_W) : Option px_Res :=
  (if ¬ (s.1 31) = 0 then (px_bi (f_M_newest_28 K N a0 s t) (fun v5 s2 t3 => (if v5 < 0 then (px_bv (f_M_copy_28_39 K N (0 : Int32) ((19 : Int32) + a0) ((16 : Int32) * a0) s2 t3) (fun s8 t9 => (px_gd (¬ (s8.1 26) = 0) (px_bi (f_M_find_28 K N (a0 - a0 / (s8.1 26) * (s8.1 26)) s8 t9) (fun v17 s14 t15 => (if 0 ≤ v17 then (px_bv (f_M_write_28_39 K N (1 : Int32) ((50 : Int32) + v17) ((16 : Int32) * a0) s14 t15) (fun s20 t21 => (px_gd (vp_in v17 (K.2.2 35)) (px_let (sA s20 35 v17.toNatClampNeg a0) (fun s26 => (some (.inl none, s26, t21)))))) (fun x24 s20 t21 => none)) else (some (.inl none, s14, t15)))) (fun x18 s14 t15 => none)))) (fun x12 s8 t9 => none)) else (px_gd (vp_in v5 (K.2.2 37)) (px_let (sA s2 37 v5.toNatClampNeg (1 : Int32)) (fun s29 => (px_bv (f_M_copy_28_39 K N (1 : Int32) ((50 : Int32) + v5) ((16 : Int32) * a0) s29 t3) (fun s31 t32 => (some (.inl none, s31, t32))) (fun x35 s31 t32 => none))))))) (fun x6 s2 t3 => none)) else (px_bv (f_M_copy_28_39 K N (0 : Int32) ((19 : Int32) + a0) ((16 : Int32) * a0) s t) (fun s36 t37 => (some (.inl none, s36, t37))) (fun x40 s36 t37 => none)))
set_option maxRecDepth 100000 in
theorem e_M_readVolume_28 (K : px_K) (N : Nat) (a0 : Int32) (s : px_S) (t : px_W) (r : px_Res) (h : f_M_readVolume_28 K N a0 s t = some r) : px_E px_ET px_P 6 40 0 (px_ent 3 [.ref 28, .int a0]) [] (px_w K s t) r.1 (px_w K r.2.1 r.2.2) := by
  have hM : px_P[40]? = some pm_M_readVolume := rfl
  unfold f_M_readVolume_28 at h
  refine px_blkif (c := ¬ (s.1 31) = 0) (t := 15) (e := 3) (L' := [some (.ref 28), some (.int a0), none]) (S' := []) (w' := px_w K s t) (q := []) 3 hM rfl trivial (fun hc1 => ?_) (fun hc1 => ?_)
  · rw [if_pos hc1] at h
    refine px_blk (i' := 17) (L' := [some (.ref 28), some (.int a0), none]) (S' := [.int a0, .ref 28]) (w' := px_w K s t) (q := []) 2 hM rfl trivial ?_
    rcases px_bi_some h with ⟨v5, s2, t3, hk4, h⟩ | ⟨x6, s2, t3, hk4, h⟩
    · refine px_E_call hM rfl rfl rfl rfl (px_E_mono (by decide) (e_M_newest_28 K N a0 s t _ hk4)) ?_
      refine px_blkif (c := v5 < 0) (t := 38) (e := 21) (L' := [some (.ref 28), some (.int a0), some (.int v5)]) (S' := []) (w' := px_w K s2 t3) (q := []) 3 hM rfl trivial (fun hc7 => ?_) (fun hc7 => ?_)
      · rw [if_pos hc7] at h
        refine px_blk (i' := 48) (L' := [some (.ref 28), some (.int a0), some (.int v5)]) (S' := [.int ((16 : Int32) * a0), .ref 39, .int ((19 : Int32) + a0), .int (0 : Int32), .ref 28]) (w' := px_w K s2 t3) (q := []) 10 hM rfl trivial ?_
        rcases px_bv_some h with ⟨s8, t9, hk10, h⟩ | ⟨x12, s8, t9, hk10, h⟩
        · refine px_E_call hM rfl rfl rfl rfl (px_E_mono (by decide) (e_M_copy_28_39 K N (0 : Int32) ((19 : Int32) + a0) ((16 : Int32) * a0) s2 t3 _ hk10)) ?_
          obtain ⟨hq13, h⟩ := px_gd_some h
          refine px_blk (i' := 54) (L' := [some (.ref 28), some (.int a0), some (.int v5)]) (S' := [.int (a0 - a0 / (s8.1 26) * (s8.1 26)), .ref 28]) (w' := px_w K s8 t9) (q := [¬ (s8.1 26) = 0]) 5 hM rfl (show ¬ (s8.1 26) = 0 from hq13) ?_
          rcases px_bi_some h with ⟨v17, s14, t15, hk16, h⟩ | ⟨x18, s14, t15, hk16, h⟩
          · refine px_E_call hM rfl rfl rfl rfl (px_E_mono (by decide) (e_M_find_28 K N (a0 - a0 / (s8.1 26) * (s8.1 26)) s8 t9 _ hk16)) ?_
            refine px_blkif (c := 0 ≤ v17) (t := 59) (e := 58) (L' := [some (.ref 28), some (.int a0), some (.int v17)]) (S' := []) (w' := px_w K s14 t15) (q := []) 3 hM rfl trivial (fun hc19 => ?_) (fun hc19 => ?_)
            · rw [if_pos hc19] at h
              refine px_blk (i' := 69) (L' := [some (.ref 28), some (.int a0), some (.int v17)]) (S' := [.int ((16 : Int32) * a0), .ref 39, .int ((50 : Int32) + v17), .int (1 : Int32), .ref 28]) (w' := px_w K s14 t15) (q := []) 10 hM rfl trivial ?_
              rcases px_bv_some h with ⟨s20, t21, hk22, h⟩ | ⟨x24, s20, t21, hk22, h⟩
              · refine px_E_call hM rfl rfl rfl rfl (px_E_mono (by decide) (e_M_write_28_39 K N (1 : Int32) ((50 : Int32) + v17) ((16 : Int32) * a0) s14 t15 _ hk22)) ?_
                obtain ⟨hq25, h⟩ := px_gd_some h
                refine px_blk (i' := 75) (L' := [some (.ref 28), some (.int a0), some (.int v17)]) (S' := []) (w' := px_w K (sA s20 35 v17.toNatClampNeg a0) t21) (q := [vp_in v17 (K.2.2 35)]) 5 hM rfl (show vp_in v17 (K.2.2 35) from hq25) ?_
                obtain ⟨s26, hs27, h⟩ := px_let_some h
                rw [← hs27]
                cases h
                exact px_E_ret hM rfl rfl rfl trivial
              · cases h
            · rw [if_neg hc19] at h
              cases h
              exact px_E_ret hM rfl rfl rfl trivial
          · cases h
        · cases h
      · rw [if_neg hc7] at h
        obtain ⟨hq28, h⟩ := px_gd_some h
        refine px_blk (i' := 26) (L' := [some (.ref 28), some (.int a0), some (.int v5)]) (S' := []) (w' := px_w K (sA s2 37 v5.toNatClampNeg (1 : Int32)) t3) (q := [vp_in v5 (K.2.2 37), (1 : Int32) = 0 ∨ (1 : Int32) = 1]) 5 hM rfl (show (vp_in v5 (K.2.2 37)) ∧ ((1 : Int32) = 0 ∨ (1 : Int32) = 1) from ⟨hq28, Or.inr rfl⟩) ?_
        obtain ⟨s29, hs30, h⟩ := px_let_some h
        rw [← hs30]
        refine px_blk (i' := 36) (L' := [some (.ref 28), some (.int a0), some (.int v5)]) (S' := [.int ((16 : Int32) * a0), .ref 39, .int ((50 : Int32) + v5), .int (1 : Int32), .ref 28]) (w' := px_w K s29 t3) (q := []) 10 hM rfl trivial ?_
        rcases px_bv_some h with ⟨s31, t32, hk33, h⟩ | ⟨x35, s31, t32, hk33, h⟩
        · refine px_E_call hM rfl rfl rfl rfl (px_E_mono (by decide) (e_M_copy_28_39 K N (1 : Int32) ((50 : Int32) + v5) ((16 : Int32) * a0) s29 t3 _ hk33)) ?_
          cases h
          exact px_E_ret hM rfl rfl rfl trivial
        · cases h
    · cases h
  · rw [if_neg hc1] at h
    refine px_blk (i' := 13) (L' := [some (.ref 28), some (.int a0), none]) (S' := [.int ((16 : Int32) * a0), .ref 39, .int ((19 : Int32) + a0), .int (0 : Int32), .ref 28]) (w' := px_w K s t) (q := []) 10 hM rfl trivial ?_
    rcases px_bv_some h with ⟨s36, t37, hk38, h⟩ | ⟨x40, s36, t37, hk38, h⟩
    · refine px_E_call hM rfl rfl rfl rfl (px_E_mono (by decide) (e_M_copy_28_39 K N (0 : Int32) ((19 : Int32) + a0) ((16 : Int32) * a0) s t _ hk38)) ?_
      cases h
      exact px_E_ret hM rfl rfl rfl trivial
    · cases h
noncomputable def l_M_hasClosed_28_7 (K : px_K) (N : Nat) (n : Nat) (u1 : Int32) (m2 : Int32) (m3 : Int32) (s : px_S) (t : px_W) : Option px_LO := match n with
  | 0 => none
  | n + 1 => (if ((u1 * (s.1 27)) + (s.1 27)) ≤ m3 then (some (.inl (36, [m2], s, t))) else (if ¬ m2 = 0 then (l_M_hasClosed_28_7 K N n u1 (1 : Int32) (m3 + (1 : Int32)) s t) else (px_gd (vp_in m3 (K.2.2 36)) (if ((s.2.2.1 36) m3.toNatClampNeg) ≤ 0 then (l_M_hasClosed_28_7 K N n u1 (0 : Int32) (m3 + (1 : Int32)) s t) else (px_gd (vp_in m3 (K.2.2 36)) (px_let (if (s.1 32) ≤ ((s.2.2.1 36) m3.toNatClampNeg) then (0 : Int32) else (1 : Int32)) (fun v6 => (l_M_hasClosed_28_7 K N n u1 v6 (m3 + (1 : Int32)) s t))))))))
def a_l_M_hasClosed_28_7 (K : px_K) (u1 : Int32) (z : px_LO) (o : Option Value ⊕ Nat) (w2 : px_W) : Prop := match z with
  | .inr (o', s', t') => o = o' ∧ w2 = px_w K s' t'
  | .inl (36, [y2], s', t') => px_E px_ET px_P 1 42 36 [none, none, some (.int y2), none] [] (px_w K s' t') o w2
  | _ => False
set_option maxRecDepth 100000 in
theorem e_l_M_hasClosed_28_7 (K : px_K) (N : Nat) (u1 : Int32) : ∀ (n : Nat) (m2 : Int32) (m3 : Int32) (s : px_S) (t : px_W) (z : px_LO), l_M_hasClosed_28_7 K N n u1 m2 m3 s t = some z → ∀ (o : Option Value ⊕ Nat) (w2 : px_W), a_l_M_hasClosed_28_7 K u1 z o w2 → px_E px_ET px_P 1 42 7 [some (.ref 28), some (.int u1), some (.int m2), some (.int m3)] [] (px_w K s t) o w2 := by
  have hM : px_P[42]? = some pm_M_hasClosed := rfl
  intro n
  induction n with
  | zero => intro m2 m3 s t z h; cases h
  | succ n ih =>
    intro m2 m3 s t z h o w2 ha
    unfold l_M_hasClosed_28_7 at h
    refine px_blkif (c := ((u1 * (s.1 27)) + (s.1 27)) ≤ m3) (t := 36) (e := 16) (L' := [some (.ref 28), some (.int u1), some (.int m2), some (.int m3)]) (S' := []) (w' := px_w K s t) (q := []) 9 hM rfl trivial (fun hc1 => ?_) (fun hc1 => ?_)
    · rw [if_pos hc1] at h
      cases h
      exact px_E_le (px_leC_L _ _ (by simp [px_leC, px_le1, Value.category])) ha
    · rw [if_neg hc1] at h
      refine px_blkif (c := ¬ m2 = 0) (t := 30) (e := 18) (L' := [some (.ref 28), some (.int u1), some (.int m2), some (.int m3)]) (S' := []) (w' := px_w K s t) (q := []) 2 hM rfl trivial (fun hc2 => ?_) (fun hc2 => ?_)
      · rw [if_pos hc2] at h
        refine px_blk (i' := 7) (L' := [some (.ref 28), some (.int u1), some (.int (1 : Int32)), some (.int (m3 + (1 : Int32)))]) (S' := []) (w' := px_w K s t) (q := []) 5 hM rfl trivial ?_
        exact ih (1 : Int32) (m3 + (1 : Int32)) s t z h o w2 ha
      · rw [if_neg hc2] at h
        obtain ⟨hq3, h⟩ := px_gd_some h
        refine px_blkif (c := ((s.2.2.1 36) m3.toNatClampNeg) ≤ 0) (t := 32) (e := 23) (L' := [some (.ref 28), some (.int u1), some (.int m2), some (.int m3)]) (S' := []) (w' := px_w K s t) (q := [vp_in m3 (K.2.2 36)]) 5 hM rfl (show vp_in m3 (K.2.2 36) from hq3) (fun hc4 => ?_) (fun hc4 => ?_)
        · rw [if_pos hc4] at h
          refine px_blk (i' := 7) (L' := [some (.ref 28), some (.int u1), some (.int (0 : Int32)), some (.int (m3 + (1 : Int32)))]) (S' := []) (w' := px_w K s t) (q := []) 4 hM rfl trivial ?_
          exact ih (0 : Int32) (m3 + (1 : Int32)) s t z h o w2 ha
        · rw [if_neg hc4] at h
          obtain ⟨hq5, h⟩ := px_gd_some h
          refine px_blk (i' := 29) (L' := [some (.ref 28), some (.int u1), some (.int m2), some (.int m3)]) (S' := [.int (s.1 32), .int ((s.2.2.1 36) m3.toNatClampNeg)]) (w' := px_w K s t) (q := [vp_in m3 (K.2.2 36)]) 6 hM rfl (show vp_in m3 (K.2.2 36) from hq5) ?_
          have hK : px_E px_ET px_P 1 42 33 [some (.ref 28), some (.int u1), some (.int m2), some (.int m3)] [.int (if (s.1 32) ≤ ((s.2.2.1 36) m3.toNatClampNeg) then (0 : Int32) else (1 : Int32))] (px_w K s t) o w2 := by
            refine px_blk (i' := 34) (L' := [some (.ref 28), some (.int u1), some (.int (if (s.1 32) ≤ ((s.2.2.1 36) m3.toNatClampNeg) then (0 : Int32) else (1 : Int32))), some (.int m3)]) (S' := []) (w' := px_w K s t) (q := []) 1 hM rfl trivial ?_
            obtain ⟨v6, hv7, h⟩ := px_let_some h
            rw [← hv7]
            refine px_blk (i' := 7) (L' := [some (.ref 28), some (.int u1), some (.int v6), some (.int (m3 + (1 : Int32)))]) (S' := []) (w' := px_w K s t) (q := []) 2 hM rfl trivial ?_
            exact ih v6 (m3 + (1 : Int32)) s t z h o w2 ha
          clear h
          refine px_blkif (c := (s.1 32) ≤ ((s.2.2.1 36) m3.toNatClampNeg)) (t := 32) (e := 30) (L' := [some (.ref 28), some (.int u1), some (.int m2), some (.int m3)]) (S' := []) (w' := px_w K s t) (q := []) 1 hM rfl trivial (fun hc8 => ?_) (fun hc8 => ?_)
          · rw [if_pos hc8] at hK
            exact px_blk (i' := 33) (L' := [some (.ref 28), some (.int u1), some (.int m2), some (.int m3)]) (S' := [.int (0 : Int32)]) (w' := px_w K s t) (q := []) 1 hM rfl trivial hK
          · rw [if_neg hc8] at hK
            exact px_blk (i' := 33) (L' := [some (.ref 28), some (.int u1), some (.int m2), some (.int m3)]) (S' := [.int (1 : Int32)]) (w' := px_w K s t) (q := []) 2 hM rfl trivial hK
noncomputable def f_M_hasClosed_28 (K : px_K) (N : Nat) (a0 : Int32) (s : px_S) (t : px_W) : Option px_Res :=
  (px_lp (l_M_hasClosed_28_7 K N N a0 (0 : Int32) (a0 * (s.1 27)) s t) (fun i1 vs2 s3 t4 => (if i1 = 36 then (px_v1 vs2 (fun y7 => (px_gd (y7 = 0 ∨ y7 = 1) (some (.inl (some (.int y7)), s3, t4))))) else none)) (fun z6 => some z6))
set_option maxRecDepth 100000 in
theorem e_M_hasClosed_28 (K : px_K) (N : Nat) (a0 : Int32) (s : px_S) (t : px_W) (r : px_Res) (h : f_M_hasClosed_28 K N a0 s t = some r) : px_E px_ET px_P 1 42 0 (px_ent 4 [.ref 28, .int a0]) [] (px_w K s t) r.1 (px_w K r.2.1 r.2.2) := by
  have hM : px_P[42]? = some pm_M_hasClosed := rfl
  unfold f_M_hasClosed_28 at h
  refine px_blk (i' := 7) (L' := [some (.ref 28), some (.int a0), some (.int (0 : Int32)), some (.int (a0 * (s.1 27)))]) (S' := []) (w' := px_w K s t) (q := []) 7 hM rfl trivial ?_
  rcases px_lp_some h with ⟨i1, vs2, s3, t4, hl5, h⟩ | ⟨z6, hl5, h⟩
  · by_cases hi8 : i1 = 36
    · subst hi8
      rw [if_pos rfl] at h
      have h9 := px_v1_some h
      clear h
      obtain ⟨y7, rfl, h⟩ := h9
      refine e_l_M_hasClosed_28_7 K N a0 N (0 : Int32) (a0 * (s.1 27)) s t _ hl5 _ _ ?_
      show px_E px_ET px_P 1 42 36 [none, none, some (.int y7), none] [] (px_w K s3 t4) _ _
      refine px_blk (i' := 37) (L' := [none, none, some (.int y7), none]) (S' := [.int y7]) (w' := px_w K s3 t4) (q := []) 1 hM rfl trivial ?_
      obtain ⟨hq9, h⟩ := px_gd_some h
      cases h
      exact px_E_ret hM rfl rfl rfl (show y7 = 0 ∨ y7 = 1 from hq9)
    · rw [if_neg hi8] at h
      cases h
  · cases h
    exact e_l_M_hasClosed_28_7 K N a0 N (0 : Int32) (a0 * (s.1 27)) s t _ hl5 _ _ ⟨rfl, rfl⟩
noncomputable def l_M_nextOf_28_4 (K : px_K) (N : Nat) (n : Nat) (u1 : Int32) (u2 : Int32) (m3 : Int32) (m4 : Int32) (s : px_S) (t : px_W) : Option px_LO := match n with
  | 0 => none
  | n + 1 => (if ((s.1 26) * (s.1 27)) ≤ m4 then (some (.inl (38, [m3], s, t))) else (px_gd (vp_in m4 (K.2.2 36)) (if ¬ ((s.2.2.1 36) m4.toNatClampNeg) = u1 then (l_M_nextOf_28_4 K N n u1 u2 m3 (m4 + (1 : Int32)) s t) else (px_gd (vp_in m4 (K.2.2 35)) (if ((s.2.2.1 35) m4.toNatClampNeg) ≤ u2 then (l_M_nextOf_28_4 K N n u1 u2 m3 (m4 + (1 : Int32)) s t) else (if m3 < 0 then (l_M_nextOf_28_4 K N n u1 u2 m4 (m4 + (1 : Int32)) s t) else (px_gd ((vp_in m4 (K.2.2 35)) ∧ (vp_in m3 (K.2.2 35))) (if ((s.2.2.1 35) m3.toNatClampNeg) ≤ ((s.2.2.1 35) m4.toNatClampNeg) then (l_M_nextOf_28_4 K N n u1 u2 m3 (m4 + (1 : Int32)) s t) else (l_M_nextOf_28_4 K N n u1 u2 m4 (m4 + (1 : Int32)) s t)))))))))
def a_l_M_nextOf_28_4 (K : px_K) (u1 : Int32) (u2 : Int32) (z : px_LO) (o : Option Value ⊕ Nat) (w2 : px_W) : Prop := match z with
  | .inr (o', s', t') => o = o' ∧ w2 = px_w K s' t'
  | .inl (38, [y3], s', t') => px_E px_ET px_P 1 47 38 [none, none, none, some (.int y3), none] [] (px_w K s' t') o w2
  | _ => False
set_option maxRecDepth 100000 in
theorem e_l_M_nextOf_28_4 (K : px_K) (N : Nat) (u1 : Int32) (u2 : Int32) : ∀ (n : Nat) (m3 : Int32) (m4 : Int32) (s : px_S) (t : px_W) (z : px_LO), l_M_nextOf_28_4 K N n u1 u2 m3 m4 s t = some z → ∀ (o : Option Value ⊕ Nat) (w2 : px_W), a_l_M_nextOf_28_4 K u1 u2 z o w2 → px_E px_ET px_P 1 47 4 [some (.ref 28), some (.int u1), some (.int u2), some (.int m3), some (.int m4)] [] (px_w K s t) o w2 := by
  have hM : px_P[47]? = some pm_M_nextOf := rfl
  intro n
  induction n with
  | zero => intro m3 m4 s t z h; cases h
  | succ n ih =>
    intro m3 m4 s t z h o w2 ha
    unfold l_M_nextOf_28_4 at h
    refine px_blkif (c := ((s.1 26) * (s.1 27)) ≤ m4) (t := 38) (e := 11) (L' := [some (.ref 28), some (.int u1), some (.int u2), some (.int m3), some (.int m4)]) (S' := []) (w' := px_w K s t) (q := []) 7 hM rfl trivial (fun hc1 => ?_) (fun hc1 => ?_)
    · rw [if_pos hc1] at h
      cases h
      exact px_E_le (px_leC_L _ _ (by simp [px_leC, px_le1, Value.category])) ha
    · rw [if_neg hc1] at h
      obtain ⟨hq2, h⟩ := px_gd_some h
      refine px_blkif (c := ¬ ((s.2.2.1 36) m4.toNatClampNeg) = u1) (t := 36) (e := 17) (L' := [some (.ref 28), some (.int u1), some (.int u2), some (.int m3), some (.int m4)]) (S' := []) (w' := px_w K s t) (q := [vp_in m4 (K.2.2 36)]) 6 hM rfl (show vp_in m4 (K.2.2 36) from hq2) (fun hc3 => ?_) (fun hc3 => ?_)
      · rw [if_pos hc3] at h
        refine px_blk (i' := 4) (L' := [some (.ref 28), some (.int u1), some (.int u2), some (.int m3), some (.int (m4 + (1 : Int32)))]) (S' := []) (w' := px_w K s t) (q := []) 2 hM rfl trivial ?_
        exact ih m3 (m4 + (1 : Int32)) s t z h o w2 ha
      · rw [if_neg hc3] at h
        obtain ⟨hq4, h⟩ := px_gd_some h
        refine px_blkif (c := ((s.2.2.1 35) m4.toNatClampNeg) ≤ u2) (t := 36) (e := 23) (L' := [some (.ref 28), some (.int u1), some (.int u2), some (.int m3), some (.int m4)]) (S' := []) (w' := px_w K s t) (q := [vp_in m4 (K.2.2 35)]) 6 hM rfl (show vp_in m4 (K.2.2 35) from hq4) (fun hc5 => ?_) (fun hc5 => ?_)
        · rw [if_pos hc5] at h
          refine px_blk (i' := 4) (L' := [some (.ref 28), some (.int u1), some (.int u2), some (.int m3), some (.int (m4 + (1 : Int32)))]) (S' := []) (w' := px_w K s t) (q := []) 2 hM rfl trivial ?_
          exact ih m3 (m4 + (1 : Int32)) s t z h o w2 ha
        · rw [if_neg hc5] at h
          refine px_blkif (c := m3 < 0) (t := 34) (e := 25) (L' := [some (.ref 28), some (.int u1), some (.int u2), some (.int m3), some (.int m4)]) (S' := []) (w' := px_w K s t) (q := []) 2 hM rfl trivial (fun hc6 => ?_) (fun hc6 => ?_)
          · rw [if_pos hc6] at h
            refine px_blk (i' := 4) (L' := [some (.ref 28), some (.int u1), some (.int u2), some (.int m4), some (.int (m4 + (1 : Int32)))]) (S' := []) (w' := px_w K s t) (q := []) 4 hM rfl trivial ?_
            exact ih m4 (m4 + (1 : Int32)) s t z h o w2 ha
          · rw [if_neg hc6] at h
            obtain ⟨⟨hq7, hq8⟩, h⟩ := px_gd_some h
            refine px_blkif (c := ((s.2.2.1 35) m3.toNatClampNeg) ≤ ((s.2.2.1 35) m4.toNatClampNeg)) (t := 36) (e := 34) (L' := [some (.ref 28), some (.int u1), some (.int u2), some (.int m3), some (.int m4)]) (S' := []) (w' := px_w K s t) (q := [vp_in m4 (K.2.2 35), vp_in m3 (K.2.2 35)]) 9 hM rfl (show (vp_in m4 (K.2.2 35)) ∧ (vp_in m3 (K.2.2 35)) from ⟨hq7, hq8⟩) (fun hc9 => ?_) (fun hc9 => ?_)
            · rw [if_pos hc9] at h
              refine px_blk (i' := 4) (L' := [some (.ref 28), some (.int u1), some (.int u2), some (.int m3), some (.int (m4 + (1 : Int32)))]) (S' := []) (w' := px_w K s t) (q := []) 2 hM rfl trivial ?_
              exact ih m3 (m4 + (1 : Int32)) s t z h o w2 ha
            · rw [if_neg hc9] at h
              refine px_blk (i' := 4) (L' := [some (.ref 28), some (.int u1), some (.int u2), some (.int m4), some (.int (m4 + (1 : Int32)))]) (S' := []) (w' := px_w K s t) (q := []) 4 hM rfl trivial ?_
              exact ih m4 (m4 + (1 : Int32)) s t z h o w2 ha
noncomputable def f_M_nextOf_28 (K : px_K) (N : Nat) (a0 : Int32) (a1 : Int32) (s : px_S) (t : px_W) : Option px_Res :=
  (px_lp (l_M_nextOf_28_4 K N N a0 a1 (-1 : Int32) (0 : Int32) s t) (fun i1 vs2 s3 t4 => (if i1 = 38 then (px_v1 vs2 (fun y7 => (some (.inl (some (.int y7)), s3, t4)))) else none)) (fun z6 => some z6))
set_option maxRecDepth 100000 in
theorem e_M_nextOf_28 (K : px_K) (N : Nat) (a0 : Int32) (a1 : Int32) (s : px_S) (t : px_W) (r : px_Res) (h : f_M_nextOf_28 K N a0 a1 s t = some r) : px_E px_ET px_P 1 47 0 (px_ent 5 [.ref 28, .int a0, .int a1]) [] (px_w K s t) r.1 (px_w K r.2.1 r.2.2) := by
  have hM : px_P[47]? = some pm_M_nextOf := rfl
  unfold f_M_nextOf_28 at h
  refine px_blk (i' := 4) (L' := [some (.ref 28), some (.int a0), some (.int a1), some (.int (-1 : Int32)), some (.int (0 : Int32))]) (S' := []) (w' := px_w K s t) (q := []) 4 hM rfl trivial ?_
  rcases px_lp_some h with ⟨i1, vs2, s3, t4, hl5, h⟩ | ⟨z6, hl5, h⟩
  · by_cases hi8 : i1 = 38
    · subst hi8
      rw [if_pos rfl] at h
      have h9 := px_v1_some h
      clear h
      obtain ⟨y7, rfl, h⟩ := h9
      refine e_l_M_nextOf_28_4 K N a0 a1 N (-1 : Int32) (0 : Int32) s t _ hl5 _ _ ?_
      show px_E px_ET px_P 1 47 38 [none, none, none, some (.int y7), none] [] (px_w K s3 t4) _ _
      refine px_blk (i' := 39) (L' := [none, none, none, some (.int y7), none]) (S' := [.int y7]) (w' := px_w K s3 t4) (q := []) 1 hM rfl trivial ?_
      cases h
      exact px_E_ret hM rfl rfl rfl trivial
    · rw [if_neg hi8] at h
      cases h
  · cases h
    exact e_l_M_nextOf_28_4 K N a0 a1 N (-1 : Int32) (0 : Int32) s t _ hl5 _ _ ⟨rfl, rfl⟩
noncomputable def l_M_copy_28_43_2 (K : px_K) (N : Nat) (n : Nat) (u1 : Int32) (u2 : Int32) (u4 : Int32) (m5 : Int32) (s : px_S) (t : px_W) : Option px_LO := match n with
  | 0 => none
  | n + 1 => (if (16 : Int32) ≤ m5 then (some (.inl (17, [], s, t))) else (px_bi (f_M_read_28 K N u1 u2 m5 s t) (fun v5 s2 t3 => (px_gd (vp_in (u4 + m5) (K.2.2 43)) (px_let (sA s2 43 (u4 + m5).toNatClampNeg v5) (fun s8 => (l_M_copy_28_43_2 K N n u1 u2 u4 (m5 + (1 : Int32)) s8 t3))))) (fun x6 s2 t3 => none)))
def a_l_M_copy_28_43_2 (K : px_K) (u1 : Int32) (u2 : Int32) (u4 : Int32) (z : px_LO) (o : Option Value ⊕ Nat) (w2 : px_W) : Prop := match z with
  | .inr (o', s', t') => o = o' ∧ w2 = px_w K s' t'
  | .inl (17, [], s', t') => px_E px_ET px_P 3 32 17 [none, none, none, none, none, none] [] (px_w K s' t') o w2
  | _ => False
set_option maxRecDepth 100000 in
theorem e_l_M_copy_28_43_2 (K : px_K) (N : Nat) (u1 : Int32) (u2 : Int32) (u4 : Int32) : ∀ (n : Nat) (m5 : Int32) (s : px_S) (t : px_W) (z : px_LO), l_M_copy_28_43_2 K N n u1 u2 u4 m5 s t = some z → ∀ (o : Option Value ⊕ Nat) (w2 : px_W), a_l_M_copy_28_43_2 K u1 u2 u4 z o w2 → px_E px_ET px_P 3 32 2 [some (.ref 28), some (.int u1), some (.int u2), some (.ref 43), some (.int u4), some (.int m5)] [] (px_w K s t) o w2 := by
  have hM : px_P[32]? = some pm_M_copy := rfl
  intro n
  induction n with
  | zero => intro m5 s t z h; cases h
  | succ n ih =>
    intro m5 s t z h o w2 ha
    unfold l_M_copy_28_43_2 at h
    refine px_blkif (c := (16 : Int32) ≤ m5) (t := 17) (e := 5) (L' := [some (.ref 28), some (.int u1), some (.int u2), some (.ref 43), some (.int u4), some (.int m5)]) (S' := []) (w' := px_w K s t) (q := []) 3 hM rfl trivial (fun hc1 => ?_) (fun hc1 => ?_)
    · rw [if_pos hc1] at h
      cases h
      exact px_E_le (px_leC_L _ _ (by simp [px_leC, px_le1, Value.category])) ha
    · rw [if_neg hc1] at h
      refine px_blk (i' := 13) (L' := [some (.ref 28), some (.int u1), some (.int u2), some (.ref 43), some (.int u4), some (.int m5)]) (S' := [.int m5, .int u2, .int u1, .ref 28, .int (u4 + m5), .ref 43]) (w' := px_w K s t) (q := []) 8 hM rfl trivial ?_
      rcases px_bi_some h with ⟨v5, s2, t3, hk4, h⟩ | ⟨x6, s2, t3, hk4, h⟩
      · refine px_E_call hM rfl rfl rfl rfl (px_E_mono (by decide) (e_M_read_28 K N u1 u2 m5 s t _ hk4)) ?_
        obtain ⟨hq7, h⟩ := px_gd_some h
        refine px_blk (i' := 15) (L' := [some (.ref 28), some (.int u1), some (.int u2), some (.ref 43), some (.int u4), some (.int m5)]) (S' := []) (w' := px_w K (sA s2 43 (u4 + m5).toNatClampNeg v5) t3) (q := [vp_in (u4 + m5) (K.2.2 43)]) 1 hM rfl (show vp_in (u4 + m5) (K.2.2 43) from hq7) ?_
        obtain ⟨s8, hs9, h⟩ := px_let_some h
        rw [← hs9]
        refine px_blk (i' := 2) (L' := [some (.ref 28), some (.int u1), some (.int u2), some (.ref 43), some (.int u4), some (.int (m5 + (1 : Int32)))]) (S' := []) (w' := px_w K s8 t3) (q := []) 2 hM rfl trivial ?_
        exact ih (m5 + (1 : Int32)) s8 t3 z h o w2 ha
      · cases h
noncomputable def f_M_copy_28_43 (K : px_K) (N : Nat) (a0 : Int32) (a1 : Int32) (a2 : Int32) (s : px_S) (t : px_W) : Option px_Res :=
  (px_lp (l_M_copy_28_43_2 K N N a0 a1 a2 (0 : Int32) s t) (fun i1 vs2 s3 t4 => (if i1 = 17 then (px_v0 vs2 (some (.inl none, s3, t4))) else none)) (fun z6 => some z6))
set_option maxRecDepth 100000 in
theorem e_M_copy_28_43 (K : px_K) (N : Nat) (a0 : Int32) (a1 : Int32) (a2 : Int32) (s : px_S) (t : px_W) (r : px_Res) (h : f_M_copy_28_43 K N a0 a1 a2 s t = some r) : px_E px_ET px_P 3 32 0 (px_ent 6 [.ref 28, .int a0, .int a1, .ref 43, .int a2]) [] (px_w K s t) r.1 (px_w K r.2.1 r.2.2) := by
  have hM : px_P[32]? = some pm_M_copy := rfl
  unfold f_M_copy_28_43 at h
  refine px_blk (i' := 2) (L' := [some (.ref 28), some (.int a0), some (.int a1), some (.ref 43), some (.int a2), some (.int (0 : Int32))]) (S' := []) (w' := px_w K s t) (q := []) 2 hM rfl trivial ?_
  rcases px_lp_some h with ⟨i1, vs2, s3, t4, hl5, h⟩ | ⟨z6, hl5, h⟩
  · by_cases hi7 : i1 = 17
    · subst hi7
      rw [if_pos rfl] at h
      have h9 := px_v0_some h
      clear h
      obtain ⟨rfl, h⟩ := h9
      refine e_l_M_copy_28_43_2 K N a0 a1 a2 N (0 : Int32) s t _ hl5 _ _ ?_
      show px_E px_ET px_P 3 32 17 [none, none, none, none, none, none] [] (px_w K s3 t4) _ _
      cases h
      exact px_E_ret hM rfl rfl rfl trivial
    · rw [if_neg hi7] at h
      cases h
  · cases h
    exact e_l_M_copy_28_43_2 K N a0 a1 a2 N (0 : Int32) s t _ hl5 _ _ ⟨rfl, rfl⟩
noncomputable def l_M_write_28_43_94 (K : px_K) (N : Nat) (n : Nat) (u1 : Int32) (u4 : Int32) (u5 : Int32) (m6 : Int32) (s : px_S) (t : px_W) : Option px_LO := match n with
  | 0 => none
  | n + 1 => (if (16 : Int32) ≤ m6 then (some (.inl (112, [], s, t))) else (px_gd (vp_in (u4 + m6) (K.2.2 43)) (px_gd (vp_in (((16 : Int32) * u5) + m6) (K.2.2 32)) (px_let (sA s 32 (((16 : Int32) * u5) + m6).toNatClampNeg ((s.2.2.1 43) (u4 + m6).toNatClampNeg)) (fun s4 => (l_M_write_28_43_94 K N n u1 u4 u5 (m6 + (1 : Int32)) s4 t))))))
def a_l_M_write_28_43_94 (K : px_K) (u1 : Int32) (u4 : Int32) (u5 : Int32) (z : px_LO) (o : Option Value ⊕ Nat) (w2 : px_W) : Prop := match z with
  | .inr (o', s', t') => o = o' ∧ w2 = px_w K s' t'
  | .inl (112, [], s', t') => px_E px_ET px_P 5 29 112 [some (.ref 28), some (.int u1), none, none, none, none, none] [] (px_w K s' t') o w2
  | _ => False
noncomputable def l_M_write_28_43_28 (K : px_K) (N : Nat) (n : Nat) (u1 : Int32) (u2 : Int32) (u4 : Int32) (u5 : Int32) (m6 : Int32) (s : px_S) (t : px_W) : Option px_LO := match n with
  | 0 => none
  | n + 1 => (if ((u5 + (64 : Int32)) - (1 : Int32)) ≤ m6 then (some (.inl (47, [], s, t))) else (px_gd ((vp_in (m6 + (1 : Int32)) (K.2.2 31)) ∧ (vp_in m6 (K.2.2 31))) (px_let (sA s 31 m6.toNatClampNeg ((s.2.2.1 31) (m6 + (1 : Int32)).toNatClampNeg)) (fun s4 => (l_M_write_28_43_28 K N n u1 u2 u4 u5 (m6 + (1 : Int32)) s4 t)))))
def a_l_M_write_28_43_28 (K : px_K) (u1 : Int32) (u2 : Int32) (u4 : Int32) (u5 : Int32) (z : px_LO) (o : Option Value ⊕ Nat) (w2 : px_W) : Prop := match z with
  | .inr (o', s', t') => o = o' ∧ w2 = px_w K s' t'
  | .inl (47, [], s', t') => px_E px_ET px_P 5 29 47 [some (.ref 28), some (.int u1), some (.int u2), some (.ref 43), some (.int u4), some (.int u5), none] [] (px_w K s' t') o w2
  | _ => False
noncomputable def l_M_write_28_43_51 (K : px_K) (N : Nat) (n : Nat) (u1 : Int32) (u2 : Int32) (u4 : Int32) (u5 : Int32) (m6 : Int32) (s : px_S) (t : px_W) : Option px_LO := match n with
  | 0 => none
  | n + 1 => (if ((16 : Int32) * ((u5 + (64 : Int32)) - (1 : Int32))) ≤ m6 then (some (.inl (72, [], s, t))) else (px_gd ((vp_in (m6 + (16 : Int32)) (K.2.2 32)) ∧ (vp_in m6 (K.2.2 32))) (px_let (sA s 32 m6.toNatClampNeg ((s.2.2.1 32) (m6 + (16 : Int32)).toNatClampNeg)) (fun s4 => (l_M_write_28_43_51 K N n u1 u2 u4 u5 (m6 + (1 : Int32)) s4 t)))))
def a_l_M_write_28_43_51 (K : px_K) (u1 : Int32) (u2 : Int32) (u4 : Int32) (u5 : Int32) (z : px_LO) (o : Option Value ⊕ Nat) (w2 : px_W) : Prop := match z with
  | .inr (o', s', t') => o = o' ∧ w2 = px_w K s' t'
  | .inl (72, [], s', t') => px_E px_ET px_P 5 29 72 [some (.ref 28), some (.int u1), some (.int u2), some (.ref 43), some (.int u4), some (.int u5), none] [] (px_w K s' t') o w2
  | _ => False
set_option maxRecDepth 100000 in
theorem e_l_M_write_28_43_94 (K : px_K) (N : Nat) (u1 : Int32) (u4 : Int32) (u5 : Int32) : ∀ (n : Nat) (m6 : Int32) (s : px_S) (t : px_W) (z : px_LO), l_M_write_28_43_94 K N n u1 u4 u5 m6 s t = some z → ∀ (o : Option Value ⊕ Nat) (w2 : px_W), a_l_M_write_28_43_94 K u1 u4 u5 z o w2 → px_E px_ET px_P 5 29 94 [some (.ref 28), some (.int u1), none, some (.ref 43), some (.int u4), some (.int u5), some (.int m6)] [] (px_w K s t) o w2 := by
  have hM : px_P[29]? = some pm_M_write := rfl
  intro n
  induction n with
  | zero => intro m6 s t z h; cases h
  | succ n ih =>
    intro m6 s t z h o w2 ha
    unfold l_M_write_28_43_94 at h
    refine px_blkif (c := (16 : Int32) ≤ m6) (t := 112) (e := 97) (L' := [some (.ref 28), some (.int u1), none, some (.ref 43), some (.int u4), some (.int u5), some (.int m6)]) (S' := []) (w' := px_w K s t) (q := []) 3 hM rfl trivial (fun hc1 => ?_) (fun hc1 => ?_)
    · rw [if_pos hc1] at h
      cases h
      exact px_E_le (px_leC_L _ _ (by simp [px_leC, px_le1, Value.category])) ha
    · rw [if_neg hc1] at h
      obtain ⟨hq2, h⟩ := px_gd_some h
      refine px_blk (i' := 109) (L' := [some (.ref 28), some (.int u1), none, some (.ref 43), some (.int u4), some (.int u5), some (.int m6)]) (S' := [.int ((s.2.2.1 43) (u4 + m6).toNatClampNeg), .int (((16 : Int32) * u5) + m6), .ref 32]) (w' := px_w K s t) (q := [vp_in (u4 + m6) (K.2.2 43)]) 12 hM rfl (show vp_in (u4 + m6) (K.2.2 43) from hq2) ?_
      obtain ⟨hq3, h⟩ := px_gd_some h
      refine px_blk (i' := 110) (L' := [some (.ref 28), some (.int u1), none, some (.ref 43), some (.int u4), some (.int u5), some (.int m6)]) (S' := []) (w' := px_w K (sA s 32 (((16 : Int32) * u5) + m6).toNatClampNeg ((s.2.2.1 43) (u4 + m6).toNatClampNeg)) t) (q := [vp_in (((16 : Int32) * u5) + m6) (K.2.2 32)]) 1 hM rfl (show vp_in (((16 : Int32) * u5) + m6) (K.2.2 32) from hq3) ?_
      obtain ⟨s4, hs5, h⟩ := px_let_some h
      rw [← hs5]
      refine px_blk (i' := 94) (L' := [some (.ref 28), some (.int u1), none, some (.ref 43), some (.int u4), some (.int u5), some (.int (m6 + (1 : Int32)))]) (S' := []) (w' := px_w K s4 t) (q := []) 2 hM rfl trivial ?_
      exact ih (m6 + (1 : Int32)) s4 t z h o w2 ha
set_option maxRecDepth 100000 in
theorem e_l_M_write_28_43_28 (K : px_K) (N : Nat) (u1 : Int32) (u2 : Int32) (u4 : Int32) (u5 : Int32) : ∀ (n : Nat) (m6 : Int32) (s : px_S) (t : px_W) (z : px_LO), l_M_write_28_43_28 K N n u1 u2 u4 u5 m6 s t = some z → ∀ (o : Option Value ⊕ Nat) (w2 : px_W), a_l_M_write_28_43_28 K u1 u2 u4 u5 z o w2 → px_E px_ET px_P 5 29 28 [some (.ref 28), some (.int u1), some (.int u2), some (.ref 43), some (.int u4), some (.int u5), some (.int m6)] [] (px_w K s t) o w2 := by
  have hM : px_P[29]? = some pm_M_write := rfl
  intro n
  induction n with
  | zero => intro m6 s t z h; cases h
  | succ n ih =>
    intro m6 s t z h o w2 ha
    unfold l_M_write_28_43_28 at h
    refine px_blkif (c := ((u5 + (64 : Int32)) - (1 : Int32)) ≤ m6) (t := 47) (e := 35) (L' := [some (.ref 28), some (.int u1), some (.int u2), some (.ref 43), some (.int u4), some (.int u5), some (.int m6)]) (S' := []) (w' := px_w K s t) (q := []) 7 hM rfl trivial (fun hc1 => ?_) (fun hc1 => ?_)
    · rw [if_pos hc1] at h
      cases h
      exact px_E_le (px_leC_L _ _ (by simp [px_leC, px_le1, Value.category])) ha
    · rw [if_neg hc1] at h
      obtain ⟨⟨hq2, hq3⟩, h⟩ := px_gd_some h
      refine px_blk (i' := 45) (L' := [some (.ref 28), some (.int u1), some (.int u2), some (.ref 43), some (.int u4), some (.int u5), some (.int m6)]) (S' := []) (w' := px_w K (sA s 31 m6.toNatClampNeg ((s.2.2.1 31) (m6 + (1 : Int32)).toNatClampNeg)) t) (q := [vp_in (m6 + (1 : Int32)) (K.2.2 31), vp_in m6 (K.2.2 31)]) 10 hM rfl (show (vp_in (m6 + (1 : Int32)) (K.2.2 31)) ∧ (vp_in m6 (K.2.2 31)) from ⟨hq2, hq3⟩) ?_
      obtain ⟨s4, hs5, h⟩ := px_let_some h
      rw [← hs5]
      refine px_blk (i' := 28) (L' := [some (.ref 28), some (.int u1), some (.int u2), some (.ref 43), some (.int u4), some (.int u5), some (.int (m6 + (1 : Int32)))]) (S' := []) (w' := px_w K s4 t) (q := []) 2 hM rfl trivial ?_
      exact ih (m6 + (1 : Int32)) s4 t z h o w2 ha
set_option maxRecDepth 100000 in
theorem e_l_M_write_28_43_51 (K : px_K) (N : Nat) (u1 : Int32) (u2 : Int32) (u4 : Int32) (u5 : Int32) : ∀ (n : Nat) (m6 : Int32) (s : px_S) (t : px_W) (z : px_LO), l_M_write_28_43_51 K N n u1 u2 u4 u5 m6 s t = some z → ∀ (o : Option Value ⊕ Nat) (w2 : px_W), a_l_M_write_28_43_51 K u1 u2 u4 u5 z o w2 → px_E px_ET px_P 5 29 51 [some (.ref 28), some (.int u1), some (.int u2), some (.ref 43), some (.int u4), some (.int u5), some (.int m6)] [] (px_w K s t) o w2 := by
  have hM : px_P[29]? = some pm_M_write := rfl
  intro n
  induction n with
  | zero => intro m6 s t z h; cases h
  | succ n ih =>
    intro m6 s t z h o w2 ha
    unfold l_M_write_28_43_51 at h
    refine px_blkif (c := ((16 : Int32) * ((u5 + (64 : Int32)) - (1 : Int32))) ≤ m6) (t := 72) (e := 60) (L' := [some (.ref 28), some (.int u1), some (.int u2), some (.ref 43), some (.int u4), some (.int u5), some (.int m6)]) (S' := []) (w' := px_w K s t) (q := []) 9 hM rfl trivial (fun hc1 => ?_) (fun hc1 => ?_)
    · rw [if_pos hc1] at h
      cases h
      exact px_E_le (px_leC_L _ _ (by simp [px_leC, px_le1, Value.category])) ha
    · rw [if_neg hc1] at h
      obtain ⟨⟨hq2, hq3⟩, h⟩ := px_gd_some h
      refine px_blk (i' := 70) (L' := [some (.ref 28), some (.int u1), some (.int u2), some (.ref 43), some (.int u4), some (.int u5), some (.int m6)]) (S' := []) (w' := px_w K (sA s 32 m6.toNatClampNeg ((s.2.2.1 32) (m6 + (16 : Int32)).toNatClampNeg)) t) (q := [vp_in (m6 + (16 : Int32)) (K.2.2 32), vp_in m6 (K.2.2 32)]) 10 hM rfl (show (vp_in (m6 + (16 : Int32)) (K.2.2 32)) ∧ (vp_in m6 (K.2.2 32)) from ⟨hq2, hq3⟩) ?_
      obtain ⟨s4, hs5, h⟩ := px_let_some h
      rw [← hs5]
      refine px_blk (i' := 51) (L' := [some (.ref 28), some (.int u1), some (.int u2), some (.ref 43), some (.int u4), some (.int u5), some (.int (m6 + (1 : Int32)))]) (S' := []) (w' := px_w K s4 t) (q := []) 2 hM rfl trivial ?_
      exact ih (m6 + (1 : Int32)) s4 t z h o w2 ha
noncomputable def f_M_write_28_43 (K : px_K) (N : Nat) (a0 : Int32) (a1 : Int32) (a2 : Int32) (s : px_S) (t : px_W) : Option px_Res :=
  (px_bi (f_M_acts_28 K N s t) (fun v4 s1 t2 => (if ¬ v4 = 0 then (px_gd ((vp_in a0 (K.2.2 33)) ∧ (vp_in a0 (K.2.2 33))) (px_let (sA s1 33 a0.toNatClampNeg (((s1.2.2.1 33) a0.toNatClampNeg) + (1 : Int32))) (fun s9 => (px_let ((64 : Int32) * a0) (fun v11 => (px_gd (vp_in a0 (K.2.2 30)) (if ¬ ((s9.2.2.1 30) a0.toNatClampNeg) = (64 : Int32) then (px_gd (vp_in a0 (K.2.2 30)) (px_let (v11 + ((s9.2.2.1 30) a0.toNatClampNeg)) (fun v16 => (px_gd (vp_in v16 (K.2.2 31)) (px_let (sA s9 31 v16.toNatClampNeg a1) (fun s19 => (px_lp (l_M_write_28_43_94 K N N a0 a2 v16 (0 : Int32) s19 t2) (fun i21 vs22 s23 t24 => (if i21 = 112 then (px_v0 vs22 (px_gd ((vp_in a0 (K.2.2 30)) ∧ (vp_in a0 (K.2.2 30))) (px_let (sA s23 30 a0.toNatClampNeg (((s23.2.2.1 30) a0.toNatClampNeg) + (1 : Int32))) (fun s30 => (some (.inl none, s30, t24)))))) else none)) (fun z26 => some z26)))))))) else (px_bv (f_M_becomesStable_28 K N a0 (0 : Int32) s9 t2) (fun s32 t33 => (px_lp (l_M_write_28_43_28 K N N a0 a1 a2 v11 v11 s32 t33) (fun i37 vs38 s39 t40 => (if i37 = 47 then (px_v0 vs38 (px_let ((16 : Int32) * v11) (fun v44 => (px_lp (l_M_write_28_43_51 K N N a0 a1 a2 v11 v44 s39 t40) (fun i46 vs47 s48 t49 => (if i46 = 72 then (px_v0 vs47 (px_gd ((vp_in a0 (K.2.2 30)) ∧ (vp_in a0 (K.2.2 30))) (px_let (sA s48 30 a0.toNatClampNeg (((s48.2.2.1 30) a0.toNatClampNeg) - (1 : Int32))) (fun s55 => (px_gd (vp_in a0 (K.2.2 30)) (px_let (v11 + ((s55.2.2.1 30) a0.toNatClampNeg)) (fun v58 => (px_gd (vp_in v58 (K.2.2 31)) (px_let (sA s55 31 v58.toNatClampNeg a1) (fun s61 => (px_lp (l_M_write_28_43_94 K N N a0 a2 v58 (0 : Int32) s61 t49) (fun i63 vs64 s65 t66 => (if i63 = 112 then (px_v0 vs64 (px_gd ((vp_in a0 (K.2.2 30)) ∧ (vp_in a0 (K.2.2 30))) (px_let (sA s65 30 a0.toNatClampNeg (((s65.2.2.1 30) a0.toNatClampNeg) + (1 : Int32))) (fun s72 => (some (.inl none, s72, t66)))))) else none)) (fun z68 => some z68)))))))))))) else none)) (fun z51 => some z51))))) else none)) (fun z42 => some z42))) (fun x36 s32 t33 => none))))))))) else (some (.inl none, s1, t2)))) (fun x5 s1 t2 => none))
set_option maxRecDepth 100000 in
theorem e_M_write_28_43 (K : px_K) (N : Nat) (a0 : Int32) (a1 : Int32) (a2 : Int32) (s : px_S) (t : px_W) (r : px_Res) (h : f_M_write_28_43 K N a0 a1 a2 s t = some r) : px_E px_ET px_P 5 29 0 (px_ent 7 [.ref 28, .int a0, .int a1, .ref 43, .int a2]) [] (px_w K s t) r.1 (px_w K r.2.1 r.2.2) := by
  have hM : px_P[29]? = some pm_M_write := rfl
  unfold f_M_write_28_43 at h
  refine px_blk (i' := 1) (L' := [some (.ref 28), some (.int a0), some (.int a1), some (.ref 43), some (.int a2), none, none]) (S' := [.ref 28]) (w' := px_w K s t) (q := []) 1 hM rfl trivial ?_
  rcases px_bi_some h with ⟨v4, s1, t2, hk3, h⟩ | ⟨x5, s1, t2, hk3, h⟩
  · refine px_E_call hM rfl rfl rfl rfl (px_E_mono (by decide) (e_M_acts_28 K N s t _ hk3)) ?_
    refine px_blkif (c := ¬ v4 = 0) (t := 4) (e := 3) (L' := [some (.ref 28), some (.int a0), some (.int a1), some (.ref 43), some (.int a2), none, none]) (S' := []) (w' := px_w K s1 t2) (q := []) 1 hM rfl trivial (fun hc6 => ?_) (fun hc6 => ?_)
    · rw [if_pos hc6] at h
      obtain ⟨⟨hq7, hq8⟩, h⟩ := px_gd_some h
      refine px_blk (i' := 12) (L' := [some (.ref 28), some (.int a0), some (.int a1), some (.ref 43), some (.int a2), none, none]) (S' := []) (w' := px_w K (sA s1 33 a0.toNatClampNeg (((s1.2.2.1 33) a0.toNatClampNeg) + (1 : Int32))) t2) (q := [vp_in a0 (K.2.2 33), vp_in a0 (K.2.2 33)]) 8 hM rfl (show (vp_in a0 (K.2.2 33)) ∧ (vp_in a0 (K.2.2 33)) from ⟨hq7, hq8⟩) ?_
      obtain ⟨s9, hs10, h⟩ := px_let_some h
      rw [← hs10]
      refine px_blk (i' := 16) (L' := [some (.ref 28), some (.int a0), some (.int a1), some (.ref 43), some (.int a2), some (.int ((64 : Int32) * a0)), none]) (S' := []) (w' := px_w K s9 t2) (q := []) 4 hM rfl trivial ?_
      obtain ⟨v11, hv12, h⟩ := px_let_some h
      rw [← hv12]
      obtain ⟨hq13, h⟩ := px_gd_some h
      refine px_blkif (c := ¬ ((s9.2.2.1 30) a0.toNatClampNeg) = (64 : Int32)) (t := 80) (e := 22) (L' := [some (.ref 28), some (.int a0), some (.int a1), some (.ref 43), some (.int a2), some (.int v11), none]) (S' := []) (w' := px_w K s9 t2) (q := [vp_in a0 (K.2.2 30)]) 6 hM rfl (show vp_in a0 (K.2.2 30) from hq13) (fun hc14 => ?_) (fun hc14 => ?_)
      · rw [if_pos hc14] at h
        obtain ⟨hq15, h⟩ := px_gd_some h
        refine px_blk (i' := 87) (L' := [some (.ref 28), some (.int a0), some (.int a1), some (.ref 43), some (.int a2), some (.int (v11 + ((s9.2.2.1 30) a0.toNatClampNeg))), none]) (S' := []) (w' := px_w K s9 t2) (q := [vp_in a0 (K.2.2 30)]) 7 hM rfl (show vp_in a0 (K.2.2 30) from hq15) ?_
        obtain ⟨v16, hv17, h⟩ := px_let_some h
        rw [← hv17]
        obtain ⟨hq18, h⟩ := px_gd_some h
        refine px_blk (i' := 92) (L' := [some (.ref 28), some (.int a0), some (.int a1), some (.ref 43), some (.int a2), some (.int v16), none]) (S' := []) (w' := px_w K (sA s9 31 v16.toNatClampNeg a1) t2) (q := [vp_in v16 (K.2.2 31)]) 5 hM rfl (show vp_in v16 (K.2.2 31) from hq18) ?_
        obtain ⟨s19, hs20, h⟩ := px_let_some h
        rw [← hs20]
        refine px_blk (i' := 94) (L' := [some (.ref 28), some (.int a0), some (.int a1), some (.ref 43), some (.int a2), some (.int v16), some (.int (0 : Int32))]) (S' := []) (w' := px_w K s19 t2) (q := []) 2 hM rfl trivial ?_
        rcases px_lp_some h with ⟨i21, vs22, s23, t24, hl25, h⟩ | ⟨z26, hl25, h⟩
        · by_cases hi27 : i21 = 112
          · subst hi27
            rw [if_pos rfl] at h
            have h9 := px_v0_some h
            clear h
            obtain ⟨rfl, h⟩ := h9
            refine px_E_le (px_leC_L _ _ (by simp [px_leC, px_le1, Value.category])) (e_l_M_write_28_43_94 K N a0 a2 v16 N (0 : Int32) s19 t2 _ hl25 _ _ ?_)
            show px_E px_ET px_P 5 29 112 [some (.ref 28), some (.int a0), none, none, none, none, none] [] (px_w K s23 t24) _ _
            obtain ⟨⟨hq28, hq29⟩, h⟩ := px_gd_some h
            refine px_blk (i' := 120) (L' := [some (.ref 28), some (.int a0), none, none, none, none, none]) (S' := []) (w' := px_w K (sA s23 30 a0.toNatClampNeg (((s23.2.2.1 30) a0.toNatClampNeg) + (1 : Int32))) t24) (q := [vp_in a0 (K.2.2 30), vp_in a0 (K.2.2 30)]) 8 hM rfl (show (vp_in a0 (K.2.2 30)) ∧ (vp_in a0 (K.2.2 30)) from ⟨hq28, hq29⟩) ?_
            obtain ⟨s30, hs31, h⟩ := px_let_some h
            rw [← hs31]
            cases h
            exact px_E_ret hM rfl rfl rfl trivial
          · rw [if_neg hi27] at h
            cases h
        · cases h
          exact px_E_le (px_leC_L _ _ (by simp [px_leC, px_le1, Value.category])) (e_l_M_write_28_43_94 K N a0 a2 v16 N (0 : Int32) s19 t2 _ hl25 _ _ ⟨rfl, rfl⟩)
      · rw [if_neg hc14] at h
        refine px_blk (i' := 25) (L' := [some (.ref 28), some (.int a0), some (.int a1), some (.ref 43), some (.int a2), some (.int v11), none]) (S' := [.int (0 : Int32), .int a0, .ref 28]) (w' := px_w K s9 t2) (q := []) 3 hM rfl trivial ?_
        rcases px_bv_some h with ⟨s32, t33, hk34, h⟩ | ⟨x36, s32, t33, hk34, h⟩
        · refine px_E_call hM rfl rfl rfl rfl (px_E_mono (by decide) (e_M_becomesStable_28 K N a0 (0 : Int32) s9 t2 _ hk34)) ?_
          refine px_blk (i' := 28) (L' := [some (.ref 28), some (.int a0), some (.int a1), some (.ref 43), some (.int a2), some (.int v11), some (.int v11)]) (S' := []) (w' := px_w K s32 t33) (q := []) 2 hM rfl trivial ?_
          rcases px_lp_some h with ⟨i37, vs38, s39, t40, hl41, h⟩ | ⟨z42, hl41, h⟩
          · by_cases hi43 : i37 = 47
            · subst hi43
              rw [if_pos rfl] at h
              have h9 := px_v0_some h
              clear h
              obtain ⟨rfl, h⟩ := h9
              refine e_l_M_write_28_43_28 K N a0 a1 a2 v11 N v11 s32 t33 _ hl41 _ _ ?_
              show px_E px_ET px_P 5 29 47 [some (.ref 28), some (.int a0), some (.int a1), some (.ref 43), some (.int a2), some (.int v11), none] [] (px_w K s39 t40) _ _
              refine px_blk (i' := 51) (L' := [some (.ref 28), some (.int a0), some (.int a1), some (.ref 43), some (.int a2), some (.int v11), some (.int ((16 : Int32) * v11))]) (S' := []) (w' := px_w K s39 t40) (q := []) 4 hM rfl trivial ?_
              obtain ⟨v44, hv45, h⟩ := px_let_some h
              rw [← hv45]
              rcases px_lp_some h with ⟨i46, vs47, s48, t49, hl50, h⟩ | ⟨z51, hl50, h⟩
              · by_cases hi52 : i46 = 72
                · subst hi52
                  rw [if_pos rfl] at h
                  have h9 := px_v0_some h
                  clear h
                  obtain ⟨rfl, h⟩ := h9
                  refine e_l_M_write_28_43_51 K N a0 a1 a2 v11 N v44 s39 t40 _ hl50 _ _ ?_
                  show px_E px_ET px_P 5 29 72 [some (.ref 28), some (.int a0), some (.int a1), some (.ref 43), some (.int a2), some (.int v11), none] [] (px_w K s48 t49) _ _
                  obtain ⟨⟨hq53, hq54⟩, h⟩ := px_gd_some h
                  refine px_blk (i' := 80) (L' := [some (.ref 28), some (.int a0), some (.int a1), some (.ref 43), some (.int a2), some (.int v11), none]) (S' := []) (w' := px_w K (sA s48 30 a0.toNatClampNeg (((s48.2.2.1 30) a0.toNatClampNeg) - (1 : Int32))) t49) (q := [vp_in a0 (K.2.2 30), vp_in a0 (K.2.2 30)]) 8 hM rfl (show (vp_in a0 (K.2.2 30)) ∧ (vp_in a0 (K.2.2 30)) from ⟨hq53, hq54⟩) ?_
                  obtain ⟨s55, hs56, h⟩ := px_let_some h
                  rw [← hs56]
                  obtain ⟨hq57, h⟩ := px_gd_some h
                  refine px_blk (i' := 87) (L' := [some (.ref 28), some (.int a0), some (.int a1), some (.ref 43), some (.int a2), some (.int (v11 + ((s55.2.2.1 30) a0.toNatClampNeg))), none]) (S' := []) (w' := px_w K s55 t49) (q := [vp_in a0 (K.2.2 30)]) 7 hM rfl (show vp_in a0 (K.2.2 30) from hq57) ?_
                  obtain ⟨v58, hv59, h⟩ := px_let_some h
                  rw [← hv59]
                  obtain ⟨hq60, h⟩ := px_gd_some h
                  refine px_blk (i' := 92) (L' := [some (.ref 28), some (.int a0), some (.int a1), some (.ref 43), some (.int a2), some (.int v58), none]) (S' := []) (w' := px_w K (sA s55 31 v58.toNatClampNeg a1) t49) (q := [vp_in v58 (K.2.2 31)]) 5 hM rfl (show vp_in v58 (K.2.2 31) from hq60) ?_
                  obtain ⟨s61, hs62, h⟩ := px_let_some h
                  rw [← hs62]
                  refine px_blk (i' := 94) (L' := [some (.ref 28), some (.int a0), some (.int a1), some (.ref 43), some (.int a2), some (.int v58), some (.int (0 : Int32))]) (S' := []) (w' := px_w K s61 t49) (q := []) 2 hM rfl trivial ?_
                  rcases px_lp_some h with ⟨i63, vs64, s65, t66, hl67, h⟩ | ⟨z68, hl67, h⟩
                  · by_cases hi69 : i63 = 112
                    · subst hi69
                      rw [if_pos rfl] at h
                      have h9 := px_v0_some h
                      clear h
                      obtain ⟨rfl, h⟩ := h9
                      refine px_E_le (px_leC_L _ _ (by simp [px_leC, px_le1, Value.category])) (e_l_M_write_28_43_94 K N a0 a2 v58 N (0 : Int32) s61 t49 _ hl67 _ _ ?_)
                      show px_E px_ET px_P 5 29 112 [some (.ref 28), some (.int a0), none, none, none, none, none] [] (px_w K s65 t66) _ _
                      obtain ⟨⟨hq70, hq71⟩, h⟩ := px_gd_some h
                      refine px_blk (i' := 120) (L' := [some (.ref 28), some (.int a0), none, none, none, none, none]) (S' := []) (w' := px_w K (sA s65 30 a0.toNatClampNeg (((s65.2.2.1 30) a0.toNatClampNeg) + (1 : Int32))) t66) (q := [vp_in a0 (K.2.2 30), vp_in a0 (K.2.2 30)]) 8 hM rfl (show (vp_in a0 (K.2.2 30)) ∧ (vp_in a0 (K.2.2 30)) from ⟨hq70, hq71⟩) ?_
                      obtain ⟨s72, hs73, h⟩ := px_let_some h
                      rw [← hs73]
                      cases h
                      exact px_E_ret hM rfl rfl rfl trivial
                    · rw [if_neg hi69] at h
                      cases h
                  · cases h
                    exact px_E_le (px_leC_L _ _ (by simp [px_leC, px_le1, Value.category])) (e_l_M_write_28_43_94 K N a0 a2 v58 N (0 : Int32) s61 t49 _ hl67 _ _ ⟨rfl, rfl⟩)
                · rw [if_neg hi52] at h
                  cases h
              · cases h
                exact e_l_M_write_28_43_51 K N a0 a1 a2 v11 N v44 s39 t40 _ hl50 _ _ ⟨rfl, rfl⟩
            · rw [if_neg hi43] at h
              cases h
          · cases h
            exact e_l_M_write_28_43_28 K N a0 a1 a2 v11 N v11 s32 t33 _ hl41 _ _ ⟨rfl, rfl⟩
        · cases h
    · rw [if_neg hc6] at h
      cases h
      exact px_E_ret hM rfl rfl rfl trivial
  · cases h
