/-! REMOVE, FIND (the class) -/
theorem c_er38 (K : px_K) (N n sets : Nat) (hK : zKc K n sets) (t : px_W) (u1 u3 : Int32) (i : Nat) (hi : i < 24) (W : ZSt) (hv : zPv W) : ∀ (c k f : Nat) (s : px_S) (T : ZTs), k + c = 20 → c < f → zCt s T → (∀ b, b ≠ 29 → T.wd b = W b) → wp (l_T_erase_22_38 K N f u1 u3 (iN i) (iN k) s t) (zC 49 [] t (fun s' => zCt s' (xGiveL (zBl W i c k) T) ∧ zHt s s')) := by
  intro c
  induction c with
  | zero =>
    intro k f s T hk hf h hW
    obtain ⟨f, rfl⟩ : ∃ f', f = f' + 1 := ⟨f - 1, by omega⟩
    have hk : k = 20 := by omega
    subst hk
    unfold l_T_erase_22_38
    exact wp_if (by decide) (wp_rC ⟨h, zHt_refl s⟩)
  | succ c ih =>
    intro k f s T hk hf h hW
    obtain ⟨f, rfl⟩ : ∃ f', f = f' + 1 := ⟨f - 1, by omega⟩
    have e3 : iN k + (1 : Int32) = iN (k + 1) := by rw [iL1, iN_add]
    have h20 : ¬ (20 : Int32) ≤ iN k := by show ¬ iN 20 ≤ iN k; rw [iN_le (by omega) (by omega)]; omega
    obtain ⟨p1, p2⟩ := zPv_29 hW hv
    have hb := c_blockOf K N n sets hK t (zCt_x h) p1 i k hi (by omega)
    rw [p2 i k hi (by omega)] at hb
    have hr := (hv i k hi (by omega)).2
    unfold l_T_erase_22_38
    rw [e3]
    refine wp_ifn h20 (wp_bi hb ?_)
    unfold zBl
    by_cases h0 : tB W i k = 0
    · rw [if_pos h0, h0]
      exact wp_bv (c_giveBack0 K N t s) (ih (k + 1) f s T (by omega) (by omega) h hW)
    · rw [if_neg h0]
      obtain ⟨s1, a1, a2, a3⟩ := c_giveBack K N n sets hK t s T h (tB W i k) (by omega) (by omega)
      refine wp_bv a1 (wp_imp (ih (k + 1) f s1 (xGive T (tB W i k)) (by omega) (by omega) a2 (fun b hb' => (zt_blk hb').trans (hW b hb'))) ?_)
      rintro r ⟨s', r1, r2, r3⟩
      exact ⟨s', r1, r2, zHt_trans a3 r3⟩
theorem c_er56 (K : px_K) (N n0 sets : Nat) (hK : zKc K n0 sets) (t : px_W) (u1 u3 : Int32) (i : Nat) (hi : i < 24) : ∀ (d m n : Nat) (s : px_S) (T : ZTs), m + d = 8 → d < n → zCt s T → wp (l_T_erase_22_56 K N n u1 u3 (iN i) (iN m) s t) (zC 66 [] t (fun s' => (∃ T' : ZTs, zCt s' T' ∧ T'.tv = T.tv ∧ T'.kp = T.kp ∧ T'.kt = T.kt ∧ T'.sq = T.sq ∧ T'.jr = T.jr ∧ T'.wd = (fun c v => if c = 30 + i / 2 ∧ 8 * (i % 2) + m ≤ v ∧ v < 8 * (i % 2) + 8 then 0 else T.wd c v) ∧ (T'.ch = if m < 8 then zu T.ch (30 + i / 2) true else T.ch)) ∧ zHt s s')) := by
  intro d
  induction d with
  | zero =>
    intro m n s T hm hn h
    obtain ⟨n, rfl⟩ : ∃ n', n = n' + 1 := ⟨n - 1, by omega⟩
    have hm : m = 8 := by omega
    subst hm
    unfold l_T_erase_22_56
    refine wp_if (by decide) (wp_rC ⟨⟨T, h, rfl, rfl, rfl, rfl, rfl, ?_, by rw [if_neg (by omega)]⟩, zHt_refl s⟩)
    funext c v; rw [if_neg (by omega)]
  | succ d ih =>
    intro m n s T hm hn h
    obtain ⟨n, rfl⟩ : ∃ n', n = n' + 1 := ⟨n - 1, by omega⟩
    have e3 : iN m + (1 : Int32) = iN (m + 1) := by rw [iL1, iN_add]
    have h8 : ¬ (8 : Int32) ≤ iN m := by show ¬ iN 8 ≤ iN m; rw [iN_le (by omega) (by omega)]; omega
    unfold l_T_erase_22_56
    rw [e3]
    refine wp_ifn h8 ?_
    obtain ⟨s1, a1, a2, a3⟩ := c_tellInode K N n0 sets hK t s T h i m 0 hi (by omega)
    refine wp_bv a1 (wp_imp (ih (m + 1) n s1 _ (by omega) (by omega) a2) ?_)
    rintro r ⟨s', r1, ⟨T', q1, q2, q3, q4, q5, q6, q7, q8⟩, r3⟩
    refine ⟨s', r1, ⟨T', q1, q2, q3, q4, q5, q6, ?_, ?_⟩, zHt_trans a3 r3⟩
    · rw [q7]
      funext c v
      show (if c = 30 + i / 2 ∧ 8 * (i % 2) + (m + 1) ≤ v ∧ v < 8 * (i % 2) + 8 then 0 else zt T.wd (30 + i / 2) (8 * (i % 2) + m) 0 c v) = _
      by_cases hcv : c = 30 + i / 2 ∧ v = 8 * (i % 2) + m
      · rw [hcv.1, hcv.2, if_neg (by omega), if_pos (by omega), zt_self]
      · rw [zt_ne (by omega)]
        by_cases hle : c = 30 + i / 2 ∧ 8 * (i % 2) + m ≤ v ∧ v < 8 * (i % 2) + 8
        · rw [if_pos (by omega), if_pos hle]
        · rw [if_neg (by omega), if_neg hle]
    · rw [q8, if_pos (c := m < 8) (by omega)]
      show (if m + 1 < 8 then zu (zu T.ch (30 + i / 2) true) (30 + i / 2) true else zu T.ch (30 + i / 2) true) = _
      rw [zu_zu]
      split <;> rfl
theorem c_clr (K : px_K) (N n sets : Nat) (hN : 2000 ≤ N) (hK : zKc K n sets) (t : px_W) (u1 u3 : Int32) (i : Nat) (hi : i < 24) (s : px_S) (T : ZTs) (h : zCt s T) : ∃ s', l_T_erase_22_56 K N N u1 u3 (iN i) (0 : Int32) s t = some (.inl (66, [], s', t)) ∧ zCt s' (xClr T i) ∧ zHt s s' := by
  obtain ⟨s', r1, ⟨T', q1, q2, q3, q4, q5, q6, q7, q8⟩, r3⟩ := wp_C (c_er56 K N n sets hK t u1 u3 i hi 8 0 N s T (by omega) (by omega) h)
  refine ⟨s', r1, ?_, r3⟩
  have eT : T' = xClr T i := by
    have e : T' = ZTs.mk T'.tv T'.wd T'.kp T'.ch T'.kt T'.sq T'.jr := rfl
    rw [e, q2, q3, q4, q5, q6, q7, q8, if_pos (by omega)]
    rfl
  rw [← eT]; exact q1
/-- the tail of a removal -/
theorem c_ertail (K : px_K) (N n sets : Nat) (hN : 2000 ≤ N) (hK : zKc K n sets) (t20 : px_W) (s19 : px_S) (T : ZTs) (h : zCt s19 T) (hw : ZW T.wd) (d p i : Nat) (hd : d < 24) (hkd : tI T.wd d 0 = 1) (hp : p < tS T.wd d) (hn0 : tN T.wd d p ≠ 0) (he : tE T.wd d p = iN i) (hi1 : 1 ≤ i) (hi : i < 24) (hki : tI T.wd i 0 ≠ 0) (hemp : tI T.wd i 0 = 1 → zNm T.wd i = 0) (a0 v11 v17 : Int32) (ha0 : a0 = iN d) (hv11 : v11 = iN p) (hv17 : v17 = iN i) : wp (α := px_Res) (px_lp (l_T_erase_22_38 K N N a0 v11 v17 (0 : Int32) s19 t20) (fun i25 vs26 s27 t28 => (if i25 = 49 then (px_v0 vs26 (px_bi (f_T_indirectOf_22 K N v17 s27 t28) (fun v35 s32 t33 => (px_bv (f_T_giveBack_22 K N v35 s32 t33) (fun s37 t38 => (px_lp (l_T_erase_22_56 K N N a0 v11 v17 (0 : Int32) s37 t38) (fun i42 vs43 s44 t45 => (if i42 = 66 then (px_v0 vs43 (px_bv (f_T_tellEntry_22 K N a0 v11 (0 : Int32) (0 : Int32) s44 t45) (fun s49 t50 => (some (.inl (some (.int (0 : Int32))), s49, t50))) (fun x53 s49 t50 => none))) else none)) (fun z47 => some z47))) (fun x41 s37 t38 => none))) (fun x36 s32 t33 => none))) else none)) (fun z30 => some z30)) (zA 0 t20 (fun s' => zCt s' (xDel T d p i) ∧ zHt s19 s')) := by
  subst ha0 hv11 hv17
  obtain ⟨d1, d2, d3, d4, d5⟩ := zdel_ok hw hd hkd hp hn0 he hi1 hi hki hemp
  obtain ⟨s1, a1, a2, a3⟩ := wp_C (c_er38 K N n sets hK t20 (iN d) (iN p) i hi T.wd hw.a.pv 20 0 N s19 T (by omega) (by omega) h (fun _ _ => rfl))
  refine wp_lp a1 (wp_if rfl (wp_v0 ?_))
  have hpv := (zPv_29 (W := T.wd) (U := (xGiveL (zBl T.wd i 20 0) T).wd) (fun c hc => xGiveL_out _ _ _ hc) hw.a.pv)
  have hF : tF (xGiveL (zBl T.wd i 20 0) T).wd i = tF T.wd i := by rw [tF_eq, tF_eq, hpv.2 i 20 hi (by omega)]
  have hr := c_indirectOf K N n sets hK t20 (zCt_x a2) hpv.1 i hi
  rw [hF] at hr
  refine wp_bi hr ?_
  have hrg := (hw.a.pv i 20 hi (by omega)).2
  rw [← tF_eq] at hrg
  have hdel : xDel T d p i = xEnt (xClr (xGiveL (zAllB T.wd i) T) i) d p 0 0 := rfl
  obtain ⟨s2, b1, b2, b3⟩ : ∃ s2, f_T_giveBack_22 K N (iN (tF T.wd i)) s1 t20 = some (.inl none, s2, t20) ∧ zCt s2 (xGiveL (zAllB T.wd i) T) ∧ zHt s1 s2 := by
    by_cases hf0 : tF T.wd i = 0
    · have eA : zAllB T.wd i = zBl T.wd i 20 0 := by unfold zAllB; rw [if_pos hf0, List.append_nil]
      rw [eA, hf0]
      exact ⟨s1, c_giveBack0 K N t20 s1, a2, zHt_refl s1⟩
    · have eA : zAllB T.wd i = zBl T.wd i 20 0 ++ [tF T.wd i] := by unfold zAllB; rw [if_neg hf0]
      rw [eA, xGiveL_app]
      exact c_giveBack K N n sets hK t20 s1 _ a2 (tF T.wd i) (by omega) (by omega)
  refine wp_bv b1 ?_
  obtain ⟨s3, c1, c2, c3⟩ := c_clr K N n sets hN hK t20 (iN d) (iN p) i hi s2 _ b2
  refine wp_lp c1 (wp_if rfl (wp_v0 ?_))
  obtain ⟨s4, e1, e2, e3⟩ := c_tellEntry K N n sets hK t20 s3 _ c2 d2 d p 0 0 hd d3 (Nat.lt_of_lt_of_eq hp d4.symm)
  rw [hdel]
  exact wp_bv e1 (wp_rA ⟨e2, zHt_trans a3 (zHt_trans b3 (zHt_trans c3 e3))⟩)
theorem c_erase (K : px_K) (N n sets : Nat) (hN : 2000 ≤ N) (hK : zKc K n sets) (t : px_W) (s : px_S) (T : ZTs) (h : zCt s T) (hw : ZW T.wd) (a0 a1 : Int32) : wp (f_T_erase_22 K N a0 a1 s t) (zA (xRemove T a0 a1).1 t (fun s' => zCt s' (xRemove T a0 a1).2 ∧ zHt s s')) := by
  have hx := zCt_x h
  have same : ∀ (a : Int32) (F : Option px_Res), wp F (zA a t (fun s' => zCt s' T ∧ zHt s s')) → xRemove T a0 a1 = (a, T) → wp F (zA (xRemove T a0 a1).1 t (fun s' => zCt s' (xRemove T a0 a1).2 ∧ zHt s s')) := by
    intro a F hF he; rw [he]; exact hF
  have hT : zCt s T ∧ zHt s s := ⟨h, zHt_refl s⟩
  unfold f_T_erase_22
  refine wp_bi (c_isDir K N n sets hK t hx a0) ?_
  cases hkb : zKb T.wd a0 1 with
  | false => exact same (-4) _ (wp_ifn (fun hx => hx rfl) (wp_rA hT)) (if_neg (by rw [hkb]; exact Bool.noConfusion))
  | true =>
    obtain ⟨k1, k2, k3⟩ := zKd_of hkb
    have hxm : xRemove T a0 a1 = (match (if 1 ≤ a1 then zPl T.wd (n32 a0) a1 else none) with
      | none => (-1, T)
      | some p => if tI T.wd (n32 (tE T.wd (n32 a0) p)) 0 = 1 ∧ 0 < zNm T.wd (n32 (tE T.wd (n32 a0) p)) then (-3, T) else (0, xDel T (n32 a0) p (n32 (tE T.wd (n32 a0) p)))) := if_pos hkb
    obtain ⟨m, m1, m2, _, _⟩ := hw.a.dsz k2 k3
    refine wp_if (by decide) ?_
    by_cases hx1 : 1 ≤ a1
    · rw [if_pos hx1] at hxm
      refine wp_if hx1 ?_
      have hpl := c_placeOf K N n sets hN hK t hx hw.a (n32 a0) k2 k3 a1
      rw [← k1] at hpl
      refine wp_bi hpl ?_
      cases hz : zPl T.wd (n32 a0) a1 with
      | none =>
        rw [hz] at hxm
        exact same (-1) _ (wp_ifn (by decide) (wp_rA hT)) hxm
      | some p =>
        rw [hz] at hxm
        dsimp only at hxm
        obtain ⟨p1, p2⟩ := zPl_x hz hx1
        obtain ⟨i, i0, i1, i2, i3, i4⟩ := zent_of hw k2 k3 p1 p2
        rw [i1] at hxm
        have hia := c_inodeAt K N n sets hK t hx hw.a (n32 a0) p k2 k3 p1
        rw [← k1, i0] at hia
        refine wp_if (by show 0 ≤ iN p; rw [iL0, iN_le (by omega) (by omega)]; omega) (wp_bi hia (wp_bi (c_isDir K N n sets hK t hx (iN i)) ?_))
        have hn32 : n32 (iN i) = i := n32_iN (by omega)
        have hdel : (tI T.wd i 0 = 1 → zNm T.wd i = 0) → xRemove T a0 a1 = (0, xDel T (n32 a0) p i) := by
          intro hemp
          rw [if_neg (fun hx => by have := hemp hx.1; omega)] at hxm
          exact hxm
        cases hkk : zKb T.wd (iN i) 1 with
        | false =>
          have hemp : tI T.wd i 0 = 1 → zNm T.wd i = 0 := fun hx => absurd ⟨by rw [iL0, iN_le (by omega) (by omega)]; omega, by show iN i < iN 24; rw [iN_lt (by omega) (by omega)]; exact i3, by rw [hn32]; exact hx⟩ (zKb_no hkk)
          rw [hdel hemp]
          exact wp_if rfl (c_ertail K N n sets hN hK t s T h hw (n32 a0) p i k2 k3 p1 p2 i0 i2 i3 i4 hemp a0 (iN p) (iN i) k1 rfl rfl)
        | true =>
          obtain ⟨_, _, q3⟩ := zKd_of hkk
          rw [hn32] at q3
          have hnm64 : zNm T.wd i ≤ tS T.wd i := zCnt_le _ _
          obtain ⟨m', m1', m2', _, _⟩ := hw.a.dsz i3 q3
          refine wp_ifn (by decide) (wp_bi (c_namesIn K N n sets hN hK t hx hw.a i i3 q3) ?_)
          by_cases hz0 : zNm T.wd i = 0
          · rw [hdel (fun _ => hz0)]
            exact wp_if (by rw [hz0]; decide) (c_ertail K N n sets hN hK t s T h hw (n32 a0) p i k2 k3 p1 p2 i0 i2 i3 i4 (fun _ => hz0) a0 (iN p) (iN i) k1 rfl rfl)
          · rw [if_pos ⟨q3, by omega⟩] at hxm
            exact same (-3) _ (wp_ifn (by rw [iL0, iN_le (by omega) (by omega)]; omega) (wp_rA hT)) hxm
    · rw [if_neg hx1] at hxm
      exact same (-1) _ (wp_ifn hx1 (wp_ifn (by decide) (wp_rA hT))) hxm
