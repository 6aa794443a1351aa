/-! CUT (the class) -/
theorem xGive_comm {T : ZTs} {b w c : Nat} {x : Int32} (hb : b ≠ 29) : xGive (xT T b w x) c = xT (xGive T c) b w x := by
  unfold xGive
  have e : (xT T b w x).wd 29 = T.wd 29 := zt_blk (fun hx => hb hx.symm)
  rw [e]
  exact xT_comm (Or.inl hb)
theorem xDrop_c {T : ZTs} {i k : Nat} (hf : tF T.wd i ≠ 29) : xGive (if k < 4 then xI T i (2 + k) 0 else xT T (tF T.wd i) (k - 4) 0) (tB T.wd i k) = xDrop T i k := by
  unfold xDrop
  by_cases h4 : k < 4
  · rw [if_pos h4, if_pos h4]; unfold xI; exact xGive_comm (by omega)
  · rw [if_neg h4, if_neg h4]; exact xGive_comm hf
theorem xCutL_skip (i n : Nat) : ∀ (d c k : Nat) (T : ZTs), (∀ l, k ≤ l → l < k + d → 16 * l < n) → xCutL i n (d + c) k T = xCutL i n c (k + d) T := by
  intro d
  induction d with
  | zero => intro c k T _; rw [Nat.zero_add]; rfl
  | succ d ih =>
    intro c k T h
    have e : d + 1 + c = (d + c) + 1 := by omega
    rw [e]
    show xCutL i n (d + c) (k + 1) (if tB T.wd i k = 0 ∨ 16 * k < n then T else xDrop T i k) = _
    rw [if_pos (Or.inr (h k (Nat.le_refl _) (by omega))), ih c (k + 1) T (fun l l1 l2 => h l (by omega) (by omega))]
    have e2 : k + 1 + d = k + (d + 1) := by omega
    rw [e2]
theorem zAny_true {W : ZSt} {i n : Nat} : ∀ {c k : Nat}, zAny W i n c k = true → ∃ l, k ≤ l ∧ l < k + c ∧ 4 ≤ l ∧ tB W i l ≠ 0 ∧ 16 * l < n := by
  intro c
  induction c with
  | zero => intro k h; cases h
  | succ c ih =>
    intro k h
    unfold zAny at h
    rw [Bool.or_eq_true] at h
    rcases h with h | h
    · rw [Bool.and_eq_true, Bool.and_eq_true, decide_eq_true_eq, decide_eq_true_eq] at h
      refine ⟨k, Nat.le_refl _, by omega, h.1, fun hx => ?_, h.2.2⟩
      have := h.2.1
      rw [decide_eq_true hx] at this; cases this
    · obtain ⟨l, l1, l2, l3⟩ := ih h
      exact ⟨l, by omega, by omega, l3⟩
theorem c_sh62 (K : px_K) (N n sets : Nat) (hK : zKc K n sets) (t : px_W) (i n0 : Nat) (hi : i < 24) : ∀ (c k f : Nat) (s : px_S) (T : ZTs), k + c = 20 → c < f → zCt s T → ZW T.wd → tI T.wd i 0 = 2 → (∀ l, k ≤ l → ¬ 16 * l < n0) → wp (l_T_shorten_22_62 K N f (iN i) (iN n0) (iN k) s t) (zC 82 [] t (fun s' => zCt s' (xCutL i n0 c k T) ∧ zHt s s')) := by
  intro c
  induction c with
  | zero =>
    intro k f s T hk hf h hw hki hno
    obtain ⟨f, rfl⟩ : ∃ f', f = f' + 1 := ⟨f - 1, by omega⟩
    have hk : k = 20 := by omega
    subst hk
    unfold l_T_shorten_22_62
    exact wp_if (by decide) (wp_rC ⟨h, zHt_refl s⟩)
  | succ c ih =>
    intro k f s T hk hf h hw hki hno
    obtain ⟨f, rfl⟩ : ∃ f', f = f' + 1 := ⟨f - 1, by omega⟩
    have e3 : iN k + (1 : Int32) = iN (k + 1) := by rw [iL1, iN_add]
    have h20 : ¬ (20 : Int32) ≤ iN k := by show ¬ iN 20 ≤ iN k; rw [iN_le (by omega) (by omega)]; omega
    have hr := (hw.a.pv i k hi (by omega)).2
    have hfr := (hw.a.pv i 20 hi (by omega)).2
    rw [← tF_eq] at hfr
    have hcl : xCutL i n0 (c + 1) k T = xCutL i n0 c (k + 1) (if tB T.wd i k = 0 ∨ 16 * k < n0 then T else xDrop T i k) := rfl
    unfold l_T_shorten_22_62
    rw [e3, hcl]
    refine wp_ifn h20 (wp_bi (c_blockOf K N n sets hK t (zCt_x h) hw.a.pv i k hi (by omega)) ?_)
    by_cases h0 : tB T.wd i k = 0
    · rw [if_pos (c := tB T.wd i k = 0 ∨ 16 * k < n0) (Or.inl h0)]
      exact wp_if (by rw [h0]; rfl) (ih (k + 1) f s T (by omega) (by omega) h hw hki (fun l hl => hno l (by omega)))
    · have h16 := hno k (Nat.le_refl _)
      rw [if_neg (c := tB T.wd i k = 0 ∨ 16 * k < n0) (fun hx => hx.elim h0 h16)]
      have hF0 : 4 ≤ k → tF T.wd i ≠ 0 := by
        intro h4 hx
        apply h0
        unfold tB tP
        rw [if_neg (by omega), if_neg (by omega), if_pos hx]; rfl
      refine wp_ifn (by rw [iL0, iN_eq (by omega) (by omega)]; exact h0) ?_
      obtain ⟨z1, z2, z3, z4, z5, _⟩ := zdrop_ok hw hi hki (show k < 20 by omega) h0
      obtain ⟨s1, a1, a2, a3⟩ := c_tellBlockOf K N n sets hK t s T h hw.a.pv i k 0 hi (by omega) hF0
      refine wp_bv a1 ?_
      obtain ⟨s2, b1, b2, b3⟩ := c_giveBack K N n sets hK t s1 _ a2 (tB T.wd i k) (by omega) (by omega)
      rw [xDrop_c (by omega)] at b2
      refine wp_bv b1 (wp_imp (ih (k + 1) f s2 (xDrop T i k) (by omega) (by omega) b2 z1 (by rw [z2 i 0 hi (by omega)]; exact hki) (fun l hl => hno l (by omega))) ?_)
      rintro r ⟨s', r1, r2, r3⟩
      exact ⟨s', r1, r2, zHt_trans a3 (zHt_trans b3 r3)⟩
theorem c_sh44 (K : px_K) (N n0 sets : Nat) (hK : zKc K n0 sets) (t : px_W) (u1 u2 : Int32) (b : Nat) (hb : b < 106) : ∀ (d m n : Nat) (s : px_S) (T : ZTs), m + d = 16 → d < n → zCt s T → wp (l_T_shorten_22_44 K N n u1 u2 (iN b) (iN m) s t) (zC 54 [] t (fun s' => (∃ T' : ZTs, zCt s' T' ∧ T'.tv = T.tv ∧ T'.kp = T.kp ∧ T'.kt = T.kt ∧ T'.sq = T.sq ∧ T'.jr = T.jr ∧ T'.wd = (fun c v => if c = b ∧ m ≤ v ∧ v < 16 then 0 else T.wd c v) ∧ (T'.ch = if m < 16 then zu T.ch b true else T.ch)) ∧ zHt s s')) := by
  intro d
  induction d with
  | zero =>
    intro m n s T hm hn h
    obtain ⟨n, rfl⟩ : ∃ n', n = n' + 1 := ⟨n - 1, by omega⟩
    have hm : m = 16 := by omega
    subst hm
    unfold l_T_shorten_22_44
    refine wp_if (by decide) (wp_rC ⟨⟨T, h, rfl, rfl, rfl, rfl, rfl, ?_, by rw [if_neg (by omega)]⟩, zHt_refl s⟩)
    funext c v; rw [if_neg (by omega)]
  | succ d ih =>
    intro m n s T hm hn h
    obtain ⟨n, rfl⟩ : ∃ n', n = n' + 1 := ⟨n - 1, by omega⟩
    have e3 : iN m + (1 : Int32) = iN (m + 1) := by rw [iL1, iN_add]
    unfold l_T_shorten_22_44
    rw [e3]
    refine wp_ifn (by rw [iL16, iN_le (by omega) (by omega)]; omega) ?_
    obtain ⟨s1, a1, a2, a3⟩ := c_tell K N _ sets hK t s T h b m 0 hb (by omega)
    refine wp_bv a1 (wp_imp (ih (m + 1) n s1 _ (by omega) (by omega) a2) ?_)
    rintro r ⟨s', r1, ⟨T', q1, q2, q3, q4, q5, q6, q7, q8⟩, r3⟩
    refine ⟨s', r1, ⟨T', q1, q2, q3, q4, q5, q6, ?_, ?_⟩, zHt_trans a3 r3⟩
    · rw [q7]
      funext c v
      show (if c = b ∧ m + 1 ≤ v ∧ v < 16 then 0 else zt T.wd b m 0 c v) = _
      by_cases hcv : c = b ∧ v = m
      · rw [hcv.1, hcv.2, if_neg (by omega), if_pos (by omega), zt_self]
      · rw [zt_ne (by omega)]
        by_cases hle : c = b ∧ m ≤ v ∧ v < 16
        · rw [if_pos (by omega), if_pos hle]
        · rw [if_neg (by omega), if_neg hle]
    · rw [q8, if_pos (c := m < 16) (by omega)]
      show (if m + 1 < 16 then zu (zu T.ch b true) b true else zu T.ch b true) = _
      rw [zu_zu]
      split <;> rfl
theorem c_zero (K : px_K) (N n sets : Nat) (hN : 2000 ≤ N) (hK : zKc K n sets) (t : px_W) (u1 u2 : Int32) (b m : Nat) (hb : b < 106) (hm : m < 16) (s : px_S) (T : ZTs) (h : zCt s T) : ∃ s', l_T_shorten_22_44 K N N u1 u2 (iN b) (iN m) s t = some (.inl (54, [], s', t)) ∧ zCt s' (xZero T b m) ∧ zHt s s' := by
  obtain ⟨s', r1, ⟨T', q1, q2, q3, q4, q5, q6, q7, q8⟩, r3⟩ := wp_C (c_sh44 K N n sets hK t u1 u2 b hb (16 - m) m N s T (by omega) (by omega) h)
  refine ⟨s', r1, ?_, r3⟩
  have eT : T' = xZero T b m := by
    have e : T' = ZTs.mk T'.tv T'.wd T'.kp T'.ch T'.kt T'.sq T'.jr := rfl
    rw [e, q2, q3, q4, q5, q6, q7, q8, if_pos (by omega)]
    rfl
  rw [← eT]; exact q1
theorem c_gbe9 (K : px_K) (N n sets : Nat) (hK : zKc K n sets) (t : px_W) {s : px_S} {W : ZSt} (h : zCx s W) (hv : zPv W) (i : Nat) (hi : i < 24) (u2 : Int32) : ∀ (k m f : Nat), m + k = 20 → k < f → ((∃ l, m ≤ l ∧ l < 20 ∧ tB W i l ≠ 0) ∧ l_T_giveBackEmptyIndirect_22_9 K N f (iN i) u2 (iN m) s t = some (.inl (17, [], s, t))) ∨ ((∀ l, m ≤ l → l < 20 → tB W i l = 0) ∧ l_T_giveBackEmptyIndirect_22_9 K N f (iN i) u2 (iN m) s t = some (.inl (20, [], s, t))) := by
  intro k
  induction k with
  | zero =>
    intro m f hm hf
    obtain ⟨f, rfl⟩ : ∃ f', f = f' + 1 := ⟨f - 1, by omega⟩
    have hm : m = 20 := by omega
    subst hm
    refine Or.inr ⟨fun l l1 l2 => by omega, ?_⟩
    unfold l_T_giveBackEmptyIndirect_22_9
    rw [if_pos (by decide)]
  | succ k ih =>
    intro m f hm hf
    obtain ⟨f, rfl⟩ : ∃ f', f = f' + 1 := ⟨f - 1, by omega⟩
    have e3 : iN m + (1 : Int32) = iN (m + 1) := by rw [iL1, iN_add]
    have h20 : ¬ (20 : Int32) ≤ iN m := by show ¬ iN 20 ≤ iN m; rw [iN_le (by omega) (by omega)]; omega
    have hr := (hv i m hi (by omega)).2
    have hb := c_blockOf K N n sets hK t h hv i m hi (by omega)
    have step : l_T_giveBackEmptyIndirect_22_9 K N (f + 1) (iN i) u2 (iN m) s t = if iN (tB W i m) = 0 then l_T_giveBackEmptyIndirect_22_9 K N f (iN i) u2 (iN (m + 1)) s t else some (.inl (17, [], s, t)) := by
      conv => lhs; unfold l_T_giveBackEmptyIndirect_22_9
      rw [if_neg h20, hb, e3]; rfl
    rw [step]
    by_cases h0 : tB W i m = 0
    · rw [if_pos (by rw [h0]; rfl)]
      rcases ih (m + 1) f (by omega) (by omega) with ⟨⟨l, l1, l2, l3⟩, e⟩ | ⟨hl, e⟩
      · exact Or.inl ⟨⟨l, by omega, l2, l3⟩, e⟩
      · refine Or.inr ⟨fun l l1 l2 => ?_, e⟩
        by_cases hlm : l = m
        · rw [hlm]; exact h0
        · exact hl l (by omega) l2
    · rw [if_neg (by rw [iL0, iN_eq (by omega) (by omega)]; exact h0)]
      exact Or.inl ⟨⟨m, Nat.le_refl _, by omega, h0⟩, rfl⟩
/-- all of a cut but the clearing of the last block's words -/
theorem c_cuttail (K : px_K) (N n sets : Nat) (hN : 2000 ≤ N) (hK : zKc K n sets) (t22 : px_W) (s21 : px_S) (T : ZTs) (h : zCt s21 T) (hw : ZW T.wd) (i n0 : Nat) (hi : i < 24) (hki : tI T.wd i 0 = 2) (hn0 : n0 ≤ 320) (a0 a1 : Int32) (ha0 : a0 = iN i) (ha1 : a1 = iN n0) : wp (α := px_Res) (px_let (((a1 + (16 : Int32)) - (1 : Int32)) / (16 : Int32)) (fun v27 => (px_lp (l_T_shorten_22_62 K N N a0 a1 v27 s21 t22) (fun i29 vs30 s31 t32 => (if i29 = 82 then (px_v0 vs30 (px_bv (f_T_giveBackEmptyIndirect_22 K N a0 s31 t32) (fun s36 t37 => (px_bv (f_T_tellInode_22 K N a0 (1 : Int32) a1 s36 t37) (fun s41 t42 => (some (.inl (some (.int (0 : Int32))), s41, t42))) (fun x45 s41 t42 => none))) (fun x40 s36 t37 => none))) else none)) (fun z34 => some z34)))) (zA 0 t22 (fun s' => zCt s' (xCut2 T i n0) ∧ zHt s21 s')) := by
  subst ha0 ha1
  have ek : (iN n0 + (16 : Int32) - (1 : Int32)) / (16 : Int32) = iN ((n0 + 15) / 16) := by
    rw [iL16, iL1, iN_add, iN_sub (by omega), iN_div (by omega) (by omega) (by omega)]; rfl
  rw [ek]
  obtain ⟨k0, hk0⟩ : ∃ k0, k0 = (n0 + 15) / 16 := ⟨_, rfl⟩
  rw [← hk0]
  have hk20 : k0 ≤ 20 := by omega
  have hskip := xCutL_skip i n0 k0 (20 - k0) 0 T (fun l l1 l2 => by omega)
  rw [show k0 + (20 - k0) = 20 by omega, Nat.zero_add] at hskip
  obtain ⟨s1, a1, a2, a3⟩ := wp_C (c_sh62 K N n sets hK t22 i n0 hi (20 - k0) k0 N s21 T (by omega) (by omega) h hw hki (fun l hl => by omega))
  rw [← hskip] at a2
  refine wp_let (wp_lp a1 (wp_if rfl (wp_v0 ?_)))
  obtain ⟨q1, q2, q3, q4, q5, q6⟩ := zcutL_ok i n0 hi 20 0 T (by omega) hw hki
  have hfr := (hw.a.pv i 20 hi (by omega)).2
  rw [← tF_eq] at hfr
  have q4 : ∀ l, l < 20 → tB (xCutL i n0 20 0 T).wd i l = if 16 * l < n0 then tB T.wd i l else 0 := by
    intro l hl
    rw [q4 l hl]
    by_cases h16 : 16 * l < n0
    · rw [if_neg (by omega), if_pos h16]
    · rw [if_pos ⟨Nat.zero_le _, h16⟩, if_neg h16]
  have hx1 := zCt_x a2
  have hind := c_indirectOf K N n sets hK t22 hx1 q1.a.pv i hi
  rw [q3] at hind
  -- the indirect block goes, if none is in it
  obtain ⟨s2, b1, b2, b3⟩ : ∃ s2, f_T_giveBackEmptyIndirect_22 K N (iN i) s1 t22 = some (.inl none, s2, t22) ∧ zCt s2 (if tF T.wd i = 0 ∨ zAny T.wd i n0 20 0 = true then xCutL i n0 20 0 T else xI (xGive (xCutL i n0 20 0 T) (tF T.wd i)) i 6 0) ∧ zHt s1 s2 := by
    apply wp_B
    unfold f_T_giveBackEmptyIndirect_22
    refine wp_bi hind ?_
    by_cases hf0 : tF T.wd i = 0
    · rw [if_pos (c := tF T.wd i = 0 ∨ zAny T.wd i n0 20 0 = true) (Or.inl hf0)]
      exact wp_ifn (fun hx => hx (by rw [hf0]; rfl)) (wp_rB ⟨a2, zHt_refl s1⟩)
    · refine wp_if (by rw [iL0, iN_eq (by omega) (by omega)]; exact hf0) ?_
      rcases c_gbe9 K N n sets hK t22 hx1 q1.a.pv i hi (iN (tF T.wd i)) 16 4 N (by omega) (by omega) with ⟨⟨l, l1, l2, l3⟩, e⟩ | ⟨hl, e⟩
      · have e : l_T_giveBackEmptyIndirect_22_9 K N N (iN i) (iN (tF T.wd i)) (4 : Int32) s1 t22 = _ := e
        have hany : zAny T.wd i n0 20 0 = true := by
          cases hz : zAny T.wd i n0 20 0 with
          | true => rfl
          | false =>
            exfalso
            rw [q4 l l2] at l3
            by_cases h16 : 16 * l < n0
            · rw [if_pos h16] at l3
              exact l3 (zAny_false hz l (by omega) (by omega) l1 h16)
            · rw [if_neg h16] at l3; exact l3 rfl
        rw [if_pos (c := tF T.wd i = 0 ∨ zAny T.wd i n0 20 0 = true) (Or.inr hany)]
        exact wp_lp e (wp_if rfl (wp_v0 (wp_rB ⟨a2, zHt_refl s1⟩)))
      · have e : l_T_giveBackEmptyIndirect_22_9 K N N (iN i) (iN (tF T.wd i)) (4 : Int32) s1 t22 = _ := e
        have hany : ¬ zAny T.wd i n0 20 0 = true := by
          intro hz
          obtain ⟨l, l1, l2, l3, l4, l5⟩ := zAny_true hz
          have := hl l l3 (by omega)
          rw [q4 l (by omega), if_pos l5] at this
          exact l4 this
        rw [if_neg (c := tF T.wd i = 0 ∨ zAny T.wd i n0 20 0 = true) (fun hx => hx.elim hf0 hany)]
        obtain ⟨s3, c1, c2, c3⟩ := c_tellInode K N n sets hK t22 s1 _ a2 i 6 0 hi (by omega)
        obtain ⟨s4, d1, d2, d3⟩ := c_giveBack K N n sets hK t22 s3 _ c2 (tF T.wd i) (by omega) (by omega)
        have ec : xGive (xI (xCutL i n0 20 0 T) i 6 0) (tF T.wd i) = xI (xGive (xCutL i n0 20 0 T) (tF T.wd i)) i 6 0 := by unfold xI; exact xGive_comm (by omega)
        rw [ec] at d2
        exact wp_lp e (wp_ifn (by decide) (wp_if rfl (wp_v0 (wp_bv c1 (wp_bv d1 (wp_rB ⟨d2, zHt_trans c3 d3⟩))))))
  refine wp_bv b1 ?_
  obtain ⟨s3, c1, c2, c3⟩ := c_tellInode K N n sets hK t22 s2 _ b2 i 1 (iN n0) hi (by omega)
  exact wp_bv c1 (wp_rA ⟨c2, zHt_trans a3 (zHt_trans b3 c3)⟩)
theorem c_shorten (K : px_K) (N n sets : Nat) (hN : 2000 ≤ N) (hK : zKc K n sets) (t : px_W) (s : px_S) (T : ZTs) (hn : T.tv.n = n) (hsets : T.tv.sets = sets) (h : zCt s T) (hi : ZTi ZW T) (hna : T.tv.p.na + 20000 < 2147483648) (a0 a1 : Int32) : wp (f_T_shorten_22 K N a0 a1 s t) (zO n (some (.int (xCut T a0 a1).1)) t s (xCut T a0 a1).2.tv.p (fun u => zCt u (xCut T a0 a1).2 ∧ zHt s u)) := by
  have hx := zCt_x h
  have hw : ZW T.wd := hi.ww
  have hup := hi.iv.up
  have same : ∀ (a : Int32) (F : Option px_Res), wp F (zA a t (fun s' => zCt s' T ∧ zHt s s')) → xCut T a0 a1 = (a, T) → wp F (zO n (some (.int (xCut T a0 a1).1)) t s (xCut T a0 a1).2.tv.p (fun u => zCt u (xCut T a0 a1).2 ∧ zHt s u)) := by
    intro a F hF he; rw [he]; exact wp_AO hF hup (fun _ hu => hu)
  have hT : zCt s T ∧ zHt s s := ⟨h, zHt_refl s⟩
  unfold f_T_shorten_22
  refine wp_bi (c_isFile K N n sets hK t hx a0) ?_
  cases hkb : zKb T.wd a0 2 with
  | false => exact same (-4) _ (wp_if rfl (wp_rA hT)) (if_neg (fun hx => by rw [hkb] at hx; cases hx.1))
  | true =>
    obtain ⟨k1, k2, k3⟩ := zKd_of hkb
    refine wp_ifn (by decide) ?_
    by_cases c1 : a1 < 0
    · exact same (-4) _ (wp_if c1 (wp_rA hT)) (if_neg (fun hx => absurd hx.2.1 (Int32.not_le.mpr c1)))
    refine wp_ifn c1 ?_
    obtain ⟨i, hi'⟩ : ∃ i, i = n32 a0 := ⟨_, rfl⟩
    rw [← hi'] at k1 k2 k3
    obtain ⟨z1, z2⟩ := zfile_size hw.a k2 k3
    have hr1 : f_T_inodeWord_22 K N (iN i) (1 : Int32) s t = _ := c_inodeWord K N n sets hK t hx i 1 k2 (by omega)
    rw [z1, ← k1] at hr1
    refine wp_bi hr1 ?_
    by_cases c2 : a1 ≤ iN (tS T.wd i)
    · refine wp_if c2 (wp_bi hr1 ?_)
      by_cases c3 : a1 = iN (tS T.wd i)
      · exact same 0 _ (wp_ifn (fun hx => hx c3) (wp_rA hT)) (by
          unfold xCut
          rw [← hi', if_pos ⟨hkb, Int32.not_lt.mp c1, c2⟩, if_pos c3])
      · refine wp_if c3 ?_
        obtain ⟨m, hm'⟩ : ∃ m, m = n32 a1 := ⟨_, rfl⟩
        obtain ⟨m1, m2⟩ := i32_le (m := tS T.wd i) (by omega) (Int32.not_lt.mp c1) c2
        rw [← hm'] at m1 m2
        have m2 : m ≤ 320 := by omega
        have hxm : xCut T a0 a1 = (if m % 16 = 0 ∨ tB T.wd i (m / 16) = 0 then (0, xCut2 T i m)
          else (if (xFetch T (tB T.wd i (m / 16))).tv.p.up = true then (0, xCut2 (xZero (xFetch T (tB T.wd i (m / 16))) (tB T.wd i (m / 16)) (m % 16)) i m) else (-9, xFetch T (tB T.wd i (m / 16))))) := by
          unfold xCut
          rw [← hi', ← hm', if_pos ⟨hkb, Int32.not_lt.mp c1, c2⟩, if_neg c3]
        have em : a1 - a1 / (16 : Int32) * (16 : Int32) = iN (m % 16) := by rw [m1, iL16, iN_rem (by omega) (by omega) (by omega)]
        have ed : a1 / (16 : Int32) = iN (m / 16) := by rw [m1, iL16, iN_div (by omega) (by omega) (by omega)]
        have ezero : (iN (m % 16) = 0) ↔ m % 16 = 0 := by rw [iL0, iN_eq (by omega) (by omega)]
        by_cases h16 : m % 16 = 0
        · rw [if_pos (Or.inl h16)] at hxm
          rw [hxm]
          refine wp_ifn (fun hx => hx (by rw [em]; exact ezero.mpr h16)) (wp_if rfl ?_)
          exact wp_AO (c_cuttail K N n sets hN hK t s T h hw i m k2 k3 m2 a0 a1 k1 m1) (by show (xCut2 T i m).tv.p.up = true; rw [xCut2_tv]; exact hup) (fun _ hu => hu)
        · have hm20 : m < 320 := by omega
          have hr := (hw.a.pv i (m / 16) k2 (by omega)).2
          have hb := c_blockOf K N n sets hK t hx hw.a.pv i (m / 16) k2 (by omega)
          rw [← k1, ← ed] at hb
          refine wp_if (by rw [em]; exact fun hx => h16 (ezero.mp hx)) (wp_bi hb ?_)
          by_cases h0 : tB T.wd i (m / 16) = 0
          · rw [if_pos (Or.inr h0)] at hxm
            rw [hxm]
            refine wp_if (by rw [h0]; rfl) ?_
            exact wp_AO (c_cuttail K N n sets hN hK t s T h hw i m k2 k3 m2 a0 a1 k1 m1) (by show (xCut2 T i m).tv.p.up = true; rw [xCut2_tv]; exact hup) (fun _ hu => hu)
          · rw [if_neg (fun hx => hx.elim h16 h0)] at hxm
            refine wp_ifn (by rw [iL0, iN_eq (by omega) (by omega)]; exact h0) ?_
            have hl := c_load K N n sets hN hK t s T hn hsets h hi hna (tB T.wd i (m / 16)) (by omega) (by omega)
            obtain ⟨x1, x2, x3, x4, x5, x6⟩ := xFetch_same T (tB T.wd i (m / 16))
            cases hup2 : (xFetch T (tB T.wd i (m / 16))).tv.p.up with
            | true =>
              rw [if_pos hup2] at hxm
              rw [hxm]
              refine wp_cv hl (zHx_refl s) (fun hx => by rw [hup2] at hx; cases hx) (fun u _ hu => ?_)
              have hwF : ZW (xFetch T (tB T.wd i (m / 16))).wd := by rw [x1]; exact hw
              obtain ⟨y1, y2, y3, y4⟩ := zzero_ok (T := xFetch T (tB T.wd i (m / 16))) (m := m % 16) hwF k2 (by rw [x1]; exact k3) (show m / 16 < 20 by omega) (by rw [x1]; exact h0)
              rw [x1] at y1 y2 y3 y4
              rw [em]
              obtain ⟨s2, b1, b2, b3⟩ := c_zero K N n sets hN hK t a0 a1 (tB T.wd i (m / 16)) (m % 16) (by omega) (by omega) u _ hu.1
              refine wp_let (wp_lp b1 (wp_if rfl (wp_v0 ?_)))
              obtain ⟨V, hV⟩ : ∃ V, V = xZero (xFetch T (tB T.wd i (m / 16))) (tB T.wd i (m / 16)) (m % 16) := ⟨_, rfl⟩
              rw [← hV] at b2 y1 y2 y3 y4 ⊢
              exact wp_AO (c_cuttail K N n sets hN hK t s2 V b2 y1 i m k2 (by rw [y2 i 0 k2]; exact k3) m2 a0 a1 k1 m1) (by show (xCut2 V i m).tv.p.up = true; rw [xCut2_tv, y4.1]; exact hup2) (fun v hv => ⟨hv.1, zHt_trans hu.2 (zHt_trans b3 hv.2)⟩)
            | false =>
              rw [if_neg (by rw [hup2]; exact Bool.noConfusion)] at hxm
              rw [hxm]
              exact wp_cv hl (zHx_refl s) (fun _ => rfl) (fun u hx _ => by rw [hup2] at hx; cases hx)
    · refine same (-4) _ (wp_ifn c2 (wp_rA hT)) (if_neg (fun hx => c2 (by rw [hi']; exact hx.2.2)))
