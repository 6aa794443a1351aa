/-! THE CLASS: the tree is changed -/
theorem zCt_x {s : px_S} {T : ZTs} (h : zCt s T) : zCx s T.wd := h.2.1
theorem zCt_eq {s : px_S} {T T' : ZTs} (h : zCt s T) (h1 : T'.tv = T.tv) (h2 : ∀ b w, 29 ≤ b → b < 106 → w < 16 → T'.wd b w = T.wd b w) (h3 : T'.kp = T.kp) (h4 : ∀ b, b < 106 → T'.ch b = T.ch b) (h5 : T'.kt = T.kt) (h6 : T'.sq = T.sq) (h7 : T'.jr = T.jr) : zCt s T' := by
  obtain ⟨v, j1, j2, j3, j4, j5, j6, j7, j8⟩ := h
  have ec : zCl T'.ch = zCl T.ch := by
    unfold zCl
    exact List.filter_congr (fun b hb => h4 b (List.mem_range.mp hb))
  refine ⟨by rw [h1]; exact v, fun b w a b2 c => by rw [h2 b w a b2 c]; exact j1 b w a b2 c, by rw [h3, h5]; exact j2, fun b hb => by rw [h4 b hb]; exact j3 b hb, by rw [h5]; exact j4, by rw [ec]; exact j5, by rw [h5]; exact j6, by rw [h6]; exact j7, by rw [h7]; exact j8⟩
theorem c_setChanged (K : px_K) (N n sets : Nat) (hK : zKc K n sets) (t : px_W) (s : px_S) (ch : Nat → Bool) (b : Nat) (hb : b < 106) (h25 : ∀ b, b < 106 → s.2.2.1 25 b = bN (ch b)) (h21 : s.1 21 = iN (zCl ch).length) : ∃ u, f_T_setChanged_22 K N (iN b) s t = some (.inl none, u, t) ∧ (∀ c, c < 106 → u.2.2.1 25 c = bN (zu ch b true c)) ∧ u.1 21 = iN (zCl (zu ch b true)).length ∧ (∀ c, c ≠ 25 → u.2.2.1 c = s.2.2.1 c) ∧ (∀ r, r ≠ 21 → u.1 r = s.1 r) ∧ u.2.1 = s.2.1 ∧ u.2.2.2 = s.2.2.2 := by
  have k25 : K.2.2 25 = 106 := hK.2.2.2.2.2.2.2.2.2.2.2.2.2.2.2.2.2.1
  unfold f_T_setChanged_22
  rw [px_gd_of (by rw [k25]; exact iN_in (by omega) (by omega)), iN_nat (a := b) (by omega), h25 b hb]
  cases hk : ch b with
  | true =>
    rw [if_pos (by decide)]
    refine ⟨s, rfl, ?_, ?_, fun _ _ => rfl, fun _ _ => rfl, rfl, rfl⟩
    · rw [zu_same hk]; exact h25
    · rw [zu_same hk]; exact h21
  | false =>
    rw [if_neg (fun hx => hx rfl), px_gd_of (by rw [k25]; exact iN_in (by omega) (by omega))]
    refine ⟨sR (sA s 25 b 1) 21 ((sA s 25 b 1).1 21 + 1), rfl, ?_, ?_, fun c hc => sF_arr_ne hc, fun r hr => sR_ne hr, rfl, rfl⟩
    · intro c hc
      show (sF s 25 _).2.2.1 25 c = _
      rw [sF_arr]
      by_cases hcb : c = b
      · rw [hcb, upd_self, zu_self]; rfl
      · rw [upd_ne hcb, zu_ne _ _ hcb]; exact h25 c hc
    · rw [sR_self, zCl_put hb hk]
      show s.1 21 + iN 1 = _
      rw [h21, iN_add]
theorem c_tell (K : px_K) (N n sets : Nat) (hK : zKc K n sets) (t : px_W) (s : px_S) (T : ZTs) (h : zCt s T) (b w : Nat) (x : Int32) (hb : b < 106) (hw : w < 16) : ∃ s', f_T_tell_22 K N (iN b) (iN w) x s t = some (.inl none, s', t) ∧ zCt s' (xT T b w x) ∧ zHt s s' := by
  have k23 : K.2.2 23 = 1696 := hK.2.2.2.2.2.2.2.2.2.2.2.2.2.2.2.1
  obtain ⟨v, j1, j2, j3, j4, j5, j6, j7, j8⟩ := h
  obtain ⟨u, a1, a2, a3, a4, a5, a6, a7⟩ := c_setChanged K N n sets hK t (sA s 23 (16 * b + w) x) T.ch b hb (fun c hc => by show (sF s 23 _).2.2.1 25 c = _; rw [sF_arr_ne (by omega)]; exact j3 c hc) j5
  apply wp_B
  unfold f_T_tell_22
  rw [iN_16, iN_add, iN_nat (by omega)]
  refine wp_ifn (iN_neg (by omega)) (wp_ifn (by show ¬ iN 106 ≤ iN b; rw [iN_le (by omega) (by omega)]; omega) (wp_ifn (iN_neg (by omega)) (wp_ifn (by show ¬ iN 16 ≤ iN w; rw [iN_le (by omega) (by omega)]; omega) (wp_gd (by rw [k23]; exact iN_in (by omega) (by omega)) (wp_let (wp_bv a1 (wp_rB ⟨⟨?_, ?_⟩, ?_⟩)))))))
  · exact zCv_of v (fun c _ _ => by rw [a4 c (by omega)]; exact sF_arr_ne (by omega)) (fun r _ _ => by rw [a5 r (by omega)]; rfl) (by rw [a6]; rfl)
  · refine ⟨fun c y hc hc2 hy => ?_, fun c y hc hy hx => ?_, a2, fun c hc => ?_, a3, ?_, ?_, ?_⟩
    · rw [a4 23 (by omega)]
      show (sF s 23 _).2.2.1 23 _ = zt T.wd b w x c y
      rw [sF_arr]
      by_cases hcv : c = b ∧ y = w
      · rw [hcv.1, hcv.2, upd_self, zt_self]
      · rw [upd_ne (by omega), zt_ne (by omega)]; exact j1 c y hc hc2 hy
    · rw [a4 24 (by omega)]
      show (sF s 23 _).2.2.1 24 _ = _
      rw [sF_arr_ne (by omega)]; exact j2 c y hc hy hx
    · rw [a4 26 (by omega)]
      show (sF s 23 _).2.2.1 26 _ = _
      rw [sF_arr_ne (by omega)]; exact j4 c hc
    · rw [a5 22 (by omega)]; exact j6
    · rw [a5 23 (by omega)]; exact j7
    · rw [a5 24 (by omega)]; exact j8
  · exact ⟨fun c hc => by rw [a4 c (by omega)]; exact sF_arr_ne (by omega), fun r hr => by rw [a5 r (by omega)]; rfl, fun r _ => by rw [a6]; rfl, by rw [a7]; rfl⟩
theorem c_tellInode (K : px_K) (N n sets : Nat) (hK : zKc K n sets) (t : px_W) (s : px_S) (T : ZTs) (h : zCt s T) (i w : Nat) (x : Int32) (hi : i < 24) (hw : w < 8) : ∃ s', f_T_tellInode_22 K N (iN i) (iN w) x s t = some (.inl none, s', t) ∧ zCt s' (xI T i w x) ∧ zHt s s' := by
  apply wp_B
  unfold f_T_tellInode_22
  rw [iN_half (by omega), iN_odd (by omega)]
  obtain ⟨s1, a1, a2, a3⟩ := c_tell K N n sets hK t s T h (30 + i / 2) (8 * (i % 2) + w) x (by omega) (by omega)
  exact wp_bv a1 (wp_rB ⟨a2, a3⟩)
theorem c_giveBack (K : px_K) (N n sets : Nat) (hK : zKc K n sets) (t : px_W) (s : px_S) (T : ZTs) (h : zCt s T) (b : Nat) (h42 : 42 ≤ b) (h106 : b < 106) : ∃ s', f_T_giveBack_22 K N (iN b) s t = some (.inl none, s', t) ∧ zCt s' (xGive T b) ∧ zHt s s' := by
  apply wp_B
  obtain ⟨k, rfl⟩ : ∃ k, b = 42 + k := ⟨b - 42, by omega⟩
  have ek : 42 + k - 42 = k := by omega
  obtain ⟨e1, e2, e3⟩ := iN_q (k := k) (by omega)
  unfold f_T_giveBack_22 xGive
  refine wp_let ?_
  rw [ek, e1, e3, e2]
  have hat := c_Tat K N n sets hK t s 29 (k / 32) (by omega) (by omega)
  rw [h.2.1 29 (k / 32) (by omega) (by omega) (by omega)] at hat
  refine wp_ifn (iN_neg (by omega)) (wp_ifn (by show ¬ iN 64 ≤ iN k; rw [iN_le (by omega) (by omega)]; omega) (wp_bi (show f_T_at_22 K N (29 : Int32) (iN (k / 32)) s t = _ from hat) ?_))
  rw [zclr_eq _ _ (by omega)]
  obtain ⟨s1, a1, a2, a3⟩ := c_tell K N n sets hK t s T h 29 (k / 32) (zclr (T.wd 29 (k / 32)) (k % 32)) (by omega) (by omega)
  exact wp_bv (show f_T_tell_22 K N (29 : Int32) _ _ s t = _ from a1) (wp_rB ⟨a2, a3⟩)
theorem c_giveBack0 (K : px_K) (N : Nat) (t : px_W) (s : px_S) : f_T_giveBack_22 K N (iN 0) s t = some (.inl none, s, t) := by
  obtain ⟨r, e1, e2⟩ : wp (f_T_giveBack_22 K N (iN 0) s t) (fun r => r = (.inl none, s, t)) := by
    unfold f_T_giveBack_22
    exact wp_let (wp_if (by decide) (wp_some rfl))
  rw [e1, e2]
theorem m_bitu (x : Int32) (j : Nat) (hj : j < 32) : (((x.toUInt32 >>> ((iN j).toUInt32 &&& Int32.toUInt32 31)).toInt32) &&& (1 : Int32)) = (if x.toBitVec.getLsbD j = true then 1 else 0) := by
  have hs : ∀ j, j < 32 → ((iN j).toUInt32 &&& Int32.toUInt32 31) = UInt32.ofNat j := by decide
  rw [hs j hj]
  have hx := iN_u32 x
  have hlt : u32 x < 4294967296 := x.toBitVec.isLt
  have e : ((x.toUInt32 >>> UInt32.ofNat j).toInt32) = Int32.ofBitVec (x.toBitVec >>> j) := by
    conv => lhs; rw [hx]
    rw [iN_ushr hlt hj]
    apply Int32.toBitVec.inj
    apply BitVec.eq_of_toNat_eq
    show (BitVec.ofNat 32 (u32 x / 2 ^ j)).toNat = (x.toBitVec >>> j).toNat
    rw [BitVec.toNat_ushiftRight, BitVec.toNat_ofNat, Nat.shiftRight_eq_div_pow, Nat.mod_eq_of_lt]
    · rfl
    · exact Nat.lt_of_le_of_lt (Nat.div_le_self _ _) hlt
  rw [e]
  apply Int32.toBitVec.inj
  show (x.toBitVec >>> j) &&& 1#32 = _
  rw [one_bit32]
  have hb : (x.toBitVec >>> j).getLsbD 0 = x.toBitVec.getLsbD j := by
    rw [BitVec.getLsbD_ushiftRight]; rfl
  rw [hb]
  cases x.toBitVec.getLsbD j <;> rfl
theorem c_take_loop (K : px_K) (N n sets : Nat) (hK : zKc K n sets) (t : px_W) {s : px_S} {W : ZSt} (h : zCx s W) (hl : 1 ≤ zLeft W) : ∀ (d k f : Nat), k + d = zLow W → d < f → l_T_take_22_2 K N f (iN k) s t = some (.inl (20, [iN (zLow W), W 29 (zLow W / 32)], s, t)) := by
  obtain ⟨l1, l2⟩ := zLow_lt hl
  have test : ∀ k, k < 64 → ∀ f, l_T_take_22_2 K N (f + 1) (iN k) s t = if tU W k = true then l_T_take_22_2 K N f (iN (k + 1)) s t else some (.inl (20, [iN k, W 29 (k / 32)], s, t)) := by
    intro k hk f
    obtain ⟨e1, e2, e3⟩ := iN_q (k := k) hk
    have hat := c_Tat K N n sets hK t s 29 (k / 32) (by omega) (by omega)
    rw [h 29 (k / 32) (by omega) (by omega) (by omega)] at hat
    have hat : f_T_at_22 K N (29 : Int32) (iN (k / 32)) s t = _ := hat
    conv => lhs; unfold l_T_take_22_2
    rw [if_neg (by show ¬ iN 64 ≤ iN k; rw [iN_le (by omega) (by omega)]; omega), e3, e2, hat]
    show (if ¬ (((W 29 (k / 32)).toUInt32 >>> ((iN (k % 32)).toUInt32 &&& Int32.toUInt32 31)).toInt32 &&& (1 : Int32)) = 0 then l_T_take_22_2 K N f (iN k + 1) s t else some (.inl (20, [iN k, W 29 (k / 32)], s, t))) = _
    rw [m_bitu _ _ (by omega), iL1, iN_add]
    unfold tU
    cases (W 29 (k / 32)).toBitVec.getLsbD (k % 32) with
    | true => rw [if_pos (by decide), if_pos rfl]
    | false => rw [if_neg (fun hx => hx rfl), if_neg Bool.noConfusion]
  intro d
  induction d with
  | zero =>
    intro k f hk hf
    obtain ⟨f, rfl⟩ : ∃ f', f = f' + 1 := ⟨f - 1, by omega⟩
    have hk : k = zLow W := by omega
    subst hk
    rw [test _ l1 f, l2, if_neg Bool.noConfusion]
  | succ d ih =>
    intro k f hk hf
    obtain ⟨f, rfl⟩ : ∃ f', f = f' + 1 := ⟨f - 1, by omega⟩
    rw [test k (by omega) f, zLow_min (show k < zLow W by omega) (by omega), if_pos rfl]
    exact ih (k + 1) f (by omega) (by omega)
theorem c_take39 (K : px_K) (N n sets : Nat) (hK : zKc K n sets) (t : px_W) (b : Nat) (hb : b < 106) : ∀ (d m f : Nat) (s : px_S) (T : ZTs), m + d = 16 → d < f → zCt s T → wp (l_T_take_22_39 K N f (iN b) (iN m) s t) (zC 49 [] t (fun s' => (∃ T' : ZTs, zCt s' T' ∧ T'.tv = T.tv ∧ T'.kp = T.kp ∧ T'.kt = T.kt ∧ T'.sq = T.sq ∧ T'.jr = T.jr ∧ T'.wd = (fun c v => if c = b ∧ m ≤ v ∧ v < 16 then 0 else T.wd c v) ∧ (T'.ch = if m < 16 then zu T.ch b true else T.ch)) ∧ zHt s s')) := by
  intro d
  induction d with
  | zero =>
    intro m n s T hm hn h
    obtain ⟨n, rfl⟩ : ∃ n', n = n' + 1 := ⟨n - 1, by omega⟩
    have hm : m = 16 := by omega
    subst hm
    unfold l_T_take_22_39
    refine wp_if (by decide) (wp_rC ⟨⟨T, h, rfl, rfl, rfl, rfl, rfl, ?_, by rw [if_neg (by omega)]⟩, zHt_refl s⟩)
    funext c v; rw [if_neg (by omega)]
  | succ d ih =>
    intro m n s T hm hn h
    obtain ⟨n, rfl⟩ : ∃ n', n = n' + 1 := ⟨n - 1, by omega⟩
    have e3 : iN m + (1 : Int32) = iN (m + 1) := by rw [iL1, iN_add]
    unfold l_T_take_22_39
    rw [e3]
    refine wp_ifn (by rw [iL16, iN_le (by omega) (by omega)]; omega) ?_
    obtain ⟨s1, a1, a2, a3⟩ := c_tell K N _ sets hK t s T h b m 0 hb (by omega)
    refine wp_bv a1 (wp_imp (ih (m + 1) n s1 _ (by omega) (by omega) a2) ?_)
    rintro r ⟨s', r1, ⟨T', q1, q2, q3, q4, q5, q6, q7, q8⟩, r3⟩
    refine ⟨s', r1, ⟨T', q1, q2, q3, q4, q5, q6, ?_, ?_⟩, zHt_trans a3 r3⟩
    · rw [q7]
      funext c v
      show (if c = b ∧ m + 1 ≤ v ∧ v < 16 then 0 else zt T.wd b m 0 c v) = _
      by_cases hcv : c = b ∧ v = m
      · rw [hcv.1, hcv.2, if_neg (by omega), if_pos (by omega), zt_self]
      · rw [zt_ne (by omega)]
        by_cases hle : c = b ∧ m ≤ v ∧ v < 16
        · rw [if_pos (by omega), if_pos hle]
        · rw [if_neg (by omega), if_neg hle]
    · rw [q8, if_pos (c := m < 16) (by omega)]
      show (if m + 1 < 16 then zu (zu T.ch b true) b true else zu T.ch b true) = _
      rw [zu_zu]
      split <;> rfl
theorem c_take (K : px_K) (N n sets : Nat) (hN : 2000 ≤ N) (hK : zKc K n sets) (t : px_W) (s : px_S) (T : ZTs) (h : zCt s T) (hl : 1 ≤ zLeft T.wd) : ∃ s', f_T_take_22 K N s t = some (.inl (some (.int (iN (42 + zLow T.wd)))), s', t) ∧ zCt s' (xTake T) ∧ zHt s s' := by
  apply wp_A
  obtain ⟨l1, l2⟩ := zLow_lt hl
  have hlp : l_T_take_22_2 K N N (0 : Int32) s t = _ := c_take_loop K N n sets hK t (zCt_x h) hl (zLow T.wd) 0 N (by omega) (by omega)
  obtain ⟨k, hk⟩ : ∃ k, k = zLow T.wd := ⟨_, rfl⟩
  obtain ⟨e1, e2, e3⟩ := iN_q (k := k) (by omega)
  unfold f_T_take_22
  rw [← hk] at hlp ⊢
  refine wp_lp hlp (wp_if rfl ?_)
  show wp (px_bv (f_T_tell_22 K N (29 : Int32) (iN k / (32 : Int32)) (T.wd 29 (k / 32) ||| ((1 : Int32) <<< ((iN k - iN k / (32 : Int32) * (32 : Int32)) &&& 31))) s t) _ _) _
  rw [e3, e2, zset_eq _ _ (by omega)]
  obtain ⟨s1, a1, a2, a3⟩ := c_tell K N n sets hK t s T h 29 (k / 32) (zset (T.wd 29 (k / 32)) (k % 32)) (by omega) (by omega)
  refine wp_bv (show f_T_tell_22 K N (29 : Int32) _ _ s t = _ from a1) (wp_let ?_)
  have e42 : (42 : Int32) + iN k = iN (42 + k) := iN_add 42 k
  rw [e42]
  obtain ⟨s2, b1, ⟨T', q1, q2, q3, q4, q5, q6, q7, q8⟩, b3⟩ := wp_C (c_take39 K N n sets hK t (42 + k) (by omega) 16 0 N s1 _ (by omega) (by omega) a2)
  refine wp_lp (show l_T_take_22_39 K N N (iN (42 + k)) (0 : Int32) s1 t = _ from b1) (wp_if rfl (wp_v0 (wp_rA ⟨?_, zHt_trans a3 b3⟩)))
  have eT : T' = xTake T := by
    have e : T' = ZTs.mk T'.tv T'.wd T'.kp T'.ch T'.kt T'.sq T'.jr := rfl
    rw [e, q2, q3, q4, q5, q6, q7, q8, if_pos (by omega)]
    unfold xTake
    rw [← hk]
    show ZTs.mk T.tv _ T.kp (zu (zu T.ch 29 true) (42 + k) true) T.kt T.sq T.jr = _
    congr 1
    funext c v
    show (if c = 42 + k ∧ 0 ≤ v ∧ v < 16 then 0 else zt T.wd 29 (k / 32) (zset (T.wd 29 (k / 32)) (k % 32)) c v) = tTake T.wd k c v
    unfold tTake
    by_cases hc : c = 42 + k
    · rw [if_pos hc]
      by_cases hv : v < 16
      · rw [if_pos ⟨hc, Nat.zero_le _, hv⟩, if_pos hv]
      · rw [if_neg (fun hx => hv hx.2.2), if_neg hv, hc, zt_blk (by omega)]
    · rw [if_neg (fun hx => hc hx.1), if_neg hc]
  rw [← eT]; exact q1
theorem c_tellBlockOf (K : px_K) (N n sets : Nat) (hK : zKc K n sets) (t : px_W) (s : px_S) (T : ZTs) (h : zCt s T) (hv : zPv T.wd) (i k : Nat) (x : Int32) (hi : i < 24) (hk : k < 20) (hF : 4 ≤ k → tF T.wd i ≠ 0) : ∃ s', f_T_tellBlockOf_22 K N (iN i) (iN k) x s t = some (.inl none, s', t) ∧ zCt s' (if k < 4 then xI T i (2 + k) x else xT T (tF T.wd i) (k - 4) x) ∧ zHt s s' := by
  apply wp_B
  unfold f_T_tellBlockOf_22
  by_cases h4 : k < 4
  · rw [if_pos h4]
    have e : (2 : Int32) + iN k = iN (2 + k) := iN_add 2 k
    rw [e]
    obtain ⟨s1, a1, a2, a3⟩ := c_tellInode K N n sets hK t s T h i (2 + k) x hi (by omega)
    exact wp_ifn (by show ¬ iN 4 ≤ iN k; rw [iN_le (by omega) (by omega)]; omega) (wp_bv a1 (wp_rB ⟨a2, a3⟩))
  · rw [if_neg h4]
    have e : iN k - (4 : Int32) = iN (k - 4) := iN_sub (b := 4) (by omega)
    have hx := zCt_x h
    have hf0 := hF (by omega)
    obtain ⟨q1, q2⟩ := hv i 20 hi (by omega)
    rw [← tF_eq] at q2
    have hind := c_indirectOf K N n sets hK t hx hv i hi
    rw [e]
    obtain ⟨s1, a1, a2, a3⟩ := c_tell K N n sets hK t s T h (tF T.wd i) (k - 4) x (by omega) (by omega)
    exact wp_if (by show iN 4 ≤ iN k; rw [iN_le (by omega) (by omega)]; omega) (wp_bi hind (wp_ifn (by rw [iL0, iN_eq (by omega) (by omega)]; exact hf0) (wp_bi hind (wp_bv a1 (wp_rB ⟨a2, a3⟩)))))
theorem c_addBlock (K : px_K) (N n sets : Nat) (hN : 2000 ≤ N) (hK : zKc K n sets) (t : px_W) (s : px_S) (T : ZTs) (h : zCt s T) (hw : ZW T.wd) (i k : Nat) (hi : i < 24) (hk : k < 20) (hk0 : tI T.wd i 0 ≠ 0) (hD : tI T.wd i 0 = 1 → tS T.wd i ≤ 8 * k) : wp (f_T_addBlock_22 K N (iN i) (iN k) s t) (zA (if zWn T.wd i k ≤ zLeft T.wd then iN (42 + zLow (xFor1 T i k).wd) else 0) t (fun s' => zCt s' (if zWn T.wd i k ≤ zLeft T.wd then xFor T i k else T) ∧ zHt s s')) := by
  have hx := zCt_x h
  have hle := zLeft_le T.wd
  have hub := c_usedBlocks K N n sets hK t hx
  have eleft : (64 : Int32) - iN (64 - zLeft T.wd) = iN (zLeft T.wd) := by
    have := iN_sub (a := 64) (b := 64 - zLeft T.wd) (by omega)
    rw [show 64 - (64 - zLeft T.wd) = zLeft T.wd by omega] at this
    exact this
  -- the block itself, once its indirect block is there
  have go : ∀ (u : px_S) (U : ZTs), zCt u U → ZW U.wd → 1 ≤ zLeft U.wd → (4 ≤ k → tF U.wd i ≠ 0) → zHt s u → wp (α := px_Res) (px_bi (f_T_take_22 K N u t) (fun v16 s13 t14 => (px_bv (f_T_tellBlockOf_22 K N (iN i) (iN k) v16 s13 t14) (fun s18 t19 => (some (.inl (some (.int v16)), s18, t19))) (fun x22 s18 t19 => none))) (fun x17 s13 t14 => none)) (zA (iN (42 + zLow U.wd)) t (fun s' => zCt s' (xFor2 U i k) ∧ zHt s s')) := by
    intro u U hu hwu hlu hfu hsu
    obtain ⟨s1, a1, a2, a3⟩ := c_take K N n sets hN hK t u U hu hlu
    obtain ⟨l1, l2⟩ := zLow_lt hlu
    have htk := hwu.take l2
    have hF : tF (xTake U).wd i = tF U.wd i := by show n32 (tI (tTake U.wd (zLow U.wd)) i 6) = n32 (tI U.wd i 6); rw [htk.2.1 i 6 hi]
    obtain ⟨s2, b1, b2, b3⟩ := c_tellBlockOf K N n sets hK t s1 (xTake U) a2 htk.1.a.pv i k (iN (42 + zLow U.wd)) hi hk (fun hx => by rw [hF]; exact hfu hx)
    exact wp_bi a1 (wp_bv b1 (wp_rA ⟨b2, zHt_trans hsu (zHt_trans a3 b3)⟩))
  unfold f_T_addBlock_22
  by_cases h4 : k < 4
  · have hc : ¬ (4 ≤ k ∧ tF T.wd i = 0) := fun hx => by omega
    have ewn : zWn T.wd i k = 1 := by unfold zWn; rw [if_neg hc]
    have e1 : xFor1 T i k = T := by unfold xFor1; rw [if_neg hc]
    have e2 : xFor T i k = xFor2 T i k := by unfold xFor; rw [e1]
    rw [ewn, e1, e2]
    refine wp_if (by show iN k < iN 4; rw [iN_lt (by omega) (by omega)]; exact h4) (wp_bi hub (wp_let ?_))
    rw [eleft]
    refine wp_ifn (iN_neg (by omega)) (wp_ifn (by show ¬ iN 20 ≤ iN k; rw [iN_le (by omega) (by omega)]; omega) ?_)
    by_cases hl : 1 ≤ zLeft T.wd
    · rw [if_pos (c := 1 ≤ zLeft T.wd) hl, if_pos (c := 1 ≤ zLeft T.wd) hl]
      exact wp_if (by show iN 1 ≤ _; rw [iN_le (by omega) (by omega)]; exact hl) (wp_if rfl (go s T h hw hl (fun hx => by omega) (zHt_refl s)))
    · rw [if_neg (c := 1 ≤ zLeft T.wd) hl, if_neg (c := 1 ≤ zLeft T.wd) hl]
      exact wp_ifn (by show ¬ iN 1 ≤ _; rw [iN_le (by omega) (by omega)]; exact hl) (wp_rA ⟨h, zHt_refl s⟩)
  · refine wp_ifn (by show ¬ iN k < iN 4; rw [iN_lt (by omega) (by omega)]; omega) ?_
    have hind := c_indirectOf K N n sets hK t hx hw.a.pv i hi
    obtain ⟨q1, q2⟩ := hw.a.pv i 20 hi (by omega)
    rw [← tF_eq] at q2
    refine wp_bi hind ?_
    by_cases hf : tF T.wd i = 0
    · have hc : 4 ≤ k ∧ tF T.wd i = 0 := ⟨by omega, hf⟩
      have ewn : zWn T.wd i k = 2 := by unfold zWn; rw [if_pos hc]
      have e1 : xFor1 T i k = xI (xTake T) i 6 (iN (42 + zLow T.wd)) := by unfold xFor1; rw [if_pos hc]
      have hU : (xI (xTake T) i 6 (iN (42 + zLow T.wd))).wd = zTk1 T.wd i := rfl
      have e2 : xFor T i k = xFor2 (xI (xTake T) i 6 (iN (42 + zLow T.wd))) i k := by unfold xFor; rw [e1]
      rw [hf, if_neg (c := ¬ iN 0 = 0) (fun hx => hx rfl)]
      refine wp_let (wp_bi hub (wp_let ?_))
      rw [eleft, ewn]
      refine wp_ifn (iN_neg (by omega)) (wp_ifn (by show ¬ iN 20 ≤ iN k; rw [iN_le (by omega) (by omega)]; omega) ?_)
      by_cases hl : 2 ≤ zLeft T.wd
      · rw [if_pos (c := 2 ≤ zLeft T.wd) hl, if_pos (c := 2 ≤ zLeft T.wd) hl, e2, e1]
        refine wp_if (by show iN 2 ≤ _; rw [iN_le (by omega) (by omega)]; exact hl) (wp_ifn (by decide) ?_)
        obtain ⟨hp, hl2⟩ := zfor_1 hw hi hk hk0 (by rw [ewn]; exact hl) hD hc
        obtain ⟨s1, a1, a2, a3⟩ := c_take K N n sets hN hK t s T h (by omega)
        refine wp_bi a1 ?_
        obtain ⟨s2, b1, b2, b3⟩ := c_tellInode K N n sets hK t s1 (xTake T) a2 i 6 (iN (42 + zLow T.wd)) hi (by omega)
        refine wp_bv b1 ?_
        exact go s2 _ b2 (by rw [hU]; exact hp.w) (by rw [hU]; exact hl2) (fun _ => by
          rw [hU, tF_eq]; unfold tB; rw [hp.n, n32_iN (by have := (zLow_lt (T := T.wd) (by omega)).1; omega)]; omega) (zHt_trans a3 b3)
      · rw [if_neg (c := 2 ≤ zLeft T.wd) hl, if_neg (c := 2 ≤ zLeft T.wd) hl]
        exact wp_ifn (by show ¬ iN 2 ≤ _; rw [iN_le (by omega) (by omega)]; exact hl) (wp_rA ⟨h, zHt_refl s⟩)
    · have hc : ¬ (4 ≤ k ∧ tF T.wd i = 0) := fun hx => hf hx.2
      have ewn : zWn T.wd i k = 1 := by unfold zWn; rw [if_neg hc]
      have e1 : xFor1 T i k = T := by unfold xFor1; rw [if_neg hc]
      have e2 : xFor T i k = xFor2 T i k := by unfold xFor; rw [e1]
      rw [if_pos (c := ¬ iN (tF T.wd i) = 0) (by rw [iL0, iN_eq (by omega) (by omega)]; exact hf)]
      refine wp_let (wp_bi hub (wp_let ?_))
      rw [eleft, ewn, e1, e2]
      refine wp_ifn (iN_neg (by omega)) (wp_ifn (by show ¬ iN 20 ≤ iN k; rw [iN_le (by omega) (by omega)]; omega) ?_)
      by_cases hl : 1 ≤ zLeft T.wd
      · rw [if_pos (c := 1 ≤ zLeft T.wd) hl, if_pos (c := 1 ≤ zLeft T.wd) hl]
        exact wp_if (by show iN 1 ≤ _; rw [iN_le (by omega) (by omega)]; exact hl) (wp_if rfl (go s T h hw hl (fun _ => hf) (zHt_refl s)))
      · rw [if_neg (c := 1 ≤ zLeft T.wd) hl, if_neg (c := 1 ≤ zLeft T.wd) hl]
        exact wp_ifn (by show ¬ iN 1 ≤ _; rw [iN_le (by omega) (by omega)]; exact hl) (wp_rA ⟨h, zHt_refl s⟩)

