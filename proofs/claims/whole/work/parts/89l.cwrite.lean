/-! A FILE'S BLOCK, WRITE (the class) -/
theorem ZIv.rf {P : Nat → ZSt → Prop} {Q : ZSt → Prop} {v : ZVs} (h : ZIv P Q v) (hw : v.wf = true) : ZRf P v := by
  rcases zAw_iv (Or.inl ⟨h.up, h⟩) hw with ⟨_, h1, _⟩ | hd
  · exact h1
  · have := hd.up
    rw [h.up] at this; cases this
theorem c_load {W : ZSt → Prop} (K : px_K) (N n sets : Nat) (hN : 2000 ≤ N) (hK : zKc K n sets) (t : px_W) (s : px_S) (T : ZTs) (hn : T.tv.n = n) (hsets : T.tv.sets = sets) (h : zCt s T) (hi : ZTi W T) (hna : T.tv.p.na + 20000 < 2147483648) (b : Nat) (h42 : 42 ≤ b) (h106 : b < 106) : wp (f_T_loadFileBlock_22 K N (iN b) s t) (zO n none t s (xFetch T b).tv.p (fun u => zCt u (xFetch T b) ∧ zHt s u)) := by
  have k25 : K.2.2 25 = 106 := hK.2.2.2.2.2.2.2.2.2.2.2.2.2.2.2.2.2.1
  have k26 : K.2.2 26 = 106 := hK.2.2.2.2.2.2.2.2.2.2.2.2.2.2.2.2.2.2.1
  have hup := hi.iv.up
  obtain ⟨v, j1, j2, j3, j4, j5, j6, j7, j8⟩ := id h
  unfold f_T_loadFileBlock_22 xFetch
  rw [iN_nat (by omega), j3 b h106, j4 b h106]
  refine wp_ifn (by show ¬ iN b < iN 42; rw [iN_lt (by omega) (by omega)]; omega) (wp_ifn (by show ¬ iN 106 ≤ iN b; rw [iN_le (by omega) (by omega)]; omega) (wp_gd (by rw [k25]; exact iN_in (by omega) h106) ?_))
  cases hc : T.ch b with
  | true =>
    rw [Bool.true_or, if_pos (c := true = true) rfl]
    exact wp_if (by decide) (wp_rO hup ⟨h, zHt_refl s⟩)
  | false =>
    refine wp_ifn (fun hx => hx rfl) (wp_gd (by rw [k26]; exact iN_in (by omega) h106) ?_)
    cases hk : T.kt b with
    | true =>
      rw [Bool.or_true, if_pos (c := true = true) rfl]
      exact wp_if (by decide) (wp_rO hup ⟨h, zHt_refl s⟩)
    | false =>
      rw [Bool.or_false, if_neg (c := false = true) Bool.noConfusion]
      refine wp_ifn (fun hx => hx rfl) ?_
      have hf := c_fetch (P := zGood W) K N n sets hN hK t s T.tv hn hsets v hup (fun hw => hi.iv.rf hw) hna b h106
      refine wp_cv hf (zHx_refl s) (fun _ => rfl) (fun u hu2 hR => ?_)
      obtain ⟨q1, g, g1, g2, g3⟩ := hR
      have ecur : T.tv.cur b = T.wd b := by
        rw [hi.wc b (by omega) hc]
        unfold zTc; rw [hk]; rfl
      have hj : zCj (sF s 23 g) T := by
        refine ⟨fun c w hc1 hc2 hw => ?_, fun c w a1 a2 a3 => by rw [sF_arr_ne (by omega)]; exact j2 c w a1 a2 a3, fun c a => by rw [sF_arr_ne (by omega)]; exact j3 c a, fun c a => by rw [sF_arr_ne (by omega)]; exact j4 c a, j5, j6, j7, j8⟩
        rw [sF_arr]
        by_cases hcb : c = b
        · rw [hcb, g1 w hw, ecur]
        · rw [g2 c w hcb hw]; exact j1 c w hc1 hc2 hw
      exact wp_rO hu2 ⟨⟨q1, zCj_tv (zCj_v hj g3) _⟩, zHt_trans (zHt_sF (by omega)) (zHv_t g3)⟩
theorem wp_AO {n : Nat} {a : Int32} {t : px_W} {s : px_S} {p : ZPw} {R R' : px_S → Prop} {x : Option px_Res} (h : wp x (zA a t R)) (hu : p.up = true) (hR : ∀ u, R u → R' u) : wp x (zO n (some (.int a)) t s p R') := by
  refine wp_imp h ?_
  rintro r ⟨u, r1, r2⟩
  exact Or.inl ⟨hu, u, r1, hR u r2⟩
theorem c_put (K : px_K) (N n sets : Nat) (hK : zKc K n sets) (t16 : px_W) (s15 : px_S) (T : ZTs) (h : zCt s15 T) (i b p : Nat) (hi : i < 24) (hb1 : 42 ≤ b) (hb2 : b < 106) (hp : p < 320) (hsz : tI T.wd i 1 = iN (tS T.wd i)) (hs : tS T.wd i ≤ 320) (a0 a1 a2 v18 : Int32) (ha0 : a0 = iN i) (ha1 : a1 = iN p) (hv : v18 = iN b) : wp (α := px_Res) (px_bv (f_T_tell_22 K N v18 (a1 - a1 / (16 : Int32) * (16 : Int32)) a2 s15 t16) (fun s21 t22 => (px_bi (f_T_inodeWord_22 K N a0 (1 : Int32) s21 t22) (fun v29 s26 t27 => (if a1 < v29 then (px_bi (f_T_inodeWord_22 K N a0 (1 : Int32) s26 t27) (fun v35 s32 t33 => (some (.inl (some (.int v35)), s32, t33))) (fun x36 s32 t33 => none)) else (px_bv (f_T_tellInode_22 K N a0 (1 : Int32) (a1 + (1 : Int32)) s26 t27) (fun s37 t38 => (px_bi (f_T_inodeWord_22 K N a0 (1 : Int32) s37 t38) (fun v45 s42 t43 => (some (.inl (some (.int v45)), s42, t43))) (fun x46 s42 t43 => none))) (fun x41 s37 t38 => none)))) (fun x30 s26 t27 => none))) (fun x25 s21 t22 => none)) (zA (iN (max (tS T.wd i) (p + 1))) t16 (fun s' => zCt s' (xPut T i b p a2) ∧ zHt s15 s')) := by
  subst ha0 ha1 hv
  rw [iL16, iN_rem (by omega) (by omega) (by omega)]
  obtain ⟨s1, a1, a2', a3⟩ := c_tell K N n sets hK t16 s15 T h b (p % 16) a2 hb2 (by omega)
  refine wp_bv a1 ?_
  have hI : tI (zt T.wd b (p % 16) a2) i 1 = tI T.wd i 1 := tI_out (fun c c1 c2 => zt_blk (by omega)) hi
  have hr : f_T_inodeWord_22 K N (iN i) (1 : Int32) s1 t16 = _ := c_inodeWord K N n sets hK t16 (zCt_x a2') i 1 hi (by omega)
  have hr : f_T_inodeWord_22 K N (iN i) (1 : Int32) s1 t16 = some (.inl (some (.int (iN (tS T.wd i)))), s1, t16) := by
    rw [hr, ← hsz, ← hI]; rfl
  refine wp_bi hr ?_
  unfold xPut
  by_cases hlt : p < tS T.wd i
  · rw [if_pos hlt]
    have em : max (tS T.wd i) (p + 1) = tS T.wd i := by omega
    rw [em]
    exact wp_if ((iN_lt (by omega) (by omega)).mpr hlt) (wp_bi hr (wp_rA ⟨a2', a3⟩))
  · rw [if_neg hlt]
    have em : max (tS T.wd i) (p + 1) = p + 1 := by omega
    rw [em]
    have e1 : iN p + (1 : Int32) = iN (p + 1) := by rw [iL1, iN_add]
    rw [e1]
    refine wp_ifn (fun hx => hlt ((iN_lt (by omega) (by omega)).mp hx)) ?_
    obtain ⟨s2, b1, b2, b3⟩ := c_tellInode K N n sets hK t16 s1 _ a2' i 1 (iN (p + 1)) hi (by omega)
    refine wp_bv b1 ?_
    have hr2 : f_T_inodeWord_22 K N (iN i) (1 : Int32) s2 t16 = _ := c_inodeWord K N n sets hK t16 (zCt_x b2) i 1 hi (by omega)
    have hI2 : tI (zt (zt T.wd b (p % 16) a2) (30 + i / 2) (8 * (i % 2) + 1) (iN (p + 1))) i 1 = iN (p + 1) := by rw [tI_zt (by omega) (by omega), if_pos ⟨rfl, rfl⟩]
    have hr2 : f_T_inodeWord_22 K N (iN i) (1 : Int32) s2 t16 = some (.inl (some (.int (iN (p + 1)))), s2, t16) := by
      rw [hr2]
      show some ((.inl (some (.int (tI (zt (zt T.wd b (p % 16) a2) (30 + i / 2) (8 * (i % 2) + 1) (iN (p + 1))) i 1))), s2, t16) : px_Res) = _
      rw [hI2]
    exact wp_bi hr2 (wp_rA ⟨b2, zHt_trans a3 b3⟩)
theorem c_writeInt (K : px_K) (N n sets : Nat) (hN : 2000 ≤ N) (hK : zKc K n sets) (t : px_W) (s : px_S) (T : ZTs) (hn : T.tv.n = n) (hsets : T.tv.sets = sets) (h : zCt s T) (hi : ZTi ZW T) (hna : T.tv.p.na + 20000 < 2147483648) (a0 a1 a2 : Int32) : wp (f_T_writeInt_22 K N a0 a1 a2 s t) (zO n (some (.int (xWrite T a0 a1 a2).1)) t s (xWrite T a0 a1 a2).2.tv.p (fun u => zCt u (xWrite T a0 a1 a2).2 ∧ zHt s u)) := by
  have hx := zCt_x h
  have hw : ZW T.wd := hi.ww
  have hup := hi.iv.up
  have same : ∀ (a : Int32) (F : Option px_Res), wp F (zA a t (fun s' => zCt s' T ∧ zHt s s')) → xWrite T a0 a1 a2 = (a, T) → wp F (zO n (some (.int (xWrite T a0 a1 a2).1)) t s (xWrite T a0 a1 a2).2.tv.p (fun u => zCt u (xWrite T a0 a1 a2).2 ∧ zHt s u)) := by
    intro a F hF he; rw [he]; exact wp_AO hF hup (fun _ hu => hu)
  have hT : zCt s T ∧ zHt s s := ⟨h, zHt_refl s⟩
  unfold f_T_writeInt_22
  refine wp_bi (c_isFile K N n sets hK t hx a0) ?_
  cases hkb : zKb T.wd a0 2 with
  | false => exact same (-4) _ (wp_if rfl (wp_rA hT)) (if_neg (fun hx => by rw [hkb] at hx; cases hx.1))
  | true =>
    obtain ⟨k1, k2, k3⟩ := zKd_of hkb
    refine wp_ifn (by decide) ?_
    by_cases c1 : a1 < 0
    · exact same (-4) _ (wp_if c1 (wp_rA hT)) (if_neg (fun hx => absurd hx.2.1 (Int32.not_le.mpr c1)))
    refine wp_ifn c1 ?_
    by_cases c2 : a1 < 320
    · refine wp_if c2 ?_
      obtain ⟨p1, p2⟩ := i32_320 (Int32.not_lt.mp c1) c2
      obtain ⟨i, hi'⟩ : ∃ i, i = n32 a0 := ⟨_, rfl⟩
      obtain ⟨p, hp'⟩ : ∃ p, p = n32 a1 := ⟨_, rfl⟩
      have hxm : xWrite T a0 a1 a2 = (if tB T.wd i (p / 16) = 0 then
        (if zWn T.wd i (p / 16) ≤ zLeft T.wd then (iN (max (tS T.wd i) (p + 1)), xPut (xFor T i (p / 16)) i (42 + zLow (xFor1 T i (p / 16)).wd) p a2) else (-3, T))
        else (if (xFetch T (tB T.wd i (p / 16))).tv.p.up = true then (iN (max (tS T.wd i) (p + 1)), xPut (xFetch T (tB T.wd i (p / 16))) i (tB T.wd i (p / 16)) p a2) else (-9, xFetch T (tB T.wd i (p / 16))))) := by
        rw [hi', hp']; exact if_pos ⟨hkb, Int32.not_lt.mp c1, c2⟩
      rw [← hi'] at k1 k2 k3
      rw [← hp'] at p1 p2
      obtain ⟨z1, z2⟩ := zfile_size hw.a k2 k3
      have hr := (hw.a.pv i (p / 16) k2 (by omega)).2
      have hb := c_blockOf K N n sets hK t hx hw.a.pv i (p / 16) k2 (by omega)
      have ed : a1 / (16 : Int32) = iN (p / 16) := by rw [p1, iL16, iN_div (by omega) (by omega) (by omega)]
      rw [← k1, ← ed] at hb
      refine wp_bi hb ?_
      have hk0 : tI T.wd i 0 ≠ 0 := by rw [k3]; decide
      have hD : tI T.wd i 0 = 1 → tS T.wd i ≤ 8 * (p / 16) := fun hx => by rw [k3] at hx; exact absurd hx (by decide)
      by_cases h0 : tB T.wd i (p / 16) = 0
      · rw [if_pos h0] at hxm
        refine wp_if (by rw [h0]; rfl) ?_
        have ha := c_addBlock K N n sets hN hK t s T h hw i (p / 16) k2 (by omega) hk0 hD
        rw [← k1, ← ed] at ha
        by_cases hl : zWn T.wd i (p / 16) ≤ zLeft T.wd
        · rw [if_pos hl] at hxm
          rw [if_pos hl, if_pos hl] at ha
          obtain ⟨s4, b1, b2, b3⟩ := wp_A ha
          obtain ⟨f1, f2, f3, f4, f5, f6, f7⟩ := zfor_ok hw k2 (show p / 16 < 20 by omega) hk0 hl hD
          have hlow := (zLow_lt f2).1
          obtain ⟨_, st⟩ := zfor_step hw k2 (show p / 16 < 20 by omega) hk0 hl hD
          have htv : (xFor T i (p / 16)).tv = T.tv := st.1
          have hI1 : tI (xFor T i (p / 16)).wd i 1 = tI T.wd i 1 := (f7.i i 1 k2 (by omega) (by omega)).trans (f4 i 1 k2 (by omega))
          have hS1 : tS (xFor T i (p / 16)).wd i = tS T.wd i := tS_of hI1
          rw [hxm]
          have e : (xPut (xFor T i (p / 16)) i (42 + zLow (xFor1 T i (p / 16)).wd) p a2).tv = T.tv := by
            unfold xPut; split
            · exact htv
            · exact htv
          refine wp_bi b1 (wp_if (by rw [iL0, iN_eq (by omega) (by omega)]; omega) ?_)
          have hput := c_put K N n sets hK t s4 (xFor T i (p / 16)) b2 i (42 + zLow (xFor1 T i (p / 16)).wd) p k2 (by omega) (by omega) p2 (by rw [hI1, hS1]; exact z1) (by rw [hS1]; exact z2) a0 a1 a2 _ k1 p1 rfl
          rw [hS1] at hput
          exact wp_AO hput (by show (xPut (xFor T i (p / 16)) i (42 + zLow (xFor1 T i (p / 16)).wd) p a2).tv.p.up = true; rw [e]; exact hup) (fun u hu => ⟨hu.1, zHt_trans b3 hu.2⟩)
        · rw [if_neg hl] at hxm
          rw [if_neg hl, if_neg hl] at ha
          obtain ⟨s4, b1, b2, b3⟩ := wp_A ha
          exact same (-3) _ (wp_bi b1 (wp_ifn (fun hx => hx rfl) (wp_rA ⟨b2, b3⟩))) hxm
      · rw [if_neg h0] at hxm
        have hne : ¬ iN (tB T.wd i (p / 16)) = 0 := by rw [iL0, iN_eq (by omega) (by omega)]; exact h0
        refine wp_ifn hne ?_
        have hl := c_load K N n sets hN hK t s T hn hsets h hi hna (tB T.wd i (p / 16)) (by omega) (by omega)
        obtain ⟨x1, x2, x3, x4, x5, x6⟩ := xFetch_same T (tB T.wd i (p / 16))
        cases hup2 : (xFetch T (tB T.wd i (p / 16))).tv.p.up with
        | true =>
          rw [if_pos hup2] at hxm
          rw [hxm]
          have e : (xPut (xFetch T (tB T.wd i (p / 16))) i (tB T.wd i (p / 16)) p a2).tv = (xFetch T (tB T.wd i (p / 16))).tv := by unfold xPut; split <;> rfl
          refine wp_cv hl (zHx_refl s) (fun hx => by rw [hup2] at hx; cases hx) (fun u _ hu => ?_)
          refine wp_if hne ?_
          have hput := c_put K N n sets hK t u (xFetch T (tB T.wd i (p / 16))) hu.1 i (tB T.wd i (p / 16)) p k2 (by omega) (by omega) p2 (by rw [x1]; exact z1) (by rw [x1]; exact z2) a0 a1 a2 _ k1 p1 rfl
          rw [x1] at hput
          exact wp_AO hput (by show (xPut (xFetch T (tB T.wd i (p / 16))) i (tB T.wd i (p / 16)) p a2).tv.p.up = true; rw [e]; exact hup2) (fun v hv => ⟨hv.1, zHt_trans hu.2 hv.2⟩)
        | false =>
          rw [if_neg (by rw [hup2]; exact Bool.noConfusion)] at hxm
          rw [hxm]
          exact wp_cv hl (zHx_refl s) (fun _ => rfl) (fun u hx _ => by rw [hup2] at hx; cases hx)
    · exact same (-4) _ (wp_ifn c2 (wp_rA hT)) (if_neg (fun hx => c2 hx.2.2))
