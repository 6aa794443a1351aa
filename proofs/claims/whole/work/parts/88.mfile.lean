/-! A FILE'S BLOCK IS FETCHED (the reference) -/
def xFetch (T : ZTs) (b : Nat) : ZTs := if (T.ch b || T.kt b) = true then T else T.s_tv (T.tv.rdv b)
theorem xFetch_same (T : ZTs) (b : Nat) : (xFetch T b).wd = T.wd ∧ (xFetch T b).ch = T.ch ∧ (xFetch T b).kt = T.kt ∧ (xFetch T b).kp = T.kp ∧ (xFetch T b).sq = T.sq ∧ (xFetch T b).jr = T.jr := by
  unfold xFetch; split <;> exact ⟨rfl, rfl, rfl, rfl, rfl, rfl⟩
theorem m_fetch {W : ZSt → Prop} (K : px_K) (N : Nat) (hN : 2000 ≤ N) (hK : zKm K) (t : px_W) (s : px_S) (T : ZTs) (h : zRt s T) (hm : zMm T.tv) (hi : ZTi W T) (b : Nat) (h42 : 42 ≤ b) (h106 : b < 106) : ∃ s', f_M_fetch_28 K N (iN b) s t = some (.inl none, s', t) ∧ zRt s' (xFetch T b) ∧ zMm (xFetch T b).tv ∧ zFt s s' := by
  have h41 : K.2.2 41 = 106 := hK.2.2.2.2.2.2.2.2.2.2.2.2.1
  have h42' : K.2.2 42 = 106 := hK.2.2.2.2.2.2.2.2.2.2.2.2.2.1
  apply wp_B
  unfold f_M_fetch_28 xFetch
  rw [iN_nat (by omega), h.2.2.2.1 b h106, h.2.2.2.2.1 b h106]
  refine wp_gd (by rw [h41]; exact iN_in (by omega) h106) ?_
  cases hc : T.ch b with
  | true =>
    rw [Bool.true_or, if_pos (c := true = true) rfl]
    exact wp_if (by decide) (wp_rB ⟨h, hm, zFt_refl s⟩)
  | false =>
    refine wp_ifn (fun hx => hx rfl) (wp_gd (by rw [h42']; exact iN_in (by omega) h106) ?_)
    cases hk : T.kt b with
    | true =>
      rw [Bool.or_true, if_pos (c := true = true) rfl]
      exact wp_if (by decide) (wp_rB ⟨h, hm, zFt_refl s⟩)
    | false =>
      rw [Bool.or_false, if_neg (c := false = true) Bool.noConfusion]
      refine wp_ifn (fun hx => hx rfl) ?_
      obtain ⟨s1, a1, a2, a3, a4⟩ := m_rdv K N hN hK t b h106 s T.tv h.1 hm
      have ecur : T.tv.cur b = T.wd b := by
        rw [hi.wc b (by omega) hc]
        unfold zTc; rw [hk]; rfl
      rw [ecur] at a4
      have a4 : zFv (sF s 39 (va_cpy (T.wd b) (s.2.2.1 39) 0 (16 * b) 16)) s1 := a4
      refine wp_bv a1 (wp_rB ⟨⟨a2, ?_⟩, a3, zFt_trans (zFt_sF (by omega)) (zFt_fv a4)⟩)
      have hj : zRj (sF s 39 (va_cpy (T.wd b) (s.2.2.1 39) 0 (16 * b) 16)) T := by
        obtain ⟨j1, j2, j3, j4, j5, j6⟩ := h.2
        refine ⟨fun c w hc' hw => ?_, fun c w hc' hw hx => by rw [sF_arr_ne (by omega)]; exact j2 c w hc' hw hx, fun c hc' => by rw [sF_arr_ne (by omega)]; exact j3 c hc', fun c hc' => by rw [sF_arr_ne (by omega)]; exact j4 c hc', j5, j6⟩
        rw [sF_arr]
        unfold va_cpy
        by_cases hcb : c = b
        · rw [if_pos (by omega), hcb]
          congr 1; omega
        · rw [if_neg (by omega)]; exact j1 c w hc' hw
      exact zRj_fv hj a4
/-- a fetch keeps the tree in order, or the power goes -/
theorem zfetch_ok {W : ZSt → Prop} {T : ZTs} (hi : ZTi W T) {b : Nat} (hb : b < 106) : ZTOk W (fun U => ZTi W U) (xFetch T b) := by
  unfold xFetch
  split
  · exact Or.inl ⟨hi.iv.up, hi⟩
  · have hz := zfr_rdv T.tv b
    have hn := hz.n1
    rcases hi.iv.rdv (zGood_mono W) hb with ⟨hu, q1, q2⟩ | q
    · left
      refine ⟨hu, ?_⟩
      obtain ⟨i1, i2, i3, i4, i5, i6, i7, i8⟩ := hi
      obtain ⟨u, hu'⟩ : ∃ u, u = T.tv.rdv b := ⟨_, rfl⟩
      rw [← hu'] at q1 q2 hn ⊢
      have etc : zTc (T.s_tv u) = zTc T := by
        funext c
        show (if T.kt c = true then T.kp c else u.cur c) = (if T.kt c = true then T.kp c else T.tv.cur c)
        rw [q2]
      refine ⟨?_, ?_, by rw [etc]; exact i3, i4, by rw [etc]; exact i5, i6, i7, ?_⟩
      · show ZIv (zGood W) (fun V => V = u.cur) u
        rw [q2]; exact q1
      · show ∃ s0 cs, ZJn u.cur s0 T.sq T.jr cs ∧ (∀ b, T.kt b = true ↔ ∃ e ∈ zPr u.cur 1 cs, e.1 = b) ∧ (∀ b, T.kt b = true → T.kp b = zov u.cur (zPr u.cur 1 cs) b)
        rw [q2]; exact i2
      · show T.sq ≤ u.p.na + 1
        omega
    · exact Or.inr q
/-! WRITE (the reference) -/
/-- a word of a file is told, and its size -/
def xPut (T : ZTs) (i b p : Nat) (x : Int32) : ZTs := if p < tS T.wd i then xT T b (p % 16) x else xI (xT T b (p % 16) x) i 1 (iN (p + 1))
theorem m_put (K : px_K) (N : Nat) (hK : zKm K) (t24 : px_W) (s23 : px_S) (T : ZTs) (h : zRt s23 T) (i b p : Nat) (hi : i < 24) (hb1 : 42 ≤ b) (hb2 : b < 106) (hp : p < 320) (hsz : tI T.wd i 1 = iN (tS T.wd i)) (hs : tS T.wd i ≤ 320) (a0 a1 a2 v20 : Int32) (ha0 : a0 = iN i) (ha1 : a1 = iN p) (hv : v20 = iN b) : wp (px_bv (f_M_tell_28 K N v20 (a1 - a1 / (16 : Int32) * (16 : Int32)) a2 s23 t24) (fun s29 t30 => (px_bi (f_M_ofInode_28 K N a0 (1 : Int32) s29 t30) (fun v37 s34 t35 => (if a1 < v37 then (px_bi (f_M_ofInode_28 K N a0 (1 : Int32) s34 t35) (fun v43 s40 t41 => (some (.inl (some (.int v43)), s40, t41))) (fun x44 s40 t41 => none)) else (px_bv (f_M_tellInode_28 K N a0 (1 : Int32) (a1 + (1 : Int32)) s34 t35) (fun s45 t46 => (px_bi (f_M_ofInode_28 K N a0 (1 : Int32) s45 t46) (fun v53 s50 t51 => (some (.inl (some (.int v53)), s50, t51))) (fun x54 s50 t51 => none))) (fun x49 s45 t46 => none)))) (fun x38 s34 t35 => none))) (fun x33 s29 t30 => none)) (zA (iN (max (tS T.wd i) (p + 1))) t24 (fun s' => zRt s' (xPut T i b p a2) ∧ zFt s23 s')) := by
  subst ha0 ha1 hv
  rw [iL16, iN_rem (by omega) (by omega) (by omega)]
  obtain ⟨s1, a1, a2', a3⟩ := m_tell K N hK t24 s23 T h b (p % 16) a2 hb2 (by omega)
  refine wp_bv a1 ?_
  have hws1 : zWs s1 (zt T.wd b (p % 16) a2) := a2'.2.1
  have hI : tI (zt T.wd b (p % 16) a2) i 1 = tI T.wd i 1 := tI_out (fun c c1 c2 => zt_blk (by omega)) hi
  have hr : f_M_ofInode_28 K N (iN i) (1 : Int32) s1 t24 = _ := m_ofInode K N hK t24 hws1 i 1 hi (by omega)
  rw [hI, hsz] at hr
  refine wp_bi hr ?_
  unfold xPut
  by_cases hlt : p < tS T.wd i
  · rw [if_pos hlt]
    have em : max (tS T.wd i) (p + 1) = tS T.wd i := by omega
    rw [em]
    exact wp_if ((iN_lt (by omega) (by omega)).mpr hlt) (wp_bi hr (wp_rA ⟨a2', a3⟩))
  · rw [if_neg hlt]
    have em : max (tS T.wd i) (p + 1) = p + 1 := by omega
    rw [em]
    have e1 : iN p + (1 : Int32) = iN (p + 1) := by rw [iL1, iN_add]
    rw [e1]
    refine wp_ifn (fun hx => hlt ((iN_lt (by omega) (by omega)).mp hx)) ?_
    obtain ⟨s2, b1, b2, b3⟩ := m_tellInode K N hK t24 s1 _ a2' i 1 (iN (p + 1)) hi (by omega)
    refine wp_bv b1 ?_
    have hws2 : zWs s2 (zt (zt T.wd b (p % 16) a2) (30 + i / 2) (8 * (i % 2) + 1) (iN (p + 1))) := b2.2.1
    have hr2 : f_M_ofInode_28 K N (iN i) (1 : Int32) s2 t24 = _ := m_ofInode K N hK t24 hws2 i 1 hi (by omega)
    have hI2 : tI (zt (zt T.wd b (p % 16) a2) (30 + i / 2) (8 * (i % 2) + 1) (iN (p + 1))) i 1 = iN (p + 1) := by rw [tI_zt (by omega) (by omega), if_pos ⟨rfl, rfl⟩]
    rw [hI2] at hr2
    exact wp_bi hr2 (wp_rA ⟨b2, zFt_trans a3 b3⟩)
noncomputable def xWrite (T : ZTs) (f p x : Int32) : Int32 × ZTs :=
  if zKb T.wd f 2 = true ∧ 0 ≤ p ∧ p < 320 then
    (if tB T.wd (n32 f) (n32 p / 16) = 0 then
      (if zWn T.wd (n32 f) (n32 p / 16) ≤ zLeft T.wd then (iN (max (tS T.wd (n32 f)) (n32 p + 1)), xPut (xFor T (n32 f) (n32 p / 16)) (n32 f) (42 + zLow (xFor1 T (n32 f) (n32 p / 16)).wd) (n32 p) x) else (-3, T))
    else (if (xFetch T (tB T.wd (n32 f) (n32 p / 16))).tv.p.up = true then (iN (max (tS T.wd (n32 f)) (n32 p + 1)), xPut (xFetch T (tB T.wd (n32 f) (n32 p / 16))) (n32 f) (tB T.wd (n32 f) (n32 p / 16)) (n32 p) x) else (-9, xFetch T (tB T.wd (n32 f) (n32 p / 16)))))
  else (-4, T)
theorem i32_320 {x : Int32} (h0 : 0 ≤ x) (h1 : x < 320) : x = iN (n32 x) ∧ n32 x < 320 := by
  have hn : x = iN (n32 x) := by
    by_cases hz : 0 < n32 x
    · exact (iN_n32 hz).symm
    · have e : n32 x = 0 := by omega
      rw [e]
      exact Int32.le_antisymm ((n32_le (by omega)).mpr (by omega)) h0
  refine ⟨hn, ?_⟩
  rw [hn] at h1
  have h320 : (320 : Int32) = iN 320 := rfl
  rw [h320, iN_lt (n32_lt x) (by omega)] at h1
  exact h1
theorem zfile_size {W : ZSt} (h : ZWa W) {i : Nat} (hi : i < 24) (hk : tI W i 0 = 2) : tI W i 1 = iN (tS W i) ∧ tS W i ≤ 320 := by
  obtain ⟨q, q1, q2⟩ := h.fs i hi hk
  have e : tS W i = q := by unfold tS; rw [q2, n32_iN (by omega)]
  rw [e]; exact ⟨q2, q1⟩
theorem m_write2 {W : ZSt → Prop} (K : px_K) (N : Nat) (hN : 2000 ≤ N) (hK : zKm K) (t4 : px_W) (s3 : px_S) (T : ZTs) (h : zRt s3 T) (hm : zMm T.tv) (hi : ZTi W T) (hw : ZW T.wd) (a0 a1 a2 : Int32) : wp (px_bi (f_M_isKind_28 K N a0 (2 : Int32) s3 t4) (fun v12 s9 t10 => (if v12 = 0 then (some (.inl (some (.int (-4 : Int32))), s9, t10)) else (if a1 < 0 then (some (.inl (some (.int (-4 : Int32))), s9, t10)) else (if a1 < (320 : Int32) then (px_bi (f_M_blockOf_28 K N a0 (a1 / (16 : Int32)) s9 t10) (fun v20 s17 t18 => (if ¬ v20 = 0 then (px_bv (f_M_fetch_28 K N v20 s17 t18) (fun s23 t24 => (if ¬ (s23.1 29) = 0 then (px_bv (f_M_tell_28 K N v20 (a1 - a1 / (16 : Int32) * (16 : Int32)) a2 s23 t24) (fun s29 t30 => (px_bi (f_M_ofInode_28 K N a0 (1 : Int32) s29 t30) (fun v37 s34 t35 => (if a1 < v37 then (px_bi (f_M_ofInode_28 K N a0 (1 : Int32) s34 t35) (fun v43 s40 t41 => (some (.inl (some (.int v43)), s40, t41))) (fun x44 s40 t41 => none)) else (px_bv (f_M_tellInode_28 K N a0 (1 : Int32) (a1 + (1 : Int32)) s34 t35) (fun s45 t46 => (px_bi (f_M_ofInode_28 K N a0 (1 : Int32) s45 t46) (fun v53 s50 t51 => (some (.inl (some (.int v53)), s50, t51))) (fun x54 s50 t51 => none))) (fun x49 s45 t46 => none)))) (fun x38 s34 t35 => none))) (fun x33 s29 t30 => none)) else (some (.inl (some (.int (-9 : Int32))), s23, t24)))) (fun x27 s23 t24 => none)) else (px_bi (f_M_wants_28 K N a0 (a1 / (16 : Int32)) s17 t18) (fun v58 s55 t56 => (px_bi (f_M_left_28 K N s55 t56) (fun v63 s60 t61 => (if v58 ≤ v63 then (px_bi (f_M_takeFor_28 K N a0 (a1 / (16 : Int32)) s60 t61) (fun v69 s66 t67 => (if ¬ (s66.1 29) = 0 then (px_bv (f_M_tell_28 K N v69 (a1 - a1 / (16 : Int32) * (16 : Int32)) a2 s66 t67) (fun s72 t73 => (px_bi (f_M_ofInode_28 K N a0 (1 : Int32) s72 t73) (fun v80 s77 t78 => (if a1 < v80 then (px_bi (f_M_ofInode_28 K N a0 (1 : Int32) s77 t78) (fun v86 s83 t84 => (some (.inl (some (.int v86)), s83, t84))) (fun x87 s83 t84 => none)) else (px_bv (f_M_tellInode_28 K N a0 (1 : Int32) (a1 + (1 : Int32)) s77 t78) (fun s88 t89 => (px_bi (f_M_ofInode_28 K N a0 (1 : Int32) s88 t89) (fun v96 s93 t94 => (some (.inl (some (.int v96)), s93, t94))) (fun x97 s93 t94 => none))) (fun x92 s88 t89 => none)))) (fun x81 s77 t78 => none))) (fun x76 s72 t73 => none)) else (some (.inl (some (.int (-9 : Int32))), s66, t67)))) (fun x70 s66 t67 => none)) else (some (.inl (some (.int (-3 : Int32))), s60, t61)))) (fun x64 s60 t61 => none))) (fun x59 s55 t56 => none)))) (fun x21 s17 t18 => none)) else (some (.inl (some (.int (-4 : Int32))), s9, t10)))))) (fun x13 s9 t10 => none)) (zA (xWrite T a0 a1 a2).1 t4 (fun s' => zRt s' (xWrite T a0 a1 a2).2 ∧ zMm (xWrite T a0 a1 a2).2.tv ∧ zFt s3 s')) := by
  have hws : zWs s3 T.wd := h.2.1
  have same : ∀ (a : Int32) (F : Option px_Res), wp F (zA a t4 (fun s' => zRt s' T ∧ zMm T.tv ∧ zFt s3 s')) → xWrite T a0 a1 a2 = (a, T) → wp F (zA (xWrite T a0 a1 a2).1 t4 (fun s' => zRt s' (xWrite T a0 a1 a2).2 ∧ zMm (xWrite T a0 a1 a2).2.tv ∧ zFt s3 s')) := by
    intro a F hF he; rw [he]; exact hF
  refine wp_bi (m_kind K N hK t4 hws a0 2) ?_
  cases hkb : zKb T.wd a0 2 with
  | false => exact same (-4) _ (wp_if rfl (wp_rA ⟨h, hm, zFt_refl s3⟩)) (if_neg (fun hx => by rw [hkb] at hx; cases hx.1))
  | true =>
    obtain ⟨k1, k2, k3⟩ := zKd_of hkb
    refine wp_ifn (by decide) ?_
    by_cases c1 : a1 < 0
    · exact same (-4) _ (wp_if c1 (wp_rA ⟨h, hm, zFt_refl s3⟩)) (if_neg (fun hx => absurd hx.2.1 (Int32.not_le.mpr c1)))
    refine wp_ifn c1 ?_
    by_cases c2 : a1 < 320
    · refine wp_if c2 ?_
      obtain ⟨p1, p2⟩ := i32_320 (Int32.not_lt.mp c1) c2
      obtain ⟨i, hi'⟩ : ∃ i, i = n32 a0 := ⟨_, rfl⟩
      obtain ⟨p, hp'⟩ : ∃ p, p = n32 a1 := ⟨_, rfl⟩
      have hxm : xWrite T a0 a1 a2 = (if tB T.wd i (p / 16) = 0 then
        (if zWn T.wd i (p / 16) ≤ zLeft T.wd then (iN (max (tS T.wd i) (p + 1)), xPut (xFor T i (p / 16)) i (42 + zLow (xFor1 T i (p / 16)).wd) p a2) else (-3, T))
        else (if (xFetch T (tB T.wd i (p / 16))).tv.p.up = true then (iN (max (tS T.wd i) (p + 1)), xPut (xFetch T (tB T.wd i (p / 16))) i (tB T.wd i (p / 16)) p a2) else (-9, xFetch T (tB T.wd i (p / 16))))) := by
        rw [hi', hp']; exact if_pos ⟨hkb, Int32.not_lt.mp c1, c2⟩
      rw [← hi'] at k1 k2 k3
      rw [← hp'] at p1 p2
      obtain ⟨z1, z2⟩ := zfile_size hw.a k2 k3
      have hr := (hw.a.pv i (p / 16) k2 (by omega)).2
      have hb := m_blockOf K N hK t4 hws hw.a i (p / 16) k2 (by omega)
      have ed : a1 / (16 : Int32) = iN (p / 16) := by rw [p1, iL16, iN_div (by omega) (by omega) (by omega)]
      rw [ed]
      rw [← k1] at hb
      refine wp_bi hb ?_
      by_cases h0 : tB T.wd i (p / 16) = 0
      · rw [if_pos h0] at hxm
        refine wp_ifn (fun hx => hx (by rw [h0]; rfl)) ?_
        have hwn := m_wants K N hK t4 hws hw.a i (p / 16) k2 (by omega)
        rw [← k1] at hwn
        have hwn2 : zWn T.wd i (p / 16) ≤ 2 := by unfold zWn; split <;> omega
        have hl64 := zLeft_le T.wd
        refine wp_bi hwn (wp_bi (m_left K N hN hK t4 hws) ?_)
        by_cases hl : zWn T.wd i (p / 16) ≤ zLeft T.wd
        · rw [if_pos hl] at hxm
          refine wp_if ((iN_le (by omega) (by omega)).mpr hl) ?_
          have hk0 : tI T.wd i 0 ≠ 0 := by rw [k3]; decide
          have hD : tI T.wd i 0 = 1 → tS T.wd i ≤ 8 * (p / 16) := fun hx => by rw [k3] at hx; exact absurd hx (by decide)
          obtain ⟨s4, b1, b2, b3⟩ := m_takeFor K N hN hK t4 s3 T h hw i (p / 16) k2 (by omega) hk0 hl hD
          rw [← k1] at b1
          refine wp_bi b1 ?_
          obtain ⟨f1, f2, f3, f4, f5, f6, f7⟩ := zfor_ok hw k2 (show p / 16 < 20 by omega) hk0 hl hD
          have hlow := (zLow_lt f2).1
          obtain ⟨_, st⟩ := zfor_step hw k2 (show p / 16 < 20 by omega) hk0 hl hD
          have htv : (xFor T i (p / 16)).tv = T.tv := st.1
          have e29 : ¬ s4.1 29 = 0 := fun hx => by
            have := (zRw_up b2.1.1).mp hx
            rw [htv, hi.iv.up] at this; cases this
          refine wp_if e29 ?_
          have hI1 : tI (xFor T i (p / 16)).wd i 1 = tI T.wd i 1 := (f7.i i 1 k2 (by omega) (by omega)).trans (f4 i 1 k2 (by omega))
          have hS1 : tS (xFor T i (p / 16)).wd i = tS T.wd i := tS_of hI1
          rw [hxm]
          have hput := m_put K N hK t4 s4 (xFor T i (p / 16)) b2 i (42 + zLow (xFor1 T i (p / 16)).wd) p k2 (by omega) (by omega) p2 (by rw [hI1, hS1]; exact z1) (by rw [hS1]; exact z2) a0 a1 a2 _ k1 p1 rfl
          rw [hS1, ed] at hput
          refine wp_imp hput ?_
          rintro r ⟨s', r1, r2, r3⟩
          refine ⟨s', r1, r2, ?_, zFt_trans b3 r3⟩
          have e : (xPut (xFor T i (p / 16)) i (42 + zLow (xFor1 T i (p / 16)).wd) p a2).tv = T.tv := by
            unfold xPut; split
            · exact htv
            · exact htv
          show zMm (xPut (xFor T i (p / 16)) i (42 + zLow (xFor1 T i (p / 16)).wd) p a2).tv
          rw [e]; exact hm
        · rw [if_neg hl] at hxm
          exact same (-3) _ (wp_ifn (fun hx => hl ((iN_le (by omega) (by omega)).mp hx)) (wp_rA ⟨h, hm, zFt_refl s3⟩)) hxm
      · rw [if_neg h0] at hxm
        refine wp_if (by rw [iL0, iN_eq (by omega) (by omega)]; exact h0) ?_
        obtain ⟨s4, b1, b2, b3, b4⟩ := m_fetch K N hN hK t4 s3 T h hm hi (tB T.wd i (p / 16)) (by omega) (by omega)
        refine wp_bv b1 ?_
        obtain ⟨x1, x2, x3, x4, x5, x6⟩ := xFetch_same T (tB T.wd i (p / 16))
        cases hup : (xFetch T (tB T.wd i (p / 16))).tv.p.up with
        | true =>
          rw [if_pos hup] at hxm
          rw [hxm]
          have e29 : ¬ s4.1 29 = 0 := fun hx => by have := (zRw_up b2.1.1).mp hx; rw [hup] at this; cases this
          refine wp_if e29 ?_
          have hput := m_put K N hK t4 s4 (xFetch T (tB T.wd i (p / 16))) b2 i (tB T.wd i (p / 16)) p k2 (by omega) (by omega) p2 (by rw [x1]; exact z1) (by rw [x1]; exact z2) a0 a1 a2 _ k1 p1 rfl
          rw [x1, ed] at hput
          refine wp_imp hput ?_
          rintro r ⟨s', r1, r2, r3⟩
          refine ⟨s', r1, r2, ?_, zFt_trans b4 r3⟩
          have e : (xPut (xFetch T (tB T.wd i (p / 16))) i (tB T.wd i (p / 16)) p a2).tv = (xFetch T (tB T.wd i (p / 16))).tv := by unfold xPut; split <;> rfl
          show zMm (xPut (xFetch T (tB T.wd i (p / 16))) i (tB T.wd i (p / 16)) p a2).tv
          rw [e]; exact b3
        | false =>
          rw [if_neg (by rw [hup]; exact Bool.noConfusion)] at hxm
          rw [hxm]
          have e29 : s4.1 29 = 0 := (zRw_up b2.1.1).mpr hup
          exact wp_ifn (fun hx => hx e29) (wp_rA ⟨b2, b3, b4⟩)
    · exact same (-4) _ (wp_ifn c2 (wp_rA ⟨h, hm, zFt_refl s3⟩)) (if_neg (fun hx => c2 hx.2.2))
theorem zt_comm {T : ZSt} {b c w v : Nat} {x y : Int32} (h : b ≠ c) : zt (zt T b w x) c v y = zt (zt T c v y) b w x := by
  funext a u
  by_cases ha : a = c
  · rw [ha]
    by_cases hu : u = v
    · rw [hu, zt_self, zt_blk (fun hx => h hx.symm), zt_self]
    · rw [zt_wrd hu, zt_blk (fun hx => h hx.symm), zt_blk (fun hx => h hx.symm), zt_wrd hu]
  · rw [zt_blk ha]
    by_cases hb : a = b
    · rw [hb]
      by_cases hu : u = w
      · rw [hu, zt_self, zt_self]
      · rw [zt_wrd hu, zt_wrd hu, zt_blk h]
    · rw [zt_blk hb, zt_blk hb, zt_blk ha]
/-- a file's block is no far block, and no directory's -/
theorem zfile_blk {W : ZSt} (hw : ZWa W) {i k : Nat} (hi : i < 24) (hki : tI W i 0 = 2) (hk : k < 20) (h0 : tB W i k ≠ 0) : 42 ≤ tB W i k ∧ tB W i k < 106 ∧ (∀ j, j < 24 → tF W j ≠ tB W i k) ∧ (∀ d l, d < 24 → tI W d 0 = 1 → 8 * l < tS W d → tB W d l ≠ tB W i k) := by
  have hr := (hw.pv i k hi (by omega)).2
  refine ⟨by omega, by omega, fun j hj hx => ?_, fun d l hd hkd hl hx => ?_⟩
  · rw [tF_eq] at hx
    have := hw.pd j 20 i k hj (by omega) hi (by omega) (by omega) hx
    omega
  · obtain ⟨m, m1, m2, _, _⟩ := hw.dsz hd hkd
    have := hw.pd d l i k hd (by omega) hi (by omega) (by omega) hx
    rw [this.1, hki] at hkd; exact absurd hkd (by decide)
theorem zput_ok {T : ZTs} (hw : ZW T.wd) {i p : Nat} (hi : i < 24) (hki : tI T.wd i 0 = 2) (hp : p < 320) (h0 : tB T.wd i (p / 16) ≠ 0) (x : Int32) : ZW (xPut T i (tB T.wd i (p / 16)) p x).wd ∧ zStep [tB T.wd i (p / 16), 30 + i / 2] T (xPut T i (tB T.wd i (p / 16)) p x) := by
  obtain ⟨b1, b2, b3, b4⟩ := zfile_blk hw.a hi hki (show p / 16 < 20 by omega) h0
  obtain ⟨b, hb⟩ : ∃ b, b = tB T.wd i (p / 16) := ⟨_, rfl⟩
  rw [← hb] at b1 b2 b3 b4 h0 ⊢
  -- a word below the size
  have data : ∀ W : ZSt, ZW W → (∀ j l, j < 24 → l ≤ 20 → tB W j l = tB T.wd j l) → (∀ j, j < 24 → tI W j 0 = tI T.wd j 0) → (∀ d, d < 24 → tI T.wd d 0 = 1 → tS W d = tS T.wd d) → p < tS W i → ZW (zt W b (p % 16) x) := by
    intro W hW hB hI hS hlt
    have hF : ∀ j, j < 24 → tF W j = tF T.wd j := fun j hj => by rw [tF_eq, tF_eq, hB j 20 hj (by omega)]
    refine hW.data (b := b) b1 (fun c hc => zt_blk hc) (fun j hj => by rw [hF j hj]; exact b3 j hj) (fun d k hd hkd hk hx => ?_) (fun j k w hj hkj hk hw' hx hs => ?_)
    · have hkd' : tI T.wd d 0 = 1 := by rw [← hI d hd]; exact hkd
      rw [hS d hd hkd'] at hk
      obtain ⟨m, m1, m2, _, _⟩ := hw.a.dsz hd hkd'
      rw [hB d k hd (by omega)] at hx
      exact b4 d k hd hkd' hk hx
    · have hx' : tB T.wd j k = tB T.wd i (p / 16) := by rw [← hb, ← hB j k hj (by omega)]; exact hx
      have hne : tB T.wd j k ≠ 0 := by rw [hx', ← hb]; exact h0
      have := hw.a.pd j k i (p / 16) hj (by omega) hi (by omega) hne hx'
      rw [this.1, this.2] at hs
      rw [zt_wrd (by omega)]
      have hne2 : tB W j k ≠ 0 := by rw [hB j k hj (by omega)]; exact hne
      have := hW.c j k w hj hkj hk hw' (by rw [this.1, this.2]; exact hs) hne2
      rw [hx] at this; exact this
  unfold xPut
  by_cases hlt : p < tS T.wd i
  · rw [if_pos hlt]
    refine ⟨data T.wd hw (fun _ _ _ _ => rfl) (fun _ _ => rfl) (fun _ _ _ => rfl) hlt, ?_⟩
    exact zStep_mono (zStep_T (by omega) b2) (fun c hc => by simp only [List.mem_cons, List.not_mem_nil, or_false] at hc ⊢; exact Or.inl hc) (fun c hc => by simp only [List.mem_cons, List.not_mem_nil, or_false] at hc; omega)
  · rw [if_neg hlt]
    refine ⟨?_, zStep_mono (zStep_trans (zStep_T (b := b) (by omega) b2) (zStep_I hi)) (fun c hc => by simp only [List.mem_append, List.mem_cons, List.not_mem_nil, or_false] at hc ⊢; omega) (fun c hc => by simp only [List.mem_cons, List.not_mem_nil, or_false] at hc; omega)⟩
    show ZW (zt (zt T.wd b (p % 16) x) (30 + i / 2) (8 * (i % 2) + 1) (iN (p + 1)))
    rw [zt_comm (by omega)]
    obtain ⟨z1, z2, z3, z4⟩ := zin_w hw.a (i := i) (w := 1) (x := iN (p + 1)) hi (by omega)
    have z2 := z2 (by omega)
    obtain ⟨U, hU⟩ : ∃ U, U = zt T.wd (30 + i / 2) (8 * (i % 2) + 1) (iN (p + 1)) := ⟨_, rfl⟩
    rw [← hU] at z1 z2 z3 z4 ⊢
    have hU1 : tI U i 1 = iN (p + 1) := by rw [z1 i 1 (by omega), if_pos ⟨rfl, rfl⟩]
    have hSU : tS U i = p + 1 := by unfold tS; rw [hU1, n32_iN (by omega)]
    have hZU : ZW U := by
      refine hw.setSize (i := i) (s := p + 1) hi (by omega) (fun j w hj hw8 hne => by rw [z1 j w hw8, if_neg hne]) hU1 z2 z3 (fun j l hj hl hne => z4 _ (by have := (hw.a.pv j l hj (by omega)).2; omega)) (by rw [hki]; decide) (fun hx => by rw [hki] at hx; exact absurd hx (by decide)) (fun _ k w hk hw' hs hne => hw.c i k w hi hki hk hw' (by omega) hne)
    refine data U hZU (fun j l hj hl => by unfold tB; rw [z2 j l hj hl]) (fun j hj => by rw [z1 j 0 (by omega), if_neg (by omega)]) (fun d hd hkd => tS_of ?_) (by rw [hSU]; omega)
    have hne : d ≠ i := fun hx => by rw [hx, hki] at hkd; exact absurd hkd (by decide)
    rw [z1 d 1 (by omega), if_neg (fun hx => hne hx.1)]
theorem zwrite_ok {T : ZTs} (hi : ZTi ZW T) (h7 : (zCl T.ch).length ≤ 7) (f p x : Int32) : ZTOk ZW (fun U => ZTi ZW U) (xWrite T f p x).2 ∧ ((xWrite T f p x).2.tv.p.up = false → (xWrite T f p x).1 = -9) := by
  have hw := hi.ww
  have same : ∀ a, xWrite T f p x = (a, T) → ZTOk ZW (fun U => ZTi ZW U) (xWrite T f p x).2 ∧ ((xWrite T f p x).2.tv.p.up = false → (xWrite T f p x).1 = -9) := by
    intro a he; rw [he]
    exact ⟨Or.inl ⟨hi.iv.up, hi⟩, fun hx => by have hx : T.tv.p.up = false := hx; rw [hi.iv.up] at hx; cases hx⟩
  by_cases hc : zKb T.wd f 2 = true ∧ 0 ≤ p ∧ p < 320
  · obtain ⟨k1, k2, k3⟩ := zKd_of hc.1
    obtain ⟨p1, p2⟩ := i32_320 hc.2.1 hc.2.2
    obtain ⟨i, hi'⟩ : ∃ i, i = n32 f := ⟨_, rfl⟩
    obtain ⟨q, hq'⟩ : ∃ q, q = n32 p := ⟨_, rfl⟩
    have hxm : xWrite T f p x = (if tB T.wd i (q / 16) = 0 then
      (if zWn T.wd i (q / 16) ≤ zLeft T.wd then (iN (max (tS T.wd i) (q + 1)), xPut (xFor T i (q / 16)) i (42 + zLow (xFor1 T i (q / 16)).wd) q x) else (-3, T))
      else (if (xFetch T (tB T.wd i (q / 16))).tv.p.up = true then (iN (max (tS T.wd i) (q + 1)), xPut (xFetch T (tB T.wd i (q / 16))) i (tB T.wd i (q / 16)) q x) else (-9, xFetch T (tB T.wd i (q / 16))))) := by
      rw [hi', hq']; exact if_pos hc
    rw [← hi'] at k2 k3
    rw [← hq'] at p2
    by_cases h0 : tB T.wd i (q / 16) = 0
    · rw [if_pos h0] at hxm
      by_cases hl : zWn T.wd i (q / 16) ≤ zLeft T.wd
      · rw [if_pos hl] at hxm
        have hk0 : tI T.wd i 0 ≠ 0 := by rw [k3]; decide
        have hD : tI T.wd i 0 = 1 → tS T.wd i ≤ 8 * (q / 16) := fun hx => by rw [k3] at hx; exact absurd hx (by decide)
        obtain ⟨f1, f2, f3, f4, f5, f6, f7⟩ := zfor_ok hw k2 (show q / 16 < 20 by omega) hk0 hl hD
        obtain ⟨g, st⟩ := zfor_step hw k2 (show q / 16 < 20 by omega) hk0 hl hD
        have hlow := (zLow_lt f2).1
        have hBk : tB (xFor T i (q / 16)).wd i (q / 16) = 42 + zLow (xFor1 T i (q / 16)).wd := by unfold tB; rw [f7.n, n32_iN (by omega)]
        have hkk : tI (xFor T i (q / 16)).wd i 0 = 2 := by
          rw [f7.i i 0 k2 (by omega) (by omega), f4 i 0 k2 (by omega)]; exact k3
        obtain ⟨y1, y2⟩ := zput_ok (T := xFor T i (q / 16)) f7.w k2 hkk p2 (by rw [hBk]; omega) x
        rw [hBk] at y1 y2
        rw [hxm]
        have htv : (xPut (xFor T i (q / 16)) i (42 + zLow (xFor1 T i (q / 16)).wd) q x).tv = T.tv := y2.1.trans st.1
        have hb8 := st.2.2.2.2.2.2.2
        have sf : zStep [29, g, 42 + zLow (xFor1 T i (q / 16)).wd, 30 + i / 2] T (xPut (xFor T i (q / 16)) i (42 + zLow (xFor1 T i (q / 16)).wd) q x) := zStep_mono (zStep_trans st y2) (fun c hc => by simp only [List.mem_append, List.mem_cons, List.not_mem_nil, or_false] at hc ⊢; omega) hb8
        refine ⟨Or.inl ⟨by show (xPut (xFor T i (q / 16)) i (42 + zLow (xFor1 T i (q / 16)).wd) q x).tv.p.up = true; rw [htv]; exact hi.iv.up, hi.step sf y1 h7 (by show 4 ≤ 5; omega)⟩, fun hx => ?_⟩
        have hx : (xPut (xFor T i (q / 16)) i (42 + zLow (xFor1 T i (q / 16)).wd) q x).tv.p.up = false := hx
        rw [htv, hi.iv.up] at hx; cases hx
      · rw [if_neg hl] at hxm; exact same _ hxm
    · rw [if_neg h0] at hxm
      have hr := (hw.a.pv i (q / 16) k2 (by omega)).2
      obtain ⟨x1, x2, x3, x4, x5, x6⟩ := xFetch_same T (tB T.wd i (q / 16))
      rcases zfetch_ok hi (b := tB T.wd i (q / 16)) (by omega) with ⟨hu, hq⟩ | hdn
      · rw [if_pos hu] at hxm
        obtain ⟨y1, y2⟩ := zput_ok (T := xFetch T (tB T.wd i (q / 16))) (by rw [x1]; exact hw) k2 (by rw [x1]; exact k3) p2 (by rw [x1]; exact h0) x
        rw [x1] at y1 y2
        rw [hxm]
        have htv : (xPut (xFetch T (tB T.wd i (q / 16))) i (tB T.wd i (q / 16)) q x).tv = (xFetch T (tB T.wd i (q / 16))).tv := y2.1
        refine ⟨Or.inl ⟨by show (xPut (xFetch T (tB T.wd i (q / 16))) i (tB T.wd i (q / 16)) q x).tv.p.up = true; rw [htv]; exact hu, hq.step y2 y1 (by rw [x2]; exact h7) (by show 2 ≤ 5; omega)⟩, fun hx => ?_⟩
        have hx : (xPut (xFetch T (tB T.wd i (q / 16))) i (tB T.wd i (q / 16)) q x).tv.p.up = false := hx
        rw [htv, hu] at hx; cases hx
      · rw [if_neg (by rw [hdn.up]; exact Bool.noConfusion)] at hxm
        rw [hxm]
        exact ⟨Or.inr hdn, fun _ => rfl⟩
  · exact same _ (if_neg hc)
/-! READ (the reference) -/
noncomputable def xRead (T : ZTs) (f p : Int32) : Nat × Int32 × ZTs :=
  if zKb T.wd f 2 = true ∧ 0 ≤ p ∧ p < 320 then
    (if tB T.wd (n32 f) (n32 p / 16) = 0 then (0, 0, T)
    else (if (xFetch T (tB T.wd (n32 f) (n32 p / 16))).tv.p.up = true then (0, T.wd (tB T.wd (n32 f) (n32 p / 16)) (n32 p % 16), xFetch T (tB T.wd (n32 f) (n32 p / 16))) else (1, 0, xFetch T (tB T.wd (n32 f) (n32 p / 16)))))
  else (2, 0, T)
theorem m_read2 {W : ZSt → Prop} (K : px_K) (N : Nat) (hN : 2000 ≤ N) (hK : zKm K) (t : px_W) (s : px_S) (T : ZTs) (h : zRt s T) (hm : zMm T.tv) (hi : ZTi W T) (hw : ZW T.wd) (f p : Int32) : ∃ s', f_M_read2_28 K N f p s t = some (.inl (some (.int (xRead T f p).2.1)), s', t) ∧ zRt s' (xRead T f p).2.2 ∧ zMm (xRead T f p).2.2.tv ∧ s'.1 25 = iN (xRead T f p).1 ∧ zFu s s' := by
  have hws : zWs s T.wd := h.2.1
  have e29 : ¬ s.1 29 = 0 := fun hx => by have := (zRw_up h.1.1).mp hx; rw [hi.iv.up] at this; cases this
  apply wp_A
  unfold f_M_read2_28
  refine wp_if e29 (wp_bi (m_kind K N hK t hws f 2) (wp_let ?_))
  by_cases hc : zKb T.wd f 2 = true ∧ 0 ≤ p ∧ p < 320
  · obtain ⟨k1, k2, k3⟩ := zKd_of hc.1
    obtain ⟨p1, p2⟩ := i32_320 hc.2.1 hc.2.2
    obtain ⟨i, hi'⟩ : ∃ i, i = n32 f := ⟨_, rfl⟩
    obtain ⟨q, hq'⟩ : ∃ q, q = n32 p := ⟨_, rfl⟩
    have hxm : xRead T f p = (if tB T.wd i (q / 16) = 0 then (0, 0, T)
      else (if (xFetch T (tB T.wd i (q / 16))).tv.p.up = true then (0, T.wd (tB T.wd i (q / 16)) (q % 16), xFetch T (tB T.wd i (q / 16))) else (1, 0, xFetch T (tB T.wd i (q / 16))))) := by
      rw [hi', hq']; exact if_pos hc
    rw [← hi'] at k1 k2 k3
    rw [← hq'] at p1 p2
    have e25 : (if bN (zKb T.wd f 2) = 0 then (2 : Int32) else (if p < 0 then (2 : Int32) else (if p < (320 : Int32) then (0 : Int32) else (2 : Int32)))) = 0 := by
      rw [hc.1, if_neg (by decide), if_neg (Int32.not_lt.mpr hc.2.1), if_pos hc.2.2]
    rw [e25]
    have h0 := zRt_25 h 0
    have hws0 : zWs (sR s 25 (0 : Int32)) T.wd := hws
    refine wp_if (by show (0 : Int32) ≤ 0; decide) ?_
    have ed : p / (16 : Int32) = iN (q / 16) := by rw [p1, iL16, iN_div (by omega) (by omega) (by omega)]
    have er : p - p / (16 : Int32) * (16 : Int32) = iN (q % 16) := by rw [p1, iL16, iN_rem (by omega) (by omega) (by omega)]
    rw [er, ed]
    have hb := m_blockOf K N hK t hws0 hw.a i (q / 16) k2 (by omega)
    rw [← k1] at hb
    refine wp_bi hb ?_
    have hr := (hw.a.pv i (q / 16) k2 (by omega)).2
    by_cases hb0 : tB T.wd i (q / 16) = 0
    · rw [if_pos hb0] at hxm
      rw [hxm]
      exact wp_ifn (fun hx => hx (by rw [hb0]; rfl)) (wp_rA ⟨h0, hm, rfl, zFu_25 s 0⟩)
    · rw [if_neg hb0] at hxm
      refine wp_if (by rw [iL0, iN_eq (by omega) (by omega)]; exact hb0) ?_
      obtain ⟨s4, b1, b2, b3, b4⟩ := m_fetch K N hN hK t _ T h0 hm hi (tB T.wd i (q / 16)) (by omega) (by omega)
      refine wp_bv b1 ?_
      obtain ⟨x1, _⟩ := xFetch_same T (tB T.wd i (q / 16))
      have e4 : s4.1 29 = bN (xFetch T (tB T.wd i (q / 16))).tv.p.up := zRw_v b2.1.1
      rw [e4]
      cases hup : (xFetch T (tB T.wd i (q / 16))).tv.p.up with
      | true =>
        rw [if_pos hup] at hxm
        rw [hxm]
        refine wp_let ?_
        have hws4 : zWs (sR s4 25 (0 : Int32)) T.wd := by rw [← x1]; exact b2.2.1
        refine wp_if (by show (0 : Int32) ≤ 0; decide) (wp_bi (zWs_word K N hK t hws4 (tB T.wd i (q / 16)) (q % 16) (by omega) (by omega)) ?_)
        exact wp_rA ⟨zRt_25 b2 0, b3, rfl, zFu_trans (zFu_t b4) (zFu_25 _ _)⟩
      | false =>
        rw [if_neg (by rw [hup]; exact Bool.noConfusion)] at hxm
        rw [hxm]
        refine wp_let (wp_ifn (by show ¬ (1 : Int32) ≤ 0; decide) ?_)
        exact wp_rA ⟨zRt_25 b2 1, b3, rfl, zFu_trans (zFu_t b4) (zFu_25 _ _)⟩
  · have hxm : xRead T f p = (2, 0, T) := if_neg hc
    have e25 : (if bN (zKb T.wd f 2) = 0 then (2 : Int32) else (if p < 0 then (2 : Int32) else (if p < (320 : Int32) then (0 : Int32) else (2 : Int32)))) = 2 := by
      cases hk : zKb T.wd f 2 with
      | false => rfl
      | true =>
        rw [if_neg (by decide)]
        by_cases c1 : p < 0
        · rw [if_pos c1]
        · rw [if_neg c1]
          by_cases c2 : p < 320
          · exact absurd ⟨hk, Int32.not_lt.mp c1, c2⟩ hc
          · rw [if_neg c2]
    rw [e25, hxm]
    exact wp_ifn (by show ¬ (2 : Int32) ≤ 0; decide) (wp_rA ⟨zRt_25 h 2, hm, rfl, zFu_25 s 2⟩)
