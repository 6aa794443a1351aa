/-! A MOUNT'S VOLUME (the class) -/
/-- of two halves with the disc's identity the greater generation is the greater int -/
theorem zgood_sgn {P : Nat → ZSt → Prop} {v : ZVs} {m : Nat} (hm : m < 2147483648) (ok : zOK P v.sets v.ways v.eps m v.dn v.fn) : v.fn 0 1 = v.dn 0 0 → v.fn 25 1 = v.dn 0 0 → (n32 (v.fn 0 0) < n32 (v.fn 25 0) ↔ v.fn 0 0 < v.fn 25 0) := by
  intro c0 c1
  obtain ⟨id, L, r1, r2, r3, r4, r5⟩ := ok
  have hid := r1.hid
  have hpos : ∀ x y : Int32, 0 < n32 y → (n32 x < n32 y ↔ x < y) := by
    intro x y hy
    rw [Int32.lt_iff_toInt_lt]
    unfold n32 Int32.toNatClampNeg at *
    omega
  have hpos2 : ∀ x y : Int32, 0 < n32 x → (n32 x < n32 y ↔ x < y) := by
    intro x y hx
    rw [Int32.lt_iff_toInt_lt]
    unfold n32 Int32.toNatClampNeg at *
    omega
  rcases r5 with r5 | r5 | ⟨opn, H, g, sb, se, y1, y2, y3, y4⟩
  · exfalso
    have := r5 0 (by omega)
    have e : v.fn (25 * 0) 1 = iN id := c0.trans hid
    rw [e, n32_iN (by omega)] at this
    omega
  · exfalso
    have e : v.fn 25 1 = iN id := c1.trans hid
    rw [r5.2.2.1] at e
    have := r1.hid1
    have := iN_inj (by omega) (by omega) (show iN 0 = iN id from e)
    omega
  · have hH := y4.hH
    have hg1 := y4.hg1
    have hgg : n32 (v.fn (25 * H) 0) = g := by rw [y4.hg]; exact n32_iN (by omega)
    by_cases hH0 : H = 0
    · rw [hH0] at hgg
      have hgg : n32 (v.fn 0 0) = g := hgg
      exact hpos2 _ _ (by omega)
    · have hH1 : H = 1 := by omega
      rw [hH1] at hgg
      have hgg : n32 (v.fn 25 0) = g := hgg
      exact hpos _ _ (by omega)
/-- what the opening of a volume leaves alone -/
def zHo2 (s u : px_S) : Prop := (∀ c, 22 ≤ c → u.2.2.1 c = s.2.2.1 c) ∧ (∀ r, (r = 0 ∨ r = 1 ∨ r = 6 ∨ r = 11 ∨ 17 < r) → u.1 r = s.1 r) ∧ (∀ r, 0 < r → u.2.1 r = s.2.1 r) ∧ u.2.2.2 = s.2.2.2
theorem zHo2_refl (s : px_S) : zHo2 s s := ⟨fun _ _ => rfl, fun _ _ => rfl, fun _ _ => rfl, rfl⟩
theorem zHo2_trans {s u v : px_S} (h1 : zHo2 s u) (h2 : zHo2 u v) : zHo2 s v := ⟨fun c hc => (h2.1 c hc).trans (h1.1 c hc), fun r hr => (h2.2.1 r hr).trans (h1.2.1 r hr), fun r hr => (h2.2.2.1 r hr).trans (h1.2.2.1 r hr), h2.2.2.2.trans h1.2.2.2⟩
theorem zHv_m {s u : px_S} (h : zHv s u) : zHo2 s u := ⟨h.1, fun r hr => h.2.1 r (by omega), h.2.2.1, h.2.2.2⟩
theorem zHo2_x {s u : px_S} (h : zHo2 s u) : zHx s u := ⟨fun c hc => h.1 c (by omega), fun r hr => h.2.1 r (by omega), fun r hr => h.2.2.1 r (by omega), h.2.2.2⟩
theorem zHo2_sR {s : px_S} {k : Nat} {x : Int32} (hk : 12 ≤ k ∧ k ≤ 17) : zHo2 s (sR s k x) := ⟨fun _ _ => rfl, fun r hr => sR_ne (by omega), fun _ _ => rfl, rfl⟩
/-- the sizes stand -/
def zCs (s : px_S) (v : ZVs) : Prop := s.1 11 = iN v.eps ∧ s.1 18 = iN v.sets ∧ s.1 19 = iN v.ways ∧ s.1 20 = iN v.n
theorem zCs_of {s u : px_S} {v : ZVs} (h : zCs s v) (hr : ∀ r, (r = 11 ∨ r = 18 ∨ r = 19 ∨ r = 20) → u.1 r = s.1 r) : zCs u v := ⟨by rw [hr 11 (by omega)]; exact h.1, by rw [hr 18 (by omega)]; exact h.2.1, by rw [hr 19 (by omega)]; exact h.2.2.1, by rw [hr 20 (by omega)]; exact h.2.2.2⟩
theorem zCs_v {s : px_S} {v u : ZVs} (h : zCs s v) (h1 : u.sets = v.sets) (h2 : u.ways = v.ways) (h3 : u.eps = v.eps) : zCs s u := by
  refine ⟨by rw [h3]; exact h.1, by rw [h1]; exact h.2.1, by rw [h2]; exact h.2.2.1, ?_⟩
  show s.1 20 = iN (u.sets * u.ways)
  rw [h1, h2]; exact h.2.2.2
theorem zCz_s {s : px_S} {v : ZVs} (h : zCz s v) : zCs s v := ⟨h.1, h.2.2.1, h.2.2.2.1, h.2.2.2.2⟩
theorem zCs_z {s : px_S} {v : ZVs} (h : zCs s v) (h12 : s.1 12 = bN v.wf) : zCz s v := ⟨h.1, h12, h.2.1, h.2.2.1, h.2.2.2⟩
theorem zCk_n {s : px_S} {v : ZVs} {n sets : Nat} (hn : v.n = n) (h : zCn s n sets) (hv : ∀ i, v.sb i = 0 ∧ v.se i = 0 ∧ v.mrk i = false) : zCk s v := by
  intro i hi
  obtain ⟨a1, a2, a3, a4⟩ := h.1 i (by omega)
  obtain ⟨b1, b2, b3⟩ := hv i
  unfold zC1
  rw [b1, b2, b3, a1, a2, a3, a4]
  exact ⟨rfl, rfl, rfl, rfl⟩
theorem c_openFlash {W : ZSt → Prop} (K : px_K) (N n sets : Nat) (hN : 2000 ≤ N) (hK : zKc K n sets) (t : px_W) (s : px_S) (u : ZVs) (hn : u.n = n) (hsets : u.sets = sets) (hcw : zCw n s u.p) (hcs : zCs s u) (up : u.p.up = true) (hwf : u.wf = true) (sz : ZSz u.sets u.ways u.eps) (p0 : (u.p.dv 0).pd = []) (p1 : (u.p.dv 1).pd = []) (h10 : u.dn 1 0 ≠ 1) (ok : zOK (zGood W) u.sets u.ways u.eps (u.p.na + 1) u.dn u.fn) (h0 : Nat) (hg : u.good = some h0) (hna : u.p.na + 2000 < 2147483648) : wp (f_V_openFlash_13 K N s t) (zO n none t s (ZVs.takeHalf h0 u.noSlots).changeHalves.p (fun w => zCv w (ZVs.takeHalf h0 u.noSlots).changeHalves ∧ zHo2 s w)) := by
  have hs8 : sets < 2000 := by rw [← hsets]; have := sz.s8; omega
  obtain ⟨id, L, opn, g, sb, se, y1, y2, y3, y4, y5, y6, y7⟩ := zgood (m := u.p.na + 1) (by omega) ok hg
  have hHlt := y7.hH
  have hgw := y7.hg
  have hg1 := y7.hg1
  have hLv : u.landed = L := y1.L_eq (by omega)
  have hL : u.dn 1 1 = iN u.landed := by rw [hLv]; exact y1.hL
  obtain ⟨hRm, hlt⟩ := ztake up hwf sz p0 p1 h10 y1 y2 y4 y5 y6 y7 (by omega)
  obtain ⟨o, o1, o2, o3⟩ := c_good K N n sets hN hK t (sR s 12 (1 : Int32)) u (zCd_of hcw.1 (fun r _ _ => sR_ne (by omega)) (fun _ _ _ => rfl)) (zCd_of hcw.2.1 (fun r _ _ => sR_ne (by omega)) (fun _ _ _ => rfl))
  have ho : o = some h0 := by rw [← o3 (zgood_sgn (by omega) ok)]; exact hg
  rw [ho] at o1
  have o1 : f_V_goodHalf_13 K N (sR s 12 (1 : Int32)) t = some (.inl (some (.int (iN h0))), sR s 12 (1 : Int32), t) := o1
  have hmax : f_Math_max K N (0 : Int32) (iN h0) (sR s 12 (1 : Int32)) t = some (.inl (some (.int (iN h0))), sR s 12 (1 : Int32), t) := by
    unfold f_Math_max
    by_cases hz : h0 = 0
    · rw [hz, if_neg (by decide)]; rfl
    · rw [if_pos (by rw [iL0, iN_lt (by omega) (by omega)]; omega)]
  obtain ⟨s2, hs2⟩ : ∃ s2, s2 = sR (sR s 12 (1 : Int32)) 13 (iN h0) := ⟨_, rfl⟩
  have hcw2 : zCw n s2 u.p := by rw [hs2]; exact zCw_of hcw (fun r _ _ => by rw [sR_ne (by omega), sR_ne (by omega)]) (fun _ _ _ => rfl) rfl
  have e13 : s2.1 13 * (25 : Int32) = iN (25 * h0) := by
    have h25 : (25 : Int32) = iN 25 := rfl
    rw [hs2, sR_self, h25, iN_mul, Nat.mul_comm]
  have w0 : f_D_at_8 K N (iN (25 * h0)) (0 : Int32) s2 t = some (.inl (some (.int (iN g))), s2, t) := by
    have := c_at_8 K N n sets hK t s2 (u.p.dv 1) hcw2.2.1 (25 * h0) 0 (by omega) (by omega)
    rw [show (u.p.dv 1).now (25 * h0) 0 = iN g from hgw] at this
    exact this
  obtain ⟨s3, hs3⟩ : ∃ s3, s3 = sR s2 14 (iN g) := ⟨_, rfl⟩
  have hcw3 : zCw n s3 u.p := by rw [hs3]; exact zCw_of hcw2 (fun r _ _ => sR_ne (by omega)) (fun _ _ _ => rfl) rfl
  have h3s : ∀ r, r ≠ 12 → r ≠ 13 → r ≠ 14 → s3.1 r = s.1 r := fun r a b c => by rw [hs3, sR_ne c, hs2, sR_ne b, sR_ne a]
  have h320 : s3.1 20 = iN n := by rw [h3s 20 (by omega) (by omega) (by omega), ← hn]; exact hcs.2.2.2
  obtain ⟨s4, a1, a2, a3, a4, a5⟩ := c_startSlots K N n sets hN hK hs8 t s3 u hcw3 h320 hL
  have g32 : n32 (u.fn (25 * h0) 0) = g := by rw [hgw]; exact n32_iN (by omega)
  obtain ⟨V, hV⟩ : ∃ V, V = ZVs.mk u.p u.sets u.ways u.eps u.wf (fun _ => 0) (fun _ => 0) (fun _ => false) (fun _ => 0) (u.landed + 1) h0 g u.plc := ⟨_, rfl⟩
  have htk : ZVs.takeHalf h0 u.noSlots = ZVs.takeRecs h0 24 0 V := by
    rw [hV, ← g32]; rfl
  have hVp : V.p = u.p := by rw [hV]; rfl
  have hVn : V.n = n := by rw [hV]; exact hn
  have hVg : V.gen = g := by rw [hV]; rfl
  have hVo : V.opn = u.landed + 1 := by rw [hV]; rfl
  have hVf : V.fn = u.fn := by show (V.p.dv 1).now = _; rw [hVp]
  have hVd : V.dn = u.dn := by show (V.p.dv 0).now = _; rw [hVp]
  have hVl : V.landed = u.landed := by show n32 (V.dn 1 1) = n32 (u.dn 1 1); rw [hVd]
  have hVz : ∀ i, V.sb i = 0 ∧ V.se i = 0 ∧ V.mrk i = false := by intro i; rw [hV]; exact ⟨rfl, rfl, rfl⟩
  obtain ⟨s5, b1, b2, b3, b4, b5, b6⟩ := c_takeRecs K N n sets hN hK t h0 hHlt 24 0 N s4 V hVn (by rw [hVp]; exact zCw_g hcw3 a5) (zCk_n hVn a2 hVz) (by rw [a5.2.1 13 (by omega) (by omega), hs3, sR_ne (by omega), hs2, sR_self]) (by rw [a5.2.1 14 (by omega) (by omega), hs3, sR_self, hVg]) (by rw [a3, hVo]) (by rw [a5.2.1 20 (by omega) (by omega)]; exact h320) (by rw [hVg]; exact hg1) (by rw [hVg]; omega) (by rw [hVo]; omega) (by rw [hVd, hVl]; exact hL) (by rw [hVl]; omega) (fun k hk => by
    unfold zRq
    rw [hVf, hVl, hVg]
    intro x1 x2 x3
    have x2 : L < n32 (u.fn (25 * h0 + 1 + k) 1) := by rw [← hLv]; exact x2
    obtain ⟨z1, z2⟩ := zfl_rec y7 k hk x1 x2 x3
    refine ⟨⟨z2.1, fun j hj => ?_⟩, by omega⟩
    obtain ⟨q, b, w1, w2, w3, w4, _⟩ := z2.2 j hj
    exact ⟨q, b, w1, w2, Nat.lt_of_lt_of_eq w3 hn, w4⟩) (by omega) (by omega)
  rw [← htk] at b2 b3
  have b1 : l_V_openFlash_13_23 K N N (0 : Int32) s4 t = some (.inl (71, [], s5, t)) := b1
  obtain ⟨z1, z2, z3, z4, z5⟩ := zfr_takeHalf h0 u.noSlots
  obtain ⟨w, hw⟩ : ∃ w, w = ZVs.takeHalf h0 u.noSlots := ⟨_, rfl⟩
  rw [← hw] at b2 b3 hRm hlt z1 z2 z3 z4 z5 ⊢
  have hwp : w.p = u.p := z2
  have hwn : w.n = n := (zFr_n z1).trans hn
  have hg5 : zHg s3 s5 := zHg_trans a5 b6
  have hm5 : zHo2 s s5 := by
    refine zHo2_trans (zHo2_trans ?_ (show zHo2 s2 s3 by rw [hs3]; exact zHo2_sR (by omega))) (zHv_m (zHg_v hg5))
    rw [hs2]
    exact zHo2_trans (zHo2_sR (by omega)) (zHo2_sR (by omega))
  have hch := c_changeHalves (P := zGood W) K N n sets 24 hN hK t s5 w hwn hRm (by rw [hwp]; exact zCw_g hcw3 hg5) (by
      refine zCs_z (zCs_v (zCs_of hcs (fun r hr => hm5.2.1 r (by omega))) z1.s z1.w z1.e) ?_
      rw [hg5.2.1 12 (by omega) (by omega), hs3, sR_ne (by omega), hs2, sR_ne (by omega), sR_self, hRm.wf]; rfl)
    (by rw [hg5.2.1 13 (by omega) (by omega), hs3, sR_ne (by omega), hs2, sR_self, z4]) (by rw [hg5.2.1 14 (by omega) (by omega), hs3, sR_self, z3]; show iN g = iN (n32 (u.fn (25 * h0) 0)); rw [g32]) b3 (by
      have : w.dirty w.opn = 0 := by
        show (zDl w.se w.opn w.n).length = 0
        rw [zDl_none hlt]; rfl
      rw [b5, a4, this]; rfl) b2 (fun k hk => by
      rw [b4, a2.2 k (by rw [← hsets]; exact Nat.lt_of_lt_of_eq hk z1.s), z5]; rfl) (by rw [hwp]; omega)
  unfold f_V_openFlash_13
  refine wp_let (wp_bi o1 (wp_bi hmax (wp_let ?_)))
  rw [← hs2, e13]
  refine wp_bi w0 (wp_let ?_)
  rw [← hs3]
  refine wp_bv a1 (wp_lp b1 (wp_if rfl (wp_v0 ?_)))
  exact wp_cv hch (zHo2_x hm5) (fun _ => rfl) (fun u' hu' hR => wp_rO hu' ⟨hR.1, zHo2_trans hm5 (zHv_m hR.2)⟩)
theorem c_openDisc (K : px_K) (N n sets : Nat) (hN : 2000 ≤ N) (hK : zKc K n sets) (t : px_W) (s : px_S) (u : ZVs) (hn : u.n = n) (hcw : zCw n s u.p) (hcs : zCs s u) (up : u.p.up = true) (hwf : u.wf = false) (hid : u.dn 0 0 = iN (n32 (u.dn 0 0))) (hna : u.p.na + 2000 < 2147483648) : wp (f_V_openDisc_13 K N s t) (zO n none t s ((u.noSlots.wr 0 0 (zThree (n32 (u.noSlots.dn 0 0) + 1) 0 0)).fl 0).p (fun w => zCv w ((u.noSlots.wr 0 0 (zThree (n32 (u.noSlots.dn 0 0) + 1) 0 0)).fl 0) ∧ zHo2 s w)) := by
  have k20 : K.2.2 20 = 16 := hK.2.2.2.2.2.2.2.2.2.2.2.2.2.1
  obtain ⟨s1, hs1⟩ : ∃ s1, s1 = sR s 12 (0 : Int32) := ⟨_, rfl⟩
  have hcw1 : zCw n s1 u.p := by rw [hs1]; exact zCw_of hcw (fun r _ _ => sR_ne (by omega)) (fun _ _ _ => rfl) rfl
  have hm1 : zHo2 s s1 := by rw [hs1]; exact zHo2_sR (by omega)
  have w0 : f_D_at_3 K N (0 : Int32) (0 : Int32) s1 t = _ := c_at_3 K N n sets hK t s1 (u.p.dv 0) hcw1.1 0 0 (by omega) (by omega)
  rw [show (u.p.dv 0).now 0 0 = iN (n32 (u.dn 0 0)) from hid] at w0
  obtain ⟨i, hi⟩ : ∃ i, i = n32 (u.noSlots.dn 0 0) + 1 := ⟨_, rfl⟩
  have e1 : iN (n32 (u.dn 0 0)) + (1 : Int32) = iN i := by rw [iL1, iN_add, hi]; rfl
  obtain ⟨g, g1, g2⟩ := c_setRow K N n sets hN hK t s1 i 0 0 (iN i) (0 : Int32) (0 : Int32) rfl rfl rfl
  rw [← hi]
  have f3 := zfr_wr u.noSlots 0 0 (zThree i 0 0)
  have f4 := zfr_fl (u.noSlots.wr 0 0 (zThree i 0 0)) 0
  have m3 : (u.p.wr 0 0 (zThree i 0 0)).na ≤ u.p.na + 1 := (u.p.na_wr 0 0 (zThree i 0 0)).2
  have m4 := ((u.p.wr 0 0 (zThree i 0 0)).na_fl 0).2
  have hm2 : zHo2 s (sF s1 20 g) := zHo2_trans hm1 (zHv_m (zHw_v (zHw_sF (Or.inl rfl))))
  have hcw2 : zCw n (sF s1 20 g) u.p := zCw_w hcw1 (zHw_sF (Or.inl rfl))
  unfold f_V_openDisc_13
  refine wp_let ?_
  rw [← hs1]
  refine wp_bi w0 ?_
  rw [e1]
  refine wp_bv g1 ?_
  refine wp_cv (show wp (f_D_put_3_20 K N (0 : Int32) (0 : Int32) (sF s1 20 g) t) _ from c_put_3_20 K N n sets hK t (sF s1 20 g) u.p hcw2 up 0 0 (zThree i 0 0) (by omega) (fun w hw => by rw [sF_arr, Nat.zero_add]; exact g2 w hw) (by rw [k20]; omega) (by omega)) (zHo2_x hm2) (fun hx => f4.dn hx) (fun s4 u4 R4 => ?_)
  refine wp_cv (c_flush_3 K N n sets hN hK t s4 _ R4.1 u4 (by omega)) (zHo2_x (zHo2_trans hm2 (zHv_m (zHd_v R4.2)))) (fun _ => rfl) (fun s5 u5 R5 => ?_)
  have hm5 : zHo2 s s5 := zHo2_trans hm2 (zHo2_trans (zHv_m (zHd_v R4.2)) (zHv_m (zHd_v R5.2)))
  have h12 : s5.1 12 = 0 := by
    rw [R5.2.2.1 12 (by omega), R4.2.2.1 12 (by omega)]
    show s1.1 12 = 0
    rw [hs1, sR_self]
  refine wp_rO u5 ⟨⟨?_, ?_, fun hx => ?_⟩, hm5⟩
  · show zCw u.n s5 _
    rw [hn]; exact R5.1
  · exact zCs_z (v := (u.noSlots.wr 0 0 (zThree i 0 0)).fl 0) (zCs_v (zCs_of hcs (fun r hr => hm5.2.1 r (by omega))) rfl rfl rfl) (by rw [h12]; show (0 : Int32) = bN u.wf; rw [hwf]; rfl)
  · have hx : u.wf = true := hx
    rw [hwf] at hx; cases hx
/-! A NEW FLASH, ATTACH (the class) -/
theorem c_wipe (K : px_K) (N n sets : Nat) (hN : 2000 ≤ N) (hK : zKc K n sets) (t : px_W) (s : px_S) (v : ZVs) (h : zCw n s v.p) : ∃ u, f_D_wipe_8 K N s t = some (.inl none, u, t) ∧ zCw n u v.newFlash.p ∧ zHd s u := by
  have k11 : K.2.2 11 = 16 * (50 + n) := hK.2.2.2.2.2.2.1
  have k12 : K.2.2 12 = 16 * (50 + n) := hK.2.2.2.2.2.2.2.1
  have hn64 : n ≤ 64 := hK.2.2.2.2.2.2.2.2.2.2.2.2.2.2.2.2.2.2.2.2
  obtain ⟨s1, hs1⟩ : ∃ s1, s1 = sF s 11 (fun j => if j < 16 * (50 + n) then 0 else s.2.2.1 11 j) := ⟨_, rfl⟩
  obtain ⟨s2, hs2⟩ : ∃ s2, s2 = sF s1 12 (fun j => if j < 16 * (50 + n) then 0 else s1.2.2.1 12 j) := ⟨_, rfl⟩
  have a1 := c_fill_11 K N hN t 0 s (16 * (50 + n)) k11 (by omega)
  have a2 := c_fill_12 K N hN t 0 s1 (16 * (50 + n)) k12 (by omega)
  rw [← hs1] at a1
  rw [← hs2] at a2
  have hd : zHd s (sR s2 8 0) := by
    refine ⟨fun c hc => ?_, fun r hr => ?_, fun r _ => ?_, ?_⟩
    · show s2.2.2.1 c = _
      rw [hs2, sF_arr_ne (by omega), hs1, sF_arr_ne (by omega)]
    · rw [sR_ne (by omega), hs2, hs1]; rfl
    · rw [hs2, hs1]; rfl
    · rw [hs2, hs1]; rfl
  refine ⟨sR s2 8 0, ?_, ?_, hd⟩
  · obtain ⟨r, r1, r2⟩ : wp (f_D_wipe_8 K N s t) (fun r => r = (.inl none, sR s2 8 0, t)) := by
      unfold f_D_wipe_8
      exact wp_bv a1 (wp_bv a2 (wp_let (wp_some rfl)))
    rw [r1, r2]
  · obtain ⟨h1, h2, h3, h4, h5, h6⟩ := h
    have hr : ∀ r, r ≠ 8 → (sR s2 8 0).1 r = s.1 r := fun r hr => by rw [sR_ne hr, hs2, hs1]; rfl
    have hl : (sR s2 8 0).2.1 = s.2.1 := by rw [hs2, hs1]; rfl
    refine ⟨?_, ?_, by rw [hl]; exact h3, fun hx => by rw [hl]; exact h4 hx, fun hx => by rw [hl]; exact h5 hx, h6⟩
    · rw [nf0]
      refine zCd_of h1 (fun r _ _ => hr r (by omega)) (fun a _ _ => ?_)
      show s2.2.2.1 a = _
      rw [hs2, sF_arr_ne (by omega), hs1, sF_arr_ne (by omega)]
    · obtain ⟨d1, d2, d3, d4, d5, ⟨f, f1, f2, f3⟩, d7, d8⟩ := h2
      have e : v.newFlash.p.dv 1 = ZDv.mk (fun _ _ => 0) [] (v.p.dv 1).wr (v.p.dv 1).fl := by unfold ZVs.newFlash; rfl
      rw [e]
      refine ⟨Nat.zero_le _, by rw [hr 6 (by omega)]; exact d2, sR_self _ _ _, by rw [hr 9 (by omega)]; exact d4, by rw [hr 10 (by omega)]; exact d5, ⟨f, f1, by rw [hr 7 (by omega)]; exact f2, fun j hj => absurd hj (Nat.not_lt_zero _)⟩, fun b w hb hw => ?_, fun b w hb hw => ?_⟩
      · show s2.2.2.1 12 _ = (0 : Int32)
        rw [hs2, sF_arr, if_pos (by omega)]
      · show s2.2.2.1 11 _ = (0 : Int32)
        rw [hs2, sF_arr_ne (by omega), hs1, sF_arr, if_pos (by omega)]
theorem c_attach {W : ZSt → Prop} {Q : ZSt → Prop} (K : px_K) (N n sets : Nat) (hN : 2000 ≤ N) (hK : zKc K n sets) (t : px_W) (s : px_S) (v : ZVs) (hn : v.n = n) (hsets : v.sets = sets) (h : zCv s v) (hi : ZRd (zGood W) Q v) (hna : v.p.na + 2000 < 2147483648) : wp (f_V_takeNewFlash_13 K N s t) (zO n none t s v.attach.p (fun u => zCv u v.attach ∧ zHo2 s u)) := by
  have k20 : K.2.2 20 = 16 := hK.2.2.2.2.2.2.2.2.2.2.2.2.2.1
  have sz := hi.sz
  have hs8 : sets < 2000 := by rw [← hsets]; have := sz.s8; omega
  have hcw : zCw n s v.p := by rw [← hn]; exact h.1
  have hcs : zCs s v := zCz_s h.2.1
  obtain ⟨s1, a1, a2, a3⟩ := c_wipe K N n sets hN hK t s v hcw
  obtain ⟨u, hu⟩ : ∃ u, u = v.newFlash := ⟨_, rfl⟩
  have ud : u.dn = v.dn := by rw [hu]; show (v.newFlash.p.dv 0).now = _; rw [nf0]
  have hid : u.dn 0 0 = iN (n32 (u.dn 0 0)) := by rw [ud]; exact hi.hd.hid
  have hup : u.p.up = true := by rw [hu]; exact hi.up
  have huna : u.p.na = v.p.na := by rw [hu]; rfl
  rw [← hu] at a2
  have w0 : f_D_at_3 K N (0 : Int32) (0 : Int32) s1 t = _ := c_at_3 K N n sets hK t s1 (u.p.dv 0) a2.1 0 0 (by omega) (by omega)
  rw [show (u.p.dv 0).now 0 0 = iN (n32 (u.dn 0 0)) from hid] at w0
  obtain ⟨i, hi'⟩ : ∃ i, i = n32 (u.dn 0 0) + 1 := ⟨_, rfl⟩
  have e1 : iN (n32 (u.dn 0 0)) + (1 : Int32) = iN i := by rw [iL1, iN_add, hi']
  obtain ⟨v1, hv1⟩ : ∃ v1, v1 = u.wr 1 0 (zThree 1 i 0) := ⟨_, rfl⟩
  obtain ⟨v2, hv2⟩ : ∃ v2, v2 = v1.fl 1 := ⟨_, rfl⟩
  obtain ⟨v3, hv3⟩ : ∃ v3, v3 = v2.wr 0 0 (zThree i 0 0) := ⟨_, rfl⟩
  obtain ⟨w, hw⟩ : ∃ w, w = v3.fl 0 := ⟨_, rfl⟩
  have hsp : v.attach = zFresh w := by
    unfold ZVs.attach; rw [hw, hv3, hv2, hv1, hi', hu]
  have hok := zattach (zGood_mono W) hi (by omega)
  rw [hsp] at hok ⊢
  have F1 : ZFr 1 u v1 := by rw [hv1]; exact zfr_wr _ _ _ _
  have F2 : ZFr 1 v1 v2 := by rw [hv2]; exact zfr_fl _ _
  have F3 : ZFr 1 v2 v3 := by rw [hv3]; exact zfr_wr _ _ _ _
  have F4 : ZFr 1 v3 w := by rw [hw]; exact zfr_fl _ _
  have n1 := F1.n2
  have n2 := F2.n2
  have n3 := F3.n2
  have n4 := F4.n2
  have ep1 : v1.p = u.p.wr 1 0 (zThree 1 i 0) := by rw [hv1]; rfl
  have ep2 : v2.p = v1.p.fl 1 := by rw [hv2]; rfl
  have ep3 : v3.p = v2.p.wr 0 0 (zThree i 0 0) := by rw [hv3]; rfl
  have ep4 : w.p = v3.p.fl 0 := by rw [hw]; rfl
  have eF : (zFresh w).p = w.p := rfl
  rw [eF]
  obtain ⟨g1, b1, b2⟩ := c_setRow K N n sets hN hK t s1 1 i 0 (1 : Int32) (iN i) (0 : Int32) rfl rfl rfl
  have x1 : zHe s (sF s1 20 g1) := zHe_trans (zHd_e a3) (zHw_e (zHw_sF (Or.inl rfl)))
  unfold f_V_takeNewFlash_13
  refine wp_bv a1 (wp_bi w0 ?_)
  rw [e1]
  refine wp_bv b1 ?_
  have P1 := c_put_8_20 K N n sets hK t (sF s1 20 g1) u.p (zCw_w a2 (zHw_sF (Or.inl rfl))) hup 0 0 (zThree 1 i 0) (by omega) (fun w hw => by rw [sF_arr, Nat.zero_add]; exact b2 w hw) (by rw [k20]; omega) (by rw [← ep1]; omega)
  rw [← ep1] at P1
  refine wp_cv (show wp (f_D_put_8_20 K N (0 : Int32) (0 : Int32) (sF s1 20 g1) t) _ from P1) (zHe_x x1) (fun hx => (F2.trans (F3.trans F4)).dn hx) (fun s2 u2 R2 => ?_)
  have x2 : zHe s s2 := zHe_trans x1 (zHd_e R2.2)
  have P2 := c_flush_8 K N n sets hN hK t s2 v1.p R2.1 u2 (by rw [← ep2]; omega)
  rw [← ep2] at P2
  refine wp_cv P2 (zHe_x x2) (fun hx => (F3.trans F4).dn hx) (fun s3 u3 R3 => ?_)
  have x3 : zHe s s3 := zHe_trans x2 (zHd_e R3.2)
  obtain ⟨g3, c1, c2⟩ := c_setRow K N n sets hN hK t s3 i 0 0 (iN i) (0 : Int32) (0 : Int32) rfl rfl rfl
  refine wp_bv c1 ?_
  have x4 : zHe s (sF s3 20 g3) := zHe_trans x3 (zHw_e (zHw_sF (Or.inl rfl)))
  have P3 := c_put_3_20 K N n sets hK t (sF s3 20 g3) v2.p (zCw_w R3.1 (zHw_sF (Or.inl rfl))) u3 0 0 (zThree i 0 0) (by omega) (fun w hw => by rw [sF_arr, Nat.zero_add]; exact c2 w hw) (by rw [k20]; omega) (by rw [← ep3]; omega)
  rw [← ep3] at P3
  refine wp_cv (show wp (f_D_put_3_20 K N (0 : Int32) (0 : Int32) (sF s3 20 g3) t) _ from P3) (zHe_x x4) (fun hx => F4.dn hx) (fun s5 u5 R5 => ?_)
  have x5 : zHe s s5 := zHe_trans x4 (zHd_e R5.2)
  have P4 := c_flush_3 K N n sets hN hK t s5 v3.p R5.1 u5 (by rw [← ep4]; omega)
  rw [← ep4] at P4
  refine wp_cv P4 (zHe_x x5) (fun _ => rfl) (fun s6 u6 R6 => ?_)
  have x6 : zHe s s6 := zHe_trans x5 (zHd_e R6.2)
  refine wp_let (wp_let (wp_let ?_))
  obtain ⟨s7, hs7⟩ : ∃ s7, s7 = sR (sR (sR s6 13 (0 : Int32)) 14 (1 : Int32)) 15 (0 : Int32) := ⟨_, rfl⟩
  rw [← hs7]
  -- it runs: the head stands
  have hwi : ZIv (zGood W) (fun V => V = (zFresh w).cur) (zFresh w) := by
    rcases hok with ⟨_, hok⟩ | hok
    · exact hok.1
    · have := hok.up
      rw [show (zFresh w).p.up = true from u6] at this; cases this
  have hRf := hwi.rf rfl
  have hLw : w.dn 1 1 = iN w.landed := hRf.1.hd.hL
  have h7r : ∀ r, r ≠ 13 → r ≠ 14 → r ≠ 15 → s7.1 r = s6.1 r := fun r a b c => by rw [hs7, sR_ne c, sR_ne b, sR_ne a]
  have hcw7 : zCw n s7 w.p := by rw [hs7]; exact zCw_of R6.1 (fun r _ _ => by rw [sR_ne (by omega), sR_ne (by omega), sR_ne (by omega)]) (fun _ _ _ => rfl) rfl
  have h720 : s7.1 20 = iN n := by rw [h7r 20 (by omega) (by omega) (by omega), x6.2.1 20 (by omega), ← hn]; exact hcs.2.2.2
  obtain ⟨s8, d1, d2, d3, d4, d5⟩ := c_startSlots K N n sets hN hK hs8 t s7 w hcw7 h720 hLw
  refine wp_bv d1 (wp_let (wp_rO u6 ?_))
  have hsw : w.sets = v.sets ∧ w.ways = v.ways ∧ w.eps = v.eps := by
    have F := F1.trans (F2.trans (F3.trans F4))
    exact ⟨F.s.trans (by rw [hu]; rfl), F.w.trans (by rw [hu]; rfl), F.e.trans (by rw [hu]; rfl)⟩
  have hwn : (zFresh w).n = n := by
    show w.sets * w.ways = n
    rw [hsw.1, hsw.2.1]; exact hn
  have hcs9 : ∀ r, (r = 0 ∨ r = 1 ∨ r = 6 ∨ r = 11 ∨ 17 < r) → (sR s8 12 (1 : Int32)).1 r = s.1 r := fun r hr => by
    rw [sR_ne (by omega), d5.2.1 r (by omega) (by omega), h7r r (by omega) (by omega) (by omega), x6.2.1 r (by omega)]
  refine ⟨⟨?_, ?_, fun _ => ?_⟩, ⟨fun c hc => ?_, hcs9, fun r hr => ?_, ?_⟩⟩
  · rw [hwn]
    exact zCw_of hcw7 (fun r _ _ => by rw [sR_ne (by omega), d5.2.1 r (by omega) (by omega)]) (fun a _ _ => d5.1 a (by omega)) d5.2.2.1
  · exact zCs_z (v := zFresh w) (zCs_v (zCs_of hcs (fun r hr => hcs9 r (by omega))) hsw.1 hsw.2.1 hsw.2.2) (sR_self _ _ _)
  · refine ⟨?_, ?_, ?_, ?_, ?_, ?_, fun k hk => ?_⟩
    · rw [sR_ne (by omega), d5.2.1 13 (by omega) (by omega), hs7, sR_ne (by omega), sR_ne (by omega), sR_self]; rfl
    · rw [sR_ne (by omega), d5.2.1 14 (by omega) (by omega), hs7, sR_ne (by omega), sR_self]; rfl
    · rw [sR_ne (by omega), d5.2.1 15 (by omega) (by omega), hs7, sR_self]; rfl
    · rw [sR_ne (by omega), d3]; rfl
    · rw [sR_ne (by omega), d4]
      have : (zFresh w).dirty (zFresh w).opn = 0 := by
        show (zDl (fun _ => 0) (w.landed + 1) (zFresh w).n).length = 0
        rw [zDl_none (fun i _ => Nat.succ_pos _)]; rfl
      rw [this]; rfl
    · exact zCk_n hwn d2 (fun i => ⟨rfl, rfl, rfl⟩)
    · have hk : k < w.sets := hk
      show s8.2.2.1 19 k = iN 0
      rw [d2.2 k (by rw [← hsets, ← hsw.1]; exact hk)]; rfl
  · show s8.2.2.1 c = _
    rw [d5.1 c (by omega), hs7]
    show s6.2.2.1 c = _
    exact x6.1 c (by omega) (by omega) (by omega)
  · show s8.2.1 r = _
    rw [d5.2.2.1, hs7]
    exact x6.2.2.1 r hr
  · show s8.2.2.2 = _
    rw [d5.2.2.2, hs7]; exact x6.2.2.2
