/-! CLASS AND REFERENCE SIDE BY SIDE -/
theorem zRw_hl {s u : px_S} {p : ZPw} (h : zRw s p) (hx : zHl s u) : zRw u p := by
  obtain ⟨h1, h2, h3, h4, h5⟩ := h
  refine ⟨fun k hk => ?_, by rw [hx.2.1 29 (by omega)]; exact h2, by rw [hx.2.1 30 (by omega)]; exact h3, h4, fun hl => by rw [hx.2.2 3 (by omega)]; exact h5 hl⟩
  obtain ⟨y1, y2, y3, y4, y5, y6⟩ := h1 k hk
  exact ⟨y1, by rw [hx.1 30 (by omega)]; exact y2, fun j hj => by rw [hx.1 31 (by omega), hx.1 32 (by omega)]; exact y3 j hj, fun b w hb hw => by rw [hx.1 29 (by omega)]; exact y4 b w hb hw, by rw [hx.1 33 (by omega)]; exact y5, by rw [hx.1 34 (by omega)]; exact y6⟩
theorem zRv_hl {s u : px_S} {v : ZVs} (h : zRv s v) (hx : zHl s u) : zRv u v := by
  obtain ⟨q1, q2, q3, q4, q5, q6, q7, q8, q9, q10⟩ := h.2
  refine ⟨zRw_hl h.1 hx, by rw [hx.2.1 26 (by omega)]; exact q1, by rw [hx.2.1 27 (by omega)]; exact q2, by rw [hx.2.1 28 (by omega)]; exact q3, by rw [hx.2.1 31 (by omega)]; exact q4, by rw [hx.2.1 32 (by omega)]; exact q5, by rw [hx.2.1 33 (by omega)]; exact q6, by rw [hx.2.1 34 (by omega)]; exact q7, by rw [hx.2.1 35 (by omega)]; exact q8, fun i hi => ?_, fun k hk => ?_⟩
  · rw [hx.1 35 (by omega), hx.1 36 (by omega), hx.1 37 (by omega)]; exact q9 i hi
  · rw [hx.1 38 (by omega)]; exact q10 k hk
theorem zRt_hl {s u : px_S} {T : ZTs} (h : zRt s T) (hx : zHl s u) : zRt u T := by
  obtain ⟨j1, j2, j3, j4, j5, j6⟩ := h.2
  exact ⟨zRv_hl h.1 hx, by rw [hx.1 39 (by omega)]; exact j1, by rw [hx.1 40 (by omega)]; exact j2, by rw [hx.1 41 (by omega)]; exact j3, by rw [hx.1 42 (by omega)]; exact j4, by rw [hx.2.1 36 (by omega)]; exact j5, by rw [hx.2.1 37 (by omega)]; exact j6⟩
theorem zCw_fu {n : Nat} {s u : px_S} {p : ZPw} (h : zCw n s p) (hf : zFu s u) : zCw n u p := by
  obtain ⟨h1, h2, h3, h4, h5, h6⟩ := h
  exact ⟨zCd_of h1 (fun r _ _ => hf.2.1 r (by omega)) (fun a _ _ => hf.1 a (by omega)), zCd_of h2 (fun r _ _ => hf.2.1 r (by omega)) (fun a _ _ => hf.1 a (by omega)), by rw [hf.2.2.1 0 (by omega)]; exact h3, fun hx => by rw [hf.2.2.1 1 (by omega)]; exact h4 hx, fun hx => by rw [hf.2.2.1 1 (by omega), hf.2.2.1 0 (by omega), hf.2.2.1 2 (by omega)]; exact h5 hx, h6⟩
theorem zCt_fu {s u : px_S} {T : ZTs} (h : zCt s T) (hf : zFu s u) : zCt u T := by
  obtain ⟨⟨v1, v2, v3⟩, j1, j2, j3, j4, j5, j6, j7, j8⟩ := h
  refine ⟨⟨zCw_fu v1 hf, zCz_of v2 (fun r hr => hf.2.1 r (by omega)), fun hw => ?_⟩, by rw [hf.1 23 (by omega)]; exact j1, by rw [hf.1 24 (by omega)]; exact j2, by rw [hf.1 25 (by omega)]; exact j3, by rw [hf.1 26 (by omega)]; exact j4, by rw [hf.2.1 21 (by omega)]; exact j5, by rw [hf.2.1 22 (by omega)]; exact j6, by rw [hf.2.1 23 (by omega)]; exact j7, by rw [hf.2.1 24 (by omega)]; exact j8⟩
  obtain ⟨q1, q2, q3, q4, q5, q6, q7⟩ := v3 hw
  exact ⟨by rw [hf.2.1 13 (by omega)]; exact q1, by rw [hf.2.1 14 (by omega)]; exact q2, by rw [hf.2.1 15 (by omega)]; exact q3, by rw [hf.2.1 16 (by omega)]; exact q4, by rw [hf.2.1 17 (by omega)]; exact q5, zCk_of q6 (fun a _ _ => hf.1 a (by omega)), fun k hk => by rw [hf.1 19 (by omega)]; exact q7 k hk⟩
theorem zEd_fu {s u : px_S} {v : ZVs} (h : zEd s v) (hf : zFu s u) : zEd u v := ⟨zCw_fu h.1 hf, zCs_of h.2.1 (fun r hr => hf.2.1 r (by omega)), by rw [hf.2.1 0 (by omega)]; exact h.2.2⟩
theorem zFt_fu {s u : px_S} (h : zFt s u) : zFu s u := ⟨h.1, fun r hr => h.2.1 r (by omega), fun r _ => by rw [h.2.2.1], h.2.2.2⟩
/-! the invariant -/
def zI1 (n sets c : Nat) (s : px_S) (T : ZTs) : Prop := zCt s T ∧ s.1 0 = 1 ∧ zRt s T ∧ zMm T.tv ∧ ZTi ZW T ∧ T.tv.n = n ∧ T.tv.sets = sets ∧ T.tv.p.na ≤ c
def zI0 (n sets c : Nat) (s : px_S) (v : ZVs) : Prop := zEd s v ∧ zRv s v ∧ zMm v ∧ ZDn (zGood ZW) v ∧ v.n = n ∧ v.sets = sets ∧ v.p.na ≤ c
def zI (n sets c : Nat) (s : px_S) : Prop := (∃ T, zI1 n sets c s T) ∨ (∃ v, zI0 n sets c s v)
theorem zI_mono {n sets c c' : Nat} {s : px_S} (h : zI n sets c s) (hc : c ≤ c') : zI n sets c' s := by
  rcases h with ⟨T, h1, h2, h3, h4, h5, h6, h7, h8⟩ | ⟨v, h1, h2, h3, h4, h5, h6, h7⟩
  · exact Or.inl ⟨T, h1, h2, h3, h4, h5, h6, h7, by omega⟩
  · exact Or.inr ⟨v, h1, h2, h3, h4, h5, h6, by omega⟩
theorem zRv_25 {s : px_S} {v : ZVs} (h : zRv s v) (x : Int32) : zRv (sR s 25 x) v := by
  obtain ⟨r1, r2, r3, r4, r5, r6, r7, r8, r9, r10⟩ := h.2
  exact ⟨zRw_int h.1 (by omega), r1, r2, r3, r4, r5, r6, r7, r8, r9, r10⟩
theorem zI_25 {n sets c : Nat} {s : px_S} (h : zI n sets c s) (x : Int32) : zI n sets c (sR s 25 x) := by
  rcases h with ⟨T, h1, h2, h3, h4, h5, h6, h7, h8⟩ | ⟨v, h1, h2, h3, h4, h5, h6, h7⟩
  · exact Or.inl ⟨T, zCt_fu h1 (zFu_25 s x), by rw [sR_ne (by omega)]; exact h2, zRt_25 h3 x, h4, h5, h6, h7, h8⟩
  · exact Or.inr ⟨v, zEd_fu h1 (zFu_25 s x), zRv_25 h2 x, h3, h4, h5, h6, h7⟩
/-- a call of both: the same answer, and the invariant -/
def zGo (n sets c : Nat) (t : px_W) (X : Option px_Res) (Y : px_S → px_W → Option px_Res) : Prop := ∃ a s1 t1 s2, X = some (.inl (some (.int a)), s1, t1) ∧ Y s1 t1 = some (.inl (some (.int a)), s2, t1) ∧ zI n sets c s2 ∧ zTt t t1
theorem zGo_q {n sets c : Nat} {t : px_W} {s : px_S} {a x : Int32} {X : Option px_Res} {Y : px_S → px_W → Option px_Res} (h : zI n sets c s) (h1 : X = some (.inl (some (.int a)), s, t)) (h2 : Y s t = some (.inl (some (.int a)), sR s 25 x, t)) : zGo n sets (c + 2000000) t X Y := ⟨a, s, t, sR s 25 x, h1, h2, zI_mono (zI_25 h x) (by omega), zTt_refl t⟩
theorem zGo_er {n sets c : Nat} {t : px_W} {s : px_S} {T T' : ZTs} {a : Int32} {X : Option px_Res} {Y : px_S → px_W → Option px_Res} (h : zI1 n sets c s T) (hX : wp X (zEr a t s T')) (hY : ∀ u t1, zRt u T → ∃ s2, Y u t1 = some (.inl (some (.int a)), s2, t1) ∧ zRt s2 T' ∧ zMm T'.tv ∧ zFu u s2) (hok : ZTOk ZW (fun V => ZTi ZW V) T') (hs : T'.tv.sets = T.tv.sets) (hw : T'.tv.ways = T.tv.ways) (hb : T'.tv.p.na ≤ T.tv.p.na + 2000000) : zGo n sets (c + 2000000) t X Y := by
  obtain ⟨i1, i2, i3, i4, i5, i6, i7, i8⟩ := h
  obtain ⟨r, e, u, t1, rfl, ht, hx, hst⟩ := hX
  obtain ⟨s2, y1, y2, y3, y4⟩ := hY u t1 (zRt_hl i3 (zHx_l hx))
  have hn' : T'.tv.n = n := by show T'.tv.sets * T'.tv.ways = n; rw [hs, hw]; exact i6
  refine ⟨a, u, t1, s2, e, y1, ?_, ht⟩
  rcases hst with ⟨hu, c1, c2⟩ | ⟨hu, c1⟩
  · refine Or.inl ⟨T', zCt_fu c1 y4, by rw [y4.2.1 0 (by omega)]; exact c2, y2, y3, ?_, hn', hs.trans i7, by omega⟩
    rcases hok with ⟨_, q⟩ | q
    · exact q
    · have := q.up; rw [hu] at this; cases this
  · refine Or.inr ⟨T'.tv, zEd_fu c1 y4, y2.1, y3, ?_, hn', hs.trans i7, by omega⟩
    rcases hok with ⟨q, _⟩ | q
    · rw [hu] at q; cases q
    · exact q
theorem zGo_es {n sets c : Nat} {t : px_W} {s : px_S} {v v' : ZVs} {a : Int32} {X : Option px_Res} {Y : px_S → px_W → Option px_Res} (h3 : zRv s v) (i6 : v.n = n) (i7 : v.sets = sets) (i8 : v.p.na ≤ c) (hX : wp X (zEs a t s v')) (hY : ∀ u t1, zRv u v → ∃ s2, Y u t1 = some (.inl (some (.int a)), s2, t1) ∧ zRv s2 v' ∧ zMm v' ∧ zFu u s2) (hok : ZDn (zGood ZW) v') (hs : v'.sets = v.sets) (hw : v'.ways = v.ways) (hb : v'.p.na ≤ v.p.na + 2000000) : zGo n sets (c + 2000000) t X Y := by
  obtain ⟨r, e, u, rfl, hx, c1⟩ := hX
  obtain ⟨s2, y1, y2, y3, y4⟩ := hY u t (zRv_hl h3 (zHx_l hx))
  have hn' : v'.n = n := by show v'.sets * v'.ways = n; rw [hs, hw]; exact i6
  exact ⟨a, u, t, s2, e, y1, Or.inr ⟨v', zEd_fu c1 y4, y2, y3, hok, hn', hs.trans i7, by omega⟩, zTt_refl t⟩
/-! what the specification's calls leave -/
theorem zfr_call {T : ZTs} (hi : ZTi ZW T) (hna : T.tv.p.na + 3000000 < 2147483648) (f : ZTs → Int32 × ZTs) (hf : ∀ U, ZTi ZW U → ZFr 1 U.tv (f U).2.tv) : ZFr 1000001 T.tv (zCall T f).2.tv := by
  have F := zfr_beg T hi
  have hz : ZSz T.tv.sets T.tv.ways T.tv.eps := hi.iv.sz
  obtain ⟨hn1, hn2⟩ := zBnd2 hna (zfr_home T hz).n2
  unfold zCall
  rcases zbeg_ok hi hna hn2 with ⟨hu, hq, _⟩ | hdn
  · rw [if_pos hu]; exact F.trans (hf _ hq)
  · rw [if_neg (by rw [hdn.up]; exact Bool.noConfusion)]; exact F.mono (by omega)
theorem zfr_tv {v u : ZVs} (h : u = v) : ZFr 1 v u := by rw [h]; exact zfr_same v
theorem ZTi.withV {W : ZSt → Prop} {T : ZTs} (hi : ZTi W T) {u : ZVs} (q1 : ZIv (zGood W) (fun V => V = T.tv.cur) u) (q2 : u.cur = T.tv.cur) (hn : T.tv.p.na ≤ u.p.na) : ZTi W (T.s_tv u) := by
  obtain ⟨i1, i2, i3, i4, i5, i6, i7, i8⟩ := hi
  have etc : zTc (T.s_tv u) = zTc T := by
    funext c
    show (if T.kt c = true then T.kp c else u.cur c) = (if T.kt c = true then T.kp c else T.tv.cur c)
    rw [q2]
  refine ⟨?_, ?_, by rw [etc]; exact i3, i4, by rw [etc]; exact i5, i6, i7, ?_⟩
  · show ZIv (zGood W) (fun V => V = u.cur) u
    rw [q2]; exact q1
  · show ∃ s0 cs, ZJn u.cur s0 T.sq T.jr cs ∧ (∀ b, T.kt b = true ↔ ∃ e ∈ zPr u.cur 1 cs, e.1 = b) ∧ (∀ b, T.kt b = true → T.kp b = zov u.cur (zPr u.cur 1 cs) b)
    rw [q2]; exact i2
  · show T.sq ≤ u.p.na + 1
    omega
theorem zland_ok {T : ZTs} (hi : ZTi ZW T) (hw : T.tv.wf = true) (hna : T.tv.p.na + 1 < 2147483648) : ZTOk ZW (fun V => ZTi ZW V) (T.s_tv T.tv.land1.2) := by
  have hP := zGood_mono ZW
  have hrf := hi.iv.rf hw
  have F := (zfr_land1 T.tv hi.iv.sz).1
  have hn := F.n1
  by_cases hL : T.tv.landed + 1 < T.tv.opn
  · have e : T.tv.land1.2 = ZVs.landOf (T.tv.landed + 1) T.tv := by unfold ZVs.land1; rw [if_pos hL]
    rw [e] at hn ⊢
    rcases hrf.landOf hP hL hna with ⟨hu, q, q2, _⟩ | q
    · refine Or.inl ⟨hu, hi.withV ?_ q2 hn⟩
      refine Or.inl ⟨q, q2, fun V hV => ?_⟩
      exact hP _ _ _ (by omega) (hi.iv.qp V hV)
    · exact Or.inr q
  · have e : T.tv.land1.2 = T.tv := by unfold ZVs.land1; rw [if_neg hL]
    rw [e]
    exact Or.inl ⟨hi.iv.up, hi⟩
theorem zlim_ok {T : ZTs} (hi : ZTi ZW T) (k : Int32) (m : Int64) : ZTi ZW (T.s_tv (zLim T.tv k m)) := by
  refine hi.withV (u := zLim T.tv k m) ?_ rfl (Nat.le_refl _)
  rcases hi.iv with h | h
  · exact Or.inl h
  · exact Or.inr h
theorem zhome_ok {T : ZTs} (hta : zTa ZW T) (hna : T.tv.p.na + 1000000 < 2147483648) (hz : ZSz T.tv.sets T.tv.ways T.tv.eps) : ZTOk ZW (fun V => ZTi ZW V) T.home := by
  rcases hta with ⟨_, hi⟩ | hd
  · rcases hi.home hWZ hna with ⟨h1, h2, _⟩ | h
    · exact Or.inl ⟨h1, h2⟩
    · exact Or.inr h
  · exact Or.inr ((zfr_home T hz).dnn hd)
theorem zattach_na (v : ZVs) : v.p.na ≤ v.attach.p.na ∧ v.attach.p.na ≤ v.p.na + 4 := by
  have F : ∀ u : ZVs, ∀ x y : ZBk, u.p.na ≤ ((((u.wr 1 0 x).fl 1).wr 0 0 y).fl 0).p.na ∧ ((((u.wr 1 0 x).fl 1).wr 0 0 y).fl 0).p.na ≤ u.p.na + 4 := by
    intro u x y
    have f := (zfr_wr u 1 0 x).trans ((zfr_fl (u.wr 1 0 x) 1).trans ((zfr_wr ((u.wr 1 0 x).fl 1) 0 0 y).trans (zfr_fl (((u.wr 1 0 x).fl 1).wr 0 0 y) 0)))
    exact ⟨f.n1, f.n2⟩
  exact F v.newFlash (zThree 1 (n32 (v.newFlash.dn 0 0) + 1) 0) (zThree (n32 (v.newFlash.dn 0 0) + 1) 0 0)
theorem zattach_ok {T : ZTs} {Q : ZSt → Prop} (hi : ZTi ZW T) (hrd : ZRd (zGood ZW) Q T.tv) (hna : T.tv.p.na + 400 < 2147483648) : ZTOk ZW (fun V => ZTi ZW V) (T.s_tv T.tv.attach) := by
  rcases zattach (zGood_mono ZW) hrd hna with ⟨hu, q1, q2⟩ | q
  · refine Or.inl ⟨hu, hi.withV ?_ q2 (zattach_na T.tv).1⟩
    rw [← q2]; exact q1
  · exact Or.inr q
theorem ZIv.rd {P : Nat → ZSt → Prop} {Q : ZSt → Prop} {v : ZVs} (h : ZIv P Q v) (hw : v.wf = false) : ZRd P Q v := by
  rcases h with ⟨h, _⟩ | h
  · have := h.1.wf
    rw [hw] at this; cases this
  · exact h
/-- the reference's attach, where the flash is in use -/
theorem m_attachUse (K : px_K) (N : Nat) (t : px_W) (s : px_S) (T : ZTs) (h : zRt s T) (hu : T.tv.p.up = true) (hw : T.tv.wf = true) : f_M_attach_28 K N s t = some (.inl (some (.int (-4))), sR s 25 (0 : Int32), t) := by
  have h0 := zRt_25 h 0
  have e29 : ¬ (sR s 25 (0 : Int32)).1 29 = 0 := fun hx => by have := (zRw_up h0.1.1).mp hx; rw [hu] at this; cases this
  have e31 : ¬ (sR s 25 (0 : Int32)).1 31 = 0 := by
    have e : (sR s 25 (0 : Int32)).1 31 = bN T.tv.wf := h0.1.2.2.2.2.1
    rw [e, hw]; decide
  obtain ⟨r, e1, e2⟩ : wp (f_M_attach_28 K N s t) (fun r => r = (.inl (some (.int (-4))), sR s 25 (0 : Int32), t)) := by
    unfold f_M_attach_28
    exact wp_let (wp_if e29 (wp_ifn e31 (wp_some rfl)))
  rw [e1, e2]
theorem c_attachUse (K : px_K) (N : Nat) (t : px_W) (s : px_S) (T : ZTs) (h : zCt s T) (h0 : s.1 0 = 1) (hw : T.tv.wf = true) : f_E_attach_1 K N s t = some (.inl (some (.int (-4))), s, t) := by
  have h12 : s.1 12 = bN T.tv.wf := h.1.2.1.2.1
  obtain ⟨r, e1, e2⟩ : wp (f_E_attach_1 K N s t) (fun r => r = (.inl (some (.int (-4))), s, t)) := by
    unfold f_E_attach_1
    exact wp_if (by rw [h0]; decide) (wp_ifn (by rw [h12, hw]; decide) (wp_some rfl))
  rw [e1, e2]
theorem m_limitDn (K : px_K) (N : Nat) (t : px_W) (s : px_S) (h : s.1 29 = 0) (k : Int32) (m : Int64) : f_M_limit_28 K N k m s t = some (.inl (some (.int 0)), sR s 25 (0 : Int32), t) := by
  obtain ⟨r, e1, e2⟩ : wp (f_M_limit_28 K N k m s t) (fun r => r = (.inl (some (.int 0)), sR s 25 (0 : Int32), t)) := by
    unfold f_M_limit_28
    exact wp_let (wp_if (by rw [sR_ne (by omega)]; exact h) (wp_some rfl))
  rw [e1, e2]
/-! MOUNT: what it leaves -/
theorem zmount_ok {v : ZVs} (hd : ZDn (zGood ZW) v) (hna : v.p.na + 4000000 < 2147483648) (f : Bool) (h0 : Nat) (hg : f = true → v.good = some h0) (k : Int32) (m : Int64) : ZOk (zGood ZW) (fun u => ZIv (zGood ZW) (fun V => V = u.cur) u) (zMv1 v f h0 k m) ∧ ZFr 286 (zMv0 v f k m) (zMv1 v f h0 k m) := by
  have hP := zGood_mono ZW
  have edn : v.dn = (v.p.dv 0).st := ZDv.now_nil (hd.pd 0 (by omega))
  have efn : v.fn = (v.p.dv 1).st := ZDv.now_nil (hd.pd 1 (by omega))
  have okv : zOK (zGood ZW) v.sets v.ways v.eps (v.p.na + 1) v.dn v.fn := by rw [edn, efn]; exact hd.ok
  obtain ⟨v0, hv0⟩ : ∃ v0, v0 = zMv0 v f k m := ⟨_, rfl⟩
  have c1 : v0.p.up = true := by rw [hv0]; rfl
  have c2 : ZSz v0.sets v0.ways v0.eps := by rw [hv0]; exact hd.sz
  have c3 : (v0.p.dv 0).pd = [] := by rw [hv0]; exact hd.pd 0 (by omega)
  have c4 : (v0.p.dv 1).pd = [] := by rw [hv0]; exact hd.pd 1 (by omega)
  have c5 : zOK (zGood ZW) v0.sets v0.ways v0.eps (v0.p.na + 1) v0.dn v0.fn := by rw [hv0]; exact okv
  have c6 : v0.p.na = v.p.na := by rw [hv0]; rfl
  have c7 : v0.wf = f := by rw [hv0]; rfl
  have c8 : v0.good = v.good := by rw [hv0]; rfl
  have e : zMv1 v f h0 k m = (if f = true then ZVs.openFlash h0 v0 else v0.openDisc) := by unfold zMv1; rw [hv0]
  rw [e, ← hv0]
  cases f with
  | false =>
    rw [if_neg (c := false = true) Bool.noConfusion]
    exact ⟨zopenDisc hP c1 c7 c2 c3 c4 c5 (by omega), (zfr_openDisc v0).mono (by omega)⟩
  | true =>
    rw [if_pos (c := true = true) rfl]
    exact ⟨zopenFlash hP c1 c7 c2 c3 c4 c5 (by omega) (by rw [c8]; exact hg rfl), zfr_openFlash h0 v0⟩
