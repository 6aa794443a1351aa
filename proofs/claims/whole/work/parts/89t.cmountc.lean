/-! MOUNT (the class) -/
/-- what a mount leaves of the class -/
def zMc (t : px_W) (s : px_S) (v1 : ZVs) (r : px_Res) : Prop := (v1.p.up = true ∧ zEr (if (zLoad v1).home.tv.p.up = true then zClosed (zLoad v1).home.tv else -9) t s (zLoad v1).home r) ∨ (v1.p.up = false ∧ ∃ u t', r = (.inl (some (.int (-9))), u, t') ∧ zTt t t' ∧ zHx s u ∧ zEd u v1)
theorem zCt_0 {s : px_S} {T : ZTs} (h : zCt s T) (x : Int32) : zCt (sR s 0 x) T := by
  obtain ⟨v, j1, j2, j3, j4, j5, j6, j7, j8⟩ := h
  exact ⟨zCv_of v (fun _ _ _ => rfl) (fun r _ _ => sR_ne (by omega)) rfl, j1, j2, j3, j4, by rw [sR_ne (by omega)]; exact j5, by rw [sR_ne (by omega)]; exact j6, by rw [sR_ne (by omega)]; exact j7, by rw [sR_ne (by omega)]; exact j8⟩
theorem c_mtail (K : px_K) (N n sets : Nat) (hN : 2000 ≤ N) (hK : zKc K n sets) (t15 : px_W) (s s14 : px_S) (v1 : ZVs) (hn : v1.n = n) (hsets : v1.sets = sets) (hcs : zCs s v1) (hx : zHx s s14) (h : zCv s14 v1) (hi : ZIv (zGood ZW) (fun V => V = v1.cur) v1) (hna : v1.p.na + 2000000 < 2147483648) : wp (α := px_Res) (px_bv (f_T_load_22 K N s14 t15) (fun s19 t20 => (px_let (sR s19 0 (1 : Int32)) (fun s24 => (px_bi (f_V_greatestClosed_13 K N s24 t20) (fun v29 s26 t27 => (some (.inl (some (.int v29)), s26, t27))) (fun x30 s26 t27 => none))))) (fun x23 s19 t20 => (px_gd (px_isx t20 x23 7) (px_bi (f_E_goDown_1 K N (s19.2.1 2) s19 t20) (fun v34 s31 t32 => (some (.inl (some (.int v34)), s31, t32))) (fun x35 s31 t32 => none))))) (zMc t15 s v1) := by
  have hl := c_loadTree hWZ K N n sets hN hK t15 s14 v1 hn hsets h hi hna
  have F := zfr_home (zLoad v1) hi.sz
  have el : (zLoad v1).tv = v1 := rfl
  rw [el] at F
  refine wp_imp (Q := zEr (if (zLoad v1).home.tv.p.up = true then zClosed (zLoad v1).home.tv else -9) t15 s (zLoad v1).home) ?_ (fun r hr => Or.inl ⟨hi.up, hr⟩)
  refine wp_tv K N n sets hN hK t15 s s14 (zLoad v1).home.tv ((zFr_n F).trans hn) (zCs_v hcs F.s F.w F.e) hl hx (fun u hu hR => ?_) (fun hd => ⟨rfl, fun u' hu' hx' => ?_⟩)
  · rw [if_pos hu]
    have h24 := zCt_0 hR.1 (1 : Int32)
    refine wp_let (wp_bi (c_closed K N n sets hK t15 (sR u 0 (1 : Int32)) _ h24.1) (wp_some ⟨sR u 0 (1 : Int32), t15, rfl, zTt_refl t15, ?_, Or.inl ⟨hu, h24, sR_self _ _ _⟩⟩))
    exact zHx_trans hx (zHx_trans (zHt_x hR.2) ⟨fun _ _ => rfl, fun r hr => sR_ne (by omega), fun _ _ => rfl, rfl⟩)
  · rw [if_neg (by rw [hd]; exact Bool.noConfusion)]
    exact zEr_dn hd hu' hx'
theorem c_mbody (K : px_K) (N n sets : Nat) (hN : 2000 ≤ N) (hK : zKc K n sets) (t : px_W) (s : px_S) (v : ZVs) (hn : v.n = n) (hsets : v.sets = sets) (h : zEd s v) (hd : ZDn (zGood ZW) v) (hna : v.p.na + 4000000 < 2000000000) (f : Bool) (a0 a1 : Int32) (a2 : Int64) (ha0 : a0 = bN f) (h0 : Nat) (hg : f = true → v.good = some h0) : wp (α := px_Res) (px_bv (f_P_limitTo_2 K N a1 a2 s t) (fun s3 t4 => (px_bv (f_V_finishLanding_13 K N s3 t4) (fun s8 t9 => (if a0 = 0 then (px_bv (f_V_openDisc_13 K N s8 t9) (fun s14 t15 => (px_bv (f_T_load_22 K N s14 t15) (fun s19 t20 => (px_let (sR s19 0 (1 : Int32)) (fun s24 => (px_bi (f_V_greatestClosed_13 K N s24 t20) (fun v29 s26 t27 => (some (.inl (some (.int v29)), s26, t27))) (fun x30 s26 t27 => none))))) (fun x23 s19 t20 => (px_gd (px_isx t20 x23 7) (px_bi (f_E_goDown_1 K N (s19.2.1 2) s19 t20) (fun v34 s31 t32 => (some (.inl (some (.int v34)), s31, t32))) (fun x35 s31 t32 => none)))))) (fun x18 s14 t15 => (px_gd (px_isx t15 x18 7) (px_bi (f_E_goDown_1 K N (s14.2.1 2) s14 t15) (fun v40 s37 t38 => (some (.inl (some (.int v40)), s37, t38))) (fun x41 s37 t38 => none))))) else (px_bv (f_V_openFlash_13 K N s8 t9) (fun s43 t44 => (px_bv (f_T_load_22 K N s43 t44) (fun s48 t49 => (px_let (sR s48 0 (1 : Int32)) (fun s53 => (px_bi (f_V_greatestClosed_13 K N s53 t49) (fun v58 s55 t56 => (some (.inl (some (.int v58)), s55, t56))) (fun x59 s55 t56 => none))))) (fun x52 s48 t49 => (px_gd (px_isx t49 x52 7) (px_bi (f_E_goDown_1 K N (s48.2.1 2) s48 t49) (fun v63 s60 t61 => (some (.inl (some (.int v63)), s60, t61))) (fun x64 s60 t61 => none)))))) (fun x47 s43 t44 => (px_gd (px_isx t44 x47 7) (px_bi (f_E_goDown_1 K N (s43.2.1 2) s43 t44) (fun v69 s66 t67 => (some (.inl (some (.int v69)), s66, t67))) (fun x70 s66 t67 => none))))))) (fun x12 s8 t9 => (px_gd (px_isx t9 x12 7) (px_bi (f_E_goDown_1 K N (s8.2.1 2) s8 t9) (fun v75 s72 t73 => (some (.inl (some (.int v75)), s72, t73))) (fun x76 s72 t73 => none)))))) (fun x7 s3 t4 => none)) (zMc t s (zMv1 v f h0 a1 a2)) := by
  have hP := zGood_mono ZW
  have hcw : zCw n s v.p := by rw [← hn]; exact h.1
  have edn : v.dn = (v.p.dv 0).st := ZDv.now_nil (hd.pd 0 (by omega))
  have efn : v.fn = (v.p.dv 1).st := ZDv.now_nil (hd.pd 1 (by omega))
  have okv : zOK (zGood ZW) v.sets v.ways v.eps (v.p.na + 1) v.dn v.fn := by rw [edn, efn]; exact hd.ok
  -- the power is on, with a limit or without
  obtain ⟨s3, a1', a2', a3', a4', a5'⟩ : ∃ u, f_P_limitTo_2 K N a1 a2 s t = some (.inl none, u, t) ∧ zCw n u (zPon v.p a1 a2) ∧ zHx s u ∧ u.1 = s.1 ∧ u.2.2.1 = s.2.2.1 := by
    obtain ⟨l1, l2⟩ := c_limitTo K N n t s v.p hcw a1 a2 true
    by_cases hk : 0 < a1
    · have e : zPon v.p a1 a2 = ZPw.mk v.p.dv true (n32 a1) a2 v.p.na := by unfold zPon; rw [if_pos hk, if_pos hk]
      rw [e]; exact l1 hk
    · have e : zPon v.p a1 a2 = ZPw.mk v.p.dv true v.p.lim v.p.msk v.p.na := by unfold zPon; rw [if_neg hk, if_neg hk]
      rw [e]; exact l2 hk hd.lim
  obtain ⟨v0, hv0⟩ : ∃ v0, v0 = zMv0 v f a1 a2 := ⟨_, rfl⟩
  have e0 : zMv1 v f h0 a1 a2 = (if f = true then ZVs.openFlash h0 v0 else v0.openDisc) := by unfold zMv1; rw [hv0]
  have c1 : v0.p.up = true := by rw [hv0]; rfl
  have c2 : ZSz v0.sets v0.ways v0.eps := by rw [hv0]; exact hd.sz
  have c3 : (v0.p.dv 0).pd = [] := by rw [hv0]; exact hd.pd 0 (by omega)
  have c4 : (v0.p.dv 1).pd = [] := by rw [hv0]; exact hd.pd 1 (by omega)
  have c5 : zOK (zGood ZW) v0.sets v0.ways v0.eps (v0.p.na + 1) v0.dn v0.fn := by rw [hv0]; exact okv
  have c6 : v0.p.na = v.p.na := by rw [hv0]; rfl
  have c7 : v0.wf = f := by rw [hv0]; rfl
  have c8 : v0.good = v.good := by rw [hv0]; rfl
  have c9 : v0.n = n := by rw [hv0]; exact hn
  have c10 : v0.sets = sets := by rw [hv0]; exact hsets
  have c11 : zCw n s3 v0.p := by rw [hv0]; exact a2'
  have c12 : zCs s v0 := by rw [hv0]; exact zCs_v h.2.1 rfl rfl rfl
  have okk := c5
  obtain ⟨id, L, r1, r2, r3, r4, r5⟩ := okk
  have hLv : v0.landed = L := r1.L_eq (by omega)
  have hL : v0.dn 1 1 = iN v0.landed := by rw [hLv]; exact r1.hL
  have hrd := zredo hP c1 c2 c3 c4 c5 (by omega)
  have hcr := c_redo K N n sets hN hK t s3 v0 c11 c1 c3 hL r1.hh (by omega)
  have Fr := (zfr_redo v0).1
  obtain ⟨k1, k2⟩ := zredo_same c3 c4
  have hgood : v0.redo.good = v0.good := by unfold ZVs.good; rw [k1, k2]
  have hiF : v0.wf = true → ZOk (zGood ZW) (fun u => ZIv (zGood ZW) (fun V => V = u.cur) u) (ZVs.openFlash h0 v0) := fun hw => zopenFlash hP c1 hw c2 c3 c4 c5 (by omega) (by rw [c8]; exact hg (by rw [← c7]; exact hw))
  have hiD : v0.wf = false → ZOk (zGood ZW) (fun u => ZIv (zGood ZW) (fun V => V = u.cur) u) v0.openDisc := fun hw => zopenDisc hP c1 hw c2 c3 c4 c5 (by omega)
  have hnF := (zfr_openFlash h0 v0).n2
  have hnD := (zfr_openDisc v0).n2
  obtain ⟨u, hu⟩ : ∃ u, u = v0.redo := ⟨_, rfl⟩
  have hopF : ZVs.openFlash h0 v0 = (ZVs.takeHalf h0 u.noSlots).changeHalves := by unfold ZVs.openFlash; rw [hu]
  have hopD : v0.openDisc = (u.noSlots.wr 0 0 (zThree (n32 (u.noSlots.dn 0 0) + 1) 0 0)).fl 0 := by unfold ZVs.openDisc; rw [hu]
  rw [hopF] at hiF hnF
  rw [hopD] at hiD hnD
  rw [← hu] at hrd hcr Fr hgood
  have FrF := zfr_open2 h0 u
  have FrD := zfr_disc2 u
  rw [e0, hopF, hopD]
  obtain ⟨v1, hv1⟩ : ∃ v1, v1 = (if f = true then (ZVs.takeHalf h0 u.noSlots).changeHalves else (u.noSlots.wr 0 0 (zThree (n32 (u.noSlots.dn 0 0) + 1) 0 0)).fl 0) := ⟨_, rfl⟩
  have Fv1 : ZFr 267 u v1 := by
    rw [hv1]
    split
    · exact FrF
    · exact FrD.mono (by omega)
  have FvA := Fr.trans Fv1
  rw [← hv1]
  have hcs1 : zCs s v1 := zCs_v c12 FvA.s FvA.w FvA.e
  have dnQ : v1.p.up = false → ∀ u', zEd u' v1 → zHx s u' → zMc t s v1 (.inl (some (.int (-9))), u', t ++ [px_exc 7]) := fun hdn u' hu' hx' => Or.inr ⟨hdn, u', t ++ [px_exc 7], rfl, zTt_1 t 7, hx', hu'⟩
  refine wp_bv a1' (wp_tv K N n sets hN hK t s s3 v1 ((zFr_n FvA).trans c9) hcs1 hcr a3' (fun s8 u8 R8 => ?_) (fun hdn => ⟨Fv1.dn hdn, dnQ (by rw [Fv1.dn hdn]; exact hdn)⟩))
  obtain ⟨q1, q2, q3, q4, q5, q6, q7, q8⟩ : ZKeep v0 u ∧ (u.p.dv 0).pd = [] ∧ u.p.dv 1 = v0.p.dv 1 ∧ zOK (zGood ZW) u.sets u.ways u.eps (u.p.na + 1) u.dn u.fn ∧ u.dn 1 0 ≠ 1 ∧ u.dn 0 0 = v0.dn 0 0 ∧ u.dn 1 1 = v0.dn 1 1 ∧ v0.p.na ≤ u.p.na := by
    rcases hrd with ⟨_, q⟩ | q
    · exact q
    · have := q.up; rw [u8] at this; cases this
  have hun := Fr.n2
  have hxs8 : zHx s s8 := zHx_trans a3' (zHe_x R8.2)
  have hcs8 : zCs s8 u := zCs_x (zCs_v c12 Fr.s Fr.w Fr.e) hxs8
  have hun' : u.n = n := (zFr_n Fr).trans c9
  have hus : u.sets = sets := Fr.s.trans c10
  have hid : u.dn 0 0 = iN (n32 (u.dn 0 0)) := by
    obtain ⟨id', L', r1', r2', _⟩ := q4
    rw [r1'.id_eq (by omega)]; exact r1'.hid
  cases f with
  | false =>
    have ea : a0 = 0 := by rw [ha0]; rfl
    have ev1 : v1 = (u.noSlots.wr 0 0 (zThree (n32 (u.noSlots.dn 0 0) + 1) 0 0)).fl 0 := by rw [hv1, if_neg (c := false = true) Bool.noConfusion]
    have hod := c_openDisc K N n sets hN hK t s8 u hun' R8.1 hcs8 u8 (by rw [Fr.wf]; exact c7) hid (by omega)
    have hiD := hiD c7
    rw [← ev1] at hod hiD hnD
    refine wp_if ea (wp_tv K N n sets hN hK t s s8 v1 ((zFr_n FvA).trans c9) hcs1 hod hxs8 (fun s14 u14 R14 => ?_) (fun hdn => ⟨rfl, dnQ hdn⟩))
    refine c_mtail K N n sets hN hK t s s14 v1 ((zFr_n FvA).trans c9) (FvA.s.trans c10) hcs1 (zHx_trans hxs8 (zHo2_x R14.2)) R14.1 ?_ (by omega)
    rcases hiD with ⟨_, q⟩ | q
    · exact q
    · have := q.up; rw [u14] at this; cases this
  | true =>
    have ea : ¬ a0 = 0 := by rw [ha0]; decide
    have ev1 : v1 = (ZVs.takeHalf h0 u.noSlots).changeHalves := by rw [hv1, if_pos (c := true = true) rfl]
    have hof := c_openFlash (W := ZW) K N n sets hN hK t s8 u hun' hus R8.1 hcs8 u8 (by rw [Fr.wf]; exact c7) (Fr.sz c2) q2 (by rw [q3]; exact c4) q5 q4 h0 (by rw [hgood, c8]; exact hg rfl) (by omega)
    have hiF := hiF c7
    rw [← ev1] at hof hiF hnF
    refine wp_ifn ea (wp_tv K N n sets hN hK t s s8 v1 ((zFr_n FvA).trans c9) hcs1 hof hxs8 (fun s14 u14 R14 => ?_) (fun hdn => ⟨rfl, dnQ hdn⟩))
    refine c_mtail K N n sets hN hK t s s14 v1 ((zFr_n FvA).trans c9) (FvA.s.trans c10) hcs1 (zHx_trans hxs8 (zHo2_x R14.2)) R14.1 ?_ (by omega)
    rcases hiF with ⟨_, q⟩ | q
    · exact q
    · have := q.up; rw [u14] at this; cases this
theorem c_mountCall (K : px_K) (N n sets : Nat) (hN : 2000 ≤ N) (hK : zKc K n sets) (t : px_W) (s : px_S) (v : ZVs) (hn : v.n = n) (hsets : v.sets = sets) (h : zEd s v) (hd : ZDn (zGood ZW) v) (hna : v.p.na + 4000000 < 2000000000) (f : Bool) (k : Int32) (m : Int64) : (f = true → v.good = none → f_E_mount_1 K N (bN f) k m s t = some (.inl (some (.int (-1))), s, t)) ∧ ∀ h0, (f = true → v.good = some h0) → wp (f_E_mount_1 K N (bN f) k m s t) (zMc t s (zMv1 v f h0 k m)) := by
  have hcw : zCw n s v.p := by rw [← hn]; exact h.1
  have edn : v.dn = (v.p.dv 0).st := ZDv.now_nil (hd.pd 0 (by omega))
  have efn : v.fn = (v.p.dv 1).st := ZDv.now_nil (hd.pd 1 (by omega))
  have okv : zOK (zGood ZW) v.sets v.ways v.eps (v.p.na + 1) v.dn v.fn := by rw [edn, efn]; exact hd.ok
  obtain ⟨o, o1, o2, o3⟩ := c_good K N n sets hN hK t s v hcw.1 hcw.2.1
  have hgood := o3 (zgood_sgn (by omega) okv)
  have e0 : ¬ ¬ s.1 0 = 0 := fun hx => hx h.2.2
  constructor
  · intro hf hg
    rw [hg] at hgood
    rw [← hgood] at o1
    obtain ⟨r, e1, e2⟩ : wp (f_E_mount_1 K N (bN f) k m s t) (fun r => r = (.inl (some (.int (-1))), s, t)) := by
      unfold f_E_mount_1
      exact wp_ifn e0 (wp_ifn (by rw [hf]; decide) (wp_bi o1 (wp_ifn (by decide) (wp_some rfl))))
    rw [e1, e2]
  · intro h0 hg
    have key := c_mbody K N n sets hN hK t s v hn hsets h hd hna f (bN f) k m rfl h0 hg
    unfold f_E_mount_1
    refine wp_ifn e0 ?_
    by_cases hf0 : bN f = 0
    · exact wp_if hf0 key
    · have hft : f = true := by cases f with
        | false => exact absurd rfl hf0
        | true => rfl
      have ho : o = some h0 := by rw [← hgood]; exact hg hft
      have h2 := o2 h0 ho
      rw [ho] at o1
      exact wp_ifn hf0 (wp_bi o1 (wp_if (by show 0 ≤ iN h0; rw [iL0, iN_le (by omega) (by omega)]; omega) key))
theorem c_mountUp (K : px_K) (N : Nat) (t : px_W) (s : px_S) (h0 : s.1 0 = 1) (f k : Int32) (m : Int64) : f_E_mount_1 K N f k m s t = some (.inl (some (.int (-1))), s, t) := by
  obtain ⟨r, e1, e2⟩ : wp (f_E_mount_1 K N f k m s t) (fun r => r = (.inl (some (.int (-1))), s, t)) := by
    unfold f_E_mount_1
    exact wp_if (by rw [h0]; decide) (wp_some rfl)
  rw [e1, e2]
