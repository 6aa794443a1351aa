/-! THE POWER GOES (the class) -/
theorem px_isx_end (t : px_W) (c : Nat) : px_isx (t ++ [px_exc c]) (t.length + 47) c := ⟨t.length, rfl, by simp⟩
/-- down: the devices, the sizes -/
def zEd (s : px_S) (v : ZVs) : Prop := zCw v.n s v.p ∧ zCs s v ∧ s.1 0 = 0
theorem c_goDown (K : px_K) (N n sets : Nat) (hN : 2000 ≤ N) (hK : zKc K n sets) (t : px_W) (s : px_S) (p : ZPw) (dv : Nat → ZDv) (m : Int64) (h1 : zCd s 1 3 125 (dv 0)) (h2 : zCd s 6 8 (50 + n) (dv 1)) (hp : ∀ k, p.dv k = (dv k).go m) (hna : s.2.1 0 = Int64.ofNat p.na) (hl : p.lim = 0) : ∃ u, f_E_goDown_1 K N m s t = some (.inl (some (.int (-9))), u, t) ∧ zCw n u p ∧ u.1 0 = 0 ∧ zHx s u := by
  obtain ⟨s1, a1, a2, a3, a4, a5, a6⟩ := c_lose_3 K N n sets hN hK t s m (dv 0) h1
  obtain ⟨s2, b1, b2, b3, b4, b5, b6⟩ := c_lose_8 K N n sets hN hK t s1 m (dv 1) (zCd_of h2 (fun r _ _ => a3 r (by omega)) (fun a _ _ => a5 a (by omega) (by omega)))
  obtain ⟨u, hu⟩ : ∃ u, u = sQ (sQ (sR s2 0 (0 : Int32)) 1 (0 : Int64)) 2 (0 : Int64) := ⟨_, rfl⟩
  have u1 : ∀ r, r ≠ 0 → u.1 r = s2.1 r := fun r hr => by rw [hu]; exact sR_ne hr
  have ua : u.2.2.1 = s2.2.2.1 := by rw [hu]; rfl
  have ul : ∀ r, r ≠ 1 → r ≠ 2 → u.2.1 r = s2.2.1 r := fun r r1 r2 => by rw [hu, sQ_ne r2, sQ_ne r1]; rfl
  refine ⟨u, ?_, ⟨?_, ?_, ?_, fun _ => ?_, fun hx => absurd hl hx, by rw [hl]; omega⟩, ?_, ?_⟩
  · obtain ⟨r, r1, r2⟩ : wp (f_E_goDown_1 K N m s t) (fun r => r = (.inl (some (.int (-9))), u, t)) := by
      unfold f_E_goDown_1
      refine wp_bv a1 (wp_bv b1 (wp_let ?_))
      have hlim : f_P_limitTo_2 K N (0 : Int32) (0 : Int64) (sR s2 0 (0 : Int32)) t = some (.inl none, u, t) := by
        obtain ⟨z, z1, z2⟩ : wp (f_P_limitTo_2 K N (0 : Int32) (0 : Int64) (sR s2 0 (0 : Int32)) t) (fun z => z = (.inl none, u, t)) := by
          unfold f_P_limitTo_2
          exact wp_if (by decide) (wp_let (wp_let (wp_some (by rw [hu]))))
        rw [z1, z2]
      exact wp_bv hlim (wp_some rfl)
    rw [r1, r2]
  · rw [hp 0]
    exact zCd_of a2 (fun r _ _ => by rw [u1 r (by omega), b3 r (by omega)]) (fun a _ _ => by rw [ua, b5 a (by omega) (by omega)])
  · rw [hp 1]
    exact zCd_of b2 (fun r _ _ => u1 r (by omega)) (fun a _ _ => by rw [ua])
  · rw [ul 0 (by omega) (by omega), b4, a4]; exact hna
  · rw [hu, sQ_ne (by omega), sQ_self]
  · rw [hu]
    show (sR s2 0 (0 : Int32)).1 0 = 0
    exact sR_self _ _ _
  · refine ⟨fun c hc => by rw [ua, b5 c (by omega) (by omega), a5 c (by omega) (by omega)], fun r hr => by rw [u1 r (by omega), b3 r (by omega), a3 r (by omega)], fun r hr => by rw [ul r (by omega) (by omega), b4, a4], by rw [hu]; show s2.2.2.2 = _; rw [b6, a6]⟩
theorem zCs_x {s u : px_S} {v : ZVs} (h : zCs s v) (hx : zHx s u) : zCs u v := zCs_of h (fun r hr => hx.2.1 r (by omega))
/-- the catching of a refused act -/
theorem c_catch (K : px_K) (N n sets : Nat) (hN : 2000 ≤ N) (hK : zKc K n sets) (t : px_W) (s u : px_S) (v : ZVs) (hn : v.n = n) (hcs : zCs s v) (hz : zDw n u v.p) (hx : zHx s u) {Q : px_Res → Prop} {g : Nat → px_S → px_W → Option px_Res} (hQ : ∀ u', zEd u' v → zHx s u' → Q (.inl (some (.int (-9))), u', t ++ [px_exc 7])) : wp (px_gd (px_isx (t ++ [px_exc 7]) (t.length + 47) 7) (px_bi (f_E_goDown_1 K N (u.2.1 2) u (t ++ [px_exc 7])) (fun v16 s13 t14 => (some (.inl (some (.int v16)), s13, t14))) g)) Q := by
  obtain ⟨⟨dv, d1, d2, d3⟩, hna, hl⟩ := hz
  obtain ⟨u', a1, a2, a3, a4⟩ := c_goDown K N n sets hN hK (t ++ [px_exc 7]) u v.p dv (u.2.1 2) d1 d2 d3 hna hl
  refine wp_gd (px_isx_end t 7) (wp_bi a1 (wp_some (hQ u' ⟨by rw [hn]; exact a2, zCs_x (zCs_x hcs hx) a4, a3⟩ (zHx_trans hx a4))))
/-- a call that may be cut off -/
theorem wp_tv (K : px_K) (N n sets : Nat) (hN : 2000 ≤ N) (hK : zKc K n sets) (t : px_W) (s s1 : px_S) (v : ZVs) (hn : v.n = n) (hcs : zCs s v) {p : ZPw} {R : px_S → Prop} {x : Option px_Res} {f : px_S → px_W → Option px_Res} {Q : px_Res → Prop} {g : Nat → px_S → px_W → Option px_Res} (h : wp x (zO n none t s1 p R)) (hx : zHx s s1) (hk : ∀ u, p.up = true → R u → wp (f u t) Q) (hd : p.up = false → v.p = p ∧ ∀ u', zEd u' v → zHx s u' → Q (.inl (some (.int (-9))), u', t ++ [px_exc 7])) : wp (px_bv x f (fun x6 s2 t3 => (px_gd (px_isx t3 x6 7) (px_bi (f_E_goDown_1 K N (s2.2.1 2) s2 t3) (fun v16 s13 t14 => (some (.inl (some (.int v16)), s13, t14))) g)))) Q := by
  obtain ⟨r, e, h⟩ := h
  rcases h with ⟨hu, u, rfl, hR⟩ | ⟨hu, u, rfl, hz, hxu⟩
  · exact wp_bv e (hk u hu hR)
  · obtain ⟨hp, hQ⟩ := hd hu
    exact wp_bvx e (c_catch K N n sets hN hK t s u v hn hcs (by rw [hp]; exact hz) (zHx_trans hx hxu) hQ)
theorem wp_ti (K : px_K) (N n sets : Nat) (hN : 2000 ≤ N) (hK : zKc K n sets) (t : px_W) (s s1 : px_S) (v : ZVs) (hn : v.n = n) (hcs : zCs s v) {p : ZPw} {a : Int32} {R : px_S → Prop} {x : Option px_Res} {f : Int32 → px_S → px_W → Option px_Res} {Q : px_Res → Prop} {g : Nat → px_S → px_W → Option px_Res} (h : wp x (zO n (some (.int a)) t s1 p R)) (hx : zHx s s1) (hk : ∀ u, p.up = true → R u → wp (f a u t) Q) (hd : p.up = false → v.p = p ∧ ∀ u', zEd u' v → zHx s u' → Q (.inl (some (.int (-9))), u', t ++ [px_exc 7])) : wp (px_bi x f (fun x6 s2 t3 => (px_gd (px_isx t3 x6 7) (px_bi (f_E_goDown_1 K N (s2.2.1 2) s2 t3) (fun v16 s13 t14 => (some (.inl (some (.int v16)), s13, t14))) g)))) Q := by
  obtain ⟨r, e, h⟩ := h
  rcases h with ⟨hu, u, rfl, hR⟩ | ⟨hu, u, rfl, hz, hxu⟩
  · exact wp_bi e (hk u hu hR)
  · obtain ⟨hp, hQ⟩ := hd hu
    exact wp_bix e (c_catch K N n sets hN hK t s u v hn hcs (by rw [hp]; exact hz) (zHx_trans hx hxu) hQ)
/-! THE CLASS'S CALLS -/
/-- few exceptions more -/
def zTt (t t' : px_W) : Prop := t'.length ≤ t.length + 2 ∧ px_tot t' ≤ px_tot t + 100
theorem zTt_refl (t : px_W) : zTt t t := ⟨by omega, by omega⟩
theorem px_sz_exc (c : Nat) : px_sz (px_exc c) ≤ 50 := by show (List.replicate 6 Value.null).length ≤ 50; decide
theorem zTt_1 (t : px_W) (c : Nat) : zTt t (t ++ [px_exc c]) := by
  have := px_sz_exc c
  refine ⟨by rw [List.length_append]; simp, ?_⟩
  rw [px_tot_app]; omega
theorem zTt_2 (t : px_W) (c d : Nat) : zTt t ((t ++ [px_exc c]) ++ [px_exc d]) := by
  have := px_sz_exc c
  have := px_sz_exc d
  refine ⟨by rw [List.length_append, List.length_append]; exact Nat.le_refl _, ?_⟩
  rw [px_tot_app, px_tot_app]; omega
/-- what a call leaves: an answer; a tree, or a volume that is down -/
def zEr (a : Int32) (t : px_W) (s : px_S) (T : ZTs) (r : px_Res) : Prop := ∃ u t', r = (.inl (some (.int a)), u, t') ∧ zTt t t' ∧ zHx s u ∧ ((T.tv.p.up = true ∧ zCt u T ∧ u.1 0 = 1) ∨ (T.tv.p.up = false ∧ zEd u T.tv))
theorem zEr_up {a : Int32} {t : px_W} {s u : px_S} {T : ZTs} (hu : T.tv.p.up = true) (h : zCt u T) (h0 : s.1 0 = 1) (hx : zHt s u) : zEr a t s T (.inl (some (.int a)), u, t) := ⟨u, t, rfl, zTt_refl t, zHt_x hx, Or.inl ⟨hu, h, by rw [hx.2.1 0 (by omega)]; exact h0⟩⟩
theorem zEr_dn {t : px_W} {s u : px_S} {T : ZTs} (hu : T.tv.p.up = false) (h : zEd u T.tv) (hx : zHx s u) : zEr (-9) t s T (.inl (some (.int (-9))), u, t ++ [px_exc 7]) := ⟨u, t ++ [px_exc 7], rfl, zTt_1 t 7, hx, Or.inr ⟨hu, h⟩⟩
theorem zCt_s {s : px_S} {T : ZTs} (h : zCt s T) : zCs s T.tv := zCz_s h.1.2.1
/-- acts of a call's beginning -/
theorem zfr_commit (T : ZTs) (hi : ZTi ZW T) : ZFr 1000000 T.tv T.commit.tv := by
  have hz : ZSz T.tv.sets T.tv.ways T.tv.eps := hi.iv.sz
  unfold ZTs.commit
  split
  · exact (ZFr.refl _).mono (by omega)
  · have h12 := hi.cn
    have h1 : ZFr 779402 T.tv (if 29 - T.jr < (zCl T.ch).length + 2 then T.home else T).tv := by
      split
      · exact zfr_home T hz
      · exact (ZFr.refl _).mono (by omega)
    obtain ⟨U, hU⟩ : ∃ U, U = (if 29 - T.jr < (zCl T.ch).length + 2 then T.home else T) := ⟨_, rfl⟩
    rw [← hU] at h1 ⊢
    have h2 := zfr_cmt (zCl T.ch) U.wd U.sq U.jr U.tv (h1.sz hz)
    exact (h1.trans h2).mono (by omega)
theorem zfr_beg (T : ZTs) (hi : ZTi ZW T) : ZFr 1000000 T.tv (zBeg T).tv := by
  unfold zBeg
  split
  · exact zfr_commit T hi
  · exact (ZFr.refl _).mono (by omega)
/-- the call's run: the beginning, and what follows -/
theorem c_call (K : px_K) (N n sets : Nat) (hN : 2000 ≤ N) (hK : zKc K n sets) (t : px_W) (s : px_S) (T : ZTs) (hn : T.tv.n = n) (hsets : T.tv.sets = sets) (h : zCt s T) (h0 : s.1 0 = 1) (hi : ZTi ZW T) (hna : T.tv.p.na + 3000000 < 2147483648) (f : ZTs → Int32 × ZTs) {F : px_S → px_W → Option px_Res} {g : Nat → px_S → px_W → Option px_Res} {X : Option px_Res} (hF : ∀ s3 U, zCt s3 U → ZTi ZW U → (zCl U.ch).length ≤ 7 → zCs s U.tv → U.tv.n = n → U.tv.sets = sets → U.tv.p.na + 1000000 < 2147483648 → zHt s s3 → wp (F s3 t) (zEr (f U).1 t s (f U).2)) : wp (if ¬ (s.1 0) = 0 then (px_bv (f_T_commitAbove_22 K N (7 : Int32) s t) F (fun x6 s2 t3 => (px_gd (px_isx t3 x6 7) (px_bi (f_E_goDown_1 K N (s2.2.1 2) s2 t3) (fun v16 s13 t14 => (some (.inl (some (.int v16)), s13, t14))) g)))) else X) (zEr (zCall T f).1 t s (zCall T f).2) := by
  have hz : ZSz T.tv.sets T.tv.ways T.tv.eps := hi.iv.sz
  obtain ⟨hn1, hn2⟩ := zBnd2 hna (zfr_home T hz).n2
  have hfr := zfr_beg T hi
  have hc := c_commitAbove hWZ K N n sets hN hK t s T hn hsets h hi hna 7 (by omega) (zBeg T) rfl
  refine wp_if (by rw [h0]; decide) ?_
  have hok := zbeg_ok hi hna hn2
  refine wp_tv K N n sets hN hK t s s (zBeg T).tv ((zFr_n hfr).trans hn) (zCs_v (zCt_s h) hfr.s hfr.w hfr.e) (show wp (f_T_commitAbove_22 K N (7 : Int32) s t) _ from hc) (zHx_refl s) (fun u hu hR => ?_) (fun hd => ⟨rfl, fun u' hu' hx' => ?_⟩)
  · have hq : ZTi ZW (zBeg T) ∧ (zCl (zBeg T).ch).length ≤ 7 := by
      rcases hok with ⟨_, q⟩ | q
      · exact q
      · have := q.up; rw [hu] at this; cases this
    have e : zCall T f = f (zBeg T) := by unfold zCall; rw [if_pos hu]
    rw [e]
    have hb := hfr.n2
    exact hF u (zBeg T) hR.1 hq.1 hq.2 (zCs_v (zCt_s h) hfr.s hfr.w hfr.e) ((zFr_n hfr).trans hn) (hfr.s.trans hsets) (by omega) hR.2
  · have e : zCall T f = (-9, zBeg T) := by unfold zCall; rw [if_neg (by rw [hd]; exact Bool.noConfusion)]
    rw [e]
    exact zEr_dn hd hu' hx'
theorem wp_Er {a : Int32} {t : px_W} {s s3 : px_S} {U : ZTs} {x : Option px_Res} {g : Nat → px_S → px_W → Option px_Res} (h : wp x (zA a t (fun s' => zCt s' U ∧ zHt s3 s'))) (hu : U.tv.p.up = true) (hx : zHt s s3) (h0 : s.1 0 = 1) : wp (px_bi x (fun v10 s7 t8 => (some (.inl (some (.int v10)), s7, t8))) g) (zEr a t s U) := by
  obtain ⟨u, e, h1, h2⟩ := wp_A h
  exact wp_bi e (wp_some (zEr_up hu h1 h0 (zHt_trans hx h2)))
theorem c_makeCall (K : px_K) (N n sets : Nat) (hN : 2000 ≤ N) (hK : zKc K n sets) (t : px_W) (s : px_S) (T : ZTs) (hn : T.tv.n = n) (hsets : T.tv.sets = sets) (h : zCt s T) (h0 : s.1 0 = 1) (hi : ZTi ZW T) (hna : T.tv.p.na + 3000000 < 2147483648) (d x a2 : Int32) : wp (f_E_make_1 K N d x a2 s t) (zEr (zCall T (fun U => xMake U d x (if a2 = 0 then 2 else 1))).1 t s (zCall T (fun U => xMake U d x (if a2 = 0 then 2 else 1))).2) := by
  unfold f_E_make_1
  refine c_call K N n sets hN hK t s T hn hsets h h0 hi hna (fun U => xMake U d x (if a2 = 0 then 2 else 1)) (fun s3 U h3 hi3 _ _ _ _ _ hx => ?_)
  have hk : (if a2 = 0 then (2 : Int32) else 1) = 1 ∨ (if a2 = 0 then (2 : Int32) else 1) = 2 := by split <;> simp
  obtain ⟨_, L, _, st⟩ := zmake_ok hi3.ww d x (if a2 = 0 then 2 else 1) (by split <;> simp)
  exact wp_Er (c_create K N n sets hN hK t s3 U h3 hi3.ww d x _ hk) (by rw [st.1]; exact hi3.iv.up) hx h0
theorem c_removeCall (K : px_K) (N n sets : Nat) (hN : 2000 ≤ N) (hK : zKc K n sets) (t : px_W) (s : px_S) (T : ZTs) (hn : T.tv.n = n) (hsets : T.tv.sets = sets) (h : zCt s T) (h0 : s.1 0 = 1) (hi : ZTi ZW T) (hna : T.tv.p.na + 3000000 < 2147483648) (d x : Int32) : wp (f_E_remove_1 K N d x s t) (zEr (zCall T (fun U => xRemove U d x)).1 t s (zCall T (fun U => xRemove U d x)).2) := by
  unfold f_E_remove_1
  refine c_call K N n sets hN hK t s T hn hsets h h0 hi hna (fun U => xRemove U d x) (fun s3 U h3 hi3 _ _ _ _ _ hx => ?_)
  obtain ⟨_, L, _, st⟩ := zremove_ok hi3.ww d x
  exact wp_Er (c_erase K N n sets hN hK t s3 U h3 hi3.ww d x) (by rw [st.1]; exact hi3.iv.up) hx h0
theorem c_moveCall (K : px_K) (N n sets : Nat) (hN : 2000 ≤ N) (hK : zKc K n sets) (t : px_W) (s : px_S) (T : ZTs) (hn : T.tv.n = n) (hsets : T.tv.sets = sets) (h : zCt s T) (h0 : s.1 0 = 1) (hi : ZTi ZW T) (hna : T.tv.p.na + 3000000 < 2147483648) (d x to y : Int32) : wp (f_E_move_1 K N d x to y s t) (zEr (zCall T (fun U => xMove U d x to y)).1 t s (zCall T (fun U => xMove U d x to y)).2) := by
  unfold f_E_move_1
  refine c_call K N n sets hN hK t s T hn hsets h h0 hi hna (fun U => xMove U d x to y) (fun s3 U h3 hi3 _ _ _ _ _ hx => ?_)
  obtain ⟨_, L, _, st⟩ := zmove_ok hi3.ww d x to y
  exact wp_Er (c_rename K N n sets hN hK t s3 U h3 hi3.ww d x to y) (by rw [st.1]; exact hi3.iv.up) hx h0
theorem xFor_tv (T : ZTs) (i k : Nat) : (xFor T i k).tv = T.tv := by unfold xFor xFor2 xFor1; split <;> split <;> rfl
theorem xPut_tv (T : ZTs) (i b p : Nat) (x : Int32) : (xPut T i b p x).tv = T.tv := by unfold xPut; split <;> rfl
theorem zfr_same (v : ZVs) : ZFr 1 v v := (ZFr.refl v).mono (by omega)
theorem zfr_fetch (T : ZTs) (b : Nat) : ZFr 1 T.tv (xFetch T b).tv := by
  unfold xFetch
  split
  · exact zfr_same _
  · exact zfr_rdv T.tv b
theorem zfr_write (T : ZTs) (f p x : Int32) : ZFr 1 T.tv (xWrite T f p x).2.tv := by
  unfold xWrite
  split
  · split
    · split
      · show ZFr 1 T.tv (xPut (xFor T _ _) _ _ _ _).tv
        rw [xPut_tv, xFor_tv]; exact zfr_same _
      · exact zfr_same _
    · split
      · show ZFr 1 T.tv (xPut (xFetch T _) _ _ _ _).tv
        rw [xPut_tv]; exact zfr_fetch T _
      · exact zfr_fetch T _
  · exact zfr_same _
theorem zfr_cut (T : ZTs) (f m : Int32) : ZFr 1 T.tv (xCut T f m).2.tv := by
  unfold xCut
  split
  · split
    · exact zfr_same _
    · split
      · show ZFr 1 T.tv (xCut2 T _ _).tv
        rw [xCut2_tv]; exact zfr_same _
      · split
        · show ZFr 1 T.tv (xCut2 _ _ _).tv
          rw [xCut2_tv]; exact zfr_fetch T _
        · exact zfr_fetch T _
  · exact zfr_same _
theorem c_writeCall (K : px_K) (N n sets : Nat) (hN : 2000 ≤ N) (hK : zKc K n sets) (t : px_W) (s : px_S) (T : ZTs) (hn : T.tv.n = n) (hsets : T.tv.sets = sets) (h : zCt s T) (h0 : s.1 0 = 1) (hi : ZTi ZW T) (hna : T.tv.p.na + 3000000 < 2147483648) (f p x : Int32) : wp (f_E_write_1 K N f p x s t) (zEr (zCall T (fun U => xWrite U f p x)).1 t s (zCall T (fun U => xWrite U f p x)).2) := by
  unfold f_E_write_1
  refine c_call K N n sets hN hK t s T hn hsets h h0 hi hna (fun U => xWrite U f p x) (fun s3 U h3 hi3 h7 hcs hn3 hs3 hna3 hx => ?_)
  have F := zfr_write U f p x
  refine wp_ti K N n sets hN hK t s s3 (xWrite U f p x).2.tv ((zFr_n F).trans hn3) (zCs_v hcs F.s F.w F.e) (c_writeInt K N n sets hN hK t s3 U hn3 hs3 h3 hi3 (by omega) f p x) (zHt_x hx) (fun u hu hR => wp_some (zEr_up hu hR.1 h0 (zHt_trans hx hR.2))) (fun hd => ⟨rfl, fun u' hu' hx' => ?_⟩)
  show zEr (xWrite U f p x).1 t s (xWrite U f p x).2 _
  rw [(zwrite_ok hi3 h7 f p x).2 hd]
  exact zEr_dn hd hu' hx'
theorem c_cutCall (K : px_K) (N n sets : Nat) (hN : 2000 ≤ N) (hK : zKc K n sets) (t : px_W) (s : px_S) (T : ZTs) (hn : T.tv.n = n) (hsets : T.tv.sets = sets) (h : zCt s T) (h0 : s.1 0 = 1) (hi : ZTi ZW T) (hna : T.tv.p.na + 3000000 < 2147483648) (f m : Int32) : wp (f_E_cut_1 K N f m s t) (zEr (zCall T (fun U => xCut U f m)).1 t s (zCall T (fun U => xCut U f m)).2) := by
  unfold f_E_cut_1
  refine c_call K N n sets hN hK t s T hn hsets h h0 hi hna (fun U => xCut U f m) (fun s3 U h3 hi3 h7 hcs hn3 hs3 hna3 hx => ?_)
  have F := zfr_cut U f m
  refine wp_ti K N n sets hN hK t s s3 (xCut U f m).2.tv ((zFr_n F).trans hn3) (zCs_v hcs F.s F.w F.e) (c_shorten K N n sets hN hK t s3 U hn3 hs3 h3 hi3 (by omega) f m) (zHt_x hx) (fun u hu hR => wp_some (zEr_up hu hR.1 h0 (zHt_trans hx hR.2))) (fun hd => ⟨rfl, fun u' hu' hx' => ?_⟩)
  show zEr (xCut U f m).1 t s (xCut U f m).2 _
  rw [(zcut_ok hi3 h7 f m).2 hd]
  exact zEr_dn hd hu' hx'
/-- the greatest epoch that is closed -/
theorem c_closed (K : px_K) (N n sets : Nat) (hK : zKc K n sets) (t : px_W) (s : px_S) (v : ZVs) (h : zCv s v) : f_V_greatestClosed_13 K N s t = some (.inl (some (.int (zClosed v))), s, t) := by
  have h12 : s.1 12 = bN v.wf := h.2.1.2.1
  obtain ⟨r, r1, r2⟩ : wp (f_V_greatestClosed_13 K N s t) (fun r => r = (.inl (some (.int (zClosed v))), s, t)) := by
    unfold f_V_greatestClosed_13 zClosed
    rw [h12]
    cases hw : v.wf with
    | false =>
      rw [if_neg (c := false = true) Bool.noConfusion]
      exact wp_if rfl (wp_bi (c_landed K N n sets hK t s (v.p.dv 0) h.1.1) (wp_some rfl))
    | true =>
      rw [if_pos (c := true = true) rfl]
      have h16 := (h.2.2 hw).2.2.2.1
      refine wp_ifn (by decide) (wp_some ?_)
      rw [h16]
  rw [r1, r2]
theorem c_syncCall (K : px_K) (N n sets : Nat) (hN : 2000 ≤ N) (hK : zKc K n sets) (t : px_W) (s : px_S) (T : ZTs) (hn : T.tv.n = n) (hsets : T.tv.sets = sets) (h : zCt s T) (h0 : s.1 0 = 1) (hi : ZTi ZW T) (hna : T.tv.p.na + 3000000 < 2147483648) : wp (f_E_sync_1 K N s t) (zEr (if T.commit.tv.p.up = true then zClosed T.commit.tv else -9) t s T.commit) := by
  have F := zfr_commit T hi
  have e : T.commit = if 0 < (zCl T.ch).length then T.commit else T := by
    split
    · rfl
    · rename_i hl
      have hnil : zCl T.ch = [] := List.eq_nil_of_length_eq_zero (by omega)
      unfold ZTs.commit; rw [if_pos hnil]
  have hc := c_commitAbove hWZ K N n sets hN hK t s T hn hsets h hi hna 0 (by omega) T.commit e
  unfold f_E_sync_1
  refine wp_if (by rw [h0]; decide) ?_
  refine wp_tv K N n sets hN hK t s s T.commit.tv ((zFr_n F).trans hn) (zCs_v (zCt_s h) F.s F.w F.e) (show wp (f_T_commitAbove_22 K N (0 : Int32) s t) _ from hc) (zHx_refl s) (fun u hu hR => ?_) (fun hd => ⟨rfl, fun u' hu' hx' => ?_⟩)
  · rw [if_pos hu]
    exact wp_bi (c_closed K N n sets hK t u T.commit.tv hR.1.1) (wp_some (zEr_up hu hR.1 h0 hR.2))
  · rw [if_neg (by rw [hd]; exact Bool.noConfusion)]
    exact zEr_dn hd hu' hx'
theorem c_landCall (K : px_K) (N n sets : Nat) (hN : 2000 ≤ N) (hK : zKc K n sets) (t : px_W) (s : px_S) (T : ZTs) (hn : T.tv.n = n) (h : zCt s T) (h0 : s.1 0 = 1) (hi : ZTi ZW T) (hna : T.tv.p.na + 3000000 < 2147483648) : wp (f_E_land_1 K N s t) (zEr (if T.tv.wf = true then (if T.tv.land1.2.p.up = true then iN T.tv.land1.1 else -9) else 0) t s (if T.tv.wf = true then T.s_tv T.tv.land1.2 else T)) := by
  have h12 : s.1 12 = bN T.tv.wf := h.1.2.1.2.1
  have hup := hi.iv.up
  unfold f_E_land_1
  refine wp_if (by rw [h0]; decide) ?_
  rw [h12]
  cases hw : T.tv.wf with
  | false =>
    rw [if_neg (c := false = true) Bool.noConfusion, if_neg (c := false = true) Bool.noConfusion]
    exact wp_ifn (fun hx => hx rfl) (wp_some (zEr_up hup h h0 (zHt_refl s)))
  | true =>
    rw [if_pos (c := true = true) rfl, if_pos (c := true = true) rfl]
    have F := (zfr_land1 T.tv hi.iv.sz).1
    refine wp_if (by decide) ?_
    refine wp_ti K N n sets hN hK t s s T.tv.land1.2 ((zFr_n F).trans hn) (zCs_v (zCt_s h) F.s F.w F.e) (c_land1 K N n sets hN hK t s T.tv hn h.1 hup (hi.iv.rf hw) (by omega)) (zHx_refl s) (fun u hu hR => ?_) (fun hd => ⟨rfl, fun u' hu' hx' => ?_⟩)
    · rw [if_pos hu]
      exact wp_some (zEr_up (T := T.s_tv T.tv.land1.2) hu ⟨hR.1, zCj_tv (zCj_v h.2 hR.2) _⟩ h0 (zHv_t hR.2))
    · rw [if_neg (by rw [hd]; exact Bool.noConfusion)]
      exact zEr_dn (T := T.s_tv T.tv.land1.2) hd hu' hx'
