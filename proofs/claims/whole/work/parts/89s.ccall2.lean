/-! THE CLASS'S OTHER CALLS -/
theorem zcommit_ok {T : ZTs} (hi : ZTi ZW T) (hna : T.tv.p.na + 3000000 < 2147483648) : zTa ZW T.commit := by
  have hz : ZSz T.tv.sets T.tv.ways T.tv.eps := hi.iv.sz
  obtain ⟨hn1, hn2⟩ := zBnd2 hna (zfr_home T hz).n2
  rcases hi.commit hWZ hna hn2 with ⟨h1, h2, _⟩ | h
  · exact Or.inl ⟨h1, h2⟩
  · exact Or.inr h
theorem c_homeCall (K : px_K) (N n sets : Nat) (hN : 2000 ≤ N) (hK : zKc K n sets) (t : px_W) (s : px_S) (T : ZTs) (hn : T.tv.n = n) (hsets : T.tv.sets = sets) (h : zCt s T) (h0 : s.1 0 = 1) (hi : ZTi ZW T) (hna : T.tv.p.na + 3000000 < 2147483648) : wp (f_E_home_1 K N s t) (zEr (if T.commit.home.tv.p.up = true then iN (zCl T.commit.kt).length else -9) t s T.commit.home) := by
  have F := zfr_commit T hi
  have hz : ZSz T.tv.sets T.tv.ways T.tv.eps := hi.iv.sz
  have F2 := zfr_home T.commit (F.sz hz)
  have F3 := F.trans F2
  have hb := F.n2
  have e : T.commit = if 0 < (zCl T.ch).length then T.commit else T := by
    split
    · rfl
    · rename_i hl
      have hnil : zCl T.ch = [] := List.eq_nil_of_length_eq_zero (by omega)
      unfold ZTs.commit; rw [if_pos hnil]
  have hc := c_commitAbove hWZ K N n sets hN hK t s T hn hsets h hi hna 0 (by omega) T.commit e
  have hta := zcommit_ok hi hna
  unfold f_E_home_1
  refine wp_if (by rw [h0]; decide) ?_
  refine wp_tv K N n sets hN hK t s s T.commit.home.tv ((zFr_n F3).trans hn) (zCs_v (zCt_s h) F3.s F3.w F3.e) (show wp (f_T_commitAbove_22 K N (0 : Int32) s t) _ from hc) (zHx_refl s) (fun u hu hR => ?_) (fun hd => ⟨F2.dn hd, fun u' hu' hx' => ?_⟩)
  · have hi2 : ZTi ZW T.commit := by
      rcases hta with ⟨_, q⟩ | q
      · exact q
      · have := q.up; rw [hu] at this; cases this
    have hct := hR.1
    obtain ⟨j1, j2, j3, j4, j5, j6, j7, j8⟩ := hct.2
    have hh := c_home hWZ K N n sets hN hK t u T.commit ((zFr_n F).trans hn) (F.s.trans hsets) hct.1 j4 j2 j6 j7 (jj := T.commit.jr) hu hi2 (by omega)
    refine wp_tv K N n sets hN hK t s u T.commit.home.tv ((zFr_n F3).trans hn) (zCs_v (zCt_s h) F3.s F3.w F3.e) hh (zHt_x hR.2) (fun w hw hR2 => ?_) (fun hd => ⟨rfl, fun u' hu' hx' => ?_⟩)
    · rw [if_pos hw, j6]
      obtain ⟨q1, q2, q3, q4, q5⟩ := hR2
      obtain ⟨c1, c2, c3, c4⟩ := home_same T.commit
      refine wp_some (zEr_up hw ⟨q1, ?_⟩ h0 (zHt_trans hR.2 (zHh_t q5)))
      refine ⟨?_, ?_, ?_, q2, ?_, q3, ?_, ?_⟩
      · rw [q5.1 23 (by omega), c2]; exact j1
      · intro b w' hb' hw' hx
        rw [q5.1 24 (by omega), c4]
        refine j2 b w' hb' hw' ?_
        unfold ZTs.home at hx
        split at hx
        · exact hx
        · cases hx
      · rw [q5.1 25 (by omega), c1]; exact j3
      · rw [q5.2.1 21 (by omega), c1]; exact j5
      · rw [q5.2.1 23 (by omega), c3]; exact j7
      · rcases q4 with ⟨a, b⟩ | ⟨a, b⟩
        · rw [b, a]; exact j8
        · rw [b, a]; rfl
    · rw [if_neg (by rw [hd]; exact Bool.noConfusion)]
      exact zEr_dn hd hu' hx'
  · have hdn : T.commit.home.tv.p.up = false := by rw [F2.dn hd]; exact hd
    rw [if_neg (by rw [hdn]; exact Bool.noConfusion)]
    exact zEr_dn hdn hu' hx'
theorem c_attachCall {Q : ZSt → Prop} (K : px_K) (N n sets : Nat) (hN : 2000 ≤ N) (hK : zKc K n sets) (t : px_W) (s : px_S) (T : ZTs) (hn : T.tv.n = n) (hsets : T.tv.sets = sets) (h : zCt s T) (h0 : s.1 0 = 1) (hi : ZRd (zGood ZW) Q T.tv) (hna : T.tv.p.na + 3000000 < 2147483648) : wp (f_E_attach_1 K N s t) (zEr (if T.tv.attach.p.up = true then 0 else -9) t s (T.s_tv T.tv.attach)) := by
  have h12 : s.1 12 = bN T.tv.wf := h.1.2.1.2.1
  have hsz : T.tv.attach.sets = T.tv.sets ∧ T.tv.attach.ways = T.tv.ways ∧ T.tv.attach.eps = T.tv.eps := by unfold ZVs.attach; exact ⟨rfl, rfl, rfl⟩
  have hnn : T.tv.attach.n = n := by show T.tv.attach.sets * T.tv.attach.ways = n; rw [hsz.1, hsz.2.1]; exact hn
  unfold f_E_attach_1
  refine wp_if (by rw [h0]; decide) (wp_if (by rw [h12, hi.wf]; rfl) ?_)
  refine wp_tv K N n sets hN hK t s s T.tv.attach hnn (zCs_v (zCt_s h) hsz.1 hsz.2.1 hsz.2.2) (c_attach K N n sets hN hK t s T.tv hn hsets h.1 hi (by omega)) (zHx_refl s) (fun u hu hR => ?_) (fun hd => ⟨rfl, fun u' hu' hx' => ?_⟩)
  · rw [if_pos hu]
    have hj : zCj u T := by
      obtain ⟨j1, j2, j3, j4, j5, j6, j7, j8⟩ := h.2
      have a := hR.2.1
      have b := hR.2.2.1
      exact ⟨by rw [a 23 (by omega)]; exact j1, by rw [a 24 (by omega)]; exact j2, by rw [a 25 (by omega)]; exact j3, by rw [a 26 (by omega)]; exact j4, by rw [b 21 (by omega)]; exact j5, by rw [b 22 (by omega)]; exact j6, by rw [b 23 (by omega)]; exact j7, by rw [b 24 (by omega)]; exact j8⟩
    exact wp_some ⟨u, t, rfl, zTt_refl t, zHo2_x hR.2, Or.inl ⟨hu, ⟨hR.1, zCj_tv hj _⟩, by rw [hR.2.2.1 0 (by omega)]; exact h0⟩⟩
  · rw [if_neg (by rw [hd]; exact Bool.noConfusion)]
    exact zEr_dn (T := T.s_tv T.tv.attach) hd hu' hx'
/-- what a call leaves of a volume that is down -/
def zEs (a : Int32) (t : px_W) (s : px_S) (v : ZVs) (r : px_Res) : Prop := ∃ u, r = (.inl (some (.int a)), u, t) ∧ zHx s u ∧ zEd u v
theorem c_crashCall (K : px_K) (N n sets : Nat) (hN : 2000 ≤ N) (hK : zKc K n sets) (t : px_W) (s : px_S) (v : ZVs) (hn : v.n = n) (h : zCw n s v.p) (hcs : zCs s v) (h0 : s.1 0 = 1) (m : Int64) : wp (f_E_crash_1 K N m s t) (zEs 1 t s (v.s_p (v.p.goes m))) := by
  obtain ⟨u, a1, a2, a3, a4⟩ := c_goDown K N n sets hN hK t s (v.p.goes m) v.p.dv m h.1 h.2.1 (fun _ => rfl) h.2.2.1 rfl
  unfold f_E_crash_1
  refine wp_if (by rw [h0]; decide) (wp_bi a1 (wp_some ⟨u, rfl, a4, ?_, zCs_x hcs a4, a3⟩))
  show zCw v.n u (v.p.goes m)
  rw [hn]; exact a2
theorem c_loseCall (K : px_K) (N n sets : Nat) (hN : 2000 ≤ N) (hK : zKc K n sets) (t : px_W) (s : px_S) (v : ZVs) (hn : v.n = n) (h : zCw n s v.p) (hcs : zCs s v) (hu : s.1 0 = bN v.p.up) (m : Int64) : wp (f_E_lose_1 K N m s t) (zEs 1 t s (if v.p.up = true then v.newFlash.s_p (v.newFlash.p.goes m) else v.newFlash)) := by
  obtain ⟨s1, b1, b2, b3⟩ := c_wipe K N n sets hN hK t s v h
  have e0 : s1.1 0 = bN v.p.up := by rw [b3.2.1 0 (by omega)]; exact hu
  unfold f_E_lose_1
  refine wp_bv b1 ?_
  rw [e0]
  cases hup : v.p.up with
  | false =>
    rw [if_neg (c := false = true) Bool.noConfusion]
    refine wp_if rfl (wp_some ⟨s1, rfl, zHd_x b3, ?_, zCs_x hcs (zHd_x b3), by rw [e0, hup]; rfl⟩)
    show zCw v.n s1 v.newFlash.p
    rw [hn]; exact b2
  | true =>
    rw [if_pos (c := true = true) rfl]
    obtain ⟨u, a1, a2, a3, a4⟩ := c_goDown K N n sets hN hK t s1 (v.newFlash.p.goes m) v.newFlash.p.dv m b2.1 b2.2.1 (fun _ => rfl) b2.2.2.1 rfl
    refine wp_ifn (by decide) (wp_bi a1 (wp_some ⟨u, rfl, zHx_trans (zHd_x b3) a4, ?_, zCs_x (zCs_x hcs (zHd_x b3)) a4, a3⟩))
    show zCw v.n u (v.newFlash.p.goes m)
    rw [hn]; exact a2
theorem i64_n32 {x : Int32} (h : 0 < x) : x.toInt64 = Int64.ofNat (n32 x) := by
  obtain ⟨h1, h2, _⟩ := int32_iN x h
  have e : x.toInt = (n32 x : Int) := by
    conv => lhs; rw [h1]
    exact iN_toInt h2
  apply Int64.toInt_inj.mp
  rw [Int64.toInt_ofNat_of_lt (by omega), Int32.toInt_toInt64]
  exact e
/-- a limit: the power after it -/
theorem c_limitTo (K : px_K) (N n : Nat) (t : px_W) (s : px_S) (p : ZPw) (h : zCw n s p) (k : Int32) (m : Int64) (up : Bool) : (0 < k → ∃ u, f_P_limitTo_2 K N k m s t = some (.inl none, u, t) ∧ zCw n u (ZPw.mk p.dv up (n32 k) m p.na) ∧ zHx s u ∧ u.1 = s.1 ∧ u.2.2.1 = s.2.2.1) ∧ (¬ 0 < k → p.lim = 0 → ∃ u, f_P_limitTo_2 K N k m s t = some (.inl none, u, t) ∧ zCw n u (ZPw.mk p.dv up p.lim p.msk p.na) ∧ zHx s u ∧ u.1 = s.1 ∧ u.2.2.1 = s.2.2.1) := by
  obtain ⟨h1, h2, h3, h4, h5, h6⟩ := h
  constructor
  · intro hk
    obtain ⟨_, hk2, hk3⟩ := int32_iN k hk
    refine ⟨sQ (sQ s 1 ((s.2.1 0) + k.toInt64)) 2 m, ?_, ⟨zCd_of h1 (fun _ _ _ => rfl) (fun _ _ _ => rfl), zCd_of h2 (fun _ _ _ => rfl) (fun _ _ _ => rfl), ?_, fun hx => ?_, fun _ => ⟨?_, sQ_self _ _ _⟩, hk2⟩, ⟨fun _ _ => rfl, fun _ _ => rfl, fun r hr => by rw [sQ_ne (by omega), sQ_ne (by omega)], rfl⟩, rfl, rfl⟩
    · unfold f_P_limitTo_2
      rw [if_neg (Int32.not_le.mpr hk)]; rfl
    · rw [sQ_ne (by omega), sQ_ne (by omega)]; exact h3
    · have hx : n32 k = 0 := hx
      omega
    · rw [sQ_ne (by omega), sQ_self, sQ_ne (by omega), sQ_ne (by omega), i64_n32 hk]; rfl
  · intro hk hl
    refine ⟨sQ (sQ s 1 (0 : Int64)) 2 m, ?_, ⟨zCd_of h1 (fun _ _ _ => rfl) (fun _ _ _ => rfl), zCd_of h2 (fun _ _ _ => rfl) (fun _ _ _ => rfl), ?_, fun _ => ?_, fun hx => absurd hl hx, h6⟩, ⟨fun _ _ => rfl, fun _ _ => rfl, fun r hr => by rw [sQ_ne (by omega), sQ_ne (by omega)], rfl⟩, rfl, rfl⟩
    · unfold f_P_limitTo_2
      rw [if_pos (Int32.not_lt.mp hk)]; rfl
    · rw [sQ_ne (by omega), sQ_ne (by omega)]; exact h3
    · rw [sQ_ne (by omega), sQ_self]
theorem c_limitCall (K : px_K) (N n : Nat) (t : px_W) (s : px_S) (T : ZTs) (hn : T.tv.n = n) (h : zCt s T) (h0 : s.1 0 = 1) (hup : T.tv.p.up = true) (k : Int32) (m : Int64) : ((1 ≤ k ∧ k ≤ 1000) → wp (f_E_limit_1 K N k m s t) (zEr 1 t s (T.s_tv (zLim T.tv k m)))) ∧ (¬ (1 ≤ k ∧ k ≤ 1000) → f_E_limit_1 K N k m s t = some (.inl (some (.int 0)), s, t)) := by
  have e0 : ¬ s.1 0 = 0 := by rw [h0]; decide
  constructor
  · rintro ⟨k1, k2⟩
    have hk : 0 < k := Int32.lt_of_lt_of_le (by decide) k1
    obtain ⟨u, a1, a2, a3, a4, a5⟩ := (c_limitTo K N n t s T.tv.p (by rw [← hn]; exact h.1.1) k m T.tv.p.up).1 hk
    unfold f_E_limit_1
    refine wp_ifn e0 (wp_ifn (Int32.not_lt.mpr k1) (wp_if k2 (wp_bv a1 (wp_some ⟨u, t, rfl, zTt_refl t, a3, Or.inl ⟨hup, ⟨⟨?_, ?_, ?_⟩, ?_⟩, by rw [a4]; exact h0⟩⟩))))
    · show zCw T.tv.n u _
      rw [hn]; exact a2
    · exact zCz_of h.1.2.1 (fun r _ => by rw [a4])
    · intro hw
      have q := h.1.2.2 hw
      exact ⟨by rw [a4]; exact q.1, by rw [a4]; exact q.2.1, by rw [a4]; exact q.2.2.1, by rw [a4]; exact q.2.2.2.1, by rw [a4]; exact q.2.2.2.2.1, zCk_of q.2.2.2.2.2.1 (fun a _ _ => by rw [a5]), fun k hk => by rw [a5]; exact q.2.2.2.2.2.2 k hk⟩
    · obtain ⟨j1, j2, j3, j4, j5, j6, j7, j8⟩ := h.2
      exact ⟨by rw [a5]; exact j1, by rw [a5]; exact j2, by rw [a5]; exact j3, by rw [a5]; exact j4, by rw [a4]; exact j5, by rw [a4]; exact j6, by rw [a4]; exact j7, by rw [a4]; exact j8⟩
  · intro hno
    obtain ⟨r, r1, r2⟩ : wp (f_E_limit_1 K N k m s t) (fun r => r = (.inl (some (.int 0)), s, t)) := by
      unfold f_E_limit_1
      refine wp_ifn e0 ?_
      by_cases c1 : k < 1
      · exact wp_if c1 (wp_some rfl)
      · refine wp_ifn c1 ?_
        by_cases c2 : k ≤ 1000
        · exact absurd ⟨Int32.not_lt.mp c1, c2⟩ hno
        · exact wp_ifn c2 (wp_some rfl)
    rw [r1, r2]
