/-! AFTER A CRASH: the landing is done again (the class) -/
theorem zHo_redo : ∀ (k j : Nat) (v : ZVs), zHo v → zHo (ZVs.wrRedo k j v) ∧ ∀ c, c < 19 → (ZVs.wrRedo k j v).dn c = v.dn c := by
  intro k
  induction k with
  | zero => intro j v h; exact ⟨h, fun _ _ => rfl⟩
  | succ k ih =>
    intro j v h
    obtain ⟨w1, w2⟩ := zHo_wr h (b := 19 + n32 (v.dn 2 j)) (v.dn (3 + j)) (by omega)
    obtain ⟨a1, a2⟩ := ih (j + 1) _ w1
    exact ⟨a1, fun c hc => (a2 c hc).trans (w2 c hc)⟩
theorem c_redo_loop (K : px_K) (N n sets : Nat) (hN : 2000 ≤ N) (hK : zKc K n sets) (t : px_W) (u1 : Int32) (c : Nat) (hu1 : n32 u1 = c) (hc : c ≤ 16) (d : ZSt) (hd : ∀ j, j < c → d 2 j = iN (n32 (d 2 j)) ∧ n32 (d 2 j) < 106) : ∀ (k j f : Nat) (s : px_S) (v : ZVs), zCw n s v.p → v.p.up = true → j + k = c → k < f → zHo v → (∀ b, b < 19 → v.dn b = d b) → v.p.na + k < 2000000000 → wp (l_V_finishLanding_13_18 K N f u1 (iN j) s t) (zOl n 48 [] t s (ZVs.wrRedo k j v).p (fun u => zCw n u (ZVs.wrRedo k j v).p ∧ zHd s u)) := by
  have k6 : K.2.2 6 = 2000 := hK.2.2.1
  intro k
  induction k with
  | zero =>
    intro j f s v h hu hj hf ho hv hna
    obtain ⟨f, rfl⟩ : ∃ f', f = f' + 1 := ⟨f - 1, by omega⟩
    unfold l_V_finishLanding_13_18
    exact wp_if ((n32_le (by omega)).mpr (by omega)) (wp_rOl hu ⟨h, zHd_refl s⟩)
  | succ k ih =>
    intro j f s v h hu hj hf ho hv hna
    obtain ⟨f, rfl⟩ : ∃ f', f = f' + 1 := ⟨f - 1, by omega⟩
    have e3 : iN j + (1 : Int32) = iN (j + 1) := by rw [iL1, iN_add]
    obtain ⟨d1, d2⟩ := hd j (by omega)
    obtain ⟨b, hb⟩ : ∃ b, b = n32 (v.dn 2 j) := ⟨_, rfl⟩
    have hdb : v.dn 2 j = iN b := by rw [hb, hv 2 (by omega)]; exact d1
    have hb106 : b < 106 := by rw [hb, hv 2 (by omega)]; exact d2
    have w1 : f_D_at_3 K N (2 : Int32) (iN j) s t = _ := c_at_3 K N n sets hK t s (v.p.dv 0) h.1 2 j (by omega) (by omega)
    rw [show (v.p.dv 0).now 2 j = iN b from hdb] at w1
    have e19 : (19 : Int32) + iN b = iN (19 + b) := by show iN 19 + iN b = _; rw [iN_add]
    have e16 : ((3 : Int32) + iN j) * (16 : Int32) = iN (16 * (3 + j)) := by
      have : (3 : Int32) + iN j = iN (3 + j) := by show iN 3 + iN j = _; rw [iN_add]
      rw [this, iN_16]
    have hst : ZVs.wrRedo (k + 1) j v = ZVs.wrRedo k (j + 1) (v.wr 0 (19 + b) (v.dn (3 + j))) := by rw [hb]; rfl
    rw [hst]
    unfold l_V_finishLanding_13_18
    rw [e3, e16]
    refine wp_ifn (by rw [n32_le (by omega)]; omega) (wp_bi w1 (wp_ifn (iN_neg (by omega)) (wp_ifn (by show ¬ iN 106 ≤ iN b; rw [iN_le (by omega) (by omega)]; omega) ?_)))
    rw [e19]
    have hnw := v.p.na_wr 0 (19 + b) (v.dn (3 + j))
    have hput := c_put_3_6 K N n sets hK t s v.p h hu (19 + b) (16 * (3 + j)) (v.dn (3 + j)) (by omega) (fun w hw => h.1.2.2.2.2.2.2.2 (3 + j) w (by omega) hw) (by rw [k6]; omega) (by omega)
    have hfr := (zfr_wrRedo k (j + 1) (v.wr 0 (19 + b) (v.dn (3 + j)))).1
    refine wp_cvl hput (zHx_refl s) hfr.dn (fun u hu2 hR => ?_)
    obtain ⟨w1', w2'⟩ := zHo_wr ho (b := 19 + b) (v.dn (3 + j)) (by omega)
    have hnw2 : (v.wr 0 (19 + b) (v.dn (3 + j))).p.na ≤ v.p.na + 1 := hnw.2
    exact wp_Ol (ih (j + 1) f u (v.wr 0 (19 + b) (v.dn (3 + j))) hR.1 hu2 (by omega) (by omega) w1' (fun b' hb' => (w2' b' hb').trans (hv b' hb')) (by omega)) (zHd_x hR.2) (fun w _ hw => ⟨hw.1, zHd_trans hR.2 hw.2⟩)
theorem c_redo (K : px_K) (N n sets : Nat) (hN : 2000 ≤ N) (hK : zKc K n sets) (t : px_W) (s : px_S) (v : ZVs) (h : zCw n s v.p) (hu : v.p.up = true) (hp : (v.p.dv 0).pd = []) (hL : v.dn 1 1 = iN v.landed) (hh : v.dn 1 0 = 1 → n32 (v.dn 1 2) ≤ 16 ∧ ∀ j, j < n32 (v.dn 1 2) → ∃ b, v.dn 2 j = iN b ∧ b < 106) (hna : v.p.na + 1000 < 2000000000) : wp (f_V_finishLanding_13 K N s t) (zO n none t s v.redo.p (fun u => zCw n u v.redo.p ∧ zHe s u)) := by
  have k20 : K.2.2 20 = 16 := hK.2.2.2.2.2.2.2.2.2.2.2.2.2.1
  unfold f_V_finishLanding_13
  refine wp_bi (show f_D_at_3 K N (1 : Int32) (0 : Int32) s t = _ from c_at_3 K N n sets hK t s (v.p.dv 0) h.1 1 0 (by omega) (by omega)) ?_
  by_cases h1 : v.dn 1 0 = 1
  · obtain ⟨l1, l2⟩ := hh h1
    refine wp_if h1 (wp_bi (show f_D_at_3 K N (1 : Int32) (2 : Int32) s t = _ from c_at_3 K N n sets hK t s (v.p.dv 0) h.1 1 2 (by omega) (by omega)) ?_)
    have hmin : f_Math_min K N (16 : Int32) (v.dn 1 2) s t = some (.inl (some (.int (v.dn 1 2))), s, t) := by
      unfold f_Math_min
      by_cases hc : v.dn 1 2 < (16 : Int32)
      · rw [if_pos hc]
      · have e : v.dn 1 2 = 16 := Int32.le_antisymm ((n32_le (j := 16) (by omega)).mpr l1) (Int32.not_lt.mp hc)
        rw [if_neg hc, e]
    refine wp_bi hmin ?_
    have hd : ∀ j, j < n32 (v.dn 1 2) → v.dn 2 j = iN (n32 (v.dn 2 j)) ∧ n32 (v.dn 2 j) < 106 := fun j hj => by
      obtain ⟨b, b1, b2⟩ := l2 j hj
      rw [b1, n32_iN (by omega)]; exact ⟨rfl, b2⟩
    have ho : zHo v := fun e he => by rw [hp] at he; exact absurd he (List.not_mem_nil)
    obtain ⟨c, hc⟩ : ∃ c, c = n32 (v.dn 1 2) := ⟨_, rfl⟩
    rw [← hc] at l1 hd
    have hlp := c_redo_loop K N n sets hN hK t (v.dn 1 2) c hc.symm l1 v.dn hd c 0 N s v h hu (by omega) (by omega) ho (fun _ _ => rfl) (by omega)
    obtain ⟨o1, o2⟩ := zHo_redo c 0 v ho
    have hfr1 := (zfr_wrRedo c 0 v).1
    have e : v.redo = ((((ZVs.wrRedo c 0 v).fl 0).wr 0 1 (zThree 0 v.landed 0)).fl 0) := by
      unfold ZVs.redo
      rw [if_neg (fun hx => hx h1)]
      dsimp only
      rw [← hc, show min 16 c = c by omega]
    rw [e]
    obtain ⟨v1, hv1⟩ : ∃ v1, v1 = ZVs.wrRedo c 0 v := ⟨_, rfl⟩
    rw [← hv1] at hlp o1 o2 hfr1 ⊢
    have hn1 := hfr1.n2
    have f2 := zfr_fl v1 0
    have f3 := zfr_wr (v1.fl 0) 0 1 (zThree 0 v.landed 0)
    have f4 := zfr_fl ((v1.fl 0).wr 0 1 (zThree 0 v.landed 0)) 0
    have m2 := f2.n2
    have m3 := f3.n2
    have m4 := f4.n2
    refine wp_cl (show wp (l_V_finishLanding_13_18 K N N (v.dn 1 2) (0 : Int32) s t) _ from hlp) (zHx_refl s) (fun hx => (f2.trans (f3.trans f4)).dn hx) (fun s1 u1 R1 => ?_)
    refine wp_if rfl (wp_v0 ?_)
    refine wp_cv (c_flush_3 K N n sets hN hK t s1 v1.p R1.1 u1 (by show (v1.fl 0).p.na < _; omega)) (zHd_x R1.2) (fun hx => (f3.trans f4).dn hx) (fun s2 u2 R2 => ?_)
    have hL2 : ((v1.fl 0).p.dv 0).now 1 1 = iN v.landed := by
      show (v1.fl 0).dn 1 1 = _
      rw [zHo_fl o1 1 (by omega), o2 1 (by omega)]; exact hL
    have hlan := c_landed K N n sets hK t s2 ((v1.fl 0).p.dv 0) R2.1.1
    rw [hL2] at hlan
    refine wp_bi hlan ?_
    obtain ⟨g, g1, g2⟩ := c_setRow K N n sets hN hK t s2 0 v.landed 0 (0 : Int32) (iN v.landed) (0 : Int32) rfl rfl rfl
    refine wp_bv g1 ?_
    have hcw3 : zCw n (sF s2 20 g) (v1.fl 0).p := zCw_w R2.1 (zHw_sF (Or.inl rfl))
    refine wp_cv (show wp (f_D_put_3_20 K N (1 : Int32) (0 : Int32) (sF s2 20 g) t) _ from c_put_3_20 K N n sets hK t (sF s2 20 g) (v1.fl 0).p hcw3 u2 1 0 (zThree 0 v.landed 0) (by omega) (fun w hw => by rw [sF_arr, Nat.zero_add]; exact g2 w hw) (by rw [k20]; omega) (by show ((v1.fl 0).wr 0 1 (zThree 0 v.landed 0)).p.na < _; omega)) (zHe_x (zHe_trans (zHd_e R1.2) (zHe_trans (zHd_e R2.2) (zHw_e (zHw_sF (Or.inl rfl)))))) (fun hx => f4.dn hx) (fun s4 u4 R4 => ?_)
    refine wp_cv (c_flush_3 K N n sets hN hK t s4 _ R4.1 u4 (by show (((v1.fl 0).wr 0 1 (zThree 0 v.landed 0)).fl 0).p.na < _; omega)) (zHe_x (zHe_trans (zHd_e R1.2) (zHe_trans (zHd_e R2.2) (zHe_trans (zHw_e (zHw_sF (Or.inl rfl))) (zHd_e R4.2))))) (fun _ => rfl) (fun s5 u5 R5 => ?_)
    exact wp_rO u5 ⟨R5.1, zHe_trans (zHd_e R1.2) (zHe_trans (zHd_e R2.2) (zHe_trans (zHw_e (zHw_sF (Or.inl rfl))) (zHe_trans (zHd_e R4.2) (zHd_e R5.2))))⟩
  · have e : v.redo = v := by unfold ZVs.redo; rw [if_pos h1]
    rw [e]
    exact wp_ifn h1 (wp_rO hu ⟨h, zHe_refl s⟩)
/-! THE HALF THAT COUNTS (the class) -/
theorem c_good (K : px_K) (N n sets : Nat) (hN : 2000 ≤ N) (hK : zKc K n sets) (t : px_W) (s : px_S) (v : ZVs) (hd : zCd s 1 3 125 (v.p.dv 0)) (hf : zCd s 6 8 (50 + n) (v.p.dv 1)) : ∃ o : Option Nat, f_V_goodHalf_13 K N s t = some (.inl (some (.int (oN o))), s, t) ∧ (∀ i, o = some i → i < 2) ∧ ((v.fn 0 1 = v.dn 0 0 → v.fn 25 1 = v.dn 0 0 → (n32 (v.fn 0 0) < n32 (v.fn 25 0) ↔ v.fn 0 0 < v.fn 25 0)) → v.good = o) := by
  obtain ⟨M, rfl⟩ : ∃ M, N = M + 3 := ⟨N - 3, by omega⟩
  have r1 : ∀ w, w < 16 → f_D_at_8 K (M + 3) ((0 : Int32) * (25 : Int32)) (iN w) s t = some (.inl (some (.int (v.fn 0 w))), s, t) := fun w hw => c_at_8 K (M + 3) n sets hK t s (v.p.dv 1) hf 0 w (by omega) hw
  have r2 : ∀ w, w < 16 → f_D_at_8 K (M + 3) (((0 : Int32) + (1 : Int32)) * (25 : Int32)) (iN w) s t = some (.inl (some (.int (v.fn 25 w))), s, t) := fun w hw => c_at_8 K (M + 3) n sets hK t s (v.p.dv 1) hf 25 w (by omega) hw
  have r0 : f_D_at_3 K (M + 3) (0 : Int32) (0 : Int32) s t = some (.inl (some (.int (v.dn 0 0))), s, t) := c_at_3 K (M + 3) n sets hK t s (v.p.dv 0) hd 0 0 (by omega) (by omega)
  -- the last round
  have fin : ∀ (m : Int32), l_V_goodHalf_13_4 K (M + 3) (M + 1) m ((0 : Int32) + (1 : Int32) + (1 : Int32)) s t = some (.inl (47, [m], s, t)) := by
    intro m
    unfold l_V_goodHalf_13_4
    rw [if_pos (by decide)]
  have wrap : ∀ o : Option Nat, wp (l_V_goodHalf_13_4 K (M + 3) (M + 3) (-1 : Int32) (0 : Int32) s t) (fun r => r = .inl (47, [oN o], s, t)) → f_V_goodHalf_13 K (M + 3) s t = some (.inl (some (.int (oN o))), s, t) := by
    rintro o ⟨r, e1, e2⟩
    unfold f_V_goodHalf_13
    rw [e1, e2]; rfl
  by_cases h0 : v.fn 0 1 = v.dn 0 0
  · by_cases h1 : v.fn 25 1 = v.dn 0 0
    · by_cases hlt : v.fn 0 0 < v.fn 25 0
      · refine ⟨some 1, wrap _ ?_, fun i hi => (by cases hi; omega), fun hq => ?_⟩
        · unfold l_V_goodHalf_13_4
          refine wp_ifn (by decide) (wp_if (by decide) (wp_bi (r1 1 (by omega)) (wp_bi r0 (wp_ifn (fun hx => hx h0) (wp_ifn (by decide) ?_)))))
          unfold l_V_goodHalf_13_4
          refine wp_ifn (by decide) (wp_ifn (by decide) (wp_bi (r2 0 (by omega)) (wp_bi (r1 0 (by omega)) (wp_let (wp_bi (r2 1 (by omega)) (wp_bi r0 (wp_ifn (fun hx => hx h1) ?_)))))))
          rw [if_neg (c := v.fn 25 0 ≤ v.fn 0 0) (Int32.not_le.mpr hlt)]
          exact wp_ifn (by decide) ⟨_, fin _, rfl⟩
        · unfold ZVs.good; rw [if_pos h0, if_pos ⟨h1, (hq h0 h1).mpr hlt⟩]
      · refine ⟨some 0, wrap _ ?_, fun i hi => (by cases hi; omega), fun hq => ?_⟩
        · unfold l_V_goodHalf_13_4
          refine wp_ifn (by decide) (wp_if (by decide) (wp_bi (r1 1 (by omega)) (wp_bi r0 (wp_ifn (fun hx => hx h0) (wp_ifn (by decide) ?_)))))
          unfold l_V_goodHalf_13_4
          refine wp_ifn (by decide) (wp_ifn (by decide) (wp_bi (r2 0 (by omega)) (wp_bi (r1 0 (by omega)) (wp_let (wp_bi (r2 1 (by omega)) (wp_bi r0 (wp_ifn (fun hx => hx h1) ?_)))))))
          rw [if_pos (c := v.fn 25 0 ≤ v.fn 0 0) (Int32.not_lt.mp hlt)]
          exact wp_if rfl ⟨_, fin _, rfl⟩
        · unfold ZVs.good; rw [if_pos h0, if_neg (fun hx => hlt ((hq h0 h1).mp hx.2))]
    · refine ⟨some 0, wrap _ ?_, fun i hi => (by cases hi; omega), fun hq => ?_⟩
      · unfold l_V_goodHalf_13_4
        refine wp_ifn (by decide) (wp_if (by decide) (wp_bi (r1 1 (by omega)) (wp_bi r0 (wp_ifn (fun hx => hx h0) (wp_ifn (by decide) ?_)))))
        unfold l_V_goodHalf_13_4
        exact wp_ifn (by decide) (wp_ifn (by decide) (wp_bi (r2 0 (by omega)) (wp_bi (r1 0 (by omega)) (wp_let (wp_bi (r2 1 (by omega)) (wp_bi r0 (wp_if h1 ⟨_, fin _, rfl⟩)))))))
      · unfold ZVs.good; rw [if_pos h0, if_neg (fun hx => h1 hx.1)]
  · by_cases h1 : v.fn 25 1 = v.dn 0 0
    · refine ⟨some 1, wrap _ ?_, fun i hi => (by cases hi; omega), fun hq => ?_⟩
      · unfold l_V_goodHalf_13_4
        refine wp_ifn (by decide) (wp_if (by decide) (wp_bi (r1 1 (by omega)) (wp_bi r0 (wp_if h0 ?_))))
        unfold l_V_goodHalf_13_4
        exact wp_ifn (by decide) (wp_if (by decide) (wp_bi (r2 1 (by omega)) (wp_bi r0 (wp_ifn (fun hx => hx h1) (wp_ifn (by decide) ⟨_, fin _, rfl⟩)))))
      · unfold ZVs.good; rw [if_neg h0, if_pos h1]
    · refine ⟨none, wrap _ ?_, fun i hi => (by cases hi), fun hq => ?_⟩
      · unfold l_V_goodHalf_13_4
        refine wp_ifn (by decide) (wp_if (by decide) (wp_bi (r1 1 (by omega)) (wp_bi r0 (wp_if h0 ?_))))
        unfold l_V_goodHalf_13_4
        exact wp_ifn (by decide) (wp_if (by decide) (wp_bi (r2 1 (by omega)) (wp_bi r0 (wp_if h1 ⟨_, fin _, rfl⟩))))
      · unfold ZVs.good; rw [if_neg h0, if_neg h1]
/-! NO SLOTS (the class) -/
theorem c_clear_loop (K : px_K) (N n sets : Nat) (hK : zKc K n sets) (t : px_W) : ∀ (d m f : Nat) (s : px_S), m + d = n → d < f → s.1 20 = iN n → (∀ j, j < m → s.2.2.1 15 j = 0 ∧ s.2.2.1 16 j = 0 ∧ s.2.2.1 17 j = 0 ∧ s.2.2.1 18 j = 0) → ∃ u, l_S_clear_14_2 K N f (iN m) s t = some (.inl (11, [], u, t)) ∧ (∀ j, j < n → u.2.2.1 15 j = 0 ∧ u.2.2.1 16 j = 0 ∧ u.2.2.1 17 j = 0 ∧ u.2.2.1 18 j = 0) ∧ zHs s u := by
  have hn64 : n ≤ 64 := hK.2.2.2.2.2.2.2.2.2.2.2.2.2.2.2.2.2.2.2.2
  intro d
  induction d with
  | zero =>
    intro m f s hm hf h20 hz
    obtain ⟨f, rfl⟩ : ∃ f', f = f' + 1 := ⟨f - 1, by omega⟩
    refine ⟨s, ?_, fun j hj => hz j (by omega), zHs_refl s⟩
    unfold l_S_clear_14_2
    rw [h20, if_pos (by rw [iN_le (by omega) (by omega)]; omega)]
  | succ d ih =>
    intro m f s hm hf h20 hz
    obtain ⟨f, rfl⟩ : ∃ f', f = f' + 1 := ⟨f - 1, by omega⟩
    have e3 : iN m + (1 : Int32) = iN (m + 1) := by rw [iL1, iN_add]
    obtain ⟨q1, q2, q3, q4, q5, q6⟩ := zcF_eq s m
    obtain ⟨u, a1, a2, a3⟩ := ih (m + 1) f (zcF s m) (by omega) (by omega) (by rw [q5.2.1]; exact h20) (fun j hj => by
      rw [q1, q2, q3, q4]
      by_cases hjm : j = m
      · rw [hjm, upd_self, upd_self, upd_self, upd_self]; exact ⟨rfl, rfl, rfl, rfl⟩
      · rw [upd_ne hjm, upd_ne hjm, upd_ne hjm, upd_ne hjm]; exact hz j (by omega))
    refine ⟨u, ?_, a2, zHs_trans q5 a3⟩
    conv => lhs; unfold l_S_clear_14_2
    rw [h20, if_neg (by rw [iN_le (by omega) (by omega)]; omega), c_free K N n sets hK t s m (by omega), e3]
    exact a1
theorem c_clear (K : px_K) (N n sets : Nat) (hN : 2000 ≤ N) (hK : zKc K n sets) (hs : sets < 2000) (t : px_W) (s : px_S) (h20 : s.1 20 = iN n) : ∃ u, f_S_clear_14 K N s t = some (.inl none, u, t) ∧ (∀ j, j < n → u.2.2.1 15 j = 0 ∧ u.2.2.1 16 j = 0 ∧ u.2.2.1 17 j = 0 ∧ u.2.2.1 18 j = 0) ∧ (∀ k, k < sets → u.2.2.1 19 k = 0) ∧ zHs s u := by
  have k19 : K.2.2 19 = sets := hK.2.2.2.2.2.2.2.2.2.2.2.2.1
  have hn64 : n ≤ 64 := hK.2.2.2.2.2.2.2.2.2.2.2.2.2.2.2.2.2.2.2.2
  obtain ⟨u, a1, a2, a3⟩ := c_clear_loop K N n sets hK t n 0 N s (by omega) (by omega) h20 (fun j hj => by omega)
  have a1 : l_S_clear_14_2 K N N (0 : Int32) s t = _ := a1
  refine ⟨sF u 19 (fun j => if j < sets then 0 else u.2.2.1 19 j), ?_, fun j hj => ?_, fun k hk => by rw [sF_arr, if_pos hk], zHs_trans a3 ⟨fun c hc => sF_arr_ne (by omega), rfl, rfl, rfl⟩⟩
  · obtain ⟨r, r1, r2⟩ : wp (f_S_clear_14 K N s t) (fun r => r = (.inl none, sF u 19 (fun j => if j < sets then 0 else u.2.2.1 19 j), t)) := by
      unfold f_S_clear_14
      exact wp_lp a1 (wp_if rfl (wp_v0 (wp_bv (c_fill_19 K N hN t 0 u sets k19 hs) (wp_some rfl))))
    rw [r1, r2]
  · rw [sF_arr_ne (by omega), sF_arr_ne (by omega), sF_arr_ne (by omega), sF_arr_ne (by omega)]; exact a2 j hj
