/-! THE CLASS: a writing -/
theorem claim_se {v : ZVs} (h : zSw v) (b : Nat) (i : Nat) (hi : (v.claim b).1 = some i) : i < v.n ∧ v.se i = 0 := by
  unfold ZVs.claim at hi
  cases hx : zClean v.sb v.se b v.n with
  | some j =>
    rw [hx] at hi
    have hi : some j = some i := hi
    cases hi
    obtain ⟨p1, p2, p3⟩ := zClean_some hx
    exact ⟨p1, p3⟩
  | none =>
    rw [hx] at hi
    have hi : (ZVs.find (b % v.sets) (2 * v.ways) v).1 = some i := hi
    obtain ⟨⟨w, w1, w2⟩, h2, _⟩ := (find_spec (b % v.sets) (2 * v.ways) v (h.2.2.2.2.2.2 _)).2.2 i hi
    refine ⟨?_, h2⟩
    have := zSet_lt (sets := v.sets) (ways := v.ways) (q := b % v.sets) (Nat.mod_lt _ h.1.s1)
    show i < v.sets * v.ways
    omega
theorem c_claimV {P : Nat → ZSt → Prop} (K : px_K) (N n sets : Nat) (hN : 2000 ≤ N) (hK : zKc K n sets) (t : px_W) (s : px_S) (v : ZVs) (hn : v.n = n) (hsets : v.sets = sets) (h : zCv s v) (hR : ZRf P v) (hb0 : v.p.na + 1 < 2147483648) (b : Nat) (hb : b < 106) : wp (f_S_toWrite_14 K N (iN b) s t) (zA (oN (v.claim b).1) t (fun u => zCv u (v.claim b).2 ∧ zHv s u)) := by
  have hwf := hR.toZRm.wf
  have hsw := zSw_of hR.toZRm hb0
  obtain ⟨hcw, hcz, hcf⟩ := h
  have hcf := hcf hwf
  obtain ⟨z1, z2, z3, z4, z5, z6, z7⟩ := zfr_claim v b
  refine wp_imp (c_toWrite K N n sets hN hK t s v hn hsets hcf.2.2.2.2.2.1 hcf.2.2.2.2.2.2 hcz hsw b hb) (fun r hr => ?_)
  obtain ⟨u, e1, e2, e3, e4⟩ := hr
  refine ⟨u, e1, ⟨?_, zCz_v (zCz_of hcz (fun r _ => by rw [e4.2.1])) z1.s z1.w z1.e z1.wf, fun _ => ⟨?_, ?_, ?_, ?_, ?_, e2, e3⟩⟩, zHs_v e4⟩
  · rw [z2, zFr_n z1]; exact zCw_s hcw e4
  · rw [e4.2.1, z4]; exact hcf.1
  · rw [e4.2.1, z5]; exact hcf.2.1
  · rw [e4.2.1, z6]; exact hcf.2.2.1
  · rw [e4.2.1, z3]; exact hcf.2.2.2.1
  · rw [e4.2.1, hcf.2.2.2.2.1]
    congr 1
    show (zDl _ _ _).length = (zDl _ _ _).length
    rw [z7, z3, zFr_n z1]
theorem zcl_step (b k : Nat) (v : ZVs) (hu : v.p.up = true) : ZVs.claimLoop b (k + 1) (none, v) = ZVs.claimLoop b k ((@ite _ (v.hasClosed (b % v.sets)) (Classical.propDecidable _) v v.close).land1.2.claim b) := by
  have : ZVs.claimLoop b (k + 1) (none, v) = (if v.p.up = false then (none, v) else ZVs.claimLoop b k ((@ite _ (v.hasClosed (b % v.sets)) (Classical.propDecidable _) v v.close).land1.2.claim b)) := rfl
  rw [this, if_neg (by rw [hu]; exact Bool.noConfusion)]
theorem zfr_lc (b k : Nat) (x : ZVs) (hz : ZSz x.sets x.ways x.eps) : ZFr (570 * k) (x.claim b).2 (ZVs.claimLoop b k (x.claim b)).2 := by
  have h1 := (zfr_claim x b).1
  obtain ⟨o, u, hr⟩ : ∃ o u, x.claim b = (o, u) := ⟨_, _, rfl⟩
  rw [hr] at h1 ⊢
  exact zfr_claimLoop b k o u (h1.sz hz)
/-- a dirty slot: kind, block, epoch -/
def zcD (s : px_S) (i : Nat) (k x y : Int32) : px_S := sA (sA (sA s 15 i k) 16 i x) 17 i y
theorem zcD_eq (s : px_S) (i : Nat) (k x y : Int32) : (zcD s i k x y).2.2.1 15 = upd (s.2.2.1 15) i k ∧ (zcD s i k x y).2.2.1 16 = upd (s.2.2.1 16) i x ∧ (zcD s i k x y).2.2.1 17 = upd (s.2.2.1 17) i y ∧ (zcD s i k x y).2.2.1 18 = s.2.2.1 18 ∧ (zcD s i k x y).2.2.1 19 = s.2.2.1 19 ∧ zHs s (zcD s i k x y) := by
  refine ⟨?_, ?_, ?_, ?_, ?_, ?_⟩
  · show (sF (sF (sF s 15 _) 16 _) 17 _).2.2.1 15 = _
    rw [sF_arr_ne (by omega), sF_arr_ne (by omega), sF_arr]
  · show (sF (sF (sF s 15 _) 16 _) 17 _).2.2.1 16 = _
    rw [sF_arr_ne (by omega), sF_arr]
    show upd ((sF s 15 _).2.2.1 16) i x = _
    rw [sF_arr_ne (by omega)]
  · show (sF (sF (sF s 15 _) 16 _) 17 _).2.2.1 17 = _
    rw [sF_arr]
    show upd ((sF (sF s 15 _) 16 _).2.2.1 17) i y = _
    rw [sF_arr_ne (by omega), sF_arr_ne (by omega)]
  · show (sF (sF (sF s 15 _) 16 _) 17 _).2.2.1 18 = _
    rw [sF_arr_ne (by omega), sF_arr_ne (by omega), sF_arr_ne (by omega)]
  · show (sF (sF (sF s 15 _) 16 _) 17 _).2.2.1 19 = _
    rw [sF_arr_ne (by omega), sF_arr_ne (by omega), sF_arr_ne (by omega)]
  · exact zHs_trans (zHs_trans (zHs_sA (by omega)) (zHs_sA (by omega))) (zHs_sA (by omega))
theorem c_setDirty (K : px_K) (N n sets : Nat) (hK : zKc K n sets) (t : px_W) (s : px_S) (i : Nat) (x y : Int32) (hi : i < n) : f_S_setDirty_14 K N (iN i) x y s t = some (.inl none, zcD s i 2 x y, t) := by
  have hn64 : n ≤ 64 := hK.2.2.2.2.2.2.2.2.2.2.2.2.2.2.2.2.2.2.2.2
  have k15 : K.2.2 15 = n := hK.2.2.2.2.2.2.2.2.1
  have k16 : K.2.2 16 = n := hK.2.2.2.2.2.2.2.2.2.1
  have k17 : K.2.2 17 = n := hK.2.2.2.2.2.2.2.2.2.2.1
  unfold f_S_setDirty_14
  rw [k15, k16, k17, iN_nat (by omega), px_gd_of (iN_in (by omega) hi)]
  show px_gd _ _ = _
  rw [px_gd_of (iN_in (by omega) hi)]
  show px_gd _ _ = _
  rw [px_gd_of (iN_in (by omega) hi)]
  rfl
theorem c_setClean (K : px_K) (N n sets : Nat) (hK : zKc K n sets) (t : px_W) (s : px_S) (i : Nat) (x : Int32) (hi : i < n) : f_S_setClean_14 K N (iN i) x s t = some (.inl none, zcD s i 1 x 0, t) := by
  have hn64 : n ≤ 64 := hK.2.2.2.2.2.2.2.2.2.2.2.2.2.2.2.2.2.2.2.2
  have k15 : K.2.2 15 = n := hK.2.2.2.2.2.2.2.2.1
  have k16 : K.2.2 16 = n := hK.2.2.2.2.2.2.2.2.2.1
  have k17 : K.2.2 17 = n := hK.2.2.2.2.2.2.2.2.2.2.1
  unfold f_S_setClean_14
  rw [k15, k16, k17, iN_nat (by omega), px_gd_of (iN_in (by omega) hi)]
  show px_gd _ _ = _
  rw [px_gd_of (iN_in (by omega) hi)]
  show px_gd _ _ = _
  rw [px_gd_of (iN_in (by omega) hi)]
  rfl
theorem zDl_put {se : Nat → Nat} {e n i : Nat} (hi : i < n) (h : se i ≠ e) : (zDl (zu se i e) e n).length = (zDl se e n).length + 1 := by
  have key : ∀ m, (zDl (zu se i e) e m).length = (zDl se e m).length + (if i < m then 1 else 0) := by
    intro m
    induction m with
    | zero => rfl
    | succ m ih =>
      rw [zDl_succ, zDl_succ]
      by_cases hmi : m = i
      · rw [hmi] at ih ⊢
        rw [zu_self, if_pos rfl, if_neg h, List.length_append, ih, if_neg (by omega), if_pos (by omega)]; rfl
      · rw [zu_ne _ _ hmi]
        by_cases hs : se m = e
        · rw [if_pos hs, if_pos hs, List.length_append, List.length_append, ih]
          by_cases hlt : i < m
          · rw [if_pos hlt, if_pos (by omega)]; simp
          · rw [if_neg hlt, if_neg (by omega)]; rfl
        · rw [if_neg hs, if_neg hs, ih]
          by_cases hlt : i < m
          · rw [if_pos hlt, if_pos (by omega)]
          · rw [if_neg hlt, if_neg (by omega)]
  rw [key n, if_pos hi]
theorem zAl_opn {P : Nat → ZSt → Prop} {v : ZVs} (ha : zAl P v) (hu : v.p.up = true) : 1 ≤ v.opn := by
  rcases ha with ⟨_, h2, _⟩ | hx
  · exact h2.toZRm.opn1
  · have := hx.up; rw [hu] at this; cases this
theorem c_wloop_27 {P : Nat → ZSt → Prop} (hP : ∀ m m' V, m ≤ m' → P m V → P m' V) (K : px_K) (N n sets : Nat) (hN : 2000 ≤ N) (hK : zKc K n sets) (t : px_W) (b : Nat) (hb : b < 106) (u3 : Int32) : ∀ (k m f : Nat) (s : px_S) (o : Option Nat) (v : ZVs), v.n = n → v.sets = sets → zCv s v → v.p.up = true → zAl P v → (∀ i, o = some i → i < v.n ∧ v.se i = 0) → v.p.na + 600 * k + 3000 < 2147483648 → k < f → m + k ≤ 12 → zEnds (ZVs.claimLoop b k (o, v)) → wp (l_V_store_13_27_46 K N f (iN b) u3 (oN o) (iN m) s t) (zOl n 74 [oN (ZVs.claimLoop b k (o, v)).1] t s (ZVs.claimLoop b k (o, v)).2.p (fun u => zCv u (ZVs.claimLoop b k (o, v)).2 ∧ zHv s u ∧ (∀ i, (ZVs.claimLoop b k (o, v)).1 = some i → i < (ZVs.claimLoop b k (o, v)).2.n ∧ (ZVs.claimLoop b k (o, v)).2.se i = 0) ∧ 1 ≤ (ZVs.claimLoop b k (o, v)).2.opn)) := by
  have hn64 : n ≤ 64 := hK.2.2.2.2.2.2.2.2.2.2.2.2.2.2.2.2.2.2.2.2
  intro k
  induction k with
  | zero =>
    intro m f s o v hn hsets h hu ha ho hna hf hm he
    obtain ⟨f, rfl⟩ : ∃ f', f = f' + 1 := ⟨f - 1, by omega⟩
    have e0 : ZVs.claimLoop b 0 (o, v) = (o, v) := rfl
    rw [e0] at he ⊢
    unfold l_V_store_13_27_46
    rcases he with he | he
    · cases o with
      | none => exact absurd rfl he
      | some i =>
        have hi := (ho i rfl).1
        refine wp_ifn (by show ¬ iN 1000 ≤ iN m; rw [iN_le (by omega) (by omega)]; omega) (wp_if ?_ (wp_rOl hu ⟨h, zHv_refl s, ho, zAl_opn ha hu⟩))
        show iN 0 ≤ iN i
        rw [iN_le (by omega) (by omega)]; omega
    · have he : v.p.up = false := he
      rw [hu] at he; cases he
  | succ k ih =>
    intro m f s o v hn hsets h hu ha ho hna hf hm he
    obtain ⟨f, rfl⟩ : ∃ f', f = f' + 1 := ⟨f - 1, by omega⟩
    unfold l_V_store_13_27_46
    cases o with
    | some i =>
      have hi := (ho i rfl).1
      have e0 : ZVs.claimLoop b (k + 1) (some i, v) = (some i, v) := rfl
      rw [e0]
      refine wp_ifn (by show ¬ iN 1000 ≤ iN m; rw [iN_le (by omega) (by omega)]; omega) (wp_if ?_ (wp_rOl hu ⟨h, zHv_refl s, ho, zAl_opn ha hu⟩))
      show iN 0 ≤ iN i
      rw [iN_le (by omega) (by omega)]; omega
    | none =>
      rw [zcl_step b k v hu] at he ⊢
      have hR : ZRf P v := by
        rcases ha with ⟨_, h2, _⟩ | hx
        · exact h2
        · have := hx.up; rw [hu] at this; cases this
      have hz := hR.toZRm.sz
      have s1 := hz.s1
      have s8 := hz.s8
      have hsw := zSw_of hR.toZRm (by omega)
      have hcf := h.2.2 hR.toZRm.wf
      have e18 : s.1 18 = iN v.sets := h.2.1.2.2.1
      refine wp_ifn (by show ¬ iN 1000 ≤ iN m; rw [iN_le (by omega) (by omega)]; omega) (wp_ifn (by decide) (wp_gd (by rw [e18, iL0, iN_eq (by omega) (by omega)]; omega) ?_))
      rw [e18, iN_rem (by omega) (by omega) (by omega), hcf.2.2.2.1, iL1, iN_add]
      -- landing, claiming, and on
      have go : ∀ (s1 : px_S) (x : ZVs), x.n = n → x.sets = sets → ZSz x.sets x.ways x.eps → zCv s1 x → x.p.up = true → zAl P x → zHv s s1 → x.p.na ≤ v.p.na + 435 → zEnds (ZVs.claimLoop b k (x.land1.2.claim b)) → wp (α := px_LO) (px_bi (f_V_landOldest_13 K N s1 t) (fun v13 s10 t11 => (px_bi (f_S_toWrite_14 K N (iN b) s10 t11) (fun v18 s15 t16 => (l_V_store_13_27_46 K N f (iN b) u3 v18 (iN (m + 1)) s15 t16)) (fun x19 s15 t16 => none))) (fun x14 s10 t11 => (some (.inr (.inr x14, s10, t11))))) (zOl n 74 [oN (ZVs.claimLoop b k (x.land1.2.claim b)).1] t s (ZVs.claimLoop b k (x.land1.2.claim b)).2.p (fun u => zCv u (ZVs.claimLoop b k (x.land1.2.claim b)).2 ∧ zHv s u ∧ (∀ i, (ZVs.claimLoop b k (x.land1.2.claim b)).1 = some i → i < (ZVs.claimLoop b k (x.land1.2.claim b)).2.n ∧ (ZVs.claimLoop b k (x.land1.2.claim b)).2.se i = 0) ∧ 1 ≤ (ZVs.claimLoop b k (x.land1.2.claim b)).2.opn)) := by
        intro s1 x hxn hxs hxz hx hxu hxa hxh hxna hxe
        have hxR : ZRf P x := by
          rcases hxa with ⟨_, h2, _⟩ | hy
          · exact h2
          · have := hy.up; rw [hxu] at this; cases this
        have hl := c_land1 K N n sets hN hK t s1 x hxn hx hxu hxR (by omega)
        have ha2 := zAl_land1 hP hxa (by omega)
        have hf2 := (zfr_land1 x hxz).1
        obtain ⟨y, hy⟩ : ∃ y, y = x.land1.2 := ⟨_, rfl⟩
        rw [← hy] at hl ha2 hf2 hxe ⊢
        have hyz : ZSz y.sets y.ways y.eps := hf2.sz hxz
        have hlc := ZFr.trans (zfr_claim y b).1 (zfr_lc b k y hyz)
        refine wp_cil hl (zHv_x hxh) hlc.dn (fun u hu2 hR2 => ?_)
        have hyn : y.n = n := (zFr_n hf2).trans hxn
        have hys : y.sets = sets := hf2.s.trans hxs
        have hyR : ZRf P y := by
          rcases ha2 with ⟨_, h2, _⟩ | hw
          · exact h2
          · have := hw.up; rw [hu2] at this; cases this
        have hyna := hf2.n2
        obtain ⟨u2, e1, e2, e3⟩ := wp_A (c_claimV K N n sets hN hK t u y hyn hys hR2.1 hyR (by omega) b hb)
        refine wp_bi e1 ?_
        obtain ⟨z1, z2, z3, z4, z5, z6, z7⟩ := zfr_claim y b
        have hyw := zSw_of hyR.toZRm (by omega)
        refine wp_Ol (ih (m + 1) f u2 (y.claim b).1 (y.claim b).2 ((zFr_n z1).trans hyn) (z1.s.trans hys) e2 (by rw [z2]; exact hu2) (zAl_claim hP ha2 b) (fun i hi => by rw [zFr_n z1, z7]; exact claim_se hyw b i hi) (by rw [z2]; omega) (by omega) (by omega) hxe) (zHv_x (zHv_trans hxh (zHv_trans hR2.2 e3))) (fun w _ hw => ⟨hw.1, zHv_trans (zHv_trans hxh (zHv_trans hR2.2 e3)) hw.2.1, hw.2.2⟩)
      rcases c_hasClosed K N n sets hN hK t s v hn hcf.2.2.2.2.2.1 h.2.1 hsw (b % v.sets) (Nat.mod_lt _ s1) with ⟨g1, g2⟩ | ⟨g1, g2⟩
      · rw [if_pos g1] at he ⊢
        refine wp_bi g2 (wp_if (by decide) ?_)
        exact go s v hn hsets hz h hu ha (zHv_refl s) (by omega) he
      · rw [if_neg g1] at he ⊢
        refine wp_bi g2 (wp_ifn (fun hx => hx rfl) ?_)
        have hcl := c_close hP K N n sets hN hK t s v hn h hu hR (by omega)
        have hac := zAl_close hP ha (by omega)
        have hfc := zfr_close v hz
        obtain ⟨x, hx⟩ : ∃ x, x = v.close := ⟨_, rfl⟩
        rw [← hx] at hcl hac hfc he ⊢
        have hxz : ZSz x.sets x.ways x.eps := hfc.sz hz
        have hl1 := (zfr_land1 x hxz).1
        have hlc := hl1.trans (ZFr.trans (zfr_claim x.land1.2 b).1 (zfr_lc b k x.land1.2 (hl1.sz hxz)))
        refine wp_cvl hcl (zHx_refl s) hlc.dn (fun u hu2 hR2 => ?_)
        exact go u x ((zFr_n hfc).trans hn) (hfc.s.trans hsets) hxz hR2.1 hu2 hac hR2.2 hfc.n2 he
theorem c_wtail_27 {P : Nat → ZSt → Prop} (hP : ∀ m m' V, m ≤ m' → P m V → P m' V) (K : px_K) (N n sets : Nat) (hN : 2000 ≤ N) (hK : zKc K n sets) (t : px_W) (b ix : Nat) (hb : b < 106) (x : ZBk) (hix : ix + 16 ≤ K.2.2 27) (s : px_S) (v : ZVs) (hn : v.n = n) (hsets : v.sets = sets) (h : zCv s v) (hu : v.p.up = true) (ha : zAl P v) (hna : v.p.na + 12000 < 2147483648) (he : zEnds (ZVs.claimLoop b 12 (v.claim b))) (hx : ∀ w, w < 16 → s.2.2.1 27 (ix + w) = x w) (F : ZVs) (hF : F = match ZVs.claimLoop b 12 (v.claim b) with
  | (none, u) => u
  | (some s, u) => ((ZVs.mk (ZVs.p u) (ZVs.sets u) (ZVs.ways u) (ZVs.eps u) (ZVs.wf u) (zu u.sb s (b + 1)) (zu u.se s u.opn) (zu u.mrk s true) (ZVs.hd u) (ZVs.opn u) (ZVs.half u) (ZVs.gen u) (ZVs.plc u)) : ZVs).wr 1 (50 + s) x) : wp (α := px_Res) (px_bi (f_S_toWrite_14 K N (iN b) s t) (fun v14 s11 t12 => (px_lp (l_V_store_13_27_46 K N N (iN b) (iN ix) v14 (0 : Int32) s11 t12) (fun i16 vs17 s18 t19 => (if i16 = 74 then (px_v1 vs17 (fun y22 => (if 0 ≤ y22 then (px_bv (f_S_setDirty_14 K N y22 (iN b) (s18.1 16) s18 t19) (fun s25 t26 => (px_gd (vp_in y22 (K.2.2 18)) (px_let (sA s25 18 y22.toNatClampNeg (1 : Int32)) (fun s31 => (px_let (sR s31 17 ((s31.1 17) + (1 : Int32))) (fun s33 => (px_bv (f_D_put_8_27 K N ((50 : Int32) + y22) (iN ix) s33 t26) (fun s35 t36 => (some (.inl none, s35, t36))) (fun x39 s35 t36 => (some (.inr x39, s35, t36)))))))))) (fun x29 s25 t26 => none)) else (some (.inl none, s18, t19))))) else none)) (fun z21 => some z21))) (fun x15 s11 t12 => none)) (zO n none t s F.p (fun u => zCv u F ∧ zHv s u)) := by
  have hn64 : n ≤ 64 := hK.2.2.2.2.2.2.2.2.2.2.2.2.2.2.2.2.2.2.2.2
  have k18 : K.2.2 18 = n := hK.2.2.2.2.2.2.2.2.2.2.2.1
  have hR : ZRf P v := by
    rcases ha with ⟨_, h2, _⟩ | hy
    · exact h2
    · have := hy.up; rw [hu] at this; cases this
  have hz := hR.toZRm.sz
  obtain ⟨u2, e1, e2, e3⟩ := wp_A (c_claimV K N n sets hN hK t s v hn hsets h hR (by omega) b hb)
  refine wp_bi e1 ?_
  obtain ⟨z1, z2, z3, z4, z5, z6, z7⟩ := zfr_claim v b
  have hvw := zSw_of hR.toZRm (by omega)
  have hloop := c_wloop_27 hP K N n sets hN hK t b hb (iN ix) 12 0 N u2 (v.claim b).1 (v.claim b).2 ((zFr_n z1).trans hn) (z1.s.trans hsets) e2 (by rw [z2]; exact hu) (zAl_claim hP ha b) (fun i hi => by rw [zFr_n z1, z7]; exact claim_se hvw b i hi) (by rw [z2]; omega) (by omega) (by omega) he
  have hfr := zfr_lc b 12 v hz
  have hfn := hfr.n2
  have hfs : (ZVs.claimLoop b 12 (v.claim b)).2.n = n := (zFr_n hfr).trans ((zFr_n z1).trans hn)
  rw [z2] at hfn
  obtain ⟨r, hr⟩ : ∃ r, r = ZVs.claimLoop b 12 (v.claim b) := ⟨_, rfl⟩
  have hloop : wp (l_V_store_13_27_46 K N N (iN b) (iN ix) (oN (v.claim b).1) (0 : Int32) u2 t) (zOl n 74 [oN (ZVs.claimLoop b 12 (v.claim b)).1] t u2 (ZVs.claimLoop b 12 (v.claim b)).2.p (fun u => zCv u (ZVs.claimLoop b 12 (v.claim b)).2 ∧ zHv u2 u ∧ (∀ i, (ZVs.claimLoop b 12 (v.claim b)).1 = some i → i < (ZVs.claimLoop b 12 (v.claim b)).2.n ∧ (ZVs.claimLoop b 12 (v.claim b)).2.se i = 0) ∧ 1 ≤ (ZVs.claimLoop b 12 (v.claim b)).2.opn)) := hloop
  have hfw : (ZVs.claimLoop b 12 (v.claim b)).2.wf = (v.claim b).2.wf := hfr.wf
  rw [← hr] at hloop he hF hfn hfs hfw
  obtain ⟨o, w⟩ := r
  have hdn : w.p.up = false → F.p = w.p := by
    intro hx
    cases o with
    | none => rw [hF]
    | some i =>
      rw [hF]
      show (w.p.wr 1 (50 + i) x) = w.p
      exact (zfr_wr w 1 (50 + i) x).dn hx
  refine wp_cl hloop (zHv_x e3) hdn (fun u hu3 hR3 => wp_if rfl (wp_v1 ?_))
  obtain ⟨g1, g2, g3, g4⟩ := hR3
  have g4 : 1 ≤ w.opn := g4
  have g1 : zCv u w := g1
  have hu3 : w.p.up = true := hu3
  cases o with
  | none =>
    rcases he with he | he
    · exact absurd rfl he
    · have he : w.p.up = false := he
      rw [hu3] at he; cases he
  | some i =>
    have hfn : w.p.na ≤ v.p.na + 570 * 12 := hfn
    have hfs : w.n = n := hfs
    obtain ⟨hi, hse⟩ := g3 i rfl
    have hi : i < w.n := hi
    have hse : w.se i = 0 := hse
    have hF : F = (ZVs.mk (ZVs.p w) (ZVs.sets w) (ZVs.ways w) (ZVs.eps w) (ZVs.wf w) (zu w.sb i (b + 1)) (zu w.se i w.opn) (zu w.mrk i true) (ZVs.hd w) (ZVs.opn w) (ZVs.half w) (ZVs.gen w) (ZVs.plc w)).wr 1 (50 + i) x := hF
    obtain ⟨y, hy⟩ : ∃ y, y = ZVs.mk (ZVs.p w) (ZVs.sets w) (ZVs.ways w) (ZVs.eps w) (ZVs.wf w) (zu w.sb i (b + 1)) (zu w.se i w.opn) (zu w.mrk i true) (ZVs.hd w) (ZVs.opn w) (ZVs.half w) (ZVs.gen w) (ZVs.plc w) := ⟨_, rfl⟩
    rw [← hy] at hF
    have eo : oN ((some i, w) : Option Nat × ZVs).1 = iN i := rfl
    rw [eo]
    have hwfw : w.wf = true := by rw [← hR.toZRm.wf, ← z1.wf]; exact hfw
    have hcf := g1.2.2 hwfw
    refine wp_if (by show iN 0 ≤ iN i; rw [iN_le (by omega) (by omega)]; omega) (wp_bv (c_setDirty K N n sets hK t u i (iN b) (u.1 16) (by omega)) (wp_gd (by rw [k18]; exact iN_in (by omega) (by omega)) (wp_let (wp_let ?_))))
    rw [iN_nat (a := i) (by omega), hcf.2.2.2.1]
    obtain ⟨d1, d2, d3, d4, d5, d6⟩ := zcD_eq u i 2 (iN b) (iN w.opn)
    obtain ⟨u4, hu4⟩ : ∃ u4, u4 = sA (zcD u i 2 (iN b) (iN w.opn)) 18 i 1 := ⟨_, rfl⟩
    rw [← hu4]
    have h4 : zHs u u4 := by rw [hu4]; exact zHs_trans d6 (zHs_sA (by omega))
    have c15 : u4.2.2.1 15 = upd (u.2.2.1 15) i 2 := by rw [hu4]; show (sF _ 18 _).2.2.1 15 = _; rw [sF_arr_ne (by omega)]; exact d1
    have c16 : u4.2.2.1 16 = upd (u.2.2.1 16) i (iN b) := by rw [hu4]; show (sF _ 18 _).2.2.1 16 = _; rw [sF_arr_ne (by omega)]; exact d2
    have c17 : u4.2.2.1 17 = upd (u.2.2.1 17) i (iN w.opn) := by rw [hu4]; show (sF _ 18 _).2.2.1 17 = _; rw [sF_arr_ne (by omega)]; exact d3
    have c18 : u4.2.2.1 18 = upd (u.2.2.1 18) i 1 := by rw [hu4]; show (sF _ 18 _).2.2.1 18 = _; rw [sF_arr, d4]
    have c19 : u4.2.2.1 19 = u.2.2.1 19 := by rw [hu4]; show (sF _ 18 _).2.2.1 19 = _; rw [sF_arr_ne (by omega)]; exact d5
    have e17 : u4.1 17 + 1 = iN (w.dirty w.opn + 1) := by rw [h4.2.1, hcf.2.2.2.2.1, iL1, iN_add]
    rw [e17]
    have a50 : (50 : Int32) + iN i = iN (50 + i) := iN_add 50 i
    rw [a50]
    have hcw5 : zCw n (sR u4 17 (iN (w.dirty w.opn + 1))) y.p := by
      have : y.p = w.p := by rw [hy]; rfl
      rw [this]
      have hc := g1.1
      rw [hfs] at hc
      exact zCw_of (zCw_s hc h4) (fun r _ _ => sR_ne (by omega)) (fun _ _ _ => rfl) rfl
    have hyup : y.p.up = true := by rw [hy]; exact hu3
    have hv5 : zHv s (sR u4 17 (iN (w.dirty w.opn + 1))) := zHv_trans (zHv_trans (zHv_trans e3 g2) (zHs_v h4)) ⟨fun _ _ => rfl, fun r hr => sR_ne (by omega), fun _ _ => rfl, rfl⟩
    have hFp : F.p = y.p.wr 1 (50 + i) x := by rw [hF]; rfl
    rw [hFp]
    refine wp_cv (c_put_8_27 K N n sets hK t _ y.p hcw5 hyup (50 + i) ix x (by omega) (fun q hq => by rw [hv5.1 27 (by omega)]; exact hx q hq) hix (by
      have := (zfr_wr y 1 (50 + i) x).n2
      have e : (y.wr 1 (50 + i) x).p = y.p.wr 1 (50 + i) x := rfl
      rw [e] at this
      have e2 : y.p.na = w.p.na := by rw [hy]; rfl
      omega)) (zHv_x hv5) (fun _ => rfl) (fun u6 hu6 hR6 => wp_rO hu6 ?_)
    obtain ⟨q1, q2⟩ := hR6
    refine ⟨⟨?_, ?_, fun _ => ⟨?_, ?_, ?_, ?_, ?_, ?_, ?_⟩⟩, zHv_trans hv5 (zHd_v q2)⟩
    · rw [show F.n = n by rw [hF, hy]; exact hfs, hFp]; exact q1
    · refine zCz_v (v := w) (zCz_of g1.2.1 (fun r hr => ?_)) (by rw [hF, hy]; rfl) (by rw [hF, hy]; rfl) (by rw [hF, hy]; rfl) (by rw [hF, hy]; rfl)
      rw [q2.2.1 r (by omega), sR_ne (by omega), h4.2.1]
    · rw [q2.2.1 13 (by omega), sR_ne (by omega), h4.2.1, hF, hy]; exact hcf.1
    · rw [q2.2.1 14 (by omega), sR_ne (by omega), h4.2.1, hF, hy]; exact hcf.2.1
    · rw [q2.2.1 15 (by omega), sR_ne (by omega), h4.2.1, hF, hy]; exact hcf.2.2.1
    · rw [q2.2.1 16 (by omega), sR_ne (by omega), h4.2.1, hF, hy]; exact hcf.2.2.2.1
    · rw [q2.2.1 17 (by omega), sR_self, hF, hy]
      congr 1
      show (zDl w.se w.opn w.n).length + 1 = (zDl (zu w.se i w.opn) w.opn w.n).length
      rw [zDl_put hi (by omega)]
    · intro j hj
      have hj : j < w.n := by rw [hF, hy] at hj; exact hj
      have e15 : u6.2.2.1 15 = upd (u.2.2.1 15) i 2 := by rw [q2.1 15 (by omega)]; exact c15
      have e16 : u6.2.2.1 16 = upd (u.2.2.1 16) i (iN b) := by rw [q2.1 16 (by omega)]; exact c16
      have e17 : u6.2.2.1 17 = upd (u.2.2.1 17) i (iN w.opn) := by rw [q2.1 17 (by omega)]; exact c17
      have e18 : u6.2.2.1 18 = upd (u.2.2.1 18) i 1 := by rw [q2.1 18 (by omega)]; exact c18
      unfold zC1
      rw [e15, e16, e17, e18, hF, hy]
      show upd (u.2.2.1 15) i 2 j = zKnd (zu w.sb i (b + 1) j) (zu w.se i w.opn j) ∧ upd (u.2.2.1 16) i (iN b) j = iN (zu w.sb i (b + 1) j - 1) ∧ upd (u.2.2.1 17) i (iN w.opn) j = iN (zu w.se i w.opn j) ∧ upd (u.2.2.1 18) i 1 j = bN (zu w.mrk i true j)
      by_cases hji : j = i
      · rw [hji, upd_self, upd_self, upd_self, upd_self, zu_self, zu_self, zu_self]
        exact ⟨((zKnd_2 _ _).mpr ⟨by omega, by omega⟩).symm, rfl, rfl, rfl⟩
      · rw [upd_ne hji, upd_ne hji, upd_ne hji, upd_ne hji, zu_ne _ _ hji, zu_ne _ _ hji, zu_ne _ _ hji]
        exact hcf.2.2.2.2.2.1 j hj
    · intro q hq
      have hq : q < w.sets := by rw [hF, hy] at hq; exact hq
      rw [q2.1 19 (by omega)]
      show u4.2.2.1 19 q = _
      rw [c19, hF, hy]
      exact hcf.2.2.2.2.2.2 q hq
theorem c_wloop_24 {P : Nat → ZSt → Prop} (hP : ∀ m m' V, m ≤ m' → P m V → P m' V) (K : px_K) (N n sets : Nat) (hN : 2000 ≤ N) (hK : zKc K n sets) (t : px_W) (b : Nat) (hb : b < 106) (u3 : Int32) : ∀ (k m f : Nat) (s : px_S) (o : Option Nat) (v : ZVs), v.n = n → v.sets = sets → zCv s v → v.p.up = true → zAl P v → (∀ i, o = some i → i < v.n ∧ v.se i = 0) → v.p.na + 600 * k + 3000 < 2147483648 → k < f → m + k ≤ 12 → zEnds (ZVs.claimLoop b k (o, v)) → wp (l_V_store_13_24_46 K N f (iN b) u3 (oN o) (iN m) s t) (zOl n 74 [oN (ZVs.claimLoop b k (o, v)).1] t s (ZVs.claimLoop b k (o, v)).2.p (fun u => zCv u (ZVs.claimLoop b k (o, v)).2 ∧ zHv s u ∧ (∀ i, (ZVs.claimLoop b k (o, v)).1 = some i → i < (ZVs.claimLoop b k (o, v)).2.n ∧ (ZVs.claimLoop b k (o, v)).2.se i = 0) ∧ 1 ≤ (ZVs.claimLoop b k (o, v)).2.opn)) := by
  have hn64 : n ≤ 64 := hK.2.2.2.2.2.2.2.2.2.2.2.2.2.2.2.2.2.2.2.2
  intro k
  induction k with
  | zero =>
    intro m f s o v hn hsets h hu ha ho hna hf hm he
    obtain ⟨f, rfl⟩ : ∃ f', f = f' + 1 := ⟨f - 1, by omega⟩
    have e0 : ZVs.claimLoop b 0 (o, v) = (o, v) := rfl
    rw [e0] at he ⊢
    unfold l_V_store_13_24_46
    rcases he with he | he
    · cases o with
      | none => exact absurd rfl he
      | some i =>
        have hi := (ho i rfl).1
        refine wp_ifn (by show ¬ iN 1000 ≤ iN m; rw [iN_le (by omega) (by omega)]; omega) (wp_if ?_ (wp_rOl hu ⟨h, zHv_refl s, ho, zAl_opn ha hu⟩))
        show iN 0 ≤ iN i
        rw [iN_le (by omega) (by omega)]; omega
    · have he : v.p.up = false := he
      rw [hu] at he; cases he
  | succ k ih =>
    intro m f s o v hn hsets h hu ha ho hna hf hm he
    obtain ⟨f, rfl⟩ : ∃ f', f = f' + 1 := ⟨f - 1, by omega⟩
    unfold l_V_store_13_24_46
    cases o with
    | some i =>
      have hi := (ho i rfl).1
      have e0 : ZVs.claimLoop b (k + 1) (some i, v) = (some i, v) := rfl
      rw [e0]
      refine wp_ifn (by show ¬ iN 1000 ≤ iN m; rw [iN_le (by omega) (by omega)]; omega) (wp_if ?_ (wp_rOl hu ⟨h, zHv_refl s, ho, zAl_opn ha hu⟩))
      show iN 0 ≤ iN i
      rw [iN_le (by omega) (by omega)]; omega
    | none =>
      rw [zcl_step b k v hu] at he ⊢
      have hR : ZRf P v := by
        rcases ha with ⟨_, h2, _⟩ | hx
        · exact h2
        · have := hx.up; rw [hu] at this; cases this
      have hz := hR.toZRm.sz
      have s1 := hz.s1
      have s8 := hz.s8
      have hsw := zSw_of hR.toZRm (by omega)
      have hcf := h.2.2 hR.toZRm.wf
      have e18 : s.1 18 = iN v.sets := h.2.1.2.2.1
      refine wp_ifn (by show ¬ iN 1000 ≤ iN m; rw [iN_le (by omega) (by omega)]; omega) (wp_ifn (by decide) (wp_gd (by rw [e18, iL0, iN_eq (by omega) (by omega)]; omega) ?_))
      rw [e18, iN_rem (by omega) (by omega) (by omega), hcf.2.2.2.1, iL1, iN_add]
      -- landing, claiming, and on
      have go : ∀ (s1 : px_S) (x : ZVs), x.n = n → x.sets = sets → ZSz x.sets x.ways x.eps → zCv s1 x → x.p.up = true → zAl P x → zHv s s1 → x.p.na ≤ v.p.na + 435 → zEnds (ZVs.claimLoop b k (x.land1.2.claim b)) → wp (α := px_LO) (px_bi (f_V_landOldest_13 K N s1 t) (fun v13 s10 t11 => (px_bi (f_S_toWrite_14 K N (iN b) s10 t11) (fun v18 s15 t16 => (l_V_store_13_24_46 K N f (iN b) u3 v18 (iN (m + 1)) s15 t16)) (fun x19 s15 t16 => none))) (fun x14 s10 t11 => (some (.inr (.inr x14, s10, t11))))) (zOl n 74 [oN (ZVs.claimLoop b k (x.land1.2.claim b)).1] t s (ZVs.claimLoop b k (x.land1.2.claim b)).2.p (fun u => zCv u (ZVs.claimLoop b k (x.land1.2.claim b)).2 ∧ zHv s u ∧ (∀ i, (ZVs.claimLoop b k (x.land1.2.claim b)).1 = some i → i < (ZVs.claimLoop b k (x.land1.2.claim b)).2.n ∧ (ZVs.claimLoop b k (x.land1.2.claim b)).2.se i = 0) ∧ 1 ≤ (ZVs.claimLoop b k (x.land1.2.claim b)).2.opn)) := by
        intro s1 x hxn hxs hxz hx hxu hxa hxh hxna hxe
        have hxR : ZRf P x := by
          rcases hxa with ⟨_, h2, _⟩ | hy
          · exact h2
          · have := hy.up; rw [hxu] at this; cases this
        have hl := c_land1 K N n sets hN hK t s1 x hxn hx hxu hxR (by omega)
        have ha2 := zAl_land1 hP hxa (by omega)
        have hf2 := (zfr_land1 x hxz).1
        obtain ⟨y, hy⟩ : ∃ y, y = x.land1.2 := ⟨_, rfl⟩
        rw [← hy] at hl ha2 hf2 hxe ⊢
        have hyz : ZSz y.sets y.ways y.eps := hf2.sz hxz
        have hlc := ZFr.trans (zfr_claim y b).1 (zfr_lc b k y hyz)
        refine wp_cil hl (zHv_x hxh) hlc.dn (fun u hu2 hR2 => ?_)
        have hyn : y.n = n := (zFr_n hf2).trans hxn
        have hys : y.sets = sets := hf2.s.trans hxs
        have hyR : ZRf P y := by
          rcases ha2 with ⟨_, h2, _⟩ | hw
          · exact h2
          · have := hw.up; rw [hu2] at this; cases this
        have hyna := hf2.n2
        obtain ⟨u2, e1, e2, e3⟩ := wp_A (c_claimV K N n sets hN hK t u y hyn hys hR2.1 hyR (by omega) b hb)
        refine wp_bi e1 ?_
        obtain ⟨z1, z2, z3, z4, z5, z6, z7⟩ := zfr_claim y b
        have hyw := zSw_of hyR.toZRm (by omega)
        refine wp_Ol (ih (m + 1) f u2 (y.claim b).1 (y.claim b).2 ((zFr_n z1).trans hyn) (z1.s.trans hys) e2 (by rw [z2]; exact hu2) (zAl_claim hP ha2 b) (fun i hi => by rw [zFr_n z1, z7]; exact claim_se hyw b i hi) (by rw [z2]; omega) (by omega) (by omega) hxe) (zHv_x (zHv_trans hxh (zHv_trans hR2.2 e3))) (fun w _ hw => ⟨hw.1, zHv_trans (zHv_trans hxh (zHv_trans hR2.2 e3)) hw.2.1, hw.2.2⟩)
      rcases c_hasClosed K N n sets hN hK t s v hn hcf.2.2.2.2.2.1 h.2.1 hsw (b % v.sets) (Nat.mod_lt _ s1) with ⟨g1, g2⟩ | ⟨g1, g2⟩
      · rw [if_pos g1] at he ⊢
        refine wp_bi g2 (wp_if (by decide) ?_)
        exact go s v hn hsets hz h hu ha (zHv_refl s) (by omega) he
      · rw [if_neg g1] at he ⊢
        refine wp_bi g2 (wp_ifn (fun hx => hx rfl) ?_)
        have hcl := c_close hP K N n sets hN hK t s v hn h hu hR (by omega)
        have hac := zAl_close hP ha (by omega)
        have hfc := zfr_close v hz
        obtain ⟨x, hx⟩ : ∃ x, x = v.close := ⟨_, rfl⟩
        rw [← hx] at hcl hac hfc he ⊢
        have hxz : ZSz x.sets x.ways x.eps := hfc.sz hz
        have hl1 := (zfr_land1 x hxz).1
        have hlc := hl1.trans (ZFr.trans (zfr_claim x.land1.2 b).1 (zfr_lc b k x.land1.2 (hl1.sz hxz)))
        refine wp_cvl hcl (zHx_refl s) hlc.dn (fun u hu2 hR2 => ?_)
        exact go u x ((zFr_n hfc).trans hn) (hfc.s.trans hsets) hxz hR2.1 hu2 hac hR2.2 hfc.n2 he
theorem c_wtail_24 {P : Nat → ZSt → Prop} (hP : ∀ m m' V, m ≤ m' → P m V → P m' V) (K : px_K) (N n sets : Nat) (hN : 2000 ≤ N) (hK : zKc K n sets) (t : px_W) (b ix : Nat) (hb : b < 106) (x : ZBk) (hix : ix + 16 ≤ K.2.2 24) (s : px_S) (v : ZVs) (hn : v.n = n) (hsets : v.sets = sets) (h : zCv s v) (hu : v.p.up = true) (ha : zAl P v) (hna : v.p.na + 12000 < 2147483648) (he : zEnds (ZVs.claimLoop b 12 (v.claim b))) (hx : ∀ w, w < 16 → s.2.2.1 24 (ix + w) = x w) (F : ZVs) (hF : F = match ZVs.claimLoop b 12 (v.claim b) with
  | (none, u) => u
  | (some s, u) => ((ZVs.mk (ZVs.p u) (ZVs.sets u) (ZVs.ways u) (ZVs.eps u) (ZVs.wf u) (zu u.sb s (b + 1)) (zu u.se s u.opn) (zu u.mrk s true) (ZVs.hd u) (ZVs.opn u) (ZVs.half u) (ZVs.gen u) (ZVs.plc u)) : ZVs).wr 1 (50 + s) x) : wp (α := px_Res) (px_bi (f_S_toWrite_14 K N (iN b) s t) (fun v14 s11 t12 => (px_lp (l_V_store_13_24_46 K N N (iN b) (iN ix) v14 (0 : Int32) s11 t12) (fun i16 vs17 s18 t19 => (if i16 = 74 then (px_v1 vs17 (fun y22 => (if 0 ≤ y22 then (px_bv (f_S_setDirty_14 K N y22 (iN b) (s18.1 16) s18 t19) (fun s25 t26 => (px_gd (vp_in y22 (K.2.2 18)) (px_let (sA s25 18 y22.toNatClampNeg (1 : Int32)) (fun s31 => (px_let (sR s31 17 ((s31.1 17) + (1 : Int32))) (fun s33 => (px_bv (f_D_put_8_24 K N ((50 : Int32) + y22) (iN ix) s33 t26) (fun s35 t36 => (some (.inl none, s35, t36))) (fun x39 s35 t36 => (some (.inr x39, s35, t36)))))))))) (fun x29 s25 t26 => none)) else (some (.inl none, s18, t19))))) else none)) (fun z21 => some z21))) (fun x15 s11 t12 => none)) (zO n none t s F.p (fun u => zCv u F ∧ zHv s u)) := by
  have hn64 : n ≤ 64 := hK.2.2.2.2.2.2.2.2.2.2.2.2.2.2.2.2.2.2.2.2
  have k18 : K.2.2 18 = n := hK.2.2.2.2.2.2.2.2.2.2.2.1
  have hR : ZRf P v := by
    rcases ha with ⟨_, h2, _⟩ | hy
    · exact h2
    · have := hy.up; rw [hu] at this; cases this
  have hz := hR.toZRm.sz
  obtain ⟨u2, e1, e2, e3⟩ := wp_A (c_claimV K N n sets hN hK t s v hn hsets h hR (by omega) b hb)
  refine wp_bi e1 ?_
  obtain ⟨z1, z2, z3, z4, z5, z6, z7⟩ := zfr_claim v b
  have hvw := zSw_of hR.toZRm (by omega)
  have hloop := c_wloop_24 hP K N n sets hN hK t b hb (iN ix) 12 0 N u2 (v.claim b).1 (v.claim b).2 ((zFr_n z1).trans hn) (z1.s.trans hsets) e2 (by rw [z2]; exact hu) (zAl_claim hP ha b) (fun i hi => by rw [zFr_n z1, z7]; exact claim_se hvw b i hi) (by rw [z2]; omega) (by omega) (by omega) he
  have hfr := zfr_lc b 12 v hz
  have hfn := hfr.n2
  have hfs : (ZVs.claimLoop b 12 (v.claim b)).2.n = n := (zFr_n hfr).trans ((zFr_n z1).trans hn)
  rw [z2] at hfn
  obtain ⟨r, hr⟩ : ∃ r, r = ZVs.claimLoop b 12 (v.claim b) := ⟨_, rfl⟩
  have hloop : wp (l_V_store_13_24_46 K N N (iN b) (iN ix) (oN (v.claim b).1) (0 : Int32) u2 t) (zOl n 74 [oN (ZVs.claimLoop b 12 (v.claim b)).1] t u2 (ZVs.claimLoop b 12 (v.claim b)).2.p (fun u => zCv u (ZVs.claimLoop b 12 (v.claim b)).2 ∧ zHv u2 u ∧ (∀ i, (ZVs.claimLoop b 12 (v.claim b)).1 = some i → i < (ZVs.claimLoop b 12 (v.claim b)).2.n ∧ (ZVs.claimLoop b 12 (v.claim b)).2.se i = 0) ∧ 1 ≤ (ZVs.claimLoop b 12 (v.claim b)).2.opn)) := hloop
  have hfw : (ZVs.claimLoop b 12 (v.claim b)).2.wf = (v.claim b).2.wf := hfr.wf
  rw [← hr] at hloop he hF hfn hfs hfw
  obtain ⟨o, w⟩ := r
  have hdn : w.p.up = false → F.p = w.p := by
    intro hx
    cases o with
    | none => rw [hF]
    | some i =>
      rw [hF]
      show (w.p.wr 1 (50 + i) x) = w.p
      exact (zfr_wr w 1 (50 + i) x).dn hx
  refine wp_cl hloop (zHv_x e3) hdn (fun u hu3 hR3 => wp_if rfl (wp_v1 ?_))
  obtain ⟨g1, g2, g3, g4⟩ := hR3
  have g4 : 1 ≤ w.opn := g4
  have g1 : zCv u w := g1
  have hu3 : w.p.up = true := hu3
  cases o with
  | none =>
    rcases he with he | he
    · exact absurd rfl he
    · have he : w.p.up = false := he
      rw [hu3] at he; cases he
  | some i =>
    have hfn : w.p.na ≤ v.p.na + 570 * 12 := hfn
    have hfs : w.n = n := hfs
    obtain ⟨hi, hse⟩ := g3 i rfl
    have hi : i < w.n := hi
    have hse : w.se i = 0 := hse
    have hF : F = (ZVs.mk (ZVs.p w) (ZVs.sets w) (ZVs.ways w) (ZVs.eps w) (ZVs.wf w) (zu w.sb i (b + 1)) (zu w.se i w.opn) (zu w.mrk i true) (ZVs.hd w) (ZVs.opn w) (ZVs.half w) (ZVs.gen w) (ZVs.plc w)).wr 1 (50 + i) x := hF
    obtain ⟨y, hy⟩ : ∃ y, y = ZVs.mk (ZVs.p w) (ZVs.sets w) (ZVs.ways w) (ZVs.eps w) (ZVs.wf w) (zu w.sb i (b + 1)) (zu w.se i w.opn) (zu w.mrk i true) (ZVs.hd w) (ZVs.opn w) (ZVs.half w) (ZVs.gen w) (ZVs.plc w) := ⟨_, rfl⟩
    rw [← hy] at hF
    have eo : oN ((some i, w) : Option Nat × ZVs).1 = iN i := rfl
    rw [eo]
    have hwfw : w.wf = true := by rw [← hR.toZRm.wf, ← z1.wf]; exact hfw
    have hcf := g1.2.2 hwfw
    refine wp_if (by show iN 0 ≤ iN i; rw [iN_le (by omega) (by omega)]; omega) (wp_bv (c_setDirty K N n sets hK t u i (iN b) (u.1 16) (by omega)) (wp_gd (by rw [k18]; exact iN_in (by omega) (by omega)) (wp_let (wp_let ?_))))
    rw [iN_nat (a := i) (by omega), hcf.2.2.2.1]
    obtain ⟨d1, d2, d3, d4, d5, d6⟩ := zcD_eq u i 2 (iN b) (iN w.opn)
    obtain ⟨u4, hu4⟩ : ∃ u4, u4 = sA (zcD u i 2 (iN b) (iN w.opn)) 18 i 1 := ⟨_, rfl⟩
    rw [← hu4]
    have h4 : zHs u u4 := by rw [hu4]; exact zHs_trans d6 (zHs_sA (by omega))
    have c15 : u4.2.2.1 15 = upd (u.2.2.1 15) i 2 := by rw [hu4]; show (sF _ 18 _).2.2.1 15 = _; rw [sF_arr_ne (by omega)]; exact d1
    have c16 : u4.2.2.1 16 = upd (u.2.2.1 16) i (iN b) := by rw [hu4]; show (sF _ 18 _).2.2.1 16 = _; rw [sF_arr_ne (by omega)]; exact d2
    have c17 : u4.2.2.1 17 = upd (u.2.2.1 17) i (iN w.opn) := by rw [hu4]; show (sF _ 18 _).2.2.1 17 = _; rw [sF_arr_ne (by omega)]; exact d3
    have c18 : u4.2.2.1 18 = upd (u.2.2.1 18) i 1 := by rw [hu4]; show (sF _ 18 _).2.2.1 18 = _; rw [sF_arr, d4]
    have c19 : u4.2.2.1 19 = u.2.2.1 19 := by rw [hu4]; show (sF _ 18 _).2.2.1 19 = _; rw [sF_arr_ne (by omega)]; exact d5
    have e17 : u4.1 17 + 1 = iN (w.dirty w.opn + 1) := by rw [h4.2.1, hcf.2.2.2.2.1, iL1, iN_add]
    rw [e17]
    have a50 : (50 : Int32) + iN i = iN (50 + i) := iN_add 50 i
    rw [a50]
    have hcw5 : zCw n (sR u4 17 (iN (w.dirty w.opn + 1))) y.p := by
      have : y.p = w.p := by rw [hy]; rfl
      rw [this]
      have hc := g1.1
      rw [hfs] at hc
      exact zCw_of (zCw_s hc h4) (fun r _ _ => sR_ne (by omega)) (fun _ _ _ => rfl) rfl
    have hyup : y.p.up = true := by rw [hy]; exact hu3
    have hv5 : zHv s (sR u4 17 (iN (w.dirty w.opn + 1))) := zHv_trans (zHv_trans (zHv_trans e3 g2) (zHs_v h4)) ⟨fun _ _ => rfl, fun r hr => sR_ne (by omega), fun _ _ => rfl, rfl⟩
    have hFp : F.p = y.p.wr 1 (50 + i) x := by rw [hF]; rfl
    rw [hFp]
    refine wp_cv (c_put_8_24 K N n sets hK t _ y.p hcw5 hyup (50 + i) ix x (by omega) (fun q hq => by rw [hv5.1 24 (by omega)]; exact hx q hq) hix (by
      have := (zfr_wr y 1 (50 + i) x).n2
      have e : (y.wr 1 (50 + i) x).p = y.p.wr 1 (50 + i) x := rfl
      rw [e] at this
      have e2 : y.p.na = w.p.na := by rw [hy]; rfl
      omega)) (zHv_x hv5) (fun _ => rfl) (fun u6 hu6 hR6 => wp_rO hu6 ?_)
    obtain ⟨q1, q2⟩ := hR6
    refine ⟨⟨?_, ?_, fun _ => ⟨?_, ?_, ?_, ?_, ?_, ?_, ?_⟩⟩, zHv_trans hv5 (zHd_v q2)⟩
    · rw [show F.n = n by rw [hF, hy]; exact hfs, hFp]; exact q1
    · refine zCz_v (v := w) (zCz_of g1.2.1 (fun r hr => ?_)) (by rw [hF, hy]; rfl) (by rw [hF, hy]; rfl) (by rw [hF, hy]; rfl) (by rw [hF, hy]; rfl)
      rw [q2.2.1 r (by omega), sR_ne (by omega), h4.2.1]
    · rw [q2.2.1 13 (by omega), sR_ne (by omega), h4.2.1, hF, hy]; exact hcf.1
    · rw [q2.2.1 14 (by omega), sR_ne (by omega), h4.2.1, hF, hy]; exact hcf.2.1
    · rw [q2.2.1 15 (by omega), sR_ne (by omega), h4.2.1, hF, hy]; exact hcf.2.2.1
    · rw [q2.2.1 16 (by omega), sR_ne (by omega), h4.2.1, hF, hy]; exact hcf.2.2.2.1
    · rw [q2.2.1 17 (by omega), sR_self, hF, hy]
      congr 1
      show (zDl w.se w.opn w.n).length + 1 = (zDl (zu w.se i w.opn) w.opn w.n).length
      rw [zDl_put hi (by omega)]
    · intro j hj
      have hj : j < w.n := by rw [hF, hy] at hj; exact hj
      have e15 : u6.2.2.1 15 = upd (u.2.2.1 15) i 2 := by rw [q2.1 15 (by omega)]; exact c15
      have e16 : u6.2.2.1 16 = upd (u.2.2.1 16) i (iN b) := by rw [q2.1 16 (by omega)]; exact c16
      have e17 : u6.2.2.1 17 = upd (u.2.2.1 17) i (iN w.opn) := by rw [q2.1 17 (by omega)]; exact c17
      have e18 : u6.2.2.1 18 = upd (u.2.2.1 18) i 1 := by rw [q2.1 18 (by omega)]; exact c18
      unfold zC1
      rw [e15, e16, e17, e18, hF, hy]
      show upd (u.2.2.1 15) i 2 j = zKnd (zu w.sb i (b + 1) j) (zu w.se i w.opn j) ∧ upd (u.2.2.1 16) i (iN b) j = iN (zu w.sb i (b + 1) j - 1) ∧ upd (u.2.2.1 17) i (iN w.opn) j = iN (zu w.se i w.opn j) ∧ upd (u.2.2.1 18) i 1 j = bN (zu w.mrk i true j)
      by_cases hji : j = i
      · rw [hji, upd_self, upd_self, upd_self, upd_self, zu_self, zu_self, zu_self]
        exact ⟨((zKnd_2 _ _).mpr ⟨by omega, by omega⟩).symm, rfl, rfl, rfl⟩
      · rw [upd_ne hji, upd_ne hji, upd_ne hji, upd_ne hji, zu_ne _ _ hji, zu_ne _ _ hji, zu_ne _ _ hji]
        exact hcf.2.2.2.2.2.1 j hj
    · intro q hq
      have hq : q < w.sets := by rw [hF, hy] at hq; exact hq
      rw [q2.1 19 (by omega)]
      show u4.2.2.1 19 q = _
      rw [c19, hF, hy]
      exact hcf.2.2.2.2.2.2 q hq

/-! THE CLASS: writing a block of the volume -/
theorem c_wrNew_27 {P : Nat → ZSt → Prop} (hP : ∀ m m' V, m ≤ m' → P m V → P m' V) (K : px_K) (N n sets : Nat) (hN : 2000 ≤ N) (hK : zKc K n sets) (t : px_W) (b ix : Nat) (hb : b < 106) (x : ZBk) (hix : ix + 16 ≤ K.2.2 27) (s : px_S) (v : ZVs) (hn : v.n = n) (hsets : v.sets = sets) (h : zCv s v) (hu : v.p.up = true) (ha : zAl P v) (hna : v.p.na + 20000 < 2147483648) (hnb : ∀ q, q < v.n → v.sb q = b + 1 → v.se q ≠ v.opn) (hx : ∀ w, w < 16 → s.2.2.1 27 (ix + w) = x w) : wp (α := px_Res) (if ¬ (s.1 17) = (16 : Int32) then (px_bi (f_S_toWrite_14 K N (iN b) s t) (fun v14 s11 t12 => (px_lp (l_V_store_13_27_46 K N N (iN b) (iN ix) v14 (0 : Int32) s11 t12) (fun i16 vs17 s18 t19 => (if i16 = 74 then (px_v1 vs17 (fun y22 => (if 0 ≤ y22 then (px_bv (f_S_setDirty_14 K N y22 (iN b) (s18.1 16) s18 t19) (fun s25 t26 => (px_gd (vp_in y22 (K.2.2 18)) (px_let (sA s25 18 y22.toNatClampNeg (1 : Int32)) (fun s31 => (px_let (sR s31 17 ((s31.1 17) + (1 : Int32))) (fun s33 => (px_bv (f_D_put_8_27 K N ((50 : Int32) + y22) (iN ix) s33 t26) (fun s35 t36 => (some (.inl none, s35, t36))) (fun x39 s35 t36 => (some (.inr x39, s35, t36)))))))))) (fun x29 s25 t26 => none)) else (some (.inl none, s18, t19))))) else none)) (fun z21 => some z21))) (fun x15 s11 t12 => none)) else (px_bv (f_V_close_13 K N s t) (fun s40 t41 => (px_bi (f_S_toWrite_14 K N (iN b) s40 t41) (fun v14 s11 t12 => (px_lp (l_V_store_13_27_46 K N N (iN b) (iN ix) v14 (0 : Int32) s11 t12) (fun i16 vs17 s18 t19 => (if i16 = 74 then (px_v1 vs17 (fun y22 => (if 0 ≤ y22 then (px_bv (f_S_setDirty_14 K N y22 (iN b) (s18.1 16) s18 t19) (fun s25 t26 => (px_gd (vp_in y22 (K.2.2 18)) (px_let (sA s25 18 y22.toNatClampNeg (1 : Int32)) (fun s31 => (px_let (sR s31 17 ((s31.1 17) + (1 : Int32))) (fun s33 => (px_bv (f_D_put_8_27 K N ((50 : Int32) + y22) (iN ix) s33 t26) (fun s35 t36 => (some (.inl none, s35, t36))) (fun x39 s35 t36 => (some (.inr x39, s35, t36)))))))))) (fun x29 s25 t26 => none)) else (some (.inl none, s18, t19))))) else none)) (fun z21 => some z21))) (fun x15 s11 t12 => none))) (fun x44 s40 t41 => (some (.inr x44, s40, t41))))) (zO n none t s (v.wrNew b x).p (fun u => zCv u (v.wrNew b x) ∧ zHv s u)) := by
  have hR : ZRf P v := by
    rcases ha with ⟨_, h2, _⟩ | hy
    · exact h2
    · have := hy.up; rw [hu] at this; cases this
  have hz := hR.toZRm.sz
  have hcf := h.2.2 hR.toZRm.wf
  have hd16 := hR.toZRm.t5
  have hends := zwr_ends hP ha (b := b) (by omega) (fun _ => hnb)
  have hw : v.wrNew b x = match ZVs.claimLoop b 12 ((if v.dirty v.opn = 16 then v.close else v).claim b) with
      | (none, u) => u
      | (some s, u) => ((ZVs.mk (ZVs.p u) (ZVs.sets u) (ZVs.ways u) (ZVs.eps u) (ZVs.wf u) (zu u.sb s (b + 1)) (zu u.se s u.opn) (zu u.mrk s true) (ZVs.hd u) (ZVs.opn u) (ZVs.half u) (ZVs.gen u) (ZVs.plc u)) : ZVs).wr 1 (50 + s) x := rfl
  rw [hcf.2.2.2.2.1]
  by_cases hd : v.dirty v.opn = 16
  · rw [if_pos hd] at hends hw
    refine wp_ifn (fun hy => hy (by rw [hd]; rfl)) ?_
    have hcl := c_close hP K N n sets hN hK t s v hn h hu hR (by omega)
    have hac := zAl_close hP ha (by omega)
    have hfc := zfr_close v hz
    obtain ⟨y, hy⟩ : ∃ y, y = v.close := ⟨_, rfl⟩
    rw [← hy] at hcl hac hfc hends hw
    have hna2 := hfc.n2
    obtain ⟨F, hF⟩ : ∃ F, F = v.wrNew b x := ⟨_, rfl⟩
    rw [← hF] at hw
    rw [← hF]
    have hdn : y.p.up = false → F.p = y.p := by
      intro hx
      have h1 := ZFr.trans (zfr_claim y b).1 (zfr_lc b 12 y (hfc.sz hz))
      have h2 := h1.dn hx
      obtain ⟨r, hr⟩ : ∃ r, r = ZVs.claimLoop b 12 (y.claim b) := ⟨_, rfl⟩
      rw [← hr] at h2 hw
      obtain ⟨o, w⟩ := r
      have h2 : w.p = y.p := h2
      cases o with
      | none => rw [hw]; exact h2
      | some i =>
        rw [hw]
        show (w.p.wr 1 (50 + i) x) = y.p
        rw [(zfr_wr w 1 (50 + i) x).dn (by rw [h2]; exact hx) |> fun e => (show w.p.wr 1 (50 + i) x = w.p from e), h2]
    refine wp_cv hcl (zHx_refl s) hdn (fun u hu2 hR2 => ?_)
    exact wp_O (c_wtail_27 hP K N n sets hN hK t b ix hb x hix u y ((zFr_n hfc).trans hn) (hfc.s.trans hsets) hR2.1 hu2 hac (by omega) hends (fun w hw => by rw [hR2.2.1 27 (by omega)]; exact hx w hw) F hw) (zHv_x hR2.2) (fun w _ hw => ⟨hw.1, zHv_trans hR2.2 hw.2⟩)
  · rw [if_neg hd] at hends hw
    refine wp_if (fun hy => hd ?_) ?_
    · exact (iN_eq (by omega) (by omega)).mp hy
    · exact c_wtail_27 hP K N n sets hN hK t b ix hb x hix s v hn hsets h hu ha (by omega) hends hx _ hw
theorem c_store_27 {P : Nat → ZSt → Prop} (hP : ∀ m m' V, m ≤ m' → P m V → P m' V) (K : px_K) (N n sets : Nat) (hN : 2000 ≤ N) (hK : zKc K n sets) (t : px_W) (b ix : Nat) (hb : b < 106) (x : ZBk) (hix : ix + 16 ≤ K.2.2 27) (s : px_S) (v : ZVs) (hn : v.n = n) (hsets : v.sets = sets) (h : zCv s v) (hu : v.p.up = true) (ha : v.wf = true → zAl P v) (hna : v.p.na + 20000 < 2147483648) (hx : ∀ w, w < 16 → s.2.2.1 27 (ix + w) = x w) : wp (f_V_store_13_27 K N (iN b) (iN ix) s t) (zO n none t s (v.wrv b x).p (fun u => zCv u (v.wrv b x) ∧ zHv s u)) := by
  have hn64 : n ≤ 64 := hK.2.2.2.2.2.2.2.2.2.2.2.2.2.2.2.2.2.2.2.2
  have k17 : K.2.2 17 = n := hK.2.2.2.2.2.2.2.2.2.2.1
  unfold f_V_store_13_27
  refine wp_ifn (iN_neg (by omega)) (wp_if (by show iN b < iN 106; rw [iN_lt (by omega) (by omega)]; exact hb) ?_)
  rw [h.2.1.2.1]
  cases hwf : v.wf with
  | false =>
    have e : v.wrv b x = v.wr 0 (19 + b) x := by unfold ZVs.wrv; rw [if_pos hwf]
    rw [e]
    refine wp_ifn (fun hy => hy rfl) ?_
    have a19 : (19 : Int32) + iN b = iN (19 + b) := iN_add 19 b
    rw [a19]
    have hcw := h.1
    rw [hn] at hcw
    refine wp_cv (c_put_3_27 K N n sets hK t s v.p hcw hu (19 + b) ix x (by omega) hx hix (by
      have := (zfr_wr v 0 (19 + b) x).n2
      have e : (v.wr 0 (19 + b) x).p = v.p.wr 0 (19 + b) x := rfl
      rw [e] at this
      omega)) (zHx_refl s) (fun _ => rfl) (fun u hu2 hR2 => wp_rO hu2 ⟨⟨?_, ?_, fun hx => ?_⟩, zHd_v hR2.2⟩)
    · show zCw v.n u _
      rw [hn]; exact hR2.1
    · exact zCz_v (v := v) (zCz_of h.2.1 (fun r hr => hR2.2.2.1 r (by omega))) rfl rfl rfl rfl
    · have hx : v.wf = true := hx
      rw [hwf] at hx; cases hx
  | true =>
    have ha := ha hwf
    have hR : ZRf P v := by
      rcases ha with ⟨_, h2, _⟩ | hy
      · exact h2
      · have := hy.up; rw [hu] at this; cases this
    have hcf := h.2.2 hwf
    have hsw := zSw_of hR.toZRm (by omega)
    have hnew := c_newest K N n sets hN hK t s v hn hcf.2.2.2.2.2.1 h.2.1 (zSw_x hsw) b hb
    refine wp_if (by decide) (wp_bi hnew ?_)
    cases hnw : v.newest b with
    | none =>
      have e : v.wrv b x = v.wrNew b x := by
        unfold ZVs.wrv
        rw [if_neg (by rw [hwf]; exact Bool.noConfusion), hnw]
      rw [e]
      refine wp_if (by show (-1 : Int32) < 0; decide) ?_
      exact c_wrNew_27 hP K N n sets hN hK t b ix hb x hix s v hn hsets h hu ha hna (fun q hq hqb => absurd hqb (zNew_none.mp hnw q hq)) hx
    | some i =>
      obtain ⟨q1, q2, q3⟩ := zNew_some hnw
      have q1 : i < v.n := q1
      obtain ⟨d1, d2, d3, d4⟩ := hcf.2.2.2.2.2.1 i q1
      have eo : oN (some i) = iN i := rfl
      rw [eo]
      refine wp_ifn (iN_neg (by omega)) (wp_gd (by rw [k17]; exact iN_in (by omega) (by omega)) ?_)
      have o1 := hsw.2.2.2.1 i q1
      have o2 := hsw.2.1
      rw [iN_nat (a := i) (by omega), d3, hcf.2.2.2.1]
      by_cases hse : v.se i = v.opn
      · have e : v.wrv b x = v.wr 1 (50 + i) x := by
          unfold ZVs.wrv
          rw [if_neg (by rw [hwf]; exact Bool.noConfusion), hnw]
          exact if_pos hse
        rw [e]
        refine wp_if (by rw [hse]) ?_
        have a50 : (50 : Int32) + iN i = iN (50 + i) := iN_add 50 i
        rw [a50]
        have hcw := h.1
        rw [hn] at hcw
        refine wp_cv (c_put_8_27 K N n sets hK t s v.p hcw hu (50 + i) ix x (by omega) hx hix (by
          have := (zfr_wr v 1 (50 + i) x).n2
          have e : (v.wr 1 (50 + i) x).p = v.p.wr 1 (50 + i) x := rfl
          rw [e] at this
          omega)) (zHx_refl s) (fun _ => rfl) (fun u hu2 hR2 => wp_rO hu2 ⟨⟨?_, ?_, fun _ => ?_⟩, zHd_v hR2.2⟩)
        · show zCw v.n u _
          rw [hn]; exact hR2.1
        · exact zCz_v (v := v) (zCz_of h.2.1 (fun r hr => hR2.2.2.1 r (by omega))) rfl rfl rfl rfl
        · exact zCf_e hcf (zHd_e hR2.2) ⟨rfl, rfl, rfl, rfl, rfl⟩ rfl rfl rfl rfl rfl
      · have e : v.wrv b x = v.wrNew b x := by
          unfold ZVs.wrv
          rw [if_neg (by rw [hwf]; exact Bool.noConfusion), hnw]
          exact if_neg hse
        rw [e]
        refine wp_ifn (fun hy => hse ((iN_eq (by omega) (by omega)).mp hy)) ?_
        exact c_wrNew_27 hP K N n sets hN hK t b ix hb x hix s v hn hsets h hu ha hna (fun q hq hqb hqo => by
          have hq : q < v.n := hq
          have := q3 q hq hqb
          omega) hx
theorem c_wrNew_24 {P : Nat → ZSt → Prop} (hP : ∀ m m' V, m ≤ m' → P m V → P m' V) (K : px_K) (N n sets : Nat) (hN : 2000 ≤ N) (hK : zKc K n sets) (t : px_W) (b ix : Nat) (hb : b < 106) (x : ZBk) (hix : ix + 16 ≤ K.2.2 24) (s : px_S) (v : ZVs) (hn : v.n = n) (hsets : v.sets = sets) (h : zCv s v) (hu : v.p.up = true) (ha : zAl P v) (hna : v.p.na + 20000 < 2147483648) (hnb : ∀ q, q < v.n → v.sb q = b + 1 → v.se q ≠ v.opn) (hx : ∀ w, w < 16 → s.2.2.1 24 (ix + w) = x w) : wp (α := px_Res) (if ¬ (s.1 17) = (16 : Int32) then (px_bi (f_S_toWrite_14 K N (iN b) s t) (fun v14 s11 t12 => (px_lp (l_V_store_13_24_46 K N N (iN b) (iN ix) v14 (0 : Int32) s11 t12) (fun i16 vs17 s18 t19 => (if i16 = 74 then (px_v1 vs17 (fun y22 => (if 0 ≤ y22 then (px_bv (f_S_setDirty_14 K N y22 (iN b) (s18.1 16) s18 t19) (fun s25 t26 => (px_gd (vp_in y22 (K.2.2 18)) (px_let (sA s25 18 y22.toNatClampNeg (1 : Int32)) (fun s31 => (px_let (sR s31 17 ((s31.1 17) + (1 : Int32))) (fun s33 => (px_bv (f_D_put_8_24 K N ((50 : Int32) + y22) (iN ix) s33 t26) (fun s35 t36 => (some (.inl none, s35, t36))) (fun x39 s35 t36 => (some (.inr x39, s35, t36)))))))))) (fun x29 s25 t26 => none)) else (some (.inl none, s18, t19))))) else none)) (fun z21 => some z21))) (fun x15 s11 t12 => none)) else (px_bv (f_V_close_13 K N s t) (fun s40 t41 => (px_bi (f_S_toWrite_14 K N (iN b) s40 t41) (fun v14 s11 t12 => (px_lp (l_V_store_13_24_46 K N N (iN b) (iN ix) v14 (0 : Int32) s11 t12) (fun i16 vs17 s18 t19 => (if i16 = 74 then (px_v1 vs17 (fun y22 => (if 0 ≤ y22 then (px_bv (f_S_setDirty_14 K N y22 (iN b) (s18.1 16) s18 t19) (fun s25 t26 => (px_gd (vp_in y22 (K.2.2 18)) (px_let (sA s25 18 y22.toNatClampNeg (1 : Int32)) (fun s31 => (px_let (sR s31 17 ((s31.1 17) + (1 : Int32))) (fun s33 => (px_bv (f_D_put_8_24 K N ((50 : Int32) + y22) (iN ix) s33 t26) (fun s35 t36 => (some (.inl none, s35, t36))) (fun x39 s35 t36 => (some (.inr x39, s35, t36)))))))))) (fun x29 s25 t26 => none)) else (some (.inl none, s18, t19))))) else none)) (fun z21 => some z21))) (fun x15 s11 t12 => none))) (fun x44 s40 t41 => (some (.inr x44, s40, t41))))) (zO n none t s (v.wrNew b x).p (fun u => zCv u (v.wrNew b x) ∧ zHv s u)) := by
  have hR : ZRf P v := by
    rcases ha with ⟨_, h2, _⟩ | hy
    · exact h2
    · have := hy.up; rw [hu] at this; cases this
  have hz := hR.toZRm.sz
  have hcf := h.2.2 hR.toZRm.wf
  have hd16 := hR.toZRm.t5
  have hends := zwr_ends hP ha (b := b) (by omega) (fun _ => hnb)
  have hw : v.wrNew b x = match ZVs.claimLoop b 12 ((if v.dirty v.opn = 16 then v.close else v).claim b) with
      | (none, u) => u
      | (some s, u) => ((ZVs.mk (ZVs.p u) (ZVs.sets u) (ZVs.ways u) (ZVs.eps u) (ZVs.wf u) (zu u.sb s (b + 1)) (zu u.se s u.opn) (zu u.mrk s true) (ZVs.hd u) (ZVs.opn u) (ZVs.half u) (ZVs.gen u) (ZVs.plc u)) : ZVs).wr 1 (50 + s) x := rfl
  rw [hcf.2.2.2.2.1]
  by_cases hd : v.dirty v.opn = 16
  · rw [if_pos hd] at hends hw
    refine wp_ifn (fun hy => hy (by rw [hd]; rfl)) ?_
    have hcl := c_close hP K N n sets hN hK t s v hn h hu hR (by omega)
    have hac := zAl_close hP ha (by omega)
    have hfc := zfr_close v hz
    obtain ⟨y, hy⟩ : ∃ y, y = v.close := ⟨_, rfl⟩
    rw [← hy] at hcl hac hfc hends hw
    have hna2 := hfc.n2
    obtain ⟨F, hF⟩ : ∃ F, F = v.wrNew b x := ⟨_, rfl⟩
    rw [← hF] at hw
    rw [← hF]
    have hdn : y.p.up = false → F.p = y.p := by
      intro hx
      have h1 := ZFr.trans (zfr_claim y b).1 (zfr_lc b 12 y (hfc.sz hz))
      have h2 := h1.dn hx
      obtain ⟨r, hr⟩ : ∃ r, r = ZVs.claimLoop b 12 (y.claim b) := ⟨_, rfl⟩
      rw [← hr] at h2 hw
      obtain ⟨o, w⟩ := r
      have h2 : w.p = y.p := h2
      cases o with
      | none => rw [hw]; exact h2
      | some i =>
        rw [hw]
        show (w.p.wr 1 (50 + i) x) = y.p
        rw [(zfr_wr w 1 (50 + i) x).dn (by rw [h2]; exact hx) |> fun e => (show w.p.wr 1 (50 + i) x = w.p from e), h2]
    refine wp_cv hcl (zHx_refl s) hdn (fun u hu2 hR2 => ?_)
    exact wp_O (c_wtail_24 hP K N n sets hN hK t b ix hb x hix u y ((zFr_n hfc).trans hn) (hfc.s.trans hsets) hR2.1 hu2 hac (by omega) hends (fun w hw => by rw [hR2.2.1 24 (by omega)]; exact hx w hw) F hw) (zHv_x hR2.2) (fun w _ hw => ⟨hw.1, zHv_trans hR2.2 hw.2⟩)
  · rw [if_neg hd] at hends hw
    refine wp_if (fun hy => hd ?_) ?_
    · exact (iN_eq (by omega) (by omega)).mp hy
    · exact c_wtail_24 hP K N n sets hN hK t b ix hb x hix s v hn hsets h hu ha (by omega) hends hx _ hw
theorem c_store_24 {P : Nat → ZSt → Prop} (hP : ∀ m m' V, m ≤ m' → P m V → P m' V) (K : px_K) (N n sets : Nat) (hN : 2000 ≤ N) (hK : zKc K n sets) (t : px_W) (b ix : Nat) (hb : b < 106) (x : ZBk) (hix : ix + 16 ≤ K.2.2 24) (s : px_S) (v : ZVs) (hn : v.n = n) (hsets : v.sets = sets) (h : zCv s v) (hu : v.p.up = true) (ha : v.wf = true → zAl P v) (hna : v.p.na + 20000 < 2147483648) (hx : ∀ w, w < 16 → s.2.2.1 24 (ix + w) = x w) : wp (f_V_store_13_24 K N (iN b) (iN ix) s t) (zO n none t s (v.wrv b x).p (fun u => zCv u (v.wrv b x) ∧ zHv s u)) := by
  have hn64 : n ≤ 64 := hK.2.2.2.2.2.2.2.2.2.2.2.2.2.2.2.2.2.2.2.2
  have k17 : K.2.2 17 = n := hK.2.2.2.2.2.2.2.2.2.2.1
  unfold f_V_store_13_24
  refine wp_ifn (iN_neg (by omega)) (wp_if (by show iN b < iN 106; rw [iN_lt (by omega) (by omega)]; exact hb) ?_)
  rw [h.2.1.2.1]
  cases hwf : v.wf with
  | false =>
    have e : v.wrv b x = v.wr 0 (19 + b) x := by unfold ZVs.wrv; rw [if_pos hwf]
    rw [e]
    refine wp_ifn (fun hy => hy rfl) ?_
    have a19 : (19 : Int32) + iN b = iN (19 + b) := iN_add 19 b
    rw [a19]
    have hcw := h.1
    rw [hn] at hcw
    refine wp_cv (c_put_3_24 K N n sets hK t s v.p hcw hu (19 + b) ix x (by omega) hx hix (by
      have := (zfr_wr v 0 (19 + b) x).n2
      have e : (v.wr 0 (19 + b) x).p = v.p.wr 0 (19 + b) x := rfl
      rw [e] at this
      omega)) (zHx_refl s) (fun _ => rfl) (fun u hu2 hR2 => wp_rO hu2 ⟨⟨?_, ?_, fun hx => ?_⟩, zHd_v hR2.2⟩)
    · show zCw v.n u _
      rw [hn]; exact hR2.1
    · exact zCz_v (v := v) (zCz_of h.2.1 (fun r hr => hR2.2.2.1 r (by omega))) rfl rfl rfl rfl
    · have hx : v.wf = true := hx
      rw [hwf] at hx; cases hx
  | true =>
    have ha := ha hwf
    have hR : ZRf P v := by
      rcases ha with ⟨_, h2, _⟩ | hy
      · exact h2
      · have := hy.up; rw [hu] at this; cases this
    have hcf := h.2.2 hwf
    have hsw := zSw_of hR.toZRm (by omega)
    have hnew := c_newest K N n sets hN hK t s v hn hcf.2.2.2.2.2.1 h.2.1 (zSw_x hsw) b hb
    refine wp_if (by decide) (wp_bi hnew ?_)
    cases hnw : v.newest b with
    | none =>
      have e : v.wrv b x = v.wrNew b x := by
        unfold ZVs.wrv
        rw [if_neg (by rw [hwf]; exact Bool.noConfusion), hnw]
      rw [e]
      refine wp_if (by show (-1 : Int32) < 0; decide) ?_
      exact c_wrNew_24 hP K N n sets hN hK t b ix hb x hix s v hn hsets h hu ha hna (fun q hq hqb => absurd hqb (zNew_none.mp hnw q hq)) hx
    | some i =>
      obtain ⟨q1, q2, q3⟩ := zNew_some hnw
      have q1 : i < v.n := q1
      obtain ⟨d1, d2, d3, d4⟩ := hcf.2.2.2.2.2.1 i q1
      have eo : oN (some i) = iN i := rfl
      rw [eo]
      refine wp_ifn (iN_neg (by omega)) (wp_gd (by rw [k17]; exact iN_in (by omega) (by omega)) ?_)
      have o1 := hsw.2.2.2.1 i q1
      have o2 := hsw.2.1
      rw [iN_nat (a := i) (by omega), d3, hcf.2.2.2.1]
      by_cases hse : v.se i = v.opn
      · have e : v.wrv b x = v.wr 1 (50 + i) x := by
          unfold ZVs.wrv
          rw [if_neg (by rw [hwf]; exact Bool.noConfusion), hnw]
          exact if_pos hse
        rw [e]
        refine wp_if (by rw [hse]) ?_
        have a50 : (50 : Int32) + iN i = iN (50 + i) := iN_add 50 i
        rw [a50]
        have hcw := h.1
        rw [hn] at hcw
        refine wp_cv (c_put_8_24 K N n sets hK t s v.p hcw hu (50 + i) ix x (by omega) hx hix (by
          have := (zfr_wr v 1 (50 + i) x).n2
          have e : (v.wr 1 (50 + i) x).p = v.p.wr 1 (50 + i) x := rfl
          rw [e] at this
          omega)) (zHx_refl s) (fun _ => rfl) (fun u hu2 hR2 => wp_rO hu2 ⟨⟨?_, ?_, fun _ => ?_⟩, zHd_v hR2.2⟩)
        · show zCw v.n u _
          rw [hn]; exact hR2.1
        · exact zCz_v (v := v) (zCz_of h.2.1 (fun r hr => hR2.2.2.1 r (by omega))) rfl rfl rfl rfl
        · exact zCf_e hcf (zHd_e hR2.2) ⟨rfl, rfl, rfl, rfl, rfl⟩ rfl rfl rfl rfl rfl
      · have e : v.wrv b x = v.wrNew b x := by
          unfold ZVs.wrv
          rw [if_neg (by rw [hwf]; exact Bool.noConfusion), hnw]
          exact if_neg hse
        rw [e]
        refine wp_ifn (fun hy => hse ((iN_eq (by omega) (by omega)).mp hy)) ?_
        exact c_wrNew_24 hP K N n sets hN hK t b ix hb x hix s v hn hsets h hu ha hna (fun q hq hqb hqo => by
          have hq : q < v.n := hq
          have := q3 q hq hqb
          omega) hx
theorem c_flushAll {P : Nat → ZSt → Prop} (hP : ∀ m m' V, m ≤ m' → P m V → P m' V) (K : px_K) (N n sets : Nat) (hN : 2000 ≤ N) (hK : zKc K n sets) (t : px_W) (s : px_S) (v : ZVs) (hn : v.n = n) (h : zCv s v) (hu : v.p.up = true) (ha : v.wf = true → zAl P v) (hna : v.p.na + 20000 < 2147483648) : wp (f_V_flushAll_13 K N s t) (zO n none t s v.flv.p (fun u => zCv u v.flv ∧ zHv s u)) := by
  unfold f_V_flushAll_13
  rw [h.2.1.2.1]
  cases hwf : v.wf with
  | false =>
    have e : v.flv = v.fl 0 := by unfold ZVs.flv; rw [if_neg (by rw [hwf]; exact Bool.noConfusion)]
    rw [e]
    have hcw := h.1
    rw [hn] at hcw
    refine wp_if rfl (wp_cv (c_flush_3 K N n sets hN hK t s v.p hcw hu (by
      have := (zfr_fl v 0).n2
      have e : (v.fl 0).p = v.p.fl 0 := rfl
      rw [e] at this
      omega)) (zHx_refl s) (fun _ => rfl) (fun u hu2 hR2 => wp_rO hu2 ⟨⟨?_, ?_, fun hx => ?_⟩, zHd_v hR2.2⟩))
    · show zCw v.n u _
      rw [hn]; exact hR2.1
    · exact zCz_v (v := v) (zCz_of h.2.1 (fun r hr => hR2.2.2.1 r (by omega))) rfl rfl rfl rfl
    · have hx : v.wf = true := hx
      rw [hwf] at hx; cases hx
  | true =>
    have e : v.flv = v.close := by unfold ZVs.flv; rw [if_pos hwf]
    rw [e]
    have hR : ZRf P v := by
      rcases ha hwf with ⟨_, h2, _⟩ | hy
      · exact h2
      · have := hy.up; rw [hu] at this; cases this
    refine wp_ifn (by decide) (wp_cv (c_close hP K N n sets hN hK t s v hn h hu hR (by omega)) (zHx_refl s) (fun _ => rfl) (fun u hu2 hR2 => wp_rO hu2 hR2))
/-- a block is looked at: its words come to the tree's row -/
theorem c_peek (K : px_K) (N n sets : Nat) (hN : 2000 ≤ N) (hK : zKc K n sets) (t : px_W) (s : px_S) (v : ZVs) (hn : v.n = n) (h : zCv s v) (hsw : v.wf = true → zSx v) (b : Nat) (hb : b < 106) : ∃ g, f_V_peek_13_23 K N (iN b) s t = some (.inl none, sF s 23 g, t) ∧ (∀ w, w < 16 → g (16 * b + w) = v.cur b w) ∧ (∀ c w, c ≠ b → w < 16 → g (16 * c + w) = s.2.2.1 23 (16 * c + w)) := by
  have hn64 : n ≤ 64 := hK.2.2.2.2.2.2.2.2.2.2.2.2.2.2.2.2.2.2.2.2
  have k6 : K.2.2 6 = 2000 := hK.2.2.1
  have k11 : K.2.2 11 = 16 * (50 + n) := hK.2.2.2.2.2.2.1
  have k23 : K.2.2 23 = 1696 := hK.2.2.2.2.2.2.2.2.2.2.2.2.2.2.2.1
  have hcw := h.1
  rw [hn] at hcw
  have a19 : ((19 : Int32) + iN b) * (16 : Int32) = iN (16 * (19 + b)) := by
    show (iN 19 + iN b) * _ = _
    rw [iN_add, iN_16]
  have disc : ∀ w, w < 16 → va_cpy (s.2.2.1 6) (s.2.2.1 23) (16 * (19 + b)) (16 * b) 16 (16 * b + w) = v.dn (19 + b) w := by
    intro w hw
    rw [va_cpy_in hw]
    exact hcw.1.2.2.2.2.2.2.2 (19 + b) w (by omega) hw
  have gd19 : ¬ iN (16 * (19 + b)) < 0 ∧ ¬ iN (16 * b) < 0 ∧ ¬ (16 : Int32) < 0 ∧ (iN (16 * (19 + b))).toNatClampNeg + (16 : Int32).toNatClampNeg ≤ K.2.2 6 ∧ (iN (16 * b)).toNatClampNeg + (16 : Int32).toNatClampNeg ≤ K.2.2 23 := ⟨iN_neg (by omega), iN_neg (by omega), by decide, by rw [iN_nat (by omega), n16, k6]; omega, by rw [iN_nat (by omega), n16, k23]; omega⟩
  have go : wp (f_V_peek_13_23 K N (iN b) s t) (fun r => ∃ g, r = (.inl none, sF s 23 g, t) ∧ (∀ w, w < 16 → g (16 * b + w) = v.cur b w) ∧ (∀ c w, c ≠ b → w < 16 → g (16 * c + w) = s.2.2.1 23 (16 * c + w))) := by
    unfold f_V_peek_13_23
    rw [h.2.1.2.1, a19, iN_16]
    refine wp_ifn (iN_neg (by omega)) (wp_ifn (by show ¬ iN 106 ≤ iN b; rw [iN_le (by omega) (by omega)]; omega) (wp_if (by rw [k23]; decide) ?_))
    cases hwf : v.wf with
    | false =>
      have ec : v.cur b = v.dn (19 + b) := by
        show (if v.wf = true then _ else _) = _
        rw [if_neg (by rw [hwf]; exact Bool.noConfusion)]
      refine wp_if rfl (wp_if (by decide) (wp_gd gd19 (wp_let (wp_some ⟨_, rfl, ?_, ?_⟩))))
      · rw [ec, iN_nat (by omega), iN_nat (by omega), n16]; exact disc
      · intro c w hc hw
        rw [iN_nat (by omega), iN_nat (by omega), n16, va_cpy_out hw hc]
    | true =>
      have hcf := h.2.2 hwf
      have hnew := c_newest K N n sets hN hK t s v hn hcf.2.2.2.2.2.1 h.2.1 (hsw hwf) b hb
      refine wp_ifn (by decide) (wp_bi hnew ?_)
      cases hnw : v.newest b with
      | none =>
        refine wp_if (by show (-1 : Int32) < 0; decide) (wp_gd gd19 (wp_let (wp_some ⟨_, rfl, ?_, ?_⟩)))
        · rw [ZVs.cur_none hwf hnw, iN_nat (by omega), iN_nat (by omega), n16]; exact disc
        · intro c w hc hw
          rw [iN_nat (by omega), iN_nat (by omega), n16, va_cpy_out hw hc]
      | some i =>
        obtain ⟨q1, q2, q3⟩ := zNew_some hnw
        have q1 : i < v.n := q1
        have eo : oN (some i) = iN i := rfl
        have a50 : ((50 : Int32) + iN i) * (16 : Int32) = iN (16 * (50 + i)) := by
          show (iN 50 + iN i) * _ = _
          rw [iN_add, iN_16]
        rw [eo, a50]
        refine wp_ifn (iN_neg (by omega)) (wp_gd ⟨iN_neg (by omega), iN_neg (by omega), by decide, by rw [iN_nat (by omega), n16, k11]; omega, by rw [iN_nat (by omega), n16, k23]; omega⟩ (wp_let (wp_some ⟨_, rfl, ?_, ?_⟩)))
        · intro w hw
          rw [ZVs.cur_some hwf hnw, iN_nat (by omega), iN_nat (by omega), n16, va_cpy_in hw]
          exact hcw.2.1.2.2.2.2.2.2.2 (50 + i) w (by omega) hw
        · intro c w hc hw
          rw [iN_nat (by omega), iN_nat (by omega), n16, va_cpy_out hw hc]
  obtain ⟨r, e1, g, e2, e3, e4⟩ := go
  exact ⟨g, by rw [e1, e2], e3, e4⟩

/-! THE CLASS: a block is fetched -/
theorem zCv_23 {s : px_S} {v : ZVs} {g : Nat → Int32} (h : zCv s v) : zCv (sF s 23 g) v := by
  obtain ⟨h1, h2, h3⟩ := h
  refine ⟨zCw_of h1 (fun _ _ _ => rfl) (fun a _ _ => sF_arr_ne (by omega)) rfl, zCz_of h2 (fun _ _ => rfl), fun hw => ?_⟩
  obtain ⟨g1, g2, g3, g4, g5, g6, g7⟩ := h3 hw
  refine ⟨g1, g2, g3, g4, g5, zCk_of g6 (fun a _ _ => sF_arr_ne (by omega)), fun k hk => ?_⟩
  rw [sF_arr_ne (by omega)]; exact g7 k hk
theorem zHx_23 {s : px_S} {g : Nat → Int32} : zHx s (sF s 23 g) := ⟨fun c hc => sF_arr_ne (by omega), fun _ _ => rfl, fun _ _ => rfl, rfl⟩
theorem c_fetch {P : Nat → ZSt → Prop} (K : px_K) (N n sets : Nat) (hN : 2000 ≤ N) (hK : zKc K n sets) (t : px_W) (s : px_S) (v : ZVs) (hn : v.n = n) (hsets : v.sets = sets) (h : zCv s v) (hu : v.p.up = true) (hR : v.wf = true → ZRf P v) (hna : v.p.na + 20000 < 2147483648) (b : Nat) (hb : b < 106) : wp (f_V_fetch_13_23 K N (iN b) s t) (zO n none t s (v.rdv b).p (fun u => zCv u (v.rdv b) ∧ ∃ g : Nat → Int32, (∀ w, w < 16 → g (16 * b + w) = v.cur b w) ∧ (∀ c w, c ≠ b → w < 16 → g (16 * c + w) = s.2.2.1 23 (16 * c + w)) ∧ zHv (sF s 23 g) u)) := by
  have hn64 : n ≤ 64 := hK.2.2.2.2.2.2.2.2.2.2.2.2.2.2.2.2.2.2.2.2
  have k18 : K.2.2 18 = n := hK.2.2.2.2.2.2.2.2.2.2.2.1
  have k6 : K.2.2 6 = 2000 := hK.2.2.1
  obtain ⟨g, p1, p2, p3⟩ := c_peek K N n sets hN hK t s v hn h (fun hw => zSw_x (zSw_of (hR hw).toZRm (by omega))) b hb
  have h1 := zCv_23 (g := g) h
  obtain ⟨s1, hs1⟩ : ∃ s1, s1 = sF s 23 g := ⟨_, rfl⟩
  have hx1 : zHx s s1 := by rw [hs1]; exact zHx_23
  rw [← hs1] at p1 h1
  unfold f_V_fetch_13_23
  refine wp_bv p1 ?_
  rw [h1.2.1.2.1]
  cases hwf : v.wf with
  | false =>
    have e : v.rdv b = v := by unfold ZVs.rdv; rw [if_pos hwf]
    rw [e]
    exact wp_ifn (fun hy => hy rfl) (wp_rO hu ⟨h1, g, p2, p3, by rw [← hs1]; exact zHv_refl s1⟩)
  | true =>
    have hR := hR hwf
    have hcf := h1.2.2 hwf
    have hsw := zSw_of hR.toZRm (by omega)
    have hz := hsw.1
    have s8 := hz.s8
    have s1' := hz.s1
    have hnew := c_newest K N n sets hN hK t s1 v hn hcf.2.2.2.2.2.1 h1.2.1 (zSw_x hsw) b hb
    refine wp_if (by decide) (wp_bi hnew ?_)
    cases hnw : v.newest b with
    | some i =>
      obtain ⟨q1, q2, q3⟩ := zNew_some hnw
      have q1 : i < v.n := q1
      have eo : oN (some i) = iN i := rfl
      have e : v.rdv b = ZVs.s_mrk v (zu v.mrk i true) := by
        unfold ZVs.rdv
        rw [if_neg (by rw [hwf]; exact Bool.noConfusion), hnw]
      rw [eo, e]
      refine wp_ifn (iN_neg (by omega)) (wp_gd (by rw [k18]; exact iN_in (by omega) (by omega)) (wp_let ?_))
      rw [iN_nat (a := i) (by omega)]
      refine wp_rO hu ⟨⟨zCw_s h1.1 (zHs_sA (by omega)), zCz_v (v := v) (zCz_of h1.2.1 (fun _ _ => rfl)) rfl rfl rfl rfl, fun _ => ⟨hcf.1, hcf.2.1, hcf.2.2.1, hcf.2.2.2.1, hcf.2.2.2.2.1, ?_, ?_⟩⟩, g, p2, p3, by rw [← hs1]; exact zHs_v (zHs_sA (by omega))⟩
      · intro j hj
        have hj : j < v.n := hj
        obtain ⟨d1, d2, d3, d4⟩ := hcf.2.2.2.2.2.1 j hj
        unfold zC1
        show (sF s1 18 _).2.2.1 15 j = zKnd (v.sb j) (v.se j) ∧ (sF s1 18 _).2.2.1 16 j = iN (v.sb j - 1) ∧ (sF s1 18 _).2.2.1 17 j = iN (v.se j) ∧ (sF s1 18 (upd (s1.2.2.1 18) i 1)).2.2.1 18 j = bN (zu v.mrk i true j)
        rw [sF_arr_ne (by omega), sF_arr_ne (by omega), sF_arr_ne (by omega), sF_arr]
        refine ⟨d1, d2, d3, ?_⟩
        by_cases hji : j = i
        · rw [hji, upd_self, zu_self]; rfl
        · rw [upd_ne hji, zu_ne _ _ hji]; exact d4
      · intro q hq
        show (sF s1 18 _).2.2.1 19 q = _
        rw [sF_arr_ne (by omega)]
        exact hcf.2.2.2.2.2.2 q hq
    | none =>
      have e18 : s1.1 18 = iN v.sets := h1.2.1.2.2.1
      have hq : b % v.sets < v.sets := Nat.mod_lt _ s1'
      refine wp_if (by show (-1 : Int32) < 0; decide) (wp_gd (by rw [e18, iL0, iN_eq (by omega) (by omega)]; omega) ?_)
      rw [e18, iN_rem (by omega) (by omega) (by omega)]
      obtain ⟨u, e1, e2, e3, e4⟩ := wp_A (c_find K N n sets hN hK t s1 v hn hsets hcf.2.2.2.2.2.1 hcf.2.2.2.2.2.2 h1.2.1 hsw (b % v.sets) hq)
      refine wp_bi e1 ?_
      obtain ⟨f1, f2, f3, f4, f5, f6, f7⟩ := zfr_find (b % v.sets) (2 * v.ways) v
      have hfs := (find_spec (b % v.sets) (2 * v.ways) v (hsw.2.2.2.2.2.2 _)).2.2
      have ev : v.rdv b = match ZVs.find (b % v.sets) (2 * v.ways) v with
          | (none, u) => u
          | (some s, u) => (ZVs.s_sb (u.wr 1 (50 + s) (v.dn (19 + b))) (zu u.sb s (b + 1))) := by
        unfold ZVs.rdv
        rw [if_neg (by rw [hwf]; exact Bool.noConfusion), hnw]
        rfl
      obtain ⟨r, hr⟩ : ∃ r, r = ZVs.find (b % v.sets) (2 * v.ways) v := ⟨_, rfl⟩
      rw [← hr] at ev
      rw [← hr] at e2 e3 f1 f2 f3 f4 f5 f6 f7 hfs
      rw [← hr]
      obtain ⟨o, w⟩ := r
      have e2 : zCk u w := e2
      have e3 : zCy u w := e3
      have f1 : ZFr 0 v w := f1
      have f2 : w.p = v.p := f2
      have f3 : w.opn = v.opn := f3
      have f4 : w.half = v.half := f4
      have f5 : w.gen = v.gen := f5
      have f6 : w.plc = v.plc := f6
      have f7 : w.se = v.se := f7
      have nw : w.n = v.n := zFr_n f1
      have hw : zCv u w := by
        refine ⟨by rw [f2, nw]; exact zCw_s h1.1 e4, zCz_v (zCz_of h1.2.1 (fun r _ => by rw [e4.2.1])) f1.s f1.w f1.e f1.wf, fun _ => ⟨?_, ?_, ?_, ?_, ?_, e2, e3⟩⟩
        · rw [e4.2.1, f4]; exact hcf.1
        · rw [e4.2.1, f5]; exact hcf.2.1
        · rw [e4.2.1, f6]; exact hcf.2.2.1
        · rw [e4.2.1, f3]; exact hcf.2.2.2.1
        · rw [e4.2.1, hcf.2.2.2.2.1]
          congr 1
          show (zDl _ _ _).length = (zDl _ _ _).length
          rw [f7, f3, nw]
      cases o with
      | none =>
        have ev : v.rdv b = w := ev
        rw [ev]
        refine wp_if (by show (-1 : Int32) < 0; decide) (wp_rO (by rw [f2]; exact hu) ⟨hw, g, p2, p3, by rw [← hs1]; exact zHs_v e4⟩)
      | some i =>
        obtain ⟨⟨y, y1, y2⟩, hse, _⟩ := hfs i rfl
        have hle := zSet_lt (ways := v.ways) hq
        have hi : i < v.n := by show i < v.sets * v.ways; omega
        have ev : v.rdv b = (ZVs.s_sb (w.wr 1 (50 + i) (v.dn (19 + b))) (zu w.sb i (b + 1))) := ev
        rw [ev]
        have eo : oN ((some i, w) : Option Nat × ZVs).1 = iN i := rfl
        rw [eo]
        refine wp_ifn (iN_neg (by omega)) ?_
        have a50 : (50 : Int32) + iN i = iN (50 + i) := iN_add 50 i
        have a19 : ((19 : Int32) + iN b) * (16 : Int32) = iN (16 * (19 + b)) := by
          show (iN 19 + iN b) * _ = _
          rw [iN_add, iN_16]
        rw [a50, a19]
        have hcw := hw.1
        rw [nw, hn] at hcw
        have hpw : (ZVs.s_sb (w.wr 1 (50 + i) (v.dn (19 + b))) (zu w.sb i (b + 1))).p = w.p.wr 1 (50 + i) (v.dn (19 + b)) := rfl
        rw [hpw]
        refine wp_cv (c_put_8_6 K N n sets hK t u w.p hcw (by rw [f2]; exact hu) (50 + i) (16 * (19 + b)) (v.dn (19 + b)) (by omega) (fun q hq => by
          have := hcw.1.2.2.2.2.2.2.2 (19 + b) q (by omega) hq
          rw [f2] at this; exact this) (by rw [k6]; omega) (by
          have := (zfr_wr w 1 (50 + i) (v.dn (19 + b))).n2
          have e : (w.wr 1 (50 + i) (v.dn (19 + b))).p = w.p.wr 1 (50 + i) (v.dn (19 + b)) := rfl
          rw [e, f2] at this
          rw [f2]; omega)) (zHx_trans hx1 (zHs_x e4)) (fun _ => rfl) (fun u6 hu6 hR6 => ?_)
        obtain ⟨q1, q2⟩ := hR6
        refine wp_bv (c_setClean K N n sets hK t u6 i (iN b) (by omega)) (wp_rO hu6 ?_)
        obtain ⟨d1, d2, d3, d4, d5, d6⟩ := zcD_eq u6 i 1 (iN b) 0
        have hcfw := hw.2.2 (by rw [f1.wf]; exact hwf)
        refine ⟨⟨?_, ?_, fun _ => ⟨?_, ?_, ?_, ?_, ?_, ?_, ?_⟩⟩, g, p2, p3, by rw [← hs1]; exact zHv_trans (zHv_trans (zHs_v e4) (zHd_v q2)) (zHs_v d6)⟩
        · show zCw w.n _ (w.p.wr 1 (50 + i) (v.dn (19 + b)))
          rw [nw, hn]; exact zCw_s q1 d6
        · refine zCz_v (v := w) (zCz_of hw.2.1 (fun r hr => ?_)) rfl rfl rfl rfl
          rw [d6.2.1, q2.2.1 r (by omega)]
        · rw [d6.2.1, q2.2.1 13 (by omega)]; exact hcfw.1
        · rw [d6.2.1, q2.2.1 14 (by omega)]; exact hcfw.2.1
        · rw [d6.2.1, q2.2.1 15 (by omega)]; exact hcfw.2.2.1
        · rw [d6.2.1, q2.2.1 16 (by omega)]; exact hcfw.2.2.2.1
        · rw [d6.2.1, q2.2.1 17 (by omega)]; exact hcfw.2.2.2.2.1
        · intro j hj
          have hj : j < w.n := hj
          unfold zC1
          rw [d1, d2, d3, d4, q2.1 15 (by omega), q2.1 16 (by omega), q2.1 17 (by omega), q2.1 18 (by omega)]
          show upd (u.2.2.1 15) i 1 j = zKnd (zu w.sb i (b + 1) j) (w.se j) ∧ upd (u.2.2.1 16) i (iN b) j = iN (zu w.sb i (b + 1) j - 1) ∧ upd (u.2.2.1 17) i 0 j = iN (w.se j) ∧ u.2.2.1 18 j = bN (w.mrk j)
          obtain ⟨b1, b2, b3, b4⟩ := e2 j hj
          by_cases hji : j = i
          · rw [hji] at b4 ⊢
            rw [upd_self, upd_self, upd_self, zu_self, f7, hse]
            exact ⟨((zKnd_1 _ _).mpr ⟨by omega, rfl⟩).symm, rfl, rfl, b4⟩
          · rw [upd_ne hji, upd_ne hji, upd_ne hji, zu_ne _ _ hji]
            exact ⟨b1, b2, b3, b4⟩
        · intro q hq
          have hq : q < w.sets := hq
          rw [d5, q2.1 19 (by omega)]
          exact hcfw.2.2.2.2.2.2 q hq

