/-! THE CLASS: names -/
theorem c_tellEntry (K : px_K) (N n sets : Nat) (hK : zKc K n sets) (t : px_W) (s : px_S) (T : ZTs) (h : zCt s T) (hw : ZWa T.wd) (d p : Nat) (x y : Int32) (hd : d < 24) (hk : tI T.wd d 0 = 1) (hp : p < tS T.wd d) : ∃ s', f_T_tellEntry_22 K N (iN d) (iN p) x y s t = some (.inl none, s', t) ∧ zCt s' (xEnt T d p x y) ∧ zHt s s' := by
  apply wp_B
  obtain ⟨b0, b1, b2, b3⟩ := zdir_blk hw hd hk hp
  obtain ⟨e1, e2⟩ := iN_p8 (p := p) (by omega)
  unfold f_T_tellEntry_22 xEnt
  rw [e2, e1, iL1, iN_add]
  refine wp_bi (c_blockOf K N n sets hK t (zCt_x h) hw.pv d (p / 8) hd b1) ?_
  obtain ⟨s1, a1, a2, a3⟩ := c_tell K N n sets hK t s T h (tB T.wd d (p / 8)) (2 * (p % 8)) x b3 (by omega)
  refine wp_bv a1 ?_
  obtain ⟨s2, c1, c2, c3⟩ := c_tell K N n sets hK t s1 _ a2 (tB T.wd d (p / 8)) (2 * (p % 8) + 1) y b3 (by omega)
  exact wp_bv c1 (wp_rB ⟨c2, zHt_trans a3 c3⟩)
theorem c_names_loop (K : px_K) (N n sets : Nat) (hK : zKc K n sets) (t : px_W) {s : px_S} {W : ZSt} (h : zCx s W) (hw : ZWa W) (d : Nat) (hd : d < 24) (hk : tI W d 0 = 1) : ∀ (k p f : Nat), p + k = tS W d → k < f → l_T_namesIn_22_4 K N f (iN d) (iN ((List.range p).filter fun q => !decide (tN W d q = 0)).length) (iN p) s t = some (.inl (18, [iN (zNm W d)], s, t)) := by
  have hpl := c_placesOf K N n sets hK t h hw d hd hk
  obtain ⟨m, m1, m2, _⟩ := hw.dsz hd hk
  intro k
  induction k with
  | zero =>
    intro p f hp hf
    obtain ⟨f, rfl⟩ : ∃ f', f = f' + 1 := ⟨f - 1, by omega⟩
    have hp : p = tS W d := by omega
    subst hp
    obtain ⟨r, e1, e2⟩ : wp (l_T_namesIn_22_4 K N (f + 1) (iN d) (iN ((List.range (tS W d)).filter fun q => !decide (tN W d q = 0)).length) (iN (tS W d)) s t) (fun r => r = .inl (18, [iN (zNm W d)], s, t)) := by
      unfold l_T_namesIn_22_4
      exact wp_bi hpl (wp_if ((iN_le (by omega) (by omega)).mpr (Nat.le_refl _)) (wp_some rfl))
    rw [e1, e2]
  | succ k ih =>
    intro p f hp hf
    obtain ⟨f, rfl⟩ : ∃ f', f = f' + 1 := ⟨f - 1, by omega⟩
    have e3 : iN p + (1 : Int32) = iN (p + 1) := by rw [iL1, iN_add]
    have hnm := c_nameAt K N n sets hK t h hw d p hd hk (by omega)
    have hstep := ih (p + 1) f (by omega) (by omega)
    rw [zCnt_succ] at hstep
    obtain ⟨r, e1, e2⟩ : wp (l_T_namesIn_22_4 K N (f + 1) (iN d) (iN ((List.range p).filter fun q => !decide (tN W d q = 0)).length) (iN p) s t) (fun r => r = .inl (18, [iN (zNm W d)], s, t)) := by
      unfold l_T_namesIn_22_4
      refine wp_bi hpl (wp_ifn (by rw [iN_le (by omega) (by omega)]; omega) (wp_bi hnm ?_))
      by_cases h0 : tN W d p = 0
      · rw [if_neg (c := (!decide (tN W d p = 0)) = true) (by rw [decide_eq_true h0]; decide)] at hstep
        refine wp_if h0 ?_
        rw [e3]
        exact ⟨_, hstep, rfl⟩
      · rw [if_pos (c := (!decide (tN W d p = 0)) = true) (by rw [decide_eq_false h0]; decide)] at hstep
        refine wp_ifn h0 ?_
        rw [e3, iL1, iN_add]
        exact ⟨_, hstep, rfl⟩
    rw [e1, e2]
theorem c_namesIn (K : px_K) (N n sets : Nat) (hN : 2000 ≤ N) (hK : zKc K n sets) (t : px_W) {s : px_S} {W : ZSt} (h : zCx s W) (hw : ZWa W) (d : Nat) (hd : d < 24) (hk : tI W d 0 = 1) : f_T_namesIn_22 K N (iN d) s t = some (.inl (some (.int (iN (zNm W d)))), s, t) := by
  obtain ⟨m, m1, m2, _⟩ := hw.dsz hd hk
  have this : l_T_namesIn_22_4 K N N (iN d) (0 : Int32) (0 : Int32) s t = _ := c_names_loop K N n sets hK t h hw d hd hk (tS W d) 0 N (by omega) (by omega)
  unfold f_T_namesIn_22
  rw [this]; rfl
theorem c_addBlock20 (K : px_K) (N n sets : Nat) (hK : zKc K n sets) (t : px_W) {s : px_S} {W : ZSt} (h : zCx s W) (hv : zPv W) (i : Nat) (hi : i < 24) : f_T_addBlock_22 K N (iN i) (iN 20) s t = some (.inl (some (.int 0)), s, t) := by
  obtain ⟨r, e1, e2⟩ : wp (f_T_addBlock_22 K N (iN i) (iN 20) s t) (fun r => r = (.inl (some (.int 0)), s, t)) := by
    unfold f_T_addBlock_22
    exact wp_ifn (by decide) (wp_bi (c_indirectOf K N n sets hK t h hv i hi) (wp_let (wp_bi (c_usedBlocks K N n sets hK t h) (wp_let (wp_ifn (by decide) (wp_if (by decide) (wp_some rfl)))))))
  rw [e1, e2]
theorem c_placeForNew (K : px_K) (N n sets : Nat) (hN : 2000 ≤ N) (hK : zKc K n sets) (t : px_W) (s : px_S) (T : ZTs) (h : zCt s T) (hw : ZW T.wd) (d : Nat) (hd : d < 24) (hk : tI T.wd d 0 = 1) : wp (f_T_placeForNew_22 K N (iN d) s t) (zA (if zRoom T.wd d = true then iN (zFpl T.wd d) else -1) t (fun s' => zCt s' (if zRoom T.wd d = true then xGrow T d else T) ∧ zHt s s')) := by
  have hx := zCt_x h
  obtain ⟨m, m1, m2, m3, m4⟩ := hw.a.dsz hd hk
  have hpo := c_placeOf K N n sets hN hK t hx hw.a d hd hk 0
  have hk0 : tI T.wd d 0 ≠ 0 := by rw [hk]; decide
  have e8 : (8 : Int32) = iN 8 := rfl
  unfold f_T_placeForNew_22
  refine wp_bi hpo ?_
  cases hz : zPl T.wd d 0 with
  | some p =>
    obtain ⟨p1, p2⟩ := zPl_some hz
    have hfp : zFpl T.wd d = p := by unfold zFpl; rw [hz]; rfl
    have hr : zRoom T.wd d = true := by unfold zRoom; rw [hfp, decide_eq_true p1]; rfl
    have hg : xGrow T d = T := by unfold xGrow; rw [hfp, if_neg (by omega)]
    rw [if_pos hr, if_pos hr, hg, hfp]
    exact wp_ifn (by show ¬ iN p < 0; exact iN_neg (by omega)) (wp_rA ⟨h, zHt_refl s⟩)
  | none =>
    have hfp : zFpl T.wd d = tS T.wd d := by unfold zFpl; rw [hz]; rfl
    refine wp_if (by decide) (wp_bi (c_placesOf K N n sets hK t hx hw.a d hd hk) ?_)
    rw [e8, iN_div (by omega) (by omega) (by omega)]
    have hroom : zRoom T.wd d = (decide (tS T.wd d < 160) && decide (zWn T.wd d (tS T.wd d / 8) ≤ zLeft T.wd)) := by
      unfold zRoom; rw [hfp, decide_eq_false (by omega), Bool.false_or]
    by_cases h20 : tS T.wd d / 8 < 20
    · have ha := c_addBlock K N n sets hN hK t s T h hw d (tS T.wd d / 8) hd h20 hk0 (fun _ => by omega)
      by_cases hl : zWn T.wd d (tS T.wd d / 8) ≤ zLeft T.wd
      · have hr : zRoom T.wd d = true := by rw [hroom, decide_eq_true hl, decide_eq_true (by omega)]; rfl
        have hg : xGrow T d = xI (xFor T d (tS T.wd d / 8)) d 1 (iN (tS T.wd d + 8)) := by unfold xGrow; rw [if_pos hfp]
        rw [if_pos hl, if_pos hl] at ha
        rw [if_pos hr, if_pos hr, hg, hfp]
        obtain ⟨s1, a1, a2, a3⟩ := wp_A ha
        obtain ⟨f1, f2, _⟩ := zfor_ok hw hd h20 hk0 hl (fun _ => by omega)
        have hlow := (zLow_lt f2).1
        refine wp_bi a1 (wp_if (by rw [iL0, iN_eq (by omega) (by omega)]; omega) ?_)
        rw [iN_add]
        obtain ⟨s2, b1, b2, b3⟩ := c_tellInode K N n sets hK t s1 _ a2 d 1 (iN (tS T.wd d + 8)) hd (by omega)
        exact wp_bv b1 (wp_rA ⟨b2, zHt_trans a3 b3⟩)
      · have hr : ¬ zRoom T.wd d = true := by rw [hroom, decide_eq_false hl, Bool.and_false]; exact Bool.noConfusion
        rw [if_neg hl, if_neg hl] at ha
        rw [if_neg hr, if_neg hr]
        obtain ⟨s1, a1, a2, a3⟩ := wp_A ha
        exact wp_bi a1 (wp_ifn (fun hx => hx rfl) (wp_rA ⟨a2, a3⟩))
    · have hr : ¬ zRoom T.wd d = true := by rw [hroom, decide_eq_false (by omega), Bool.false_and]; exact Bool.noConfusion
      rw [if_neg hr, if_neg hr]
      have e20 : tS T.wd d / 8 = 20 := by omega
      rw [e20]
      exact wp_bi (c_addBlock20 K N n sets hK t hx hw.a.pv d hd) (wp_ifn (fun hx => hx rfl) (wp_rA ⟨h, zHt_refl s⟩))
/-! orders of telling -/
theorem zu_comm {α : Type} (f : Nat → α) (a b : Nat) (x y : α) (h : a ≠ b ∨ x = y) : zu (zu f a x) b y = zu (zu f b y) a x := by
  funext j
  unfold zu
  by_cases h1 : j = b
  · by_cases h2 : j = a
    · rw [if_pos h1, if_pos h2]
      rcases h with h | h
      · omega
      · exact h.symm
    · rw [if_pos h1, if_neg h2, if_pos h1]
  · by_cases h2 : j = a
    · rw [if_neg h1, if_pos h2, if_pos h2]
    · rw [if_neg h1, if_neg h2, if_neg h2, if_neg h1]
theorem xT_comm {T : ZTs} {b w b' w' : Nat} {x x' : Int32} (h : b ≠ b' ∨ w ≠ w') : xT (xT T b w x) b' w' x' = xT (xT T b' w' x') b w x := by
  show ZTs.mk T.tv (zt (zt T.wd b w x) b' w' x') T.kp (zu (zu T.ch b true) b' true) T.kt T.sq T.jr = ZTs.mk T.tv (zt (zt T.wd b' w' x') b w x) T.kp (zu (zu T.ch b' true) b true) T.kt T.sq T.jr
  rw [zt_comm2 h, zu_comm _ _ _ _ _ (Or.inr rfl)]
theorem zLow_29 {W U : ZSt} (h : U 29 = W 29) : zLow U = zLow W := by unfold zLow tU; rw [h]
theorem zLeft_29 {W U : ZSt} (h : U 29 = W 29) : zLeft U = zLeft W := by unfold zLeft tU; rw [h]
theorem xTake_comm {T : ZTs} {b w : Nat} {x : Int32} (h1 : 30 ≤ b) (h2 : b < 42) : xTake (xT T b w x) = xT (xTake T) b w x := by
  have e29 : (zt T.wd b w x) 29 = T.wd 29 := zt_blk (by omega)
  have el : zLow (zt T.wd b w x) = zLow T.wd := zLow_29 e29
  show ZTs.mk T.tv (tTake (zt T.wd b w x) (zLow (zt T.wd b w x))) T.kp (zu (zu (zu T.ch b true) 29 true) (42 + zLow (zt T.wd b w x)) true) T.kt T.sq T.jr = ZTs.mk T.tv (zt (tTake T.wd (zLow T.wd)) b w x) T.kp (zu (zu (zu T.ch 29 true) (42 + zLow T.wd) true) b true) T.kt T.sq T.jr
  rw [el, zu_comm (zu T.ch b true) 29 (42 + zLow T.wd) true true (Or.inr rfl), zu_comm T.ch b (42 + zLow T.wd) true true (Or.inr rfl), zu_comm (zu T.ch (42 + zLow T.wd) true) b 29 true true (Or.inr rfl), zu_comm T.ch 29 (42 + zLow T.wd) true true (Or.inr rfl)]
  have ew : tTake (zt T.wd b w x) (zLow T.wd) = zt (tTake T.wd (zLow T.wd)) b w x := by
    funext c v
    by_cases hc : c = 42 + zLow T.wd
    · rw [zt_blk (T := tTake T.wd (zLow T.wd)) (by omega)]
      unfold tTake
      rw [if_pos hc, if_pos hc, zt_blk (by omega)]
    · by_cases hb : c = b
      · rw [tTake_out hc (by omega), hb]
        by_cases hv : v = w
        · rw [hv, zt_self, zt_self]
        · rw [zt_wrd hv, zt_wrd hv, tTake_out (by omega) (by omega)]
      · rw [zt_blk (T := tTake T.wd (zLow T.wd)) hb]
        unfold tTake
        rw [if_neg hc, if_neg hc, e29]
        by_cases h29 : c = 29
        · rw [h29]
          by_cases hv : v = zLow T.wd / 32
          · rw [hv, zt_self, zt_self]
          · rw [zt_wrd hv, zt_wrd hv, e29]
        · rw [zt_blk h29, zt_blk h29, zt_blk hb]
  rw [ew]
theorem tF_kind {W : ZSt} {i d : Nat} {k : Int32} : tF (zt W (30 + i / 2) (8 * (i % 2) + 0) k) d = tF W d := by
  unfold tF; rw [tI_zt (by omega) (by omega), if_neg (by omega)]
theorem xFor1_kind {T : ZTs} {i d q : Nat} {k : Int32} (hi : i < 24) (hd : d < 24) : xFor1 (xI T i 0 k) d q = xI (xFor1 T d q) i 0 k := by
  have e29 : (zt T.wd (30 + i / 2) (8 * (i % 2) + 0) k) 29 = T.wd 29 := zt_blk (by omega)
  have el : zLow (xI T i 0 k).wd = zLow T.wd := zLow_29 e29
  have ef : tF (xI T i 0 k).wd d = tF T.wd d := tF_kind
  unfold xFor1
  rw [ef, el]
  by_cases hc : 4 ≤ q ∧ tF T.wd d = 0
  · rw [if_pos hc, if_pos hc]
    unfold xI
    rw [xTake_comm (by omega) (by omega)]
    exact xT_comm (by omega)
  · rw [if_neg hc, if_neg hc]
theorem xFor2_kind {T : ZTs} {i d q : Nat} {k : Int32} (hi : i < 24) (hd : d < 24) (hf : tF (xTake T).wd d ≠ 30 + i / 2) : xFor2 (xI T i 0 k) d q = xI (xFor2 T d q) i 0 k := by
  have e29 : (zt T.wd (30 + i / 2) (8 * (i % 2) + 0) k) 29 = T.wd 29 := zt_blk (by omega)
  have el : zLow (xI T i 0 k).wd = zLow T.wd := zLow_29 e29
  have et : xTake (xI T i 0 k) = xI (xTake T) i 0 k := xTake_comm (by omega) (by omega)
  have ef : tF (xI (xTake T) i 0 k).wd d = tF (xTake T).wd d := tF_kind
  unfold xFor2
  rw [el, et, ef]
  by_cases h4 : q < 4
  · rw [if_pos h4, if_pos h4]; unfold xI; exact xT_comm (by omega)
  · rw [if_neg h4, if_neg h4]; unfold xI; exact xT_comm (Or.inl hf.symm)
/-- a directory grows, then a kind is told: the other order is the same -/
theorem xGrow_kind {T : ZTs} (hw : ZW T.wd) {i d : Nat} {k : Int32} (hi : i < 24) (hd : d < 24) (h0 : tI T.wd i 0 = 0) (hkd : tI T.wd d 0 = 1) (hk : k = 1 ∨ k = 2) (hr : zRoom T.wd d = true) : xGrow (xI T i 0 k) d = xI (xGrow T d) i 0 k := by
  obtain ⟨c1, c2, c3, c4, _⟩ := zkind_keep hw (i := i) (d := d) (k := k) hi hd h0 hkd hk
  obtain ⟨m, m1, m2, _, _⟩ := hw.a.dsz hd hkd
  have c2 : tS (xI T i 0 k).wd d = tS T.wd d := c2
  have c3 : zFpl (xI T i 0 k).wd d = zFpl T.wd d := c3
  unfold xGrow
  rw [c2, c3]
  by_cases hf : zFpl T.wd d = tS T.wd d
  · rw [if_pos hf, if_pos hf]
    have hroom : tS T.wd d / 8 < 20 ∧ zWn T.wd d (tS T.wd d / 8) ≤ zLeft T.wd := by
      unfold zRoom at hr
      rw [decide_eq_false (by omega), Bool.false_or, Bool.and_eq_true, decide_eq_true_eq, decide_eq_true_eq, hf] at hr
      exact ⟨by omega, hr.2⟩
    obtain ⟨f1, f2, _⟩ := zfor_ok hw hd hroom.1 (by rw [hkd]; decide) hroom.2 (fun _ => by omega)
    obtain ⟨l1, l2⟩ := zLow_lt f2
    have htk := f1.take l2
    have hF : tF (xTake (xFor1 T d (tS T.wd d / 8))).wd d = tF (xFor1 T d (tS T.wd d / 8)).wd d := by
      show n32 (tI (tTake _ _) d 6) = n32 (tI _ d 6); rw [htk.2.1 d 6 hd]
    have hr20 := (f1.a.pv d 20 hd (by omega)).2
    rw [← tF_eq] at hr20
    unfold xFor
    rw [xFor1_kind hi hd, xFor2_kind hi hd (by rw [hF]; omega)]
    unfold xI
    exact xT_comm (by omega)
  · rw [if_neg hf, if_neg hf]
/-! MAKE, FIND (the class) -/
theorem c_create (K : px_K) (N n sets : Nat) (hN : 2000 ≤ N) (hK : zKc K n sets) (t : px_W) (s : px_S) (T : ZTs) (h : zCt s T) (hw : ZW T.wd) (d x k : Int32) (hkk : k = 1 ∨ k = 2) : wp (f_T_create_22 K N d x k s t) (zA (xMake T d x k).1 t (fun s' => zCt s' (xMake T d x k).2 ∧ zHt s s')) := by
  have hx := zCt_x h
  have same : ∀ (a : Int32) (F : Option px_Res), wp F (zA a t (fun s' => zCt s' T ∧ zHt s s')) → xMake T d x k = (a, T) → wp F (zA (xMake T d x k).1 t (fun s' => zCt s' (xMake T d x k).2 ∧ zHt s s')) := by
    intro a F hF he; rw [he]; exact hF
  have hT : zCt s T ∧ zHt s s := ⟨h, zHt_refl s⟩
  unfold f_T_create_22
  refine wp_bi (c_isDir K N n sets hK t hx d) ?_
  cases hkb : zKb T.wd d 1 with
  | false => exact same (-4) _ (wp_if rfl (wp_rA hT)) (if_neg (fun hx => by rw [hkb] at hx; cases hx.1))
  | true =>
    obtain ⟨k1, k2, k3⟩ := zKd_of hkb
    obtain ⟨m, m1, m2, _, _⟩ := hw.a.dsz k2 k3
    refine wp_ifn (by decide) ?_
    by_cases hx1 : 1 ≤ x
    · refine wp_if hx1 ?_
      have hxm : xMake T d x k = (match zPl T.wd (n32 d) x with
        | some _ => (-2, T)
        | none => match zFi T.wd with
          | none => (-3, T)
          | some i => if zRoom T.wd (n32 d) = true then (iN i, xEnter (xI T i 0 k) (n32 d) x (iN i)) else (-3, T)) := if_pos ⟨hkb, hx1⟩
      have hpo := c_placeOf K N n sets hN hK t hx hw.a (n32 d) k2 k3 x
      rw [← k1] at hpo
      refine wp_bi hpo ?_
      cases hz : zPl T.wd (n32 d) x with
      | some p =>
        rw [hz] at hxm
        obtain ⟨p1, _⟩ := zPl_some hz
        exact same (-2) _ (wp_ifn (by show ¬ iN p < 0; exact iN_neg (by omega)) (wp_rA hT)) hxm
      | none =>
        rw [hz] at hxm
        dsimp only at hxm
        refine wp_if (by decide) (wp_bi (c_freeInode K N n sets hN hK t hx) ?_)
        cases hfi : zFi T.wd with
        | none =>
          rw [hfi] at hxm
          exact same (-3) _ (wp_ifn (by decide) (wp_ifn (by decide) (wp_rA hT))) hxm
        | some i =>
          rw [hfi] at hxm
          dsimp only at hxm
          obtain ⟨i1, i2, i3⟩ := zFi_some hfi
          refine wp_if (by show 0 ≤ iN i; rw [iL0, iN_le (by omega) (by omega)]; omega) ?_
          obtain ⟨s1, a1, a2, a3⟩ := wp_A (c_placeForNew K N n sets hN hK t s T h hw (n32 d) k2 k3)
          rw [← k1] at a1
          refine wp_bi a1 ?_
          cases hrm : zRoom T.wd (n32 d) with
          | false =>
            rw [if_neg (by rw [hrm]; exact Bool.noConfusion)] at hxm
            rw [hrm, if_neg (c := false = true) Bool.noConfusion] at a2
            rw [if_neg (c := false = true) Bool.noConfusion]
            exact same (-3) _ (wp_ifn (by decide) (wp_rA ⟨a2, a3⟩)) hxm
          | true =>
            rw [if_pos hrm] at hxm
            rw [hrm, if_pos (c := true = true) rfl] at a2
            rw [if_pos (c := true = true) rfl, hxm]
            have hle := zFpl_le (W := T.wd) (d := n32 d)
            have hgr := zgrow_ok hw k2 k3 hrm
            obtain ⟨g1, g2, g3, _⟩ := hgr
            have i2' : tI (xGrow T (n32 d)).wd i 0 = 0 := by rw [g2 i i1]; exact i2
            have k3' : tI (xGrow T (n32 d)).wd (n32 d) 0 = 1 := by rw [g2 _ k2]; exact k3
            obtain ⟨c1, c2, c3, c4, c5, _⟩ := zkind_keep g1 (i := i) (d := n32 d) (k := k) i1 k2 i2' k3' hkk
            refine wp_if (by show 0 ≤ iN (zFpl T.wd (n32 d)); rw [iL0, iN_le (by omega) (by omega)]; omega) ?_
            obtain ⟨s2, b1, b2, b3⟩ := c_tellInode K N n sets hK t s1 _ a2 i 0 k i1 (by omega)
            refine wp_bv b1 ?_
            obtain ⟨s3, d1, d2, d3⟩ := c_tellEntry K N n sets hK t s2 _ b2 c1.a (n32 d) (zFpl T.wd (n32 d)) x (iN i) k2 c5 (Nat.lt_of_lt_of_eq g3 c2.symm)
            rw [← k1] at d1
            refine wp_bv d1 (wp_rA ⟨?_, zHt_trans a3 (zHt_trans b3 d3)⟩)
            have c3' : zFpl (xI T i 0 k).wd (n32 d) = zFpl T.wd (n32 d) := (zkind_keep hw (i := i) (d := n32 d) (k := k) i1 k2 i2 k3 hkk).2.2.1
            show zCt s3 (xEnter (xI T i 0 k) (n32 d) x (iN i))
            unfold xEnter
            rw [c3', xGrow_kind hw i1 k2 i2 k3 hkk hrm]
            exact d2
    · exact same (-4) _ (wp_ifn hx1 (wp_rA hT)) (if_neg (fun hx => hx1 hx.2))
