/-! WHAT THE CLASS TELLS -/
theorem c_lookUp (K : px_K) (N n sets : Nat) (hN : 2000 ≤ N) (hK : zKc K n sets) (t : px_W) {s : px_S} {W : ZSt} (h : zCx s W) (hw : ZW W) (d x : Int32) : f_T_lookUp_22 K N d x s t = some (.inl (some (.int (qFind W d x))), s, t) := by
  obtain ⟨r, e1, e2⟩ : wp (f_T_lookUp_22 K N d x s t) (fun r => r = (.inl (some (.int (qFind W d x))), s, t)) := by
    unfold f_T_lookUp_22
    refine wp_bi (c_isDir K N n sets hK t h d) ?_
    cases hkb : zKb W d 1 with
    | false =>
      rw [show qFind W d x = -4 from if_neg (by rw [hkb]; exact Bool.noConfusion)]
      exact wp_ifn (fun hx => hx rfl) (wp_some rfl)
    | true =>
      obtain ⟨k1, k2, k3⟩ := zKd_of hkb
      have hq : qFind W d x = (match (if 1 ≤ x then zPl W (n32 d) x else none) with
        | some p => tE W (n32 d) p
        | none => -1) := if_pos hkb
      obtain ⟨m, m1, m2, _, _⟩ := hw.a.dsz k2 k3
      refine wp_if (by decide) ?_
      by_cases hx1 : 1 ≤ x
      · rw [if_pos hx1] at hq
        have hpl := c_placeOf K N n sets hN hK t h hw.a (n32 d) k2 k3 x
        rw [← k1] at hpl
        refine wp_if hx1 (wp_bi hpl ?_)
        cases hz : zPl W (n32 d) x with
        | none =>
          rw [hz] at hq
          rw [hq]
          exact wp_ifn (by decide) (wp_some rfl)
        | some p =>
          rw [hz] at hq
          rw [hq]
          obtain ⟨p1, _⟩ := zPl_some hz
          have hia := c_inodeAt K N n sets hK t h hw.a (n32 d) p k2 k3 p1
          rw [← k1] at hia
          exact wp_if (by show 0 ≤ iN p; rw [iL0, iN_le (by omega) (by omega)]; omega) (wp_bi hia (wp_some rfl))
      · rw [if_neg hx1] at hq
        rw [hq]
        exact wp_ifn hx1 (wp_ifn (by decide) (wp_some rfl))
  rw [e1, e2]
theorem c_findCall (K : px_K) (N n sets : Nat) (hN : 2000 ≤ N) (hK : zKc K n sets) (t : px_W) (s : px_S) (T : ZTs) (h : zCt s T) (h0 : s.1 0 = 1) (hw : ZW T.wd) (d x : Int32) : f_E_find_1 K N d x s t = some (.inl (some (.int (qFind T.wd d x))), s, t) := by
  obtain ⟨r, e1, e2⟩ : wp (f_E_find_1 K N d x s t) (fun r => r = (.inl (some (.int (qFind T.wd d x))), s, t)) := by
    unfold f_E_find_1
    exact wp_if (by rw [h0]; decide) (wp_bi (c_lookUp K N n sets hN hK t (zCt_x h) hw d x) (wp_some rfl))
  rw [e1, e2]
theorem c_bo_loop (K : px_K) (N n sets : Nat) (hK : zKc K n sets) (t : px_W) {s : px_S} {W : ZSt} (h : zCx s W) (hv : zPv W) (i : Nat) (hi : i < 24) (c : Nat) (hc : c ≤ 1) : ∀ (d k f : Nat), k + d = 20 → d < f → l_T_blocksOf_22_10 K N f (iN i) (iN (c + ((List.range k).filter fun q => !decide (tB W i q = 0)).length)) (iN k) s t = some (.inl (21, [iN (c + ((List.range 20).filter fun q => !decide (tB W i q = 0)).length)], s, t)) := by
  intro d
  induction d with
  | zero =>
    intro k f hk hf
    obtain ⟨f, rfl⟩ : ∃ f', f = f' + 1 := ⟨f - 1, by omega⟩
    have hk : k = 20 := by omega
    subst hk
    unfold l_T_blocksOf_22_10
    rw [if_pos (by decide)]
  | succ d ih =>
    intro k f hk hf
    obtain ⟨f, rfl⟩ : ∃ f', f = f' + 1 := ⟨f - 1, by omega⟩
    have e3 : iN k + (1 : Int32) = iN (k + 1) := by rw [iL1, iN_add]
    have hstep := ih (k + 1) f (by omega) (by omega)
    rw [zCnt_succ] at hstep
    have hb := (hv i k hi (by omega)).2
    have h20 : ¬ (20 : Int32) ≤ iN k := by show ¬ iN 20 ≤ iN k; rw [iN_le (by omega) (by omega)]; omega
    obtain ⟨r, e1, e2⟩ : wp (l_T_blocksOf_22_10 K N (f + 1) (iN i) (iN (c + ((List.range k).filter fun q => !decide (tB W i q = 0)).length)) (iN k) s t) (fun r => r = .inl (21, [iN (c + ((List.range 20).filter fun q => !decide (tB W i q = 0)).length)], s, t)) := by
      unfold l_T_blocksOf_22_10
      rw [e3]
      refine wp_ifn h20 (wp_bi (c_blockOf K N n sets hK t h hv i k hi (by omega)) ?_)
      by_cases hz : tB W i k = 0
      · rw [if_neg (c := (!decide (tB W i k = 0)) = true) (by rw [decide_eq_true hz]; decide)] at hstep
        exact wp_if (by rw [hz]; rfl) ⟨_, hstep, rfl⟩
      · rw [if_pos (c := (!decide (tB W i k = 0)) = true) (by rw [decide_eq_false hz]; decide)] at hstep
        refine wp_ifn (by rw [iL0, iN_eq (by omega) (by omega)]; exact hz) ?_
        rw [iL1, iN_add]
        exact ⟨_, hstep, rfl⟩
    rw [e1, e2]
theorem c_blocksOf (K : px_K) (N n sets : Nat) (hN : 2000 ≤ N) (hK : zKc K n sets) (t : px_W) {s : px_S} {W : ZSt} (h : zCx s W) (hv : zPv W) (i : Nat) (hi : i < 24) : f_T_blocksOf_22 K N (iN i) s t = some (.inl (some (.int (iN (zBc W i)))), s, t) := by
  have hr := (hv i 20 hi (by omega)).2
  rw [← tF_eq] at hr
  obtain ⟨r, e1, e2⟩ : wp (f_T_blocksOf_22 K N (iN i) s t) (fun r => r = (.inl (some (.int (iN (zBc W i)))), s, t)) := by
    unfold f_T_blocksOf_22
    refine wp_bi (c_indirectOf K N n sets hK t h hv i hi) (wp_let ?_)
    by_cases hz : tF W i = 0
    · have hl := c_bo_loop K N n sets hK t h hv i hi 0 (by omega) 20 0 N (by omega) (by omega)
      rw [if_neg (c := ¬ iN (tF W i) = 0) (fun hx => hx (by rw [hz]; rfl))]
      refine wp_lp (show l_T_blocksOf_22_10 K N N (iN i) (0 : Int32) (0 : Int32) s t = _ from hl) (wp_if rfl (wp_v1 (wp_some ?_)))
      unfold zBc; rw [if_pos hz]
    · have hl := c_bo_loop K N n sets hK t h hv i hi 1 (by omega) 20 0 N (by omega) (by omega)
      rw [if_pos (c := ¬ iN (tF W i) = 0) (by rw [iL0, iN_eq (by omega) (by omega)]; exact hz)]
      refine wp_lp (show l_T_blocksOf_22_10 K N N (iN i) (1 : Int32) (0 : Int32) s t = _ from hl) (wp_if rfl (wp_v1 (wp_some ?_)))
      unfold zBc; rw [if_neg hz]
  rw [e1, e2]
theorem c_inodeCall (K : px_K) (N n sets : Nat) (hN : 2000 ≤ N) (hK : zKc K n sets) (t : px_W) (s : px_S) (T : ZTs) (h : zCt s T) (h0 : s.1 0 = 1) (hw : ZW T.wd) (i w : Int32) : f_E_inode_1 K N i w s t = some (.inl (some (.int (qInode T.wd i w))), s, t) := by
  have hx := zCt_x h
  have e0 : ¬ s.1 0 = 0 := by rw [h0]; decide
  obtain ⟨r, e1, e2⟩ : wp (f_E_inode_1 K N i w s t) (fun r => r = (.inl (some (.int (qInode T.wd i w))), s, t)) := by
    unfold f_E_inode_1
    refine wp_ifn e0 ?_
    by_cases c1 : i < 0
    · rw [show qInode T.wd i w = -1 from if_neg (fun hx => absurd hx.1 (Int32.not_le.mpr c1))]
      exact wp_if c1 (wp_some rfl)
    refine wp_ifn c1 ?_
    by_cases c2 : i < 24
    · refine wp_if c2 ?_
      obtain ⟨i1, i2⟩ := i32_24 (Int32.not_lt.mp c1) c2
      obtain ⟨j, hj⟩ : ∃ j, j = n32 i := ⟨_, rfl⟩
      rw [← hj] at i1 i2
      have key : ∀ (k : Nat), k < 4 → w.toInt = (k : Int) → w = iN k := fun k hk he => i32_of (by omega) he
      have inq : ∀ (k : Nat), k < 4 → w = iN k → qInode T.wd i w = (if w = 0 then tI T.wd j 0 else if w = 1 then tI T.wd j 1 else if w = 2 then (if tI T.wd j 0 = 1 then iN (zNm T.wd j) else 0) else iN (zBc T.wd j)) := by
        intro k hk he
        rw [hj]
        refine if_pos ⟨Int32.not_lt.mp c1, c2, ?_, ?_⟩
        · rw [he, iL0, iN_le (by omega) (by omega)]; omega
        · rw [he]; show iN k ≤ iN 3; rw [iN_le (by omega) (by omega)]; omega
      by_cases w0 : w.toInt = 0
      · have ew := key 0 (by omega) w0
        rw [inq 0 (by omega) ew, ew, i1, if_pos (c := iN 0 = 0) rfl]
        exact wp_if (by decide) (wp_bi (show f_T_inodeWord_22 K N (iN j) (0 : Int32) s t = _ from c_inodeWord K N n sets hK t hx j 0 i2 (by omega)) (wp_some rfl))
      by_cases w1 : w.toInt = 1
      · have ew := key 1 (by omega) w1
        rw [inq 1 (by omega) ew, ew, i1, if_neg (c := iN 1 = 0) (by decide), if_pos (c := iN 1 = 1) rfl]
        exact wp_ifn (by decide) (wp_if (by decide) (wp_bi (show f_T_inodeWord_22 K N (iN j) (1 : Int32) s t = _ from c_inodeWord K N n sets hK t hx j 1 i2 (by omega)) (wp_some rfl)))
      by_cases w2 : w.toInt = 2
      · have ew := key 2 (by omega) w2
        rw [inq 2 (by omega) ew, ew, i1, if_neg (c := iN 2 = 0) (by decide), if_neg (c := iN 2 = 1) (by decide), if_pos (c := iN 2 = 2) rfl]
        refine wp_ifn (by decide) (wp_ifn (by decide) (wp_if (by decide) (wp_bi (c_isDir K N n sets hK t hx (iN j)) ?_)))
        have hn32 : n32 (iN j) = j := n32_iN (by omega)
        cases hkb : zKb T.wd (iN j) 1 with
        | false =>
          have hno : ¬ tI T.wd j 0 = 1 := fun hy => zKb_no hkb ⟨by rw [iL0, iN_le (by omega) (by omega)]; omega, by show iN j < iN 24; rw [iN_lt (by omega) (by omega)]; exact i2, by rw [hn32]; exact hy⟩
          rw [if_neg hno]
          exact wp_if rfl (wp_some rfl)
        | true =>
          obtain ⟨_, _, q3⟩ := zKd_of hkb
          rw [hn32] at q3
          rw [if_pos q3]
          exact wp_ifn (by decide) (wp_bi (c_namesIn K N n sets hN hK t hx hw.a j i2 q3) (wp_some rfl))
      by_cases w3 : w.toInt = 3
      · have ew := key 3 (by omega) w3
        rw [inq 3 (by omega) ew, ew, i1, if_neg (c := iN 3 = 0) (by decide), if_neg (c := iN 3 = 1) (by decide), if_neg (c := iN 3 = 2) (by decide)]
        exact wp_ifn (by decide) (wp_ifn (by decide) (wp_ifn (by decide) (wp_if (by decide) (wp_bi (c_blocksOf K N n sets hN hK t hx hw.a.pv j i2) (wp_some rfl)))))
      · have hno : qInode T.wd i w = -1 := by
          refine if_neg (fun hy => ?_)
          rcases i32_4 hy.2.2.1 hy.2.2.2 with h | h | h | h
          · exact w0 (by rw [h]; decide)
          · exact w1 (by rw [h]; decide)
          · exact w2 (by rw [h]; decide)
          · exact w3 (by rw [h]; decide)
        rw [hno]
        exact wp_ifn w0 (wp_ifn w1 (wp_ifn w2 (wp_ifn w3 (wp_some rfl))))
    · rw [show qInode T.wd i w = -1 from if_neg (fun hx => c2 hx.2.1)]
      exact wp_ifn c2 (wp_some rfl)
  rw [e1, e2]
theorem c_entryCall (K : px_K) (N n sets : Nat) (hK : zKc K n sets) (t : px_W) (s : px_S) (T : ZTs) (h : zCt s T) (h0 : s.1 0 = 1) (hw : ZW T.wd) (d p w : Int32) : f_E_entry_1 K N d p w s t = some (.inl (some (.int (qEntry T.wd d p w))), s, t) := by
  have hx := zCt_x h
  have e0 : ¬ s.1 0 = 0 := by rw [h0]; decide
  obtain ⟨r, e1, e2⟩ : wp (f_E_entry_1 K N d p w s t) (fun r => r = (.inl (some (.int (qEntry T.wd d p w))), s, t)) := by
    unfold f_E_entry_1
    refine wp_ifn e0 (wp_bi (c_isDir K N n sets hK t hx d) ?_)
    cases hkb : zKb T.wd d 1 with
    | false =>
      rw [show qEntry T.wd d p w = -1 from if_neg (fun hx => by rw [hkb] at hx; cases hx.1)]
      exact wp_if rfl (wp_some rfl)
    | true =>
      obtain ⟨k1, k2, k3⟩ := zKd_of hkb
      obtain ⟨m, m1, m2, m3, _⟩ := hw.a.dsz k2 k3
      refine wp_ifn (by decide) ?_
      by_cases c1 : w < 0
      · rw [show qEntry T.wd d p w = -1 from if_neg (fun hx => absurd hx.2.2.2.1 (Int32.not_le.mpr c1))]
        exact wp_if c1 (wp_some rfl)
      refine wp_ifn c1 ?_
      by_cases c2 : w ≤ 1
      · refine wp_if c2 ?_
        by_cases c3 : p < 0
        · rw [show qEntry T.wd d p w = -1 from if_neg (fun hx => absurd hx.2.1 (Int32.not_le.mpr c3))]
          exact wp_if c3 (wp_some rfl)
        refine wp_ifn c3 ?_
        have hsz : f_T_inodeWord_22 K N (iN (n32 d)) (1 : Int32) s t = _ := c_inodeWord K N n sets hK t hx (n32 d) 1 k2 (by omega)
        rw [m3, ← m2, ← k1] at hsz
        refine wp_bi hsz ?_
        by_cases c4 : p < iN (tS T.wd (n32 d))
        · refine wp_if c4 ?_
          obtain ⟨p1, p2⟩ := i32_lt (by omega) (Int32.not_lt.mp c3) c4
          have hq : qEntry T.wd d p w = (if w = 0 then tN T.wd (n32 d) (n32 p) else tE T.wd (n32 d) (n32 p)) := if_pos ⟨hkb, Int32.not_lt.mp c3, c4, Int32.not_lt.mp c1, c2⟩
          have hw01 : w = 0 ∨ w = 1 := by
            obtain ⟨q1, q2⟩ := i32_lt (x := w) (m := 2) (by omega) (Int32.not_lt.mp c1) (Int32.lt_of_le_of_lt c2 (by decide))
            rw [q1]
            have : n32 w = 0 ∨ n32 w = 1 := by omega
            rcases this with h | h
            · rw [h]; exact Or.inl rfl
            · rw [h]; exact Or.inr rfl
          rcases hw01 with hw0 | hw1
          · have hnm := c_nameAt K N n sets hK t hx hw.a (n32 d) (n32 p) k2 k3 p2
            rw [← k1, ← p1, ← hw0] at hnm
            rw [hq, if_pos hw0]
            exact wp_bi hnm (wp_some rfl)
          · have hia := c_inodeAt K N n sets hK t hx hw.a (n32 d) (n32 p) k2 k3 p2
            rw [← k1, ← p1, ← hw1] at hia
            rw [hq, if_neg (by rw [hw1]; decide)]
            exact wp_bi hia (wp_some rfl)
        · rw [show qEntry T.wd d p w = -1 from if_neg (fun hx => c4 hx.2.2.1)]
          exact wp_ifn c4 (wp_some rfl)
      · rw [show qEntry T.wd d p w = -1 from if_neg (fun hx => c2 hx.2.2.2.2)]
        exact wp_ifn c2 (wp_some rfl)
  rw [e1, e2]
theorem c_slotCall (K : px_K) (N n sets : Nat) (hK : zKc K n sets) (t : px_W) (s : px_S) (v : ZVs) (hn : v.n = n) (hsets : v.sets = sets) (h : zCv s v) (h0 : s.1 0 = 1) (sz : ZSz v.sets v.ways v.eps) (hhd : v.wf = true → ∀ set, v.hd set < v.ways) (i w : Int32) : f_E_slot_1 K N i w s t = some (.inl (some (.int (qSlot v i w))), s, t) := by
  have k15 : K.2.2 15 = n := hK.2.2.2.2.2.2.2.2.1
  have k16 : K.2.2 16 = n := hK.2.2.2.2.2.2.2.2.2.1
  have k17 : K.2.2 17 = n := hK.2.2.2.2.2.2.2.2.2.2.1
  have k18 : K.2.2 18 = n := hK.2.2.2.2.2.2.2.2.2.2.2.1
  have k19 : K.2.2 19 = sets := hK.2.2.2.2.2.2.2.2.2.2.2.2.1
  have hn64 : v.n ≤ 64 := sz.n64
  have w1' := sz.w1
  have w8' := sz.w8
  have s8' := sz.s8
  have e0 : ¬ s.1 0 = 0 := by rw [h0]; decide
  have h12 : s.1 12 = bN v.wf := h.2.1.2.1
  have h20 : s.1 20 = iN v.n := h.2.1.2.2.2.2
  have h19 : s.1 19 = iN v.ways := h.2.1.2.2.2.1
  obtain ⟨r, e1, e2⟩ : wp (f_E_slot_1 K N i w s t) (fun r => r = (.inl (some (.int (qSlot v i w))), s, t)) := by
    unfold f_E_slot_1
    refine wp_ifn e0 ?_
    rw [h12]
    cases hw : v.wf with
    | false =>
      rw [show qSlot v i w = -1 from if_neg (fun hx => by rw [hw] at hx; cases hx.1)]
      exact wp_ifn (fun hx => hx rfl) (wp_some rfl)
    | true =>
      refine wp_if (by decide) ?_
      have tell : wp (f_S_tellOf_14 K N i w s t) (fun r => r = (.inl (some (.int (qSlot v i w))), s, t)) := by
        unfold f_S_tellOf_14
        by_cases c1 : i < 0
        · rw [show qSlot v i w = -1 from if_neg (fun hx => absurd hx.2.1 (Int32.not_le.mpr c1))]
          exact wp_if c1 (wp_some rfl)
        refine wp_ifn c1 ?_
        rw [h20]
        by_cases c2 : i < iN v.n
        · obtain ⟨i1, i2⟩ := i32_lt (by omega) (Int32.not_lt.mp c1) c2
          have hq : qSlot v i w = (if w.toInt = 0 then (if v.sb (n32 i) = 0 then 0 else if v.se (n32 i) = 0 then 1 else 2) else if w.toInt = 1 then iN (v.sb (n32 i)) - 1 else if w.toInt = 2 then iN (v.se (n32 i)) else if w.toInt = 3 then bN (v.mrk (n32 i)) else if w.toInt = 4 then (if v.hd (n32 i / v.ways) = n32 i % v.ways then 1 else 0) else -1) := if_pos ⟨hw, Int32.not_lt.mp c1, c2⟩
          refine wp_if c2 ?_
          obtain ⟨j, hj⟩ : ∃ j, j = n32 i := ⟨_, rfl⟩
          rw [← hj] at i1 i2 hq
          obtain ⟨_, _, _, _, _, hck, hcy⟩ := h.2.2 hw
          obtain ⟨q1, q2, q3, q4⟩ := hck j i2
          have i2n : j < n := Nat.lt_of_lt_of_eq i2 hn
          rw [i1, iN_nat (by omega)]
          have hin : ∀ c, K.2.2 c = n → vp_in (iN j) (K.2.2 c) := fun c hc => by rw [hc]; exact iN_in (by omega) i2n
          by_cases w0 : w.toInt = 0
          · rw [if_pos w0] at hq
            rw [← i1, hq, q1]
            exact wp_if w0 (wp_gd (by rw [i1]; exact hin 15 k15) (wp_some rfl))
          rw [if_neg w0] at hq
          refine wp_ifn w0 ?_
          by_cases w1 : w.toInt = 1
          · rw [if_pos w1] at hq
            rw [← i1, hq, q1, q2]
            refine wp_if w1 (wp_gd (by rw [i1]; exact hin 15 k15) ?_)
            by_cases s0 : v.sb j = 0
            · rw [s0]
              exact wp_ifn (fun hx => hx ((zKnd_0 _ _).mpr rfl)) (wp_some rfl)
            · refine wp_if (fun hx => s0 ((zKnd_0 _ _).mp hx)) (wp_gd (by rw [i1]; exact hin 16 k16) (wp_some ?_))
              rw [iN_pred (by omega)]
          rw [if_neg w1] at hq
          refine wp_ifn w1 ?_
          by_cases w2 : w.toInt = 2
          · rw [if_pos w2] at hq
            rw [← i1, hq, q3]
            exact wp_if w2 (wp_gd (by rw [i1]; exact hin 17 k17) (wp_some rfl))
          rw [if_neg w2] at hq
          refine wp_ifn w2 ?_
          by_cases w3 : w.toInt = 3
          · rw [if_pos w3] at hq
            rw [← i1, hq, q4]
            exact wp_if w3 (wp_gd (by rw [i1]; exact hin 18 k18) (wp_some rfl))
          rw [if_neg w3] at hq
          refine wp_ifn w3 ?_
          by_cases w4 : w.toInt = 4
          · rw [if_pos w4] at hq
            have hdiv : j / v.ways < v.sets := Nat.div_lt_of_lt_mul (by rw [Nat.mul_comm]; exact i2)
            have hcyj := hcy (j / v.ways) hdiv
            rw [← i1, hq, h19, i1, iN_rem (by omega) (by omega) (by omega), iN_div (by omega) (by omega) (by omega), iN_nat (by omega), hcyj]
            have hrem : j % v.ways < v.ways := Nat.mod_lt _ (by omega)
            have hne : ¬ iN v.ways = 0 := by rw [iL0, iN_eq (by omega) (by omega)]; omega
            refine wp_if w4 (wp_gd ⟨hne, by rw [k19]; exact iN_in (by omega) (by rw [← hsets]; exact hdiv), hne⟩ (wp_some ?_))
            by_cases hh : v.hd (j / v.ways) = j % v.ways
            · rw [if_pos hh, if_neg (fun hx => hx (by rw [hh]))]
            · rw [if_neg hh, if_pos (fun hx => hh (iN_inj (by have := hhd hw (j / v.ways); omega) (by omega) hx))]
          rw [if_neg w4] at hq
          rw [← i1, hq]
          exact wp_ifn w4 (wp_some rfl)
        · rw [show qSlot v i w = -1 from if_neg (fun hx => c2 hx.2.2)]
          exact wp_ifn c2 (wp_some rfl)
      obtain ⟨r, e1, e2⟩ := tell
      rw [e2] at e1
      exact wp_bi e1 (wp_some rfl)
  rw [e1, e2]
