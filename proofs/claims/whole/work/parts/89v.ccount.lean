/-! WORD, COUNT, READ (the class) -/
theorem c_has3 (K : px_K) (N : Nat) (t : px_W) (s : px_S) (nb : Nat) (hb : s.1 1 = iN nb) (b : Int32) : f_D_has_3 K N b s t = some (.inl (some (.int (if 0 ≤ b ∧ b < iN nb then 1 else 0))), s, t) := by
  have e : (if b < 0 then (0 : Int32) else (if iN nb ≤ b then (0 : Int32) else (1 : Int32))) = (if 0 ≤ b ∧ b < iN nb then 1 else 0) := by
    by_cases c1 : b < 0
    · rw [if_pos c1, if_neg (fun hx => absurd hx.1 (Int32.not_le.mpr c1))]
    · rw [if_neg c1]
      by_cases c2 : iN nb ≤ b
      · rw [if_pos c2, if_neg (fun hx => absurd hx.2 (Int32.not_lt.mpr c2))]
      · rw [if_neg c2, if_pos ⟨Int32.not_lt.mp c1, Int32.not_le.mp c2⟩]
  unfold f_D_has_3
  rw [hb, e, px_gd_of (by split <;> simp)]
theorem c_has8 (K : px_K) (N : Nat) (t : px_W) (s : px_S) (nb : Nat) (hb : s.1 6 = iN nb) (b : Int32) : f_D_has_8 K N b s t = some (.inl (some (.int (if 0 ≤ b ∧ b < iN nb then 1 else 0))), s, t) := by
  have e : (if b < 0 then (0 : Int32) else (if iN nb ≤ b then (0 : Int32) else (1 : Int32))) = (if 0 ≤ b ∧ b < iN nb then 1 else 0) := by
    by_cases c1 : b < 0
    · rw [if_pos c1, if_neg (fun hx => absurd hx.1 (Int32.not_le.mpr c1))]
    · rw [if_neg c1]
      by_cases c2 : iN nb ≤ b
      · rw [if_pos c2, if_neg (fun hx => absurd hx.2 (Int32.not_lt.mpr c2))]
      · rw [if_neg c2, if_pos ⟨Int32.not_lt.mp c1, Int32.not_le.mp c2⟩]
  unfold f_D_has_8
  rw [hb, e, px_gd_of (by split <;> simp)]
theorem c_wordCall (K : px_K) (N n sets : Nat) (hK : zKc K n sets) (t : px_W) (s : px_S) (v : ZVs) (hn : v.n = n) (h : zCw n s v.p) (d b w : Int32) (st : Bool) : f_E_word_1 K N d b w (bN st) s t = some (.inl (some (.int (qWord v d b w st))), s, t) := by
  have k6 : K.2.2 6 = 2000 := hK.2.2.1
  have k7 : K.2.2 7 = 2000 := hK.2.2.2.1
  have k11 : K.2.2 11 = 16 * (50 + n) := hK.2.2.2.2.2.2.1
  have k12 : K.2.2 12 = 16 * (50 + n) := hK.2.2.2.2.2.2.2.1
  have hn64 : n ≤ 64 := hK.2.2.2.2.2.2.2.2.2.2.2.2.2.2.2.2.2.2.2.2
  obtain ⟨x1, x2, x3, x4, x5, x6, x7, x8⟩ := h.1
  obtain ⟨y1, y2, y3, y4, y5, y6, y7, y8⟩ := h.2.1
  obtain ⟨r, e1, e2⟩ : wp (f_E_word_1 K N d b w (bN st) s t) (fun r => r = (.inl (some (.int (qWord v d b w st))), s, t)) := by
    unfold f_E_word_1
    by_cases c1 : d < 0
    · have hq : qWord v d b w st = -2147483648 := by
        unfold qWord
        rw [if_neg (fun hx => by rw [hx.1] at c1; exact absurd c1 (by decide)), if_neg (fun hx => by rw [hx.1] at c1; exact absurd c1 (by decide))]
      rw [hq]; exact wp_if c1 (wp_some rfl)
    refine wp_ifn c1 ?_
    by_cases c2 : 1 < d
    · have hq : qWord v d b w st = -2147483648 := by
        unfold qWord
        rw [if_neg (fun hx => by rw [hx.1] at c2; exact absurd c2 (by decide)), if_neg (fun hx => by rw [hx.1] at c2; exact absurd c2 (by decide))]
      rw [hq]; exact wp_if c2 (wp_some rfl)
    refine wp_ifn c2 ?_
    by_cases c3 : w < 0
    · have hq : qWord v d b w st = -2147483648 := by
        unfold qWord
        rw [if_neg (fun hx => absurd hx.2.2.2.1 (Int32.not_le.mpr c3)), if_neg (fun hx => absurd hx.2.2.2.1 (Int32.not_le.mpr c3))]
      rw [hq]; exact wp_if c3 (wp_some rfl)
    refine wp_ifn c3 ?_
    by_cases c4 : w < 16
    · refine wp_if c4 ?_
      obtain ⟨w1, w2⟩ := i32_lt (x := w) (m := 16) (by omega) (Int32.not_lt.mp c3) c4
      by_cases d0 : d = 0
      · refine wp_ifn (fun hx => hx d0) (wp_bi (c_has3 K N t s 125 x2 b) ?_)
        by_cases cb : 0 ≤ b ∧ b < iN 125
        · rw [if_pos cb]
          obtain ⟨b1, b2⟩ := i32_lt (by omega) cb.1 cb.2
          have hq : qWord v d b w st = (if st = true then (v.p.dv 0).st (n32 b) (n32 w) else v.dn (n32 b) (n32 w)) := if_pos ⟨d0, cb.1, cb.2, Int32.not_lt.mp c3, c4⟩
          have ei : b * (16 : Int32) + w = iN (16 * n32 b + n32 w) := by conv => lhs; rw [b1, w1]; rw [iN_16, iN_add]
          rw [hq, ei, iN_nat (by omega), x7 _ _ b2 w2, x8 _ _ b2 w2]
          refine wp_if (by decide) ?_
          cases st with
          | false => exact wp_if rfl (wp_gd (by rw [k6]; exact iN_in (by omega) (by omega)) (wp_some rfl))
          | true => exact wp_ifn (by decide) (wp_gd (by rw [k7]; exact iN_in (by omega) (by omega)) (wp_some rfl))
        · have hq : qWord v d b w st = -2147483648 := by
            unfold qWord
            rw [if_neg (fun hx => cb ⟨hx.2.1, hx.2.2.1⟩), if_neg (fun hx => by rw [hx.1] at d0; exact absurd d0 (by decide))]
          rw [hq, if_neg cb]
          exact wp_ifn (fun hx => hx rfl) (wp_some rfl)
      · have d1 : d = 1 := by
          obtain ⟨q1, q2⟩ := i32_lt (x := d) (m := 2) (by omega) (Int32.not_lt.mp c1) (Int32.lt_of_le_of_lt (Int32.not_lt.mp c2) (by decide))
          rw [q1] at d0 ⊢
          have : n32 d = 0 ∨ n32 d = 1 := by omega
          rcases this with h | h
          · rw [h] at d0; exact absurd rfl d0
          · rw [h]; rfl
        refine wp_if d0 (wp_bi (c_has8 K N t s (50 + n) y2 b) ?_)
        by_cases cb : 0 ≤ b ∧ b < iN (50 + n)
        · rw [if_pos cb]
          obtain ⟨b1, b2⟩ := i32_lt (by omega) cb.1 cb.2
          have hq : qWord v d b w st = (if st = true then (v.p.dv 1).st (n32 b) (n32 w) else v.fn (n32 b) (n32 w)) := by
            unfold qWord
            rw [if_neg (fun hx => d0 hx.1), if_pos ⟨d1, cb.1, by rw [hn]; exact cb.2, Int32.not_lt.mp c3, c4⟩]
          have ei : b * (16 : Int32) + w = iN (16 * n32 b + n32 w) := by conv => lhs; rw [b1, w1]; rw [iN_16, iN_add]
          rw [hq, ei, iN_nat (by omega), y7 _ _ b2 w2, y8 _ _ b2 w2]
          refine wp_if (by decide) ?_
          cases st with
          | false => exact wp_if rfl (wp_gd (by rw [k11]; exact iN_in (by omega) (by omega)) (wp_some rfl))
          | true => exact wp_ifn (by decide) (wp_gd (by rw [k12]; exact iN_in (by omega) (by omega)) (wp_some rfl))
        · have hq : qWord v d b w st = -2147483648 := by
            unfold qWord
            rw [if_neg (fun hx => d0 hx.1), if_neg (fun hx => cb ⟨hx.2.1, by rw [← hn]; exact hx.2.2.1⟩)]
          rw [hq, if_neg cb]
          exact wp_ifn (fun hx => hx rfl) (wp_some rfl)
    · have hq : qWord v d b w st = -2147483648 := by
        unfold qWord
        rw [if_neg (fun hx => c4 hx.2.2.2.2), if_neg (fun hx => c4 hx.2.2.2.2)]
      rw [hq]; exact wp_ifn c4 (wp_some rfl)
  rw [e1, e2]
theorem c_ui_loop (K : px_K) (N n sets : Nat) (hK : zKc K n sets) (t : px_W) {s : px_S} {W : ZSt} (h : zCx s W) : ∀ (d i f : Nat), i + d = 24 → d < f → l_T_usedInodes_22_4 K N f (iN ((List.range i).filter fun q => !decide (tI W q 0 = 0)).length) (iN i) s t = some (.inl (15, [iN (zIc W)], s, t)) := by
  intro d
  induction d with
  | zero =>
    intro i f hi hf
    obtain ⟨f, rfl⟩ : ∃ f', f = f' + 1 := ⟨f - 1, by omega⟩
    have hi : i = 24 := by omega
    subst hi
    unfold l_T_usedInodes_22_4
    rw [if_pos (by decide)]; rfl
  | succ d ih =>
    intro i f hi hf
    obtain ⟨f, rfl⟩ : ∃ f', f = f' + 1 := ⟨f - 1, by omega⟩
    have e3 : iN i + (1 : Int32) = iN (i + 1) := by rw [iL1, iN_add]
    have hstep := ih (i + 1) f (by omega) (by omega)
    rw [zCnt_succ] at hstep
    have h24 : ¬ (24 : Int32) ≤ iN i := by show ¬ iN 24 ≤ iN i; rw [iN_le (by omega) (by omega)]; omega
    obtain ⟨r, e1, e2⟩ : wp (l_T_usedInodes_22_4 K N (f + 1) (iN ((List.range i).filter fun q => !decide (tI W q 0 = 0)).length) (iN i) s t) (fun r => r = .inl (15, [iN (zIc W)], s, t)) := by
      unfold l_T_usedInodes_22_4
      rw [e3]
      refine wp_ifn h24 (wp_bi (show f_T_inodeWord_22 K N (iN i) (0 : Int32) s t = _ from c_inodeWord K N n sets hK t h i 0 (by omega) (by omega)) ?_)
      by_cases hz : tI W i 0 = 0
      · rw [if_neg (c := (!decide (tI W i 0 = 0)) = true) (by rw [decide_eq_true hz]; decide)] at hstep
        exact wp_if hz ⟨_, hstep, rfl⟩
      · rw [if_pos (c := (!decide (tI W i 0 = 0)) = true) (by rw [decide_eq_false hz]; decide)] at hstep
        refine wp_ifn hz ?_
        rw [iL1, iN_add]
        exact ⟨_, hstep, rfl⟩
    rw [e1, e2]
theorem c_usedInodes (K : px_K) (N n sets : Nat) (hN : 2000 ≤ N) (hK : zKc K n sets) (t : px_W) {s : px_S} {W : ZSt} (h : zCx s W) : f_T_usedInodes_22 K N s t = some (.inl (some (.int (iN (zIc W)))), s, t) := by
  have this : l_T_usedInodes_22_4 K N N (0 : Int32) (0 : Int32) s t = _ := c_ui_loop K N n sets hK t h 24 0 N (by omega) (by omega)
  unfold f_T_usedInodes_22
  rw [this]; rfl
theorem c_countUp (K : px_K) (N n sets : Nat) (hN : 2000 ≤ N) (hK : zKc K n sets) (t : px_W) (s : px_S) (T : ZTs) (hn : T.tv.n = n) (h : zCt s T) (h0 : s.1 0 = 1) (hi : ZTi ZW T) (a : Int32) : f_E_count_1 K N a s t = some (.inl (some (.int (qCountUp T a.toInt))), s, t) := by
  have hx := zCt_x h
  have e0 : ¬ s.1 0 = 0 := by rw [h0]; decide
  have h12 : s.1 12 = bN T.tv.wf := h.1.2.1.2.1
  have hcw : zCw n s T.tv.p := by rw [← hn]; exact h.1.1
  obtain ⟨x1, x2, x3, x4, x5, _⟩ := hcw.1
  obtain ⟨y1, y2, y3, y4, y5, _⟩ := hcw.2.1
  obtain ⟨j1, j2, j3, j4, j5, j6, j7, j8⟩ := h.2
  have hlan := c_landed K N n sets hK t s (T.tv.p.dv 0) hcw.1
  obtain ⟨s0, cs, hj, _, _⟩ := hi.jn
  have hjl := zCh_len hj.ch (by omega)
  have hjr := hj.jr
  have hle := zLeft_le T.wd
  have e28 : (28 : Int32) - s.1 24 = 29 - iN T.jr := by
    rw [j8]
    show iN 28 - iN (T.jr - 1) = iN 29 - iN T.jr
    rw [iN_sub (by omega), iN_sub (by omega)]
    congr 1; omega
  have e64 : iN (64 - zLeft T.wd) = 64 - iN (zLeft T.wd) := by
    show _ = iN 64 - iN (zLeft T.wd)
    rw [iN_sub (by omega)]
  obtain ⟨r, e1, e2⟩ : wp (f_E_count_1 K N a s t) (fun r => r = (.inl (some (.int (qCountUp T a.toInt))), s, t)) := by
    unfold f_E_count_1
    by_cases c0 : a.toInt = 0
    · rw [show qCountUp T a.toInt = 1 from by rw [c0]; rfl]
      exact wp_if c0 (wp_some (by rw [h0]; rfl))
    by_cases c1 : a.toInt = 1
    · rw [show qCountUp T a.toInt = bN T.tv.wf from by rw [c1]; rfl]
      rw [h12]
      cases hw : T.tv.wf with
      | false => exact wp_ifn c0 (wp_if c1 (wp_some (by rw [h0]; rfl)))
      | true => exact wp_ifn c0 (wp_if c1 (wp_some (by rw [h0]; rfl)))
    by_cases c2 : a.toInt = 2
    · rw [show qCountUp T a.toInt = T.tv.dn 1 1 from by rw [c2]; rfl]
      exact wp_ifn c0 (wp_ifn c1 (wp_if c2 (wp_bi hlan (wp_some rfl))))
    by_cases c3 : a.toInt = 3
    · rw [show qCountUp T a.toInt = (if T.tv.wf = true then iN T.tv.opn else -1) from by rw [c3]; rfl]
      rw [h12]
      cases hw : T.tv.wf with
      | false =>
        rw [if_neg (c := false = true) Bool.noConfusion]
        exact wp_ifn c0 (wp_ifn c1 (wp_ifn c2 (wp_if c3 (wp_ifn e0 (wp_if rfl (wp_some rfl))))))
      | true =>
        rw [if_pos (c := true = true) rfl]
        have h16 := (h.1.2.2 hw).2.2.2.1
        have h17 := (h.1.2.2 hw).2.2.2.2.1
        have ht : wp (f_V_tellEpochs_13 K N a s t) (fun r => r = (.inl (some (.int (iN T.tv.opn))), s, t)) := by
          unfold f_V_tellEpochs_13
          exact wp_if c3 (wp_some (by rw [h16]))
        obtain ⟨r, e1, e2⟩ := ht
        rw [e2] at e1
        exact wp_ifn c0 (wp_ifn c1 (wp_ifn c2 (wp_if c3 (wp_ifn e0 (wp_ifn (by decide) (wp_bi e1 (wp_some rfl)))))))
    by_cases c4 : a.toInt = 4
    · rw [show qCountUp T a.toInt = (if T.tv.wf = true then iN T.tv.opn - 1 - T.tv.dn 1 1 else -1) from by rw [c4]; rfl]
      rw [h12]
      cases hw : T.tv.wf with
      | false =>
        rw [if_neg (c := false = true) Bool.noConfusion]
        exact wp_ifn c0 (wp_ifn c1 (wp_ifn c2 (wp_ifn c3 (wp_if c4 (wp_ifn e0 (wp_if rfl (wp_some rfl)))))))
      | true =>
        rw [if_pos (c := true = true) rfl]
        have h16 := (h.1.2.2 hw).2.2.2.1
        have h17 := (h.1.2.2 hw).2.2.2.2.1
        have ht : wp (f_V_tellEpochs_13 K N a s t) (fun r => r = (.inl (some (.int (iN T.tv.opn - 1 - T.tv.dn 1 1))), s, t)) := by
          unfold f_V_tellEpochs_13
          exact wp_ifn (by rw [c4]; decide) (wp_if c4 (wp_bi hlan (wp_some (by rw [h16]))))
        obtain ⟨r, e1, e2⟩ := ht
        rw [e2] at e1
        exact wp_ifn c0 (wp_ifn c1 (wp_ifn c2 (wp_ifn c3 (wp_if c4 (wp_ifn e0 (wp_ifn (by decide) (wp_bi e1 (wp_some rfl))))))))
    by_cases c5 : a.toInt = 5
    · rw [show qCountUp T a.toInt = (if T.tv.wf = true then iN (T.tv.dirty T.tv.opn) else -1) from by rw [c5]; rfl]
      rw [h12]
      cases hw : T.tv.wf with
      | false =>
        rw [if_neg (c := false = true) Bool.noConfusion]
        exact wp_ifn c0 (wp_ifn c1 (wp_ifn c2 (wp_ifn c3 (wp_ifn c4 (wp_if c5 (wp_ifn e0 (wp_if rfl (wp_some rfl))))))))
      | true =>
        rw [if_pos (c := true = true) rfl]
        have h16 := (h.1.2.2 hw).2.2.2.1
        have h17 := (h.1.2.2 hw).2.2.2.2.1
        have ht : wp (f_V_tellEpochs_13 K N a s t) (fun r => r = (.inl (some (.int (iN (T.tv.dirty T.tv.opn)))), s, t)) := by
          unfold f_V_tellEpochs_13
          exact wp_ifn (by rw [c5]; decide) (wp_ifn (by rw [c5]; decide) (wp_some (by rw [h17])))
        obtain ⟨r, e1, e2⟩ := ht
        rw [e2] at e1
        exact wp_ifn c0 (wp_ifn c1 (wp_ifn c2 (wp_ifn c3 (wp_ifn c4 (wp_if c5 (wp_ifn e0 (wp_ifn (by decide) (wp_bi e1 (wp_some rfl)))))))))
    by_cases c6 : a.toInt = 6
    · rw [show qCountUp T a.toInt = iN T.sq from by rw [c6]; rfl]
      have ht : wp (f_T_tellCount_22 K N a s t) (fun r => r = (.inl (some (.int (iN T.sq))), s, t)) := by
        unfold f_T_tellCount_22
        exact wp_if c6 (wp_some (by rw [j7]))
      obtain ⟨r, e1, e2⟩ := ht
      rw [e2] at e1
      exact wp_ifn c0 (wp_ifn c1 (wp_ifn c2 (wp_ifn c3 (wp_ifn c4 (wp_ifn c5 (wp_if c6 (wp_ifn e0 (wp_bi e1 (wp_some rfl)))))))))
    by_cases c7 : a.toInt = 7
    · rw [show qCountUp T a.toInt = iN (zCl T.ch).length from by rw [c7]; rfl]
      have ht : wp (f_T_tellCount_22 K N a s t) (fun r => r = (.inl (some (.int (iN (zCl T.ch).length))), s, t)) := by
        unfold f_T_tellCount_22
        exact wp_ifn (by rw [c7]; decide) (wp_if c7 (wp_some (by rw [j5])))
      obtain ⟨r, e1, e2⟩ := ht
      rw [e2] at e1
      exact wp_ifn c0 (wp_ifn c1 (wp_ifn c2 (wp_ifn c3 (wp_ifn c4 (wp_ifn c5 (wp_ifn c6 (wp_if c7 (wp_ifn e0 (wp_bi e1 (wp_some rfl))))))))))
    by_cases c8 : a.toInt = 8
    · rw [show qCountUp T a.toInt = iN (zCl T.kt).length from by rw [c8]; rfl]
      have ht : wp (f_T_tellCount_22 K N a s t) (fun r => r = (.inl (some (.int (iN (zCl T.kt).length))), s, t)) := by
        unfold f_T_tellCount_22
        exact wp_ifn (by rw [c8]; decide) (wp_ifn (by rw [c8]; decide) (wp_if c8 (wp_some (by rw [j6]))))
      obtain ⟨r, e1, e2⟩ := ht
      rw [e2] at e1
      exact wp_ifn c0 (wp_ifn c1 (wp_ifn c2 (wp_ifn c3 (wp_ifn c4 (wp_ifn c5 (wp_ifn c6 (wp_ifn c7 (wp_if c8 (wp_ifn e0 (wp_bi e1 (wp_some rfl)))))))))))
    by_cases c9 : a.toInt = 9
    · rw [show qCountUp T a.toInt = 29 - iN T.jr from by rw [c9]; rfl]
      have ht : wp (f_T_tellCount_22 K N a s t) (fun r => r = (.inl (some (.int (29 - iN T.jr))), s, t)) := by
        unfold f_T_tellCount_22
        exact wp_ifn (by rw [c9]; decide) (wp_ifn (by rw [c9]; decide) (wp_ifn (by rw [c9]; decide) (wp_if c9 (wp_some (by rw [e28])))))
      obtain ⟨r, e1, e2⟩ := ht
      rw [e2] at e1
      exact wp_ifn c0 (wp_ifn c1 (wp_ifn c2 (wp_ifn c3 (wp_ifn c4 (wp_ifn c5 (wp_ifn c6 (wp_ifn c7 (wp_ifn c8 (wp_if c9 (wp_ifn e0 (wp_bi e1 (wp_some rfl))))))))))))
    by_cases c10 : a.toInt = 10
    · rw [show qCountUp T a.toInt = iN (zIc T.wd) from by rw [c10]; rfl]
      have ht : wp (f_T_tellCount_22 K N a s t) (fun r => r = (.inl (some (.int (iN (zIc T.wd)))), s, t)) := by
        unfold f_T_tellCount_22
        exact wp_ifn (by rw [c10]; decide) (wp_ifn (by rw [c10]; decide) (wp_ifn (by rw [c10]; decide) (wp_ifn (by rw [c10]; decide) (wp_if c10 (wp_bi (c_usedInodes K N n sets hN hK t hx) (wp_some rfl))))))
      obtain ⟨r, e1, e2⟩ := ht
      rw [e2] at e1
      exact wp_ifn c0 (wp_ifn c1 (wp_ifn c2 (wp_ifn c3 (wp_ifn c4 (wp_ifn c5 (wp_ifn c6 (wp_ifn c7 (wp_ifn c8 (wp_ifn c9 (wp_if c10 (wp_ifn e0 (wp_bi e1 (wp_some rfl)))))))))))))
    by_cases c11 : a.toInt = 11
    · rw [show qCountUp T a.toInt = 64 - iN (zLeft T.wd) from by rw [c11]; rfl]
      have ht : wp (f_T_tellCount_22 K N a s t) (fun r => r = (.inl (some (.int (64 - iN (zLeft T.wd)))), s, t)) := by
        unfold f_T_tellCount_22
        exact wp_ifn (by rw [c11]; decide) (wp_ifn (by rw [c11]; decide) (wp_ifn (by rw [c11]; decide) (wp_ifn (by rw [c11]; decide) (wp_ifn (by rw [c11]; decide) (wp_bi (c_usedBlocks K N n sets hK t hx) (wp_some (by rw [e64])))))))
      obtain ⟨r, e1, e2⟩ := ht
      rw [e2] at e1
      exact wp_ifn c0 (wp_ifn c1 (wp_ifn c2 (wp_ifn c3 (wp_ifn c4 (wp_ifn c5 (wp_ifn c6 (wp_ifn c7 (wp_ifn c8 (wp_ifn c9 (wp_ifn c10 (wp_if c11 (wp_ifn e0 (wp_bi e1 (wp_some rfl))))))))))))))
    by_cases c12 : a.toInt = 12
    · rw [show qCountUp T a.toInt = iN (T.tv.p.dv 0).pd.length from by rw [c12]; rfl]
      exact wp_ifn c0 (wp_ifn c1 (wp_ifn c2 (wp_ifn c3 (wp_ifn c4 (wp_ifn c5 (wp_ifn c6 (wp_ifn c7 (wp_ifn c8 (wp_ifn c9 (wp_ifn c10 (wp_ifn c11 (wp_if c12 (wp_some (by rw [show s.1 3 = _ from x3]))))))))))))))
    by_cases c13 : a.toInt = 13
    · rw [show qCountUp T a.toInt = iN (T.tv.p.dv 1).pd.length from by rw [c13]; rfl]
      exact wp_ifn c0 (wp_ifn c1 (wp_ifn c2 (wp_ifn c3 (wp_ifn c4 (wp_ifn c5 (wp_ifn c6 (wp_ifn c7 (wp_ifn c8 (wp_ifn c9 (wp_ifn c10 (wp_ifn c11 (wp_ifn c12 (wp_if c13 (wp_some (by rw [show s.1 8 = _ from y3])))))))))))))))
    by_cases c14 : a.toInt = 14
    · rw [show qCountUp T a.toInt = iN (T.tv.p.dv 0).wr from by rw [c14]; rfl]
      exact wp_ifn c0 (wp_ifn c1 (wp_ifn c2 (wp_ifn c3 (wp_ifn c4 (wp_ifn c5 (wp_ifn c6 (wp_ifn c7 (wp_ifn c8 (wp_ifn c9 (wp_ifn c10 (wp_ifn c11 (wp_ifn c12 (wp_ifn c13 (wp_if c14 (wp_some (by rw [show s.1 4 = _ from x4]))))))))))))))))
    by_cases c15 : a.toInt = 15
    · rw [show qCountUp T a.toInt = iN (T.tv.p.dv 1).wr from by rw [c15]; rfl]
      exact wp_ifn c0 (wp_ifn c1 (wp_ifn c2 (wp_ifn c3 (wp_ifn c4 (wp_ifn c5 (wp_ifn c6 (wp_ifn c7 (wp_ifn c8 (wp_ifn c9 (wp_ifn c10 (wp_ifn c11 (wp_ifn c12 (wp_ifn c13 (wp_ifn c14 (wp_if c15 (wp_some (by rw [show s.1 9 = _ from y4])))))))))))))))))
    by_cases c16 : a.toInt = 16
    · rw [show qCountUp T a.toInt = iN (T.tv.p.dv 0).fl from by rw [c16]; rfl]
      exact wp_ifn c0 (wp_ifn c1 (wp_ifn c2 (wp_ifn c3 (wp_ifn c4 (wp_ifn c5 (wp_ifn c6 (wp_ifn c7 (wp_ifn c8 (wp_ifn c9 (wp_ifn c10 (wp_ifn c11 (wp_ifn c12 (wp_ifn c13 (wp_ifn c14 (wp_ifn c15 (wp_if c16 (wp_some (by rw [show s.1 5 = _ from x5]))))))))))))))))))
    by_cases c17 : a.toInt = 17
    · rw [show qCountUp T a.toInt = iN (T.tv.p.dv 1).fl from by rw [c17]; rfl]
      exact wp_ifn c0 (wp_ifn c1 (wp_ifn c2 (wp_ifn c3 (wp_ifn c4 (wp_ifn c5 (wp_ifn c6 (wp_ifn c7 (wp_ifn c8 (wp_ifn c9 (wp_ifn c10 (wp_ifn c11 (wp_ifn c12 (wp_ifn c13 (wp_ifn c14 (wp_ifn c15 (wp_ifn c16 (wp_if c17 (wp_some (by rw [show s.1 10 = _ from y5])))))))))))))))))))
    rw [show qCountUp T a.toInt = -1 from by unfold qCountUp; rw [if_neg c0, if_neg c1, if_neg c2, if_neg c3, if_neg c4, if_neg c5, if_neg c6, if_neg c7, if_neg c8, if_neg c9, if_neg c10, if_neg c11, if_neg c12, if_neg c13, if_neg c14, if_neg c15, if_neg c16, if_neg c17]]
    exact wp_ifn c0 (wp_ifn c1 (wp_ifn c2 (wp_ifn c3 (wp_ifn c4 (wp_ifn c5 (wp_ifn c6 (wp_ifn c7 (wp_ifn c8 (wp_ifn c9 (wp_ifn c10 (wp_ifn c11 (wp_ifn c12 (wp_ifn c13 (wp_ifn c14 (wp_ifn c15 (wp_ifn c16 (wp_ifn c17 (wp_some rfl))))))))))))))))))
  rw [e1, e2]
theorem c_countDn (K : px_K) (N n sets : Nat) (hK : zKc K n sets) (t : px_W) (s : px_S) (v : ZVs) (hn : v.n = n) (h : zEd s v) (a : Int32) : f_E_count_1 K N a s t = some (.inl (some (.int (qCountDn v a.toInt))), s, t) := by
  have h0 := h.2.2
  have hcw : zCw n s v.p := by rw [← hn]; exact h.1
  obtain ⟨x1, x2, x3, x4, x5, _⟩ := hcw.1
  obtain ⟨y1, y2, y3, y4, y5, _⟩ := hcw.2.1
  have hlan := c_landed K N n sets hK t s (v.p.dv 0) hcw.1
  obtain ⟨r, e1, e2⟩ : wp (f_E_count_1 K N a s t) (fun r => r = (.inl (some (.int (qCountDn v a.toInt))), s, t)) := by
    unfold f_E_count_1
    by_cases c0 : a.toInt = 0
    · rw [show qCountDn v a.toInt = 0 from by rw [c0]; rfl]
      exact wp_if c0 (wp_some (by rw [h0]; rfl))
    by_cases c1 : a.toInt = 1
    · rw [show qCountDn v a.toInt = 0 from by rw [c1]; rfl]
      exact wp_ifn c0 (wp_if c1 (wp_some (by rw [h0]; rfl)))
    by_cases c2 : a.toInt = 2
    · rw [show qCountDn v a.toInt = v.dn 1 1 from by rw [c2]; rfl]
      exact wp_ifn c0 (wp_ifn c1 (wp_if c2 (wp_bi hlan (wp_some rfl))))
    by_cases c3 : a.toInt = 3
    · rw [show qCountDn v a.toInt = -1 from by rw [c3]; rfl]
      exact wp_ifn c0 (wp_ifn c1 (wp_ifn c2 (wp_if c3 (wp_if h0 (wp_some rfl)))))
    by_cases c4 : a.toInt = 4
    · rw [show qCountDn v a.toInt = -1 from by rw [c4]; rfl]
      exact wp_ifn c0 (wp_ifn c1 (wp_ifn c2 (wp_ifn c3 (wp_if c4 (wp_if h0 (wp_some rfl))))))
    by_cases c5 : a.toInt = 5
    · rw [show qCountDn v a.toInt = -1 from by rw [c5]; rfl]
      exact wp_ifn c0 (wp_ifn c1 (wp_ifn c2 (wp_ifn c3 (wp_ifn c4 (wp_if c5 (wp_if h0 (wp_some rfl)))))))
    by_cases c6 : a.toInt = 6
    · rw [show qCountDn v a.toInt = -1 from by rw [c6]; rfl]
      exact wp_ifn c0 (wp_ifn c1 (wp_ifn c2 (wp_ifn c3 (wp_ifn c4 (wp_ifn c5 (wp_if c6 (wp_if h0 (wp_some rfl))))))))
    by_cases c7 : a.toInt = 7
    · rw [show qCountDn v a.toInt = -1 from by rw [c7]; rfl]
      exact wp_ifn c0 (wp_ifn c1 (wp_ifn c2 (wp_ifn c3 (wp_ifn c4 (wp_ifn c5 (wp_ifn c6 (wp_if c7 (wp_if h0 (wp_some rfl)))))))))
    by_cases c8 : a.toInt = 8
    · rw [show qCountDn v a.toInt = -1 from by rw [c8]; rfl]
      exact wp_ifn c0 (wp_ifn c1 (wp_ifn c2 (wp_ifn c3 (wp_ifn c4 (wp_ifn c5 (wp_ifn c6 (wp_ifn c7 (wp_if c8 (wp_if h0 (wp_some rfl))))))))))
    by_cases c9 : a.toInt = 9
    · rw [show qCountDn v a.toInt = -1 from by rw [c9]; rfl]
      exact wp_ifn c0 (wp_ifn c1 (wp_ifn c2 (wp_ifn c3 (wp_ifn c4 (wp_ifn c5 (wp_ifn c6 (wp_ifn c7 (wp_ifn c8 (wp_if c9 (wp_if h0 (wp_some rfl)))))))))))
    by_cases c10 : a.toInt = 10
    · rw [show qCountDn v a.toInt = -1 from by rw [c10]; rfl]
      exact wp_ifn c0 (wp_ifn c1 (wp_ifn c2 (wp_ifn c3 (wp_ifn c4 (wp_ifn c5 (wp_ifn c6 (wp_ifn c7 (wp_ifn c8 (wp_ifn c9 (wp_if c10 (wp_if h0 (wp_some rfl))))))))))))
    by_cases c11 : a.toInt = 11
    · rw [show qCountDn v a.toInt = -1 from by rw [c11]; rfl]
      exact wp_ifn c0 (wp_ifn c1 (wp_ifn c2 (wp_ifn c3 (wp_ifn c4 (wp_ifn c5 (wp_ifn c6 (wp_ifn c7 (wp_ifn c8 (wp_ifn c9 (wp_ifn c10 (wp_if c11 (wp_if h0 (wp_some rfl)))))))))))))
    by_cases c12 : a.toInt = 12
    · rw [show qCountDn v a.toInt = iN (v.p.dv 0).pd.length from by rw [c12]; rfl]
      exact wp_ifn c0 (wp_ifn c1 (wp_ifn c2 (wp_ifn c3 (wp_ifn c4 (wp_ifn c5 (wp_ifn c6 (wp_ifn c7 (wp_ifn c8 (wp_ifn c9 (wp_ifn c10 (wp_ifn c11 (wp_if c12 (wp_some (by rw [show s.1 3 = _ from x3]))))))))))))))
    by_cases c13 : a.toInt = 13
    · rw [show qCountDn v a.toInt = iN (v.p.dv 1).pd.length from by rw [c13]; rfl]
      exact wp_ifn c0 (wp_ifn c1 (wp_ifn c2 (wp_ifn c3 (wp_ifn c4 (wp_ifn c5 (wp_ifn c6 (wp_ifn c7 (wp_ifn c8 (wp_ifn c9 (wp_ifn c10 (wp_ifn c11 (wp_ifn c12 (wp_if c13 (wp_some (by rw [show s.1 8 = _ from y3])))))))))))))))
    by_cases c14 : a.toInt = 14
    · rw [show qCountDn v a.toInt = iN (v.p.dv 0).wr from by rw [c14]; rfl]
      exact wp_ifn c0 (wp_ifn c1 (wp_ifn c2 (wp_ifn c3 (wp_ifn c4 (wp_ifn c5 (wp_ifn c6 (wp_ifn c7 (wp_ifn c8 (wp_ifn c9 (wp_ifn c10 (wp_ifn c11 (wp_ifn c12 (wp_ifn c13 (wp_if c14 (wp_some (by rw [show s.1 4 = _ from x4]))))))))))))))))
    by_cases c15 : a.toInt = 15
    · rw [show qCountDn v a.toInt = iN (v.p.dv 1).wr from by rw [c15]; rfl]
      exact wp_ifn c0 (wp_ifn c1 (wp_ifn c2 (wp_ifn c3 (wp_ifn c4 (wp_ifn c5 (wp_ifn c6 (wp_ifn c7 (wp_ifn c8 (wp_ifn c9 (wp_ifn c10 (wp_ifn c11 (wp_ifn c12 (wp_ifn c13 (wp_ifn c14 (wp_if c15 (wp_some (by rw [show s.1 9 = _ from y4])))))))))))))))))
    by_cases c16 : a.toInt = 16
    · rw [show qCountDn v a.toInt = iN (v.p.dv 0).fl from by rw [c16]; rfl]
      exact wp_ifn c0 (wp_ifn c1 (wp_ifn c2 (wp_ifn c3 (wp_ifn c4 (wp_ifn c5 (wp_ifn c6 (wp_ifn c7 (wp_ifn c8 (wp_ifn c9 (wp_ifn c10 (wp_ifn c11 (wp_ifn c12 (wp_ifn c13 (wp_ifn c14 (wp_ifn c15 (wp_if c16 (wp_some (by rw [show s.1 5 = _ from x5]))))))))))))))))))
    by_cases c17 : a.toInt = 17
    · rw [show qCountDn v a.toInt = iN (v.p.dv 1).fl from by rw [c17]; rfl]
      exact wp_ifn c0 (wp_ifn c1 (wp_ifn c2 (wp_ifn c3 (wp_ifn c4 (wp_ifn c5 (wp_ifn c6 (wp_ifn c7 (wp_ifn c8 (wp_ifn c9 (wp_ifn c10 (wp_ifn c11 (wp_ifn c12 (wp_ifn c13 (wp_ifn c14 (wp_ifn c15 (wp_ifn c16 (wp_if c17 (wp_some (by rw [show s.1 10 = _ from y5])))))))))))))))))))
    rw [show qCountDn v a.toInt = -1 from by unfold qCountDn; rw [if_neg c0, if_neg c1, if_neg c2, if_neg c3, if_neg c4, if_neg c5, if_neg c6, if_neg c7, if_neg c8, if_neg c9, if_neg c10, if_neg c11, if_neg c12, if_neg c13, if_neg c14, if_neg c15, if_neg c16, if_neg c17]]
    exact wp_ifn c0 (wp_ifn c1 (wp_ifn c2 (wp_ifn c3 (wp_ifn c4 (wp_ifn c5 (wp_ifn c6 (wp_ifn c7 (wp_ifn c8 (wp_ifn c9 (wp_ifn c10 (wp_ifn c11 (wp_ifn c12 (wp_ifn c13 (wp_ifn c14 (wp_ifn c15 (wp_ifn c16 (wp_ifn c17 (wp_some rfl))))))))))))))))))
  rw [e1, e2]
