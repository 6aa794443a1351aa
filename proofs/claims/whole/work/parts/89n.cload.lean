/-! THE TREE IS LOADED (the class) -/
theorem c_pkLoop (K : px_K) (N n sets : Nat) (hN : 2000 ≤ N) (hK : zKc K n sets) (t : px_W) (v : ZVs) (hn : v.n = n) (hsw : v.wf = true → zSx v) : ∀ (d i f : Nat) (s : px_S), i + d = 106 → d < f → zCv s v → ∃ g, l_T_peekAll_22_2 K N f (iN i) s t = some (.inl (13, [], sF s 23 g, t)) ∧ ∀ b w, b < 106 → w < 16 → g (16 * b + w) = if i ≤ b then v.cur b w else s.2.2.1 23 (16 * b + w) := by
  intro d
  induction d with
  | zero =>
    intro i f s hi hf h
    obtain ⟨f, rfl⟩ : ∃ f', f = f' + 1 := ⟨f - 1, by omega⟩
    have hi : i = 106 := by omega
    subst hi
    refine ⟨s.2.2.1 23, ?_, fun b w hb _ => by rw [if_neg (by omega)]⟩
    unfold l_T_peekAll_22_2
    rw [if_pos (by decide), sF_triv]
  | succ d ih =>
    intro i f s hi hf h
    obtain ⟨f, rfl⟩ : ∃ f', f = f' + 1 := ⟨f - 1, by omega⟩
    have e3 : iN i + (1 : Int32) = iN (i + 1) := by rw [iL1, iN_add]
    obtain ⟨g1, a1, a2, a3⟩ := c_peek K N n sets hN hK t s v hn h hsw i (by omega)
    obtain ⟨g2, b1, b2⟩ := ih (i + 1) f (sF s 23 g1) (by omega) (by omega) (zCv_23 h)
    rw [sF_sF] at b1
    refine ⟨g2, ?_, fun b w hb hw => ?_⟩
    · conv => lhs; unfold l_T_peekAll_22_2
      rw [if_neg (by show ¬ iN 106 ≤ iN i; rw [iN_le (by omega) (by omega)]; omega), a1, e3]
      exact b1
    · rw [b2 b w hb hw, sF_arr]
      by_cases hbi : b = i
      · rw [hbi, if_neg (by omega), if_pos (Nat.le_refl _), a2 w hw]
      · by_cases hlt : i + 1 ≤ b
        · rw [if_pos hlt, if_pos (by omega)]
        · rw [if_neg hlt, if_neg (by omega), a3 b w hbi hw]
theorem c_peekAll (K : px_K) (N n sets : Nat) (hN : 2000 ≤ N) (hK : zKc K n sets) (t : px_W) (v : ZVs) (hn : v.n = n) (hsw : v.wf = true → zSx v) (s : px_S) (h : zCv s v) : ∃ g, f_T_peekAll_22 K N s t = some (.inl none, sF s 23 g, t) ∧ ∀ b w, b < 106 → w < 16 → g (16 * b + w) = v.cur b w := by
  obtain ⟨g, a1, a2⟩ := c_pkLoop K N n sets hN hK t v hn hsw 106 0 N s (by omega) (by omega) h
  have a1 : l_T_peekAll_22_2 K N N (0 : Int32) s t = _ := a1
  refine ⟨g, ?_, fun b w hb hw => by rw [a2 b w hb hw, if_pos (Nat.zero_le _)]⟩
  unfold f_T_peekAll_22
  rw [a1]; rfl
/-- the row of words is a store's -/
def zCu (s : px_S) (V : ZSt) : Prop := ∀ b w, b < 106 → w < 16 → s.2.2.1 23 (16 * b + w) = V b w
theorem zCu_at (K : px_K) (N n sets : Nat) (hK : zKc K n sets) (t : px_W) {s : px_S} {V : ZSt} (h : zCu s V) (b w : Nat) (hb : b < 106) (hw : w < 16) : f_T_at_22 K N (iN b) (iN w) s t = some (.inl (some (.int (V b w))), s, t) := by
  rw [c_Tat K N n sets hK t s b w hb hw, h b w hb hw]
theorem c_isCommit (K : px_K) (N n0 sets : Nat) (hK : zKc K n0 sets) (t : px_W) (s : px_S) (V : ZSt) (h : zCu s V) (fr sq : Nat) (hf1 : 1 ≤ fr) (hf : fr < 60) (hsq : s.1 23 = iN sq) : ∃ g : Bool, (g = true ↔ zIs V fr sq) ∧ f_T_isCommit_22 K N (iN fr) s t = some (.inl (some (.int (bN g))), s, t) := by
  have i12 : (12 : Int32) = iN 12 := rfl
  have i29 : (29 : Int32) = iN 29 := rfl
  have w0 : f_T_at_22 K N (iN fr) (0 : Int32) s t = _ := zCu_at K N n0 sets hK t h fr 0 (by omega) (by omega)
  have w1 : f_T_at_22 K N (iN fr) (1 : Int32) s t = _ := zCu_at K N n0 sets hK t h fr 1 (by omega) (by omega)
  have w2 : f_T_at_22 K N (iN fr) (2 : Int32) s t = _ := zCu_at K N n0 sets hK t h fr 2 (by omega) (by omega)
  have no : (¬ zIs V fr sq) → wp (f_T_isCommit_22 K N (iN fr) s t) (fun r => r = (.inl (some (.int 0)), s, t)) → ∃ g : Bool, (g = true ↔ zIs V fr sq) ∧ f_T_isCommit_22 K N (iN fr) s t = some (.inl (some (.int (bN g))), s, t) := by
    rintro hn ⟨r, r1, r2⟩
    exact ⟨false, ⟨fun hx => (by cases hx), fun hx => absurd hx hn⟩, by rw [r1, r2]; rfl⟩
  by_cases c1 : V fr 0 = 1
  · by_cases c2 : V fr 1 = iN sq
    · by_cases c3 : 1 ≤ n32 (V fr 2)
      · have hn : V fr 2 = iN (n32 (V fr 2)) := (iN_n32 (by omega)).symm
        have hlt := n32_lt (V fr 2)
        obtain ⟨n, hnn⟩ : ∃ n, n = n32 (V fr 2) := ⟨_, rfl⟩
        rw [← hnn] at c3 hlt hn
        rw [hn] at w2
        have g3 : ¬ iN n < (1 : Int32) := by rw [iL1, iN_lt hlt (by omega)]; omega
        by_cases c4 : n ≤ 12
        · have g4 : iN n ≤ (12 : Int32) := by rw [i12, iN_le hlt (by omega)]; exact c4
          have en : iN fr + iN n + (1 : Int32) = iN (fr + n + 1) := by rw [iN_add, iL1, iN_add]
          by_cases c5 : fr + n + 1 ≤ 28
          · have g5 : ¬ (29 : Int32) ≤ iN fr + iN n + (1 : Int32) := by rw [en, i29, iN_le (by omega) (by omega)]; omega
            have w3 : f_T_at_22 K N (iN fr + iN n + (1 : Int32)) (0 : Int32) s t = some (.inl (some (.int (V (fr + n + 1) 0))), s, t) := by rw [en]; exact zCu_at K N n0 sets hK t h (fr + n + 1) 0 (by omega) (by omega)
            have w4 : f_T_at_22 K N (iN fr + iN n + (1 : Int32)) (1 : Int32) s t = some (.inl (some (.int (V (fr + n + 1) 1))), s, t) := by rw [en]; exact zCu_at K N n0 sets hK t h (fr + n + 1) 1 (by omega) (by omega)
            by_cases c6 : V (fr + n + 1) 0 = 2
            · by_cases c7 : V (fr + n + 1) 1 = iN sq
              · refine ⟨true, ⟨fun _ => ?_, fun _ => rfl⟩, ?_⟩
                · unfold zIs
                  rw [← hnn]
                  exact ⟨c1, c2, c3, c4, c5, c6, c7⟩
                · obtain ⟨r, r1, r2⟩ : wp (f_T_isCommit_22 K N (iN fr) s t) (fun r => r = (.inl (some (.int 1)), s, t)) := by
                    unfold f_T_isCommit_22
                    refine wp_bi w2 (wp_bi w0 (wp_ifn (fun hx => hx c1) (wp_bi w1 (wp_ifn (fun hx => hx (by rw [hsq]; exact c2)) (wp_ifn g3 (wp_if g4 (wp_let (wp_ifn g5 (wp_bi w3 (wp_ifn (fun hx => hx c6) (wp_bi w4 (wp_some ?_))))))))))))
                    rw [if_neg (c := ¬ V (fr + n + 1) 1 = s.1 23) (fun hx => hx (by rw [hsq]; exact c7))]
                  rw [r1, r2]; rfl
              · refine no (fun hx => ?_) ?_
                · unfold zIs at hx
                  rw [← hnn] at hx
                  exact c7 hx.2.2.2.2.2.2
                · unfold f_T_isCommit_22
                  refine wp_bi w2 (wp_bi w0 (wp_ifn (fun hx => hx c1) (wp_bi w1 (wp_ifn (fun hx => hx (by rw [hsq]; exact c2)) (wp_ifn g3 (wp_if g4 (wp_let (wp_ifn g5 (wp_bi w3 (wp_ifn (fun hx => hx c6) (wp_bi w4 (wp_some ?_))))))))))))
                  rw [if_pos (c := ¬ V (fr + n + 1) 1 = s.1 23) (fun hx => c7 (by rw [← hsq]; exact hx))]
            · refine no (fun hx => ?_) ?_
              · unfold zIs at hx
                rw [← hnn] at hx
                exact c6 hx.2.2.2.2.2.1
              · unfold f_T_isCommit_22
                exact wp_bi w2 (wp_bi w0 (wp_ifn (fun hx => hx c1) (wp_bi w1 (wp_ifn (fun hx => hx (by rw [hsq]; exact c2)) (wp_ifn g3 (wp_if g4 (wp_let (wp_ifn g5 (wp_bi w3 (wp_if c6 (wp_some rfl)))))))))))
          · refine no (fun hx => ?_) ?_
            · unfold zIs at hx
              rw [← hnn] at hx
              omega
            · unfold f_T_isCommit_22
              exact wp_bi w2 (wp_bi w0 (wp_ifn (fun hx => hx c1) (wp_bi w1 (wp_ifn (fun hx => hx (by rw [hsq]; exact c2)) (wp_ifn g3 (wp_if g4 (wp_let (wp_if (by rw [en, i29, iN_le (by omega) (by omega)]; omega) (wp_some rfl)))))))))
        · refine no (fun hx => ?_) ?_
          · unfold zIs at hx
            rw [← hnn] at hx
            omega
          · unfold f_T_isCommit_22
            exact wp_bi w2 (wp_bi w0 (wp_ifn (fun hx => hx c1) (wp_bi w1 (wp_ifn (fun hx => hx (by rw [hsq]; exact c2)) (wp_ifn g3 (wp_ifn (by rw [i12, iN_le hlt (by omega)]; exact c4) (wp_some rfl)))))))
      · have hle : V fr 2 < (1 : Int32) := by
          rw [← Int32.not_le]
          intro hx
          have h0 : ¬ V fr 2 ≤ iN 0 := fun hy => by
            have : (1 : Int32) ≤ iN 0 := Int32.le_trans hx hy
            exact absurd this (by decide)
          rw [n32_le (by omega)] at h0
          omega
        refine no (fun hx => c3 hx.2.2.1) ?_
        unfold f_T_isCommit_22
        exact wp_bi w2 (wp_bi w0 (wp_ifn (fun hx => hx c1) (wp_bi w1 (wp_ifn (fun hx => hx (by rw [hsq]; exact c2)) (wp_if hle (wp_some rfl))))))
    · refine no (fun hx => c2 hx.2.1) ?_
      unfold f_T_isCommit_22
      exact wp_bi w2 (wp_bi w0 (wp_ifn (fun hx => hx c1) (wp_bi w1 (wp_if (fun hx => c2 (by rw [← hsq]; exact hx)) (wp_some rfl)))))
  · refine no (fun hx => c1 hx.1) ?_
    unfold f_T_isCommit_22
    exact wp_bi w2 (wp_bi w0 (wp_if c1 (wp_some rfl)))
theorem sh31u : ∀ j, j < 12 → (((2 : Int32) * iN j).toUInt32 &&& Int32.toUInt32 31) = UInt32.ofNat (2 * j) := by decide
theorem two_bitsU (x : Int32) (j : Nat) (hj : j < 12) : ((x.toUInt32 >>> (((2 : Int32) * iN j).toUInt32 &&& Int32.toUInt32 31)).toInt32) &&& (3 : Int32) = iN (u32 x / 4 ^ j % 4) := by
  have hx := iN_u32 x
  have hlt : u32 x < 4294967296 := x.toBitVec.isLt
  rw [sh31u j hj]
  have e4 : (4 : Nat) ^ j = 2 ^ (2 * j) := (Nat.pow_mul 2 2 j).symm
  have e : (x.toUInt32 >>> UInt32.ofNat (2 * j)).toInt32 = iN (u32 x / 2 ^ (2 * j)) := by
    conv => lhs; rw [hx]
    exact iN_ushr hlt (by omega)
  rw [e, e4]
  show iN (u32 x / 2 ^ (2 * j)) &&& iN 3 = _
  rw [iN_and]
  congr 1
  exact Nat.and_two_pow_sub_one_eq_mod (u32 x / 2 ^ (2 * j)) 2
/-- the kept blocks -/
def zKv (s : px_S) (kt : Nat → Bool) (kp : ZSt) : Prop := (∀ b w, b < 106 → w < 16 → kt b = true → s.2.2.1 24 (16 * b + w) = kp b w) ∧ (∀ b, b < 106 → s.2.2.1 26 b = bN (kt b)) ∧ s.1 22 = iN (zCl kt).length
def zHj (s u : px_S) : Prop := (∀ c, c ≠ 24 → c ≠ 26 → u.2.2.1 c = s.2.2.1 c) ∧ (∀ r, r ≠ 22 → r ≠ 23 → u.1 r = s.1 r) ∧ u.2.1 = s.2.1 ∧ u.2.2.2 = s.2.2.2
theorem zHj_refl (s : px_S) : zHj s s := ⟨fun _ _ _ => rfl, fun _ _ _ => rfl, rfl, rfl⟩
theorem zHj_trans {s u v : px_S} (h1 : zHj s u) (h2 : zHj u v) : zHj s v := ⟨fun c a b => (h2.1 c a b).trans (h1.1 c a b), fun r a b => (h2.2.1 r a b).trans (h1.2.1 r a b), h2.2.2.1.trans h1.2.2.1, h2.2.2.2.trans h1.2.2.2⟩
theorem c_rep9 (K : px_K) (N n sets : Nat) (hN : 2000 ≤ N) (hK : zKc K n sets) (t : px_W) (V : ZSt) (fr c : Nat) (l : List Nat) (hc : c = l.length) (hfr : fr + c + 1 ≤ 28) (h12 : c ≤ 12) (hl : ∀ j, j < c → V fr (3 + j) = iN (l.getD j 0) ∧ 29 ≤ l.getD j 0 ∧ l.getD j 0 < 106) : ∀ (d j f : Nat) (s : px_S) (kt : Nat → Bool) (kp : ZSt), j + d = c → d < f → zCu s V → zKv s kt kp → wp (l_T_replay_22_9 K N f (iN fr) (iN c) (iN j) s t) (zC 72 [] t (fun s' => zCu s' V ∧ zHj s s' ∧ s'.1 23 = s.1 23 ∧ ∃ kt', (∀ b, kt' b = true ↔ kt b = true ∨ ∃ i, j ≤ i ∧ i < c ∧ l.getD i 0 = b) ∧ zKv s' kt' (zov kp ((List.range' j (c - j)).map fun i => (l.getD i 0, zDec V fr i))))) := by
  have k23 : K.2.2 23 = 1696 := hK.2.2.2.2.2.2.2.2.2.2.2.2.2.2.2.1
  have k24 : K.2.2 24 = 1696 := hK.2.2.2.2.2.2.2.2.2.2.2.2.2.2.2.2.1
  intro d
  induction d with
  | zero =>
    intro j f s kt kp hj hf h hk
    obtain ⟨f, rfl⟩ : ∃ f', f = f' + 1 := ⟨f - 1, by omega⟩
    unfold l_T_replay_22_9
    refine wp_if ((iN_le (by omega) (by omega)).mpr (by omega)) (wp_rC ⟨h, zHj_refl s, rfl, kt, fun b => ⟨Or.inl, fun hx => ?_⟩, ?_⟩)
    · rcases hx with hx | ⟨i, i1, i2, _⟩
      · exact hx
      · omega
    · rw [show c - j = 0 by omega]; exact hk
  | succ d ih =>
    intro j f s kt kp hj hf h hk
    obtain ⟨f, rfl⟩ : ∃ f', f = f' + 1 := ⟨f - 1, by omega⟩
    have e3 : iN j + (1 : Int32) = iN (j + 1) := by rw [iL1, iN_add]
    have e3j : (3 : Int32) + iN j = iN (3 + j) := by show iN 3 + iN j = _; rw [iN_add]
    have efj : iN fr + (1 : Int32) + iN j = iN (fr + 1 + j) := by rw [iL1, iN_add, iN_add]
    obtain ⟨l1, l2, l3⟩ := hl j (by omega)
    obtain ⟨b, hb⟩ : ∃ b, b = l.getD j 0 := ⟨_, rfl⟩
    rw [← hb] at l1 l2 l3
    unfold l_T_replay_22_9
    rw [e3, e3j, efj, iN_16]
    refine wp_ifn (by rw [iN_le (by omega) (by omega)]; omega) ?_
    have w1 := zCu_at K N n sets hK t h fr (3 + j) (by omega) (by omega)
    rw [l1] at w1
    refine wp_bi w1 (wp_ifn (by rw [iL0, iN_le (by omega) (by omega)]; omega) (wp_ifn (by show ¬ iN 106 ≤ iN b; rw [iN_le (by omega) (by omega)]; omega) (wp_ifn (by show ¬ iN 106 ≤ iN (fr + 1 + j); rw [iN_le (by omega) (by omega)]; omega) ?_)))
    rw [iN_16, iN_nat (a := 16 * (fr + 1 + j)) (by omega), iN_nat (a := 16 * b) (by omega), n16]
    refine wp_gd ⟨iN_neg (by omega), iN_neg (by omega), by decide, by rw [k23]; omega, by rw [k24]; omega⟩ (wp_let ?_)
    obtain ⟨s1, hs1⟩ : ∃ s1, s1 = sF s 24 (va_cpy (s.2.2.1 23) (s.2.2.1 24) (16 * (fr + 1 + j)) (16 * b) 16) := ⟨_, rfl⟩
    rw [← hs1]
    have h1 : zCu s1 V := fun b' w hb' hw => by rw [hs1, sF_arr_ne (by omega)]; exact h b' w hb' hw
    have w2 : f_T_at_22 K N (iN fr) (15 : Int32) s1 t = _ := zCu_at K N n sets hK t h1 fr 15 (by omega) (by omega)
    refine wp_bi w2 (wp_let ?_)
    rw [two_bitsU _ j (by omega)]
    obtain ⟨x, hx⟩ : ∃ x, x = u32 (V fr 15) / 4 ^ j % 4 := ⟨_, rfl⟩
    have hx4 : x < 4 := by rw [hx]; exact Nat.mod_lt _ (by omega)
    rw [← hx]
    have hz : ∀ w, zDec V fr j w = if w = 0 ∧ x ≠ 0 then iN x else V (fr + 1 + j) w := by intro w; rw [hx]; rfl
    -- the row, whichever way it was told
    have cont : ∀ s2 : px_S, (∀ c', c' ≠ 24 → s2.2.2.1 c' = s.2.2.1 c') → s2.1 = s.1 → s2.2.1 = s.2.1 → s2.2.2.2 = s.2.2.2 → (∀ w, w < 16 → s2.2.2.1 24 (16 * b + w) = zDec V fr j w) → (∀ b' w, b' ≠ b → w < 16 → s2.2.2.1 24 (16 * b' + w) = s.2.2.1 24 (16 * b' + w)) → wp (px_bv (f_T_setKept_22 K N (iN b) s2 t) (fun s21 t22 => (l_T_replay_22_9 K N f (iN fr) (iN c) (iN (j + 1)) s21 t22)) (fun x25 s21 t22 => none)) (zC 72 [] t (fun s' => zCu s' V ∧ zHj s s' ∧ s'.1 23 = s.1 23 ∧ ∃ kt', (∀ b, kt' b = true ↔ kt b = true ∨ ∃ i, j ≤ i ∧ i < c ∧ l.getD i 0 = b) ∧ zKv s' kt' (zov kp ((List.range' j (c - j)).map fun i => (l.getD i 0, zDec V fr i))))) := by
      intro s2 q1 q2 q3 q4 q5 q6
      obtain ⟨u, a1, a2, a3, a4, a5, a6, a7⟩ := c_setKept K N n sets hK t s2 kt b l3 (fun b' hb' => by rw [q1 26 (by omega)]; exact hk.2.1 b' hb') (by rw [q2]; exact hk.2.2)
      refine wp_bv a1 ?_
      have hu : zCu u V := fun b' w hb' hw => by rw [a4 23 (by omega), q1 23 (by omega)]; exact h b' w hb' hw
      have hk2 : zKv u (zu kt b true) (zu kp b (zDec V fr j)) := by
        refine ⟨fun b' w hb' hw hx' => ?_, a2, a3⟩
        rw [a4 24 (by omega)]
        by_cases hbb : b' = b
        · rw [hbb, zu_self]; exact q5 w hw
        · rw [zu_ne _ _ hbb] at hx' ⊢
          rw [q6 b' w hbb hw]; exact hk.1 b' w hb' hw hx'
      refine wp_imp (ih (j + 1) f u _ _ (by omega) (by omega) hu hk2) ?_
      rintro r ⟨s', r1, r2, r3, r3', kt', r4, r5⟩
      refine ⟨s', r1, r2, zHj_trans ⟨fun c' c1 c2 => by rw [a4 c' c2, q1 c' c1], fun r' c1 _ => by rw [a5 r' c1, q2], by rw [a6, q3], by rw [a7, q4]⟩ r3, by rw [r3', a5 23 (by omega), q2], kt', fun b' => ?_, ?_⟩
      · rw [r4 b']
        constructor
        · rintro (hx | ⟨i, i1, i2, i3⟩)
          · by_cases hbb : b' = b
            · right; exact ⟨j, Nat.le_refl _, by omega, by rw [hbb]; exact hb.symm⟩
            · rw [zu_ne _ _ hbb] at hx; exact Or.inl hx
          · exact Or.inr ⟨i, by omega, i2, i3⟩
        · rintro (hx | ⟨i, i1, i2, i3⟩)
          · left
            by_cases hbb : b' = b
            · rw [hbb, zu_self]
            · rw [zu_ne _ _ hbb]; exact hx
          · by_cases hij : i = j
            · left; rw [← i3, hij, ← hb, zu_self]
            · right; exact ⟨i, by omega, i2, i3⟩
      · have e : c - j = (c - (j + 1)) + 1 := by omega
        rw [e, List.range'_succ, List.map_cons]
        show zKv s' kt' (zov (zu kp (l.getD j 0) (zDec V fr j)) _)
        rw [← hb]; exact r5
    have hrow : ∀ w, w < 16 → s1.2.2.1 24 (16 * b + w) = V (fr + 1 + j) w := by
      intro w hw
      rw [hs1, sF_arr, va_cpy_in hw]; exact h (fr + 1 + j) w (by omega) hw
    have hout : ∀ b' w, b' ≠ b → w < 16 → s1.2.2.1 24 (16 * b' + w) = s.2.2.1 24 (16 * b' + w) := by
      intro b' w hbb hw
      rw [hs1, sF_arr, va_cpy_out hw hbb]
    have hoth : ∀ c', c' ≠ 24 → s1.2.2.1 c' = s.2.2.1 c' := fun c' hc' => by rw [hs1]; exact sF_arr_ne hc'
    by_cases hx0 : x = 0
    · refine wp_if (by rw [hx0]; rfl) (cont s1 hoth (by rw [hs1]; rfl) (by rw [hs1]; rfl) (by rw [hs1]; rfl) (fun w hw => ?_) hout)
      rw [hrow w hw, hz w, if_neg (fun hy => hy.2 hx0)]
    · refine wp_ifn (by rw [iL0, iN_eq (by omega) (by omega)]; exact hx0) (wp_gd (by rw [k24]; exact iN_in (by omega) (by omega)) (wp_let ?_))
      refine cont (sA s1 24 (16 * b) (iN x)) (fun c' hc' => by rw [sA_arr_ne hc']; exact hoth c' hc') (by rw [hs1]; rfl) (by rw [hs1]; rfl) (by rw [hs1]; rfl) (fun w hw => ?_) (fun b' w hbb hw => ?_)
      · rw [sA_arr, hz w]
        by_cases hw0 : w = 0
        · rw [hw0, if_pos ⟨rfl, hx0⟩, Nat.add_zero, upd_self]
        · rw [if_neg (fun hy => hw0 hy.1), upd_ne (by omega)]; exact hrow w hw
      · rw [sA_arr, upd_ne (by omega)]; exact hout b' w hbb hw
theorem c_ldLoop (K : px_K) (N n0 sets : Nat) (hN : 2000 ≤ N) (hK : zKc K n0 sets) (t : px_W) (V : ZSt) : ∀ (cs : List (List Nat)) (fr sq m f : Nat) (s : px_S) (kt : Nat → Bool) (kp : ZSt), zCh V fr sq cs → 1 ≤ fr → fr ≤ 29 → m + cs.length < 28 → cs.length < f → sq + cs.length < 2147483648 → zNT V (sq + cs.length) → zCu s V → s.1 23 = iN sq → zKv s kt kp → wp (l_T_load_22_16 K N f (iN fr) (iN m) s t) (zC 43 [] t (fun s' => s'.1 23 = iN (sq + cs.length) ∧ zHj s s' ∧ ∃ kt', (∀ b, kt' b = true ↔ kt b = true ∨ ∃ e ∈ zPr V fr cs, e.1 = b) ∧ zKv s' kt' (zov kp (zPr V fr cs)))) := by
  intro cs
  induction cs with
  | nil =>
    intro fr sq m f s kt kp hch hf1 hf2 hm hf hsq hnt h h23 hk
    obtain ⟨f, rfl⟩ : ∃ f', f = f' + 1 := ⟨f - 1, by omega⟩
    have hm : m < 28 := hm
    obtain ⟨g, g1, g2⟩ := c_isCommit K N n0 sets hK t s V h fr sq hf1 (by omega) h23
    unfold l_T_load_22_16
    refine wp_ifn (by show ¬ iN 28 ≤ iN m; rw [iN_le (by omega) (by omega)]; omega) (wp_bi g2 ?_)
    cases g with
    | false =>
      refine wp_if rfl (wp_rC ⟨h23, zHj_refl s, kt, fun b => ⟨Or.inl, fun hx => ?_⟩, hk⟩)
      rcases hx with hx | ⟨e, he, _⟩
      · exact hx
      · cases he
    | true =>
      exfalso
      obtain ⟨_, _, x3, x4, x5, x6, x7⟩ := g1.mp rfl
      have := hnt (fr + n32 (V fr 2) + 1) (by omega) (by omega) x6
      rw [x7, n32_iN (by have : sq + 0 < 2147483648 := hsq; omega)] at this
      have this : sq < sq + 0 := this
      omega
  | cons l cs ih =>
    intro fr sq m f s kt kp hch hf1 hf2 hm hf hsq hnt h h23 hk
    obtain ⟨f, rfl⟩ : ∃ f', f = f' + 1 := ⟨f - 1, by omega⟩
    rw [List.length_cons] at hf hsq hnt hm
    obtain ⟨hcm, hch'⟩ := hch
    obtain ⟨hz, hn2, _⟩ := zCm_is hcm
    have hcm2 := hcm
    obtain ⟨_, _, k3, k4, k5, k6, _, _, k9⟩ := hcm2
    obtain ⟨g, g1, g2⟩ := c_isCommit K N n0 sets hK t s V h fr sq hf1 (by omega) h23
    have hg : g = true := g1.mpr hz
    subst hg
    unfold l_T_load_22_16
    have e3 : iN m + (1 : Int32) = iN (m + 1) := by rw [iL1, iN_add]
    have w2 : f_T_at_22 K N (iN fr) (2 : Int32) s t = _ := zCu_at K N n0 sets hK t h fr 2 (by omega) (by omega)
    rw [k3] at w2
    have hmin : f_Math_min K N (12 : Int32) (iN l.length) s t = some (.inl (some (.int (iN l.length))), s, t) := by
      unfold f_Math_min
      by_cases h12 : l.length < 12
      · rw [if_pos (by show iN l.length < iN 12; rw [iN_lt (by omega) (by omega)]; exact h12)]
      · have e12 : l.length = 12 := by omega
        rw [e12, if_neg (by decide)]; rfl
    obtain ⟨s1, a1, a2, a3, a3', kt1, a4, a5⟩ := wp_C (c_rep9 K N n0 sets hN hK t V fr l.length l rfl k6 k5 (fun j hj => k9 j hj) l.length 0 N s kt kp (by omega) (by omega) h hk)
    have hrep : f_T_replay_22 K N (iN fr) s t = some (.inl none, s1, t) := by
      obtain ⟨r, r1, r2⟩ : wp (f_T_replay_22 K N (iN fr) s t) (fun r => r = (.inl none, s1, t)) := by
        unfold f_T_replay_22
        exact wp_bi w2 (wp_bi hmin (wp_lp (show l_T_replay_22_9 K N N (iN fr) (iN l.length) (0 : Int32) s t = _ from a1) (wp_if rfl (wp_v0 (wp_some rfl)))))
      rw [r1, r2]
    have w3 : f_T_at_22 K N (iN fr) (2 : Int32) s1 t = _ := zCu_at K N n0 sets hK t a2 fr 2 (by omega) (by omega)
    rw [k3] at w3
    refine wp_ifn (by show ¬ iN 28 ≤ iN m; rw [iN_le (by omega) (by omega)]; omega) (wp_bi g2 (wp_ifn (by decide) (wp_bv hrep (wp_bi w3 (wp_let (wp_let ?_))))))
    have e1 : iN fr + (iN l.length + (2 : Int32)) = iN (fr + (l.length + 2)) := by rw [iL2, iN_add, iN_add]
    have e23 : s1.1 23 + (1 : Int32) = iN (sq + 1) := by rw [a3', h23, iL1, iN_add]
    rw [e1, e23, e3]
    have hp : (List.range' 0 (l.length - 0)).map (fun i => (l.getD i 0, zDec V fr i)) = zPj V fr l := by
      unfold zPj; rw [List.range_eq_range', Nat.sub_zero]
    rw [hp] at a5
    have a2' : zCu (sR s1 23 (iN (sq + 1))) V := a2
    have a5' : zKv (sR s1 23 (iN (sq + 1))) kt1 (zov kp (zPj V fr l)) := ⟨a5.1, a5.2.1, by rw [sR_ne (by omega)]; exact a5.2.2⟩
    refine wp_imp (ih (fr + (l.length + 2)) (sq + 1) (m + 1) f _ kt1 _ hch' (by omega) (by omega) (by omega) (by omega) (by omega) (by rw [show sq + 1 + cs.length = sq + (cs.length + 1) by omega]; exact hnt) a2' (sR_self _ _ _) a5') ?_
    rintro r ⟨s', r1, r3, r4, kt', r8, r9⟩
    refine ⟨s', r1, ?_, zHj_trans a3 (zHj_trans (show zHj s1 (sR s1 23 (iN (sq + 1))) from ⟨fun _ _ _ => rfl, fun r' _ c2 => sR_ne c2, rfl, rfl⟩) r4), kt', fun b => ?_, ?_⟩
    · rw [r3, List.length_cons]; congr 1; omega
    · rw [r8 b, a4 b]
      have hpr : zPr V fr (l :: cs) = zPj V fr l ++ zPr V (fr + (l.length + 2)) cs := rfl
      rw [hpr]
      constructor
      · rintro ((hx | ⟨i, _, i2, i3⟩) | ⟨e, he, hx⟩)
        · exact Or.inl hx
        · right
          exact ⟨(l.getD i 0, zDec V fr i), List.mem_append_left _ (List.mem_map.mpr ⟨i, List.mem_range.mpr i2, rfl⟩), i3⟩
        · exact Or.inr ⟨e, List.mem_append_right _ he, hx⟩
      · rintro (hx | ⟨e, he, hx⟩)
        · exact Or.inl (Or.inl hx)
        · rcases List.mem_append.mp he with he | he
          · obtain ⟨i, hi, rfl⟩ := List.mem_map.mp he
            exact Or.inl (Or.inr ⟨i, Nat.zero_le _, List.mem_range.mp hi, hx⟩)
          · exact Or.inr ⟨e, he, hx⟩
    · have hpr : zPr V fr (l :: cs) = zPj V fr l ++ zPr V (fr + (l.length + 2)) cs := rfl
      rw [hpr, zov_append]; exact r9
theorem ZIv.sx {P : Nat → ZSt → Prop} {Q : ZSt → Prop} {v : ZVs} (h : ZIv P Q v) (hb : v.p.na + 1 < 2147483648) : v.wf = true → zSx v := fun hw => zSw_x (zSw_of (h.rf hw).1 hb)
theorem c_loadTree {W : ZSt → Prop} (hW : ∀ T T', (∀ b, 29 ≤ b → T b = T' b) → W T → W T') (K : px_K) (N n sets : Nat) (hN : 2000 ≤ N) (hK : zKc K n sets) (t : px_W) (s : px_S) (v : ZVs) (hn : v.n = n) (hsets : v.sets = sets) (h : zCv s v) (hi : ZIv (zGood W) (fun V => V = v.cur) v) (hna : v.p.na + 2000000 < 2147483648) : wp (f_T_load_22 K N s t) (zO n none t s (zLoad v).home.tv.p (fun u => zCt u (zLoad v).home ∧ zHt s u)) := by
  obtain ⟨s0, cs, g1, g2, g3, g4, g5, g6⟩ := hi.qp _ hi.q
  have hl := zCh_len g4 (by omega)
  have hgl := zLen_ge g4
  have hs0 : n32 (v.cur 0 0) = s0 := by rw [g1]; exact n32_iN (by omega)
  obtain ⟨g25, a1, a2⟩ := c_changeNone K N n sets hN hK t s
  obtain ⟨g26, b1, b2⟩ := c_keepNone K N n sets hN hK t (sR (sF s 25 g25) 21 0)
  obtain ⟨s2, hs2⟩ : ∃ s2, s2 = sR (sR (sF (sR (sF s 25 g25) 21 0) 26 g26) 22 0) 24 0 := ⟨_, rfl⟩
  rw [← hs2] at b1
  have hv2 : zCv s2 v := by
    rw [hs2]
    exact zCv_sR (zCv_sR (zCv_sF (zCv_sR (zCv_sF h (by omega)) (by omega)) (by omega)) (by omega)) (by omega)
  obtain ⟨g23, c1, c2⟩ := c_peekAll K N n sets hN hK t v hn (hi.sx (by omega)) s2 hv2
  obtain ⟨s3, hs3⟩ : ∃ s3, s3 = sF s2 23 g23 := ⟨_, rfl⟩
  rw [← hs3] at c1
  have hu3 : zCu s3 v.cur := fun b w hb hw => by rw [hs3, sF_arr]; exact c2 b w hb hw
  have w0 : f_T_at_22 K N (0 : Int32) (0 : Int32) s3 t = _ := zCu_at K N n sets hK t hu3 0 0 (by omega) (by omega)
  rw [g1] at w0
  have hu4 : zCu (sR s3 23 (iN s0)) v.cur := hu3
  have hq4 : zKv (sR s3 23 (iN s0)) (fun _ => false) (fun _ _ => 0) := by
    refine ⟨fun b w _ _ hx => (by cases hx), fun b hb => ?_, ?_⟩
    · show s3.2.2.1 26 b = 0
      rw [hs3, sF_arr_ne (by omega), hs2]
      show (sF _ 26 g26).2.2.1 26 b = 0
      rw [sF_arr]; exact b2 b hb
    · rw [sR_ne (by omega), hs3]
      show s2.1 22 = _
      rw [hs2, sR_ne (by omega), sR_self, zCl_no]; rfl
  obtain ⟨s5, d1, d2, d3, kt', d4, d5⟩ := wp_C (c_ldLoop K N n sets hN hK t v.cur cs 1 s0 0 N (sR s3 23 (iN s0)) (fun _ => false) (fun _ _ => 0) g4 (by omega) (by omega) (by omega) (by omega) (by omega) g5 hu4 (sR_self _ _ _) hq4)
  obtain ⟨r1, r2, r3⟩ := zRep_eq (c := 28) (kt := fun _ => false) (kp := fun _ _ => 0) g4 g5 (Nat.le_refl _) (by omega) (by omega)
  have hkt' : kt' = (zRep v.cur 28 1 s0 (fun _ => false) (fun _ _ => 0)).2.1 := by
    funext b
    rw [Bool.eq_iff_iff, d4 b, r2 b]
  obtain ⟨l1, l2, l3, l4, l5, l6⟩ : (zLoad v).kt = kt' ∧ (zLoad v).kp = zov (fun _ _ => 0) (zPr v.cur 1 cs) ∧ (zLoad v).sq = s0 + cs.length ∧ (zLoad v).tv = v ∧ (zLoad v).ch = (fun _ => false) ∧ (zLoad v).jr = 1 := by
    unfold zLoad
    rw [hs0]
    exact ⟨hkt'.symm, r3, r1, rfl, rfl, rfl⟩
  -- what has stayed
  have hv5 : zCv s5 v := by
    have hv4 : zCv (sR s3 23 (iN s0)) v := by rw [hs3]; exact zCv_sR (zCv_sF hv2 (by omega)) (by omega)
    exact zCv_of hv4 (fun c _ _ => d3.1 c (by omega) (by omega)) (fun r _ _ => d3.2.1 r (by omega) (by omega)) d3.2.2.1
  have h25 : ∀ b, b < 106 → s5.2.2.1 25 b = 0 := by
    intro b hb
    rw [d3.1 25 (by omega) (by omega)]
    show s3.2.2.1 25 b = 0
    rw [hs3, sF_arr_ne (by omega), hs2]
    show (sF (sR (sF s 25 g25) 21 0) 26 g26).2.2.1 25 b = 0
    rw [sF_arr_ne (by omega)]
    show (sF s 25 g25).2.2.1 25 b = 0
    rw [sF_arr]; exact a2 b hb
  have r21 : s5.1 21 = 0 := by
    rw [d3.2.1 21 (by omega) (by omega), sR_ne (by omega), hs3]
    show s2.1 21 = 0
    rw [hs2, sR_ne (by omega), sR_ne (by omega)]
    show (sR (sF s 25 g25) 21 0).1 21 = 0
    exact sR_self _ _ _
  have r24 : s5.1 24 = 0 := by
    rw [d3.2.1 24 (by omega) (by omega), sR_ne (by omega), hs3]
    show s2.1 24 = 0
    rw [hs2]; exact sR_self _ _ _
  have hx5 : zHt s s5 := by
    refine ⟨fun c hc => ?_, fun r hr => ?_, fun r _ => ?_, ?_⟩
    · rw [d3.1 c (by omega) (by omega)]
      show s3.2.2.1 c = _
      rw [hs3, sF_arr_ne (by omega), hs2]
      show (sF (sR (sF s 25 g25) 21 0) 26 g26).2.2.1 c = _
      rw [sF_arr_ne (by omega)]
      exact sF_arr_ne (by omega)
    · rw [d3.2.1 r (by omega) (by omega), sR_ne (by omega), hs3]
      show s2.1 r = _
      rw [hs2, sR_ne (by omega), sR_ne (by omega)]
      exact sR_ne (by omega)
    · rw [d3.2.2.1, hs3, hs2]; rfl
    · rw [d3.2.2.2, hs3, hs2]; rfl
  obtain ⟨jj, hti⟩ := zloadTi hW hi (by omega)
  have hok := zload hW hi (by omega)
  have hup : (zLoad v).tv.p.up = true := by rw [l4]; exact hi.up
  obtain ⟨T, hT⟩ : ∃ T, T = zLoad v := ⟨_, rfl⟩
  rw [← hT] at l1 l2 l3 l4 l5 l6 hti hok hup ⊢
  have hz : ZSz T.tv.sets T.tv.ways T.tv.eps := by rw [l4]; exact hi.sz
  have hfh := zfr_home T hz
  have hh := c_home hW K N n sets hN hK t s5 T (by rw [l4]; exact hn) (by rw [l4]; exact hsets) (by rw [l4]; exact hv5) (by rw [l1]; exact d5.2.1) (by rw [l1, l2]; exact d5.1) (by rw [l1]; exact d5.2.2) (by rw [l3]; exact d2) hup hti (by rw [l4]; omega)
  unfold f_T_load_22
  refine wp_bv a1 (wp_bv b1 (wp_bv c1 (wp_bi w0 (wp_let (wp_lp (show l_T_load_22_16 K N N (1 : Int32) (0 : Int32) _ t = _ from d1) (wp_if rfl (wp_v0 ?_)))))))
  refine wp_cv hh (zHt_x hx5) (fun _ => rfl) (fun u hu2 hR => ?_)
  obtain ⟨q1, q2, q3, q4, q5⟩ := hR
  obtain ⟨hi2, hch⟩ : ZTi W T.home ∧ ∀ b, T.home.ch b = false := by
    rcases hok with ⟨_, hok⟩ | hok
    · exact hok
    · have := hok.up; rw [hu2] at this; cases this
  have hn2 : T.home.tv.p.na + 1 < 2147483648 := by
    have := hfh.n2
    rw [l4] at this
    omega
  obtain ⟨g, p1, p2⟩ := c_peekAll K N n sets hN hK t T.home.tv ((zFr_n hfh).trans (by rw [l4]; exact hn)) (hi2.iv.sx hn2) u q1
  refine wp_bv p1 (wp_rO hu2 ⟨⟨zCv_sF q1 (by omega), ?_⟩, zHt_trans hx5 (zHt_trans (zHh_t q5) (zHt_sF (by omega)))⟩)
  obtain ⟨e1, e2, e3, e4⟩ := home_same T
  have hkt0 : ∀ b, b < 106 → T.home.kt b = false := by
    intro b hb
    unfold ZTs.home
    split
    · rename_i hnil
      cases hk : T.kt b with
      | false => rfl
      | true =>
        have : b ∈ zCl T.kt := mem_zCl.mpr ⟨hb, hk⟩
        rw [hnil] at this; cases this
    · rfl
  refine ⟨fun b w hb1 hb2 hw => ?_, fun b w hb _ hx => ?_, fun b hb => ?_, fun b hb => ?_, ?_, ?_, ?_, ?_⟩
  · rw [sF_arr, p2 b w hb2 hw, hi2.wc b hb1 (hch b)]
    unfold zTc
    rw [hkt0 b hb2]; rfl
  · rw [hkt0 b hb] at hx; cases hx
  · rw [sF_arr_ne (by omega), q5.1 25 (by omega), h25 b hb, hch b]; rfl
  · rw [sF_arr_ne (by omega)]; exact q2 b hb
  · show u.1 21 = _
    rw [q5.2.1 21 (by omega), r21, e1, l5, zCl_no]; rfl
  · exact q3
  · show u.1 23 = _
    rw [q5.2.1 23 (by omega), d2, e3, l3]
  · show u.1 24 = _
    rcases q4 with ⟨x1, x2⟩ | ⟨x1, x2⟩
    · rw [x2, r24, x1, l6]; rfl
    · rw [x2, x1]; rfl
