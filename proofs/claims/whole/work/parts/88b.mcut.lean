/-! CUT (the reference) -/
/-- the words of a block from one on are cleared -/
def xZero (T : ZTs) (b m : Nat) : ZTs := ZTs.mk T.tv (fun c v => if c = b ∧ m ≤ v ∧ v < 16 then 0 else T.wd c v) T.kp (zu T.ch b true) T.kt T.sq T.jr
theorem m_cut58 (K : px_K) (N : Nat) (hK : zKm K) (t : px_W) (u1 u2 : Int32) (b : Nat) (hb : b < 106) : ∀ (d m n : Nat) (s : px_S) (T : ZTs), m + d = 16 → d < n → zRt s T → wp (l_M_cut_28_58 K N n u1 u2 (iN b) (iN m) s t) (zC 68 [] t (fun s' => (∃ T' : ZTs, zRt s' T' ∧ T'.tv = T.tv ∧ T'.kp = T.kp ∧ T'.kt = T.kt ∧ T'.sq = T.sq ∧ T'.jr = T.jr ∧ T'.wd = (fun c v => if c = b ∧ m ≤ v ∧ v < 16 then 0 else T.wd c v) ∧ (T'.ch = if m < 16 then zu T.ch b true else T.ch)) ∧ zFt s s')) := by
  intro d
  induction d with
  | zero =>
    intro m n s T hm hn h
    obtain ⟨n, rfl⟩ : ∃ n', n = n' + 1 := ⟨n - 1, by omega⟩
    have hm : m = 16 := by omega
    subst hm
    unfold l_M_cut_28_58
    refine wp_if (by decide) (wp_rC ⟨⟨T, h, rfl, rfl, rfl, rfl, rfl, ?_, by rw [if_neg (by omega)]⟩, zFt_refl s⟩)
    funext c v; rw [if_neg (by omega)]
  | succ d ih =>
    intro m n s T hm hn h
    obtain ⟨n, rfl⟩ : ∃ n', n = n' + 1 := ⟨n - 1, by omega⟩
    have e3 : iN m + (1 : Int32) = iN (m + 1) := by rw [iL1, iN_add]
    unfold l_M_cut_28_58
    rw [e3]
    refine wp_ifn (by rw [iL16, iN_le (by omega) (by omega)]; omega) ?_
    obtain ⟨s1, a1, a2, a3⟩ := m_tell K N hK t s T h b m 0 hb (by omega)
    refine wp_bv a1 (wp_imp (ih (m + 1) n s1 _ (by omega) (by omega) a2) ?_)
    rintro r ⟨s', r1, ⟨T', q1, q2, q3, q4, q5, q6, q7, q8⟩, r3⟩
    refine ⟨s', r1, ⟨T', q1, q2, q3, q4, q5, q6, ?_, ?_⟩, zFt_trans a3 r3⟩
    · rw [q7]
      funext c v
      show (if c = b ∧ m + 1 ≤ v ∧ v < 16 then 0 else zt T.wd b m 0 c v) = _
      by_cases hcv : c = b ∧ v = m
      · rw [hcv.1, hcv.2, if_neg (by omega), if_pos (by omega), zt_self]
      · rw [zt_ne (by omega)]
        by_cases hle : c = b ∧ m ≤ v ∧ v < 16
        · rw [if_pos (by omega), if_pos hle]
        · rw [if_neg (by omega), if_neg hle]
    · rw [q8, if_pos (c := m < 16) (by omega)]
      show (if m + 1 < 16 then zu (zu T.ch b true) b true else zu T.ch b true) = _
      rw [zu_zu]
      split <;> rfl
theorem m_zero (K : px_K) (N : Nat) (hN : 2000 ≤ N) (hK : zKm K) (t : px_W) (u1 u2 : Int32) (b m : Nat) (hb : b < 106) (hm : m < 16) (s : px_S) (T : ZTs) (h : zRt s T) : ∃ s', l_M_cut_28_58 K N N u1 u2 (iN b) (iN m) s t = some (.inl (68, [], s', t)) ∧ zRt s' (xZero T b m) ∧ zFt s s' := by
  obtain ⟨s', r1, ⟨T', q1, q2, q3, q4, q5, q6, q7, q8⟩, r3⟩ := wp_C (m_cut58 K N hK t u1 u2 b hb (16 - m) m N s T (by omega) (by omega) h)
  refine ⟨s', r1, ?_, r3⟩
  have eT : T' = xZero T b m := by
    have e : T' = ZTs.mk T'.tv T'.wd T'.kp T'.ch T'.kt T'.sq T'.jr := rfl
    rw [e, q2, q3, q4, q5, q6, q7, q8, if_pos (by omega)]
    rfl
  rw [← eT]; exact q1
/-- a block of a file goes -/
def xDrop (T : ZTs) (i k : Nat) : ZTs := if k < 4 then xI (xGive T (tB T.wd i k)) i (2 + k) 0 else xT (xGive T (tB T.wd i k)) (tF T.wd i) (k - 4) 0
def xCutL (i n : Nat) : Nat → Nat → ZTs → ZTs
  | 0, _, T => T
  | c + 1, k, T => xCutL i n c (k + 1) (if tB T.wd i k = 0 ∨ 16 * k < n then T else xDrop T i k)
/-- what one block's going leaves -/
theorem zdrop_ok {T : ZTs} (hw : ZW T.wd) {i k : Nat} (hi : i < 24) (hki : tI T.wd i 0 = 2) (hk : k < 20) (h0 : tB T.wd i k ≠ 0) : ZW (xDrop T i k).wd ∧ (∀ j w, j < 24 → w < 2 → tI (xDrop T i k).wd j w = tI T.wd j w) ∧ tF (xDrop T i k).wd i = tF T.wd i ∧ (∀ l, l < 20 → tB (xDrop T i k).wd i l = if l = k then 0 else tB T.wd i l) ∧ (∀ c, 42 ≤ c → c ≠ tF T.wd i → (xDrop T i k).wd c = T.wd c) ∧ ∃ f, (f = 30 + i / 2 ∨ f = tF T.wd i) ∧ zStep [29, 30 + i / 2, f] T (xDrop T i k) := by
  have hr := (hw.a.pv i k hi (by omega)).2
  have hfr := (hw.a.pv i 20 hi (by omega)).2
  rw [← tF_eq] at hfr
  obtain ⟨q, hq⟩ : ∃ q, tB T.wd i k = 42 + q := ⟨tB T.wd i k - 42, by omega⟩
  have hk0 : tI T.wd i 0 ≠ 0 := by rw [hki]; decide
  have hD : tI T.wd i 0 = 1 → tS T.wd i ≤ 8 * k := fun hx => by rw [hki] at hx; exact absurd hx (by decide)
  have eq' : tB T.wd i k - 42 = q := by omega
  by_cases hk4 : k < 4
  · -- the pointer first, then the block
    have hP : ZW (zt T.wd (30 + i / 2) (8 * (i % 2) + (2 + k)) (iN 0)) := by
      have := hw.ptrI (b := 0) hi (Or.inl hk4) hk0 (Or.inl rfl) (fun hx => absurd rfl hx) hD (fun hx => by omega)
      rw [if_neg (by omega)] at this; exact this
    obtain ⟨U, hU⟩ : ∃ U, U = zt T.wd (30 + i / 2) (8 * (i % 2) + (2 + k)) (iN 0) := ⟨_, rfl⟩
    rw [← hU] at hP
    have hIU : ∀ j v, v < 8 → tI U j v = if j = i ∧ v = 2 + k then iN 0 else tI T.wd j v := fun j v hv => by rw [hU]; exact tI_zt (by omega) hv
    have hPU : ∀ j l, j < 24 → l ≤ 20 → ¬ (j = i ∧ l = k) → tP U j l = tP T.wd j l := by
      intro j l hj hl hne
      have hfj := (hw.a.pv j 20 hj (by omega)).2
      rw [← tF_eq] at hfj
      rw [hU]
      exact tP_zt hi (by omega) hj hl (by omega) (fun hx => by omega) (by omega)
    have hPk : tP U i k = iN 0 := by unfold tP; rw [if_pos hk4, hIU i (2 + k) (by omega), if_pos ⟨rfl, rfl⟩]
    have hBk : tB U i k = 0 := by unfold tB; rw [hPk]; rfl
    have hno : ∀ j l, j < 24 → l ≤ 20 → tB U j l ≠ 42 + q := by
      intro j l hj hl hx
      by_cases hjl : j = i ∧ l = k
      · rw [hjl.1, hjl.2, hBk] at hx; omega
      · have e : tB U j l = tB T.wd j l := by unfold tB; rw [hPU j l hj hl hjl]
        rw [e, ← hq] at hx
        exact hjl (hw.a.pd j l i k hj hl hi (by omega) (by omega) hx)
    have hG := hP.give hno
    have eX : (xDrop T i k).wd = zt U 29 (q / 32) (zclr (U 29 (q / 32)) (q % 32)) := by
      unfold xDrop
      rw [if_pos hk4]
      show zt (zt T.wd 29 ((tB T.wd i k - 42) / 32) (zclr (T.wd 29 ((tB T.wd i k - 42) / 32)) ((tB T.wd i k - 42) % 32))) (30 + i / 2) (8 * (i % 2) + (2 + k)) 0 = _
      rw [eq', zt_comm (by omega)]
      have e29 : U 29 (q / 32) = T.wd 29 (q / 32) := by rw [hU, zt_blk (by omega)]
      rw [e29, hU]; rfl
    have hout : ∀ c, c ≠ 29 → (xDrop T i k).wd c = U c := fun c hc => by rw [eX]; exact zt_blk hc
    obtain ⟨v1, v2⟩ := zPv_29 hout hP.a.pv
    have hI2 : ∀ j w, j < 24 → tI (xDrop T i k).wd j w = tI U j w := fun j w hj => tI_out (fun c c1 c2 => hout c (by omega)) hj
    refine ⟨by rw [eX]; exact hG, fun j w hj hw2 => ?_, ?_, fun l hl => ?_, fun c hc hcf => ?_, 30 + i / 2, Or.inl rfl, ?_⟩
    · rw [hI2 j w hj, hIU j w (by omega), if_neg (by omega)]
    · show n32 (tI (xDrop T i k).wd i 6) = n32 (tI T.wd i 6)
      rw [hI2 i 6 hi, hIU i 6 (by omega), if_neg (by omega)]
    · rw [v2 i l hi (by omega)]
      by_cases hlk : l = k
      · rw [if_pos hlk, hlk, hBk]
      · rw [if_neg hlk]; unfold tB; rw [hPU i l hi (by omega) (fun hx => hlk hx.2)]
    · rw [hout c (by omega), hU, zt_blk (by omega)]
    · have e : xDrop T i k = xI (xGive T (tB T.wd i k)) i (2 + k) 0 := by unfold xDrop; rw [if_pos hk4]
      rw [e]
      exact zStep_mono (zStep_trans zStep_give (zStep_I hi)) (fun c hc => by simp only [List.mem_append, List.mem_cons, List.not_mem_nil, or_false] at hc ⊢; omega) (fun c hc => by simp only [List.mem_cons, List.not_mem_nil, or_false] at hc; omega)
  · have hF0 : tF T.wd i ≠ 0 := by
      intro hx
      apply h0
      unfold tB tP
      rw [if_neg hk4, if_neg (by omega), if_pos hx]; rfl
    have hP : ZW (zt T.wd (tF T.wd i) (k - 4) (iN 0)) := hw.ptrF (b := 0) hi (by omega) hk hk0 hF0 (Or.inl rfl) (fun hx => absurd rfl hx) hD
    obtain ⟨U, hU⟩ : ∃ U, U = zt T.wd (tF T.wd i) (k - 4) (iN 0) := ⟨_, rfl⟩
    rw [← hU] at hP
    have hIU : ∀ j v, j < 24 → tI U j v = tI T.wd j v := fun j v hj => by rw [hU]; exact tI_out (fun c c1 c2 => zt_blk (by omega)) hj
    have hFU : ∀ j, j < 24 → tF U j = tF T.wd j := fun j hj => by unfold tF; rw [hIU j 6 hj]
    have hPU : ∀ j l, j < 24 → l ≤ 20 → ¬ (j = i ∧ l = k) → tP U j l = tP T.wd j l := by
      intro j l hj hl hne
      rw [hU]
      refine tP_out hj hl (fun c c1 c2 => zt_blk (by omega)) (fun hne0 h4 h20 => ?_)
      by_cases hji : j = i
      · rw [hji]; exact zt_wrd (by omega)
      · rw [zt_blk]
        intro hx
        rw [tF_eq, tF_eq] at hx
        have := hw.a.pd j 20 i 20 hj (by omega) hi (by omega) (by rw [← tF_eq]; exact hne0) hx
        exact hji this.1
    have hPk : tP U i k = iN 0 := by
      unfold tP
      rw [if_neg hk4, if_neg (by omega), hFU i hi, if_neg hF0, hU, zt_self]
    have hBk : tB U i k = 0 := by unfold tB; rw [hPk]; rfl
    have hno : ∀ j l, j < 24 → l ≤ 20 → tB U j l ≠ 42 + q := by
      intro j l hj hl hx
      by_cases hjl : j = i ∧ l = k
      · rw [hjl.1, hjl.2, hBk] at hx; omega
      · have e : tB U j l = tB T.wd j l := by unfold tB; rw [hPU j l hj hl hjl]
        rw [e, ← hq] at hx
        exact hjl (hw.a.pd j l i k hj hl hi (by omega) (by omega) hx)
    have hG := hP.give hno
    have eX : (xDrop T i k).wd = zt U 29 (q / 32) (zclr (U 29 (q / 32)) (q % 32)) := by
      unfold xDrop
      rw [if_neg hk4]
      show zt (zt T.wd 29 ((tB T.wd i k - 42) / 32) (zclr (T.wd 29 ((tB T.wd i k - 42) / 32)) ((tB T.wd i k - 42) % 32))) (tF T.wd i) (k - 4) 0 = _
      rw [eq', zt_comm (by omega)]
      have e29 : U 29 (q / 32) = T.wd 29 (q / 32) := by rw [hU, zt_blk (by omega)]
      rw [e29, hU]; rfl
    have hout : ∀ c, c ≠ 29 → (xDrop T i k).wd c = U c := fun c hc => by rw [eX]; exact zt_blk hc
    obtain ⟨v1, v2⟩ := zPv_29 hout hP.a.pv
    have hI2 : ∀ j w, j < 24 → tI (xDrop T i k).wd j w = tI U j w := fun j w hj => tI_out (fun c c1 c2 => hout c (by omega)) hj
    refine ⟨by rw [eX]; exact hG, fun j w hj hw2 => ?_, ?_, fun l hl => ?_, fun c hc hcf => ?_, tF T.wd i, Or.inr rfl, ?_⟩
    · rw [hI2 j w hj, hIU j w hj]
    · show n32 (tI (xDrop T i k).wd i 6) = n32 (tI T.wd i 6)
      rw [hI2 i 6 hi, hIU i 6 hi]
    · rw [v2 i l hi (by omega)]
      by_cases hlk : l = k
      · rw [if_pos hlk, hlk, hBk]
      · rw [if_neg hlk]; unfold tB; rw [hPU i l hi (by omega) (fun hx => hlk hx.2)]
    · rw [hout c (by omega), hU, zt_blk hcf]
    · have e : xDrop T i k = xT (xGive T (tB T.wd i k)) (tF T.wd i) (k - 4) 0 := by unfold xDrop; rw [if_neg hk4]
      rw [e]
      exact zStep_mono (zStep_trans zStep_give (zStep_T (by omega) (by omega))) (fun c hc => by simp only [List.mem_append, List.mem_cons, List.not_mem_nil, or_false] at hc ⊢; omega) (fun c hc => by simp only [List.mem_cons, List.not_mem_nil, or_false] at hc; omega)
/-- whether a far block stays -/
def zAny (W : ZSt) (i n : Nat) : Nat → Nat → Bool
  | 0, _ => false
  | c + 1, k => (decide (4 ≤ k) && (!decide (tB W i k = 0) && decide (16 * k < n))) || zAny W i n c (k + 1)
theorem zAny_congr {W U : ZSt} {i n : Nat} : ∀ {c k : Nat}, (∀ l, k ≤ l → l < k + c → tB U i l = tB W i l) → zAny U i n c k = zAny W i n c k := by
  intro c
  induction c with
  | zero => intro k _; rfl
  | succ c ih =>
    intro k h
    unfold zAny
    rw [h k (Nat.le_refl _) (by omega), ih (fun l l1 l2 => h l (by omega) (by omega))]
/-- what is true of a cut file's tree, block by block -/
theorem m_cut77 (K : px_K) (N : Nat) (hN : 2000 ≤ N) (hK : zKm K) (t : px_W) (i n0 : Nat) (hi : i < 24) (hn0 : n0 ≤ 320) : ∀ (c k n : Nat) (any : Bool) (s : px_S) (T : ZTs), k + c = 20 → c < n → zRt s T → ZW T.wd → tI T.wd i 0 = 2 → wp (l_M_cut_28_77 K N n (iN i) (iN n0) (iN (tF T.wd i)) (bN any) (iN k) s t) (zC 126 [bN (any || zAny T.wd i n0 c k)] t (fun s' => zRt s' (xCutL i n0 c k T) ∧ zFt s s')) := by
  have h4 : (4 : Int32) = iN 4 := rfl
  intro c
  induction c with
  | zero =>
    intro k n any s T hk hn h hw hki
    obtain ⟨n, rfl⟩ : ∃ n', n = n' + 1 := ⟨n - 1, by omega⟩
    have hk : k = 20 := by omega
    subst hk
    unfold l_M_cut_28_77
    rw [show (any || zAny T.wd i n0 0 20) = any from Bool.or_false _]
    exact wp_if (by decide) (wp_rC ⟨h, zFt_refl s⟩)
  | succ c ih =>
    intro k n any s T hk hn h hw hki
    obtain ⟨n, rfl⟩ : ∃ n', n = n' + 1 := ⟨n - 1, by omega⟩
    have e3 : iN k + (1 : Int32) = iN (k + 1) := by rw [iL1, iN_add]
    have e16 : (16 : Int32) * iN k = iN (16 * k) := by rw [iL16, iN_mul]
    have h20 : ¬ (20 : Int32) ≤ iN k := by
      have : (20 : Int32) = iN 20 := rfl
      rw [this, iN_le (by omega) (by omega)]; omega
    have hws : zWs s T.wd := h.2.1
    have hr := (hw.a.pv i k hi (by omega)).2
    have hfr := (hw.a.pv i 20 hi (by omega)).2
    rw [← tF_eq] at hfr
    unfold l_M_cut_28_77
    rw [e3, e16]
    refine wp_ifn h20 (wp_bi (m_blockOf K N hK t hws hw.a i k hi (by omega)) ?_)
    have hany : zAny T.wd i n0 (c + 1) k = ((decide (4 ≤ k) && (!decide (tB T.wd i k = 0) && decide (16 * k < n0))) || zAny T.wd i n0 c (k + 1)) := rfl
    have hcl : xCutL i n0 (c + 1) k T = xCutL i n0 c (k + 1) (if tB T.wd i k = 0 ∨ 16 * k < n0 then T else xDrop T i k) := rfl
    rw [hany, hcl]
    by_cases h0 : tB T.wd i k = 0
    · rw [if_pos (c := tB T.wd i k = 0 ∨ 16 * k < n0) (Or.inl h0), decide_eq_true h0, Bool.not_true, Bool.false_and, Bool.and_false, Bool.false_or]
      exact wp_ifn (fun hx => hx (by rw [h0]; rfl)) (ih (k + 1) n any s T (by omega) (by omega) h hw hki)
    · refine wp_if (by rw [iL0, iN_eq (by omega) (by omega)]; exact h0) ?_
      by_cases hlt : 16 * k < n0
      · rw [if_pos (c := tB T.wd i k = 0 ∨ 16 * k < n0) (Or.inr hlt), decide_eq_false h0, decide_eq_true hlt, Bool.not_false, Bool.true_and, Bool.and_true]
        refine wp_ifn (by rw [iN_le (by omega) (by omega)]; omega) (wp_let ?_)
        have ea : (if ¬ bN any = 0 then (1 : Int32) else (if iN k < (4 : Int32) then (0 : Int32) else (1 : Int32))) = bN (any || decide (4 ≤ k)) := by
          cases any
          · rw [if_neg (fun hx => hx rfl), Bool.false_or]
            by_cases hk4 : 4 ≤ k
            · rw [if_neg (by rw [h4, iN_lt (by omega) (by omega)]; omega), decide_eq_true hk4]; rfl
            · rw [if_pos (by rw [h4, iN_lt (by omega) (by omega)]; omega), decide_eq_false hk4]; rfl
          · rw [if_pos (by decide), Bool.true_or]; rfl
        rw [ea, ← Bool.or_assoc]
        exact ih (k + 1) n (any || decide (4 ≤ k)) s T (by omega) (by omega) h hw hki
      · rw [if_neg (c := tB T.wd i k = 0 ∨ 16 * k < n0) (fun hx => hx.elim h0 hlt), decide_eq_false hlt, Bool.and_false, Bool.and_false, Bool.false_or]
        refine wp_if (by rw [iN_le (by omega) (by omega)]; omega) ?_
        obtain ⟨z1, z2, z3, z4, z5, _⟩ := zdrop_ok hw hi hki (show k < 20 by omega) h0
        obtain ⟨s1, a1, a2, a3⟩ := m_giveBack K N hK t s T h (tB T.wd i k) (by omega) (by omega)
        refine wp_bv a1 ?_
        have cont : ∀ s2, zRt s2 (xDrop T i k) → zFt s s2 → wp (l_M_cut_28_77 K N n (iN i) (iN n0) (iN (tF T.wd i)) (bN any) (iN (k + 1)) s2 t) (zC 126 [bN (any || zAny T.wd i n0 c (k + 1))] t (fun s' => zRt s' (xCutL i n0 c (k + 1) (xDrop T i k)) ∧ zFt s s')) := by
          intro s2 h2 f2
          have := ih (k + 1) n any s2 (xDrop T i k) (by omega) (by omega) h2 z1 (by rw [z2 i 0 hi (by omega)]; exact hki)
          rw [z3, zAny_congr (W := T.wd) (fun l l1 l2 => by rw [z4 l (by omega), if_neg (by omega)])] at this
          refine wp_imp this ?_
          rintro r ⟨s', r1, r2, r3⟩
          exact ⟨s', r1, r2, zFt_trans f2 r3⟩
        by_cases hk4 : 4 ≤ k
        · have hF0 : tF T.wd i ≠ 0 := by
            intro hx
            apply h0
            unfold tB tP
            rw [if_neg (by omega), if_neg (by omega), if_pos hx]; rfl
          have e4 : iN k - (4 : Int32) = iN (k - 4) := by rw [h4, iN_sub hk4]
          rw [e4]
          refine wp_if (by rw [h4]; exact (iN_le (by omega) (by omega)).mpr hk4) ?_
          obtain ⟨s2, b1, b2, b3⟩ := m_tell K N hK t s1 _ a2 (tF T.wd i) (k - 4) 0 (by omega) (by omega)
          refine wp_bv b1 (cont s2 ?_ (zFt_trans a3 b3))
          unfold xDrop; rw [if_neg (by omega)]; exact b2
        · have e2 : (2 : Int32) + iN k = iN (2 + k) := by rw [iL2, iN_add]
          rw [e2]
          refine wp_ifn (by rw [h4, iN_le (by omega) (by omega)]; exact hk4) ?_
          obtain ⟨s2, b1, b2, b3⟩ := m_tellInode K N hK t s1 _ a2 i (2 + k) 0 hi (by omega)
          refine wp_bv b1 (cont s2 ?_ (zFt_trans a3 b3))
          unfold xDrop; rw [if_pos (by omega)]; exact b2
/-- all of a cut but the clearing of the last block's words -/
def xCut2 (T : ZTs) (i n : Nat) : ZTs := xI (if tF T.wd i = 0 ∨ zAny T.wd i n 20 0 = true then xCutL i n 20 0 T else xI (xGive (xCutL i n 20 0 T) (tF T.wd i)) i 6 0) i 1 (iN n)
theorem m_cuttail (K : px_K) (N : Nat) (hN : 2000 ≤ N) (hK : zKm K) (t30 : px_W) (s29 : px_S) (T : ZTs) (h : zRt s29 T) (hw : ZW T.wd) (i n0 : Nat) (hi : i < 24) (hki : tI T.wd i 0 = 2) (hn0 : n0 ≤ 320) (a0 a1 : Int32) (ha0 : a0 = iN i) (ha1 : a1 = iN n0) : wp (px_bi (f_M_ofInode_28 K N a0 (6 : Int32) s29 t30) (fun v38 s35 t36 => (px_lp (l_M_cut_28_77 K N N a0 a1 v38 (0 : Int32) (0 : Int32) s35 t36) (fun i40 vs41 s42 t43 => (if i40 = 126 then (px_v1 vs41 (fun y46 => (if v38 ≤ 0 then (px_bv (f_M_tellInode_28 K N a0 (1 : Int32) a1 s42 t43) (fun s49 t50 => (some (.inl (some (.int (0 : Int32))), s49, t50))) (fun x53 s49 t50 => none)) else (if ¬ y46 = 0 then (px_bv (f_M_tellInode_28 K N a0 (1 : Int32) a1 s42 t43) (fun s55 t56 => (some (.inl (some (.int (0 : Int32))), s55, t56))) (fun x59 s55 t56 => none)) else (px_bv (f_M_giveBack_28 K N v38 s42 t43) (fun s60 t61 => (px_bv (f_M_tellInode_28 K N a0 (6 : Int32) (0 : Int32) s60 t61) (fun s65 t66 => (px_bv (f_M_tellInode_28 K N a0 (1 : Int32) a1 s65 t66) (fun s70 t71 => (some (.inl (some (.int (0 : Int32))), s70, t71))) (fun x74 s70 t71 => none))) (fun x69 s65 t66 => none))) (fun x64 s60 t61 => none)))))) else none)) (fun z45 => some z45))) (fun x39 s35 t36 => none)) (zA 0 t30 (fun s' => zRt s' (xCut2 T i n0) ∧ zFt s29 s')) := by
  subst ha0 ha1
  have hws : zWs s29 T.wd := h.2.1
  have hr : f_M_ofInode_28 K N (iN i) (6 : Int32) s29 t30 = _ := m_ofInode K N hK t30 hws i 6 hi (by omega)
  obtain ⟨f1, f2⟩ := hw.a.pv i 20 hi (by omega)
  have f1 : tI T.wd i 6 = iN (tF T.wd i) := by rw [tF_eq]; exact f1
  rw [← tF_eq] at f2
  rw [f1] at hr
  refine wp_bi hr ?_
  obtain ⟨s1, a1, a2, a3⟩ := wp_C (m_cut77 K N hN hK t30 i n0 hi hn0 20 0 N false s29 T (by omega) (by omega) h hw hki)
  rw [Bool.false_or] at a1
  refine wp_lp a1 (wp_if rfl (wp_v1 ?_))
  have fin : ∀ (u : px_S) (U : ZTs), zRt u U → zFt s29 u → xCut2 T i n0 = xI U i 1 (iN n0) → ∃ s', f_M_tellInode_28 K N (iN i) (1 : Int32) (iN n0) u t30 = some (.inl none, s', t30) ∧ (zRt s' (xCut2 T i n0) ∧ zFt s29 s') := by
    intro u U hu fu he
    obtain ⟨s2, b1, b2, b3⟩ := m_tellInode K N hK t30 u U hu i 1 (iN n0) hi (by omega)
    rw [he]
    exact ⟨s2, b1, b2, zFt_trans fu b3⟩
  by_cases hf0 : tF T.wd i = 0
  · obtain ⟨s2, b1, b2⟩ := fin s1 _ a2 a3 (by unfold xCut2; rw [if_pos (Or.inl hf0)])
    exact wp_if (by rw [hf0]; decide) (wp_bv b1 (wp_rA b2))
  · refine wp_ifn (by rw [iL0, iN_le (by omega) (by omega)]; omega) ?_
    by_cases hany : zAny T.wd i n0 20 0 = true
    · rw [hany]
      obtain ⟨s2, b1, b2⟩ := fin s1 _ a2 a3 (by unfold xCut2; rw [if_pos (Or.inr hany)])
      exact wp_if (by decide) (wp_bv b1 (wp_rA b2))
    · have hany' : zAny T.wd i n0 20 0 = false := by cases hh : zAny T.wd i n0 20 0 with
        | false => rfl
        | true => exact absurd hh hany
      rw [hany']
      refine wp_ifn (fun hx => hx rfl) ?_
      obtain ⟨s2, b1, b2, b3⟩ := m_giveBack K N hK t30 s1 _ a2 (tF T.wd i) (by omega) (by omega)
      refine wp_bv b1 ?_
      obtain ⟨s3, c1, c2, c3⟩ := m_tellInode K N hK t30 s2 _ b2 i 6 0 hi (by omega)
      refine wp_bv c1 ?_
      obtain ⟨s4, d1, d2⟩ := fin s3 _ c2 (zFt_trans a3 (zFt_trans b3 c3)) (by unfold xCut2; rw [if_neg (fun hx => hx.elim hf0 hany)])
      exact wp_bv d1 (wp_rA d2)
theorem xI_tv (T : ZTs) (i w : Nat) (x : Int32) : (xI T i w x).tv = T.tv := rfl
theorem xGive_tv (T : ZTs) (b : Nat) : (xGive T b).tv = T.tv := rfl
theorem xDrop_tv (T : ZTs) (i k : Nat) : (xDrop T i k).tv = T.tv := by unfold xDrop; split <;> rfl
theorem xCutL_tv (i n : Nat) : ∀ (c k : Nat) (V : ZTs), (xCutL i n c k V).tv = V.tv := by
  intro c
  induction c with
  | zero => intro k V; rfl
  | succ c ih =>
    intro k V
    have e : xCutL i n (c + 1) k V = xCutL i n c (k + 1) (if tB V.wd i k = 0 ∨ 16 * k < n then V else xDrop V i k) := rfl
    rw [e, ih]
    split
    · rfl
    · exact xDrop_tv V i k
theorem xCut2_tv (T : ZTs) (i n : Nat) : (xCut2 T i n).tv = T.tv := by
  unfold xCut2
  rw [xI_tv]
  split
  · exact xCutL_tv i n 20 0 T
  · rw [xI_tv, xGive_tv]; exact xCutL_tv i n 20 0 T
theorem zcutL_ok (i n : Nat) (hi : i < 24) : ∀ (c k : Nat) (T : ZTs), k + c = 20 → ZW T.wd → tI T.wd i 0 = 2 → ZW (xCutL i n c k T).wd ∧ (∀ j w, j < 24 → w < 2 → tI (xCutL i n c k T).wd j w = tI T.wd j w) ∧ tF (xCutL i n c k T).wd i = tF T.wd i ∧ (∀ l, l < 20 → tB (xCutL i n c k T).wd i l = if k ≤ l ∧ ¬ 16 * l < n then 0 else tB T.wd i l) ∧ (∀ b, 42 ≤ b → b ≠ tF T.wd i → (xCutL i n c k T).wd b = T.wd b) ∧ zStep [29, 30 + i / 2, if tF T.wd i = 0 then 29 else tF T.wd i] T (xCutL i n c k T) := by
  intro c
  induction c with
  | zero =>
    intro k T hk hw hki
    have hfr := (hw.a.pv i 20 hi (by omega)).2
    rw [← tF_eq] at hfr
    refine ⟨hw, fun _ _ _ _ => rfl, rfl, fun l hl => by rw [if_neg (by omega)]; rfl, fun _ _ _ => rfl, zStep_mono (zStep_refl T) (fun b hb => (by cases hb)) (fun b hb => ?_)⟩
    simp only [List.mem_cons, List.not_mem_nil, or_false] at hb
    split at hb <;> omega
  | succ c ih =>
    intro k T hk hw hki
    have hfr := (hw.a.pv i 20 hi (by omega)).2
    rw [← tF_eq] at hfr
    have hcl : xCutL i n (c + 1) k T = xCutL i n c (k + 1) (if tB T.wd i k = 0 ∨ 16 * k < n then T else xDrop T i k) := rfl
    rw [hcl]
    by_cases h0 : tB T.wd i k = 0 ∨ 16 * k < n
    · rw [if_pos h0]
      obtain ⟨a1, a2, a3, a4, a5, a6⟩ := ih (k + 1) T (by omega) hw hki
      refine ⟨a1, a2, a3, fun l hl => ?_, a5, a6⟩
      rw [a4 l hl]
      by_cases hlk : l = k
      · rw [hlk, if_neg (by omega)]
        by_cases h16 : 16 * k < n
        · rw [if_neg (by omega)]
        · rw [if_pos ⟨Nat.le_refl _, h16⟩]
          rcases h0 with h0 | h0
          · exact h0
          · exact absurd h0 h16
      · by_cases hc : k ≤ l ∧ ¬ 16 * l < n
        · rw [if_pos (by omega), if_pos hc]
        · rw [if_neg (by omega), if_neg hc]
    · rw [if_neg h0]
      have hb0 : tB T.wd i k ≠ 0 := fun hx => h0 (Or.inl hx)
      have h16 : ¬ 16 * k < n := fun hx => h0 (Or.inr hx)
      obtain ⟨z1, z2, z3, z4, z5, f, zf, z6⟩ := zdrop_ok hw hi hki (show k < 20 by omega) hb0
      obtain ⟨a1, a2, a3, a4, a5, a6⟩ := ih (k + 1) (xDrop T i k) (by omega) z1 (by rw [z2 i 0 hi (by omega)]; exact hki)
      rw [z3] at a5 a6
      refine ⟨a1, fun j w hj hw2 => (a2 j w hj hw2).trans (z2 j w hj hw2), a3.trans z3, fun l hl => ?_, fun b hb hbf => (a5 b hb hbf).trans (z5 b hb hbf), ?_⟩
      · rw [a4 l hl, z4 l hl]
        by_cases hlk : l = k
        · rw [if_pos hlk, hlk, if_pos (c := k ≤ k ∧ ¬ 16 * k < n) ⟨Nat.le_refl _, h16⟩]
          split <;> rfl
        · rw [if_neg hlk]
          by_cases hc : k ≤ l ∧ ¬ 16 * l < n
          · rw [if_pos (by omega), if_pos hc]
          · rw [if_neg (by omega), if_neg hc]
      · have hf29 := z6.2.2.2.2.2.2.2 f (by simp)
        refine zStep_mono (zStep_trans z6 a6) (fun b hb => ?_) a6.2.2.2.2.2.2.2
        simp only [List.mem_append, List.mem_cons, List.not_mem_nil, or_false] at hb ⊢
        rcases zf with zf | zf
        · omega
        · rw [zf] at hf29 hb
          rw [if_neg (by omega)] at hb ⊢
          omega
theorem zAny_false {W : ZSt} {i n : Nat} : ∀ {c k : Nat}, zAny W i n c k = false → ∀ l, k ≤ l → l < k + c → 4 ≤ l → 16 * l < n → tB W i l = 0 := by
  intro c
  induction c with
  | zero => intro k _ l l1 l2; omega
  | succ c ih =>
    intro k h l l1 l2 l3 l4
    unfold zAny at h
    rw [Bool.or_eq_false_iff] at h
    by_cases hlk : l = k
    · have h1 := h.1
      rw [← hlk, decide_eq_true l3, decide_eq_true l4, Bool.true_and, Bool.and_true] at h1
      by_cases h0 : tB W i l = 0
      · exact h0
      · rw [decide_eq_false h0] at h1; cases h1
    · exact ih h.2 l (by omega) (by omega) l3 l4
/-- a cut file's tree is in order -/
theorem zcut2_ok {T : ZTs} (hw : ZW T.wd) {i n : Nat} (hi : i < 24) (hki : tI T.wd i 0 = 2) (hn : n ≤ 320) (hz : n % 16 ≠ 0 → ∀ w, n % 16 ≤ w → w < 16 → tB T.wd i (n / 16) ≠ 0 → T.wd (tB T.wd i (n / 16)) w = 0) : ZW (xCut2 T i n).wd ∧ zStep [29, 30 + i / 2, if tF T.wd i = 0 then 29 else tF T.wd i] T (xCut2 T i n) := by
  obtain ⟨a1, a2, a3, a4, a5, a6⟩ := zcutL_ok i n hi 20 0 T (by omega) hw hki
  have hfr := (hw.a.pv i 20 hi (by omega)).2
  rw [← tF_eq] at hfr
  obtain ⟨U, hU⟩ : ∃ U, U = xCutL i n 20 0 T := ⟨_, rfl⟩
  rw [← hU] at a1 a2 a3 a4 a5 a6
  have a4 : ∀ l, l < 20 → tB U.wd i l = if 16 * l < n then tB T.wd i l else 0 := by
    intro l hl
    rw [a4 l hl]
    by_cases h16 : 16 * l < n
    · rw [if_neg (by omega), if_pos h16]
    · rw [if_pos ⟨Nat.zero_le _, h16⟩, if_neg h16]
  -- then the size
  have size : ∀ V : ZTs, ZW V.wd → (∀ j w, j < 24 → w < 2 → tI V.wd j w = tI T.wd j w) → (∀ l, l < 20 → tB V.wd i l = if 16 * l < n then tB T.wd i l else 0) → (∀ b, 42 ≤ b → b ≠ tF T.wd i → V.wd b = T.wd b) → ZW (xI V i 1 (iN n)).wd := by
    intro V hV v1 v2 v3
    show ZW (zt V.wd (30 + i / 2) (8 * (i % 2) + 1) (iN n))
    obtain ⟨z1, z2, z3, z4⟩ := zin_w hV.a (i := i) (w := 1) (x := iN n) hi (by omega)
    have z2 := z2 (by omega)
    have hkV : tI V.wd i 0 = 2 := by rw [v1 i 0 hi (by omega)]; exact hki
    refine hV.setSize (i := i) (s := n) hi hn (fun j w hj hw8 hne => by rw [z1 j w hw8, if_neg hne]) (by rw [z1 i 1 (by omega), if_pos ⟨rfl, rfl⟩]) z2 z3 (fun j l hj hl hne => z4 _ (by have := (hV.a.pv j l hj (by omega)).2; omega)) (by rw [hkV]; decide) (fun hx => by rw [hkV] at hx; exact absurd hx (by decide)) (fun _ k w hk hw' hs hne => ?_)
    rw [v2 k hk] at hne ⊢
    by_cases h16 : 16 * k < n
    · rw [if_pos h16] at hne ⊢
      have hkn : k = n / 16 := by omega
      have hb42 := (hw.a.pv i k hi (by omega)).2
      rw [v3 _ (by omega) (fun hx => (zfile_blk hw.a hi hki hk hne).2.2.1 i hi hx.symm), hkn]
      exact hz (by omega) w (by omega) hw' (by rw [← hkn]; exact hne)
    · rw [if_neg h16] at hne; exact absurd rfl hne
  unfold xCut2
  rw [← hU]
  by_cases hc : tF T.wd i = 0 ∨ zAny T.wd i n 20 0 = true
  · rw [if_pos hc]
    refine ⟨size U a1 a2 a4 a5, zStep_mono (zStep_trans a6 (zStep_I hi)) (fun b hb => ?_) a6.2.2.2.2.2.2.2⟩
    simp only [List.mem_append, List.mem_cons, List.not_mem_nil, or_false] at hb ⊢; omega
  · rw [if_neg hc]
    have hf0 : tF T.wd i ≠ 0 := fun hx => hc (Or.inl hx)
    have hany : zAny T.wd i n 20 0 = false := by cases hh : zAny T.wd i n 20 0 with
      | false => rfl
      | true => exact absurd (Or.inr hh) hc
    have hkU : tI U.wd i 0 = 2 := by rw [a2 i 0 hi (by omega)]; exact hki
    have hfarz : ∀ l, 4 ≤ l → l < 20 → tP U.wd i l = 0 := by
      intro l l1 l2
      have e : tB U.wd i l = 0 := by
        rw [a4 l l2]
        by_cases h16 : 16 * l < n
        · rw [if_pos h16]; exact zAny_false hany l (by omega) (by omega) l1 h16
        · rw [if_neg h16]
      rw [(a1.a.pv i l hi (by omega)).1, e]; rfl
    have hP : ZW (zt U.wd (30 + i / 2) (8 * (i % 2) + 6) (iN 0)) := by
      have := a1.ptrI (k := 20) (b := 0) hi (Or.inr rfl) (by rw [hkU]; decide) (Or.inl rfl) (fun hx => absurd rfl hx) (fun hx => by rw [hkU] at hx; exact absurd hx (by decide)) (fun _ => hfarz)
      rw [if_pos rfl] at this; exact this
    obtain ⟨X, hX⟩ : ∃ X, X = zt U.wd (30 + i / 2) (8 * (i % 2) + 6) (iN 0) := ⟨_, rfl⟩
    rw [← hX] at hP
    obtain ⟨q, hq⟩ : ∃ q, tF T.wd i = 42 + q := ⟨tF T.wd i - 42, by omega⟩
    have hIX : ∀ j v, v < 8 → tI X j v = if j = i ∧ v = 6 then iN 0 else tI U.wd j v := fun j v hv => by rw [hX]; exact tI_zt (by omega) hv
    have hFX : tF X i = 0 := by unfold tF; rw [hIX i 6 (by omega), if_pos ⟨rfl, rfl⟩]; rfl
    have hPX : ∀ j l, j < 24 → l ≤ 20 → j ≠ i → tP X j l = tP U.wd j l := by
      intro j l hj hl hne
      have hfj := (a1.a.pv j 20 hj (by omega)).2
      rw [← tF_eq] at hfj
      rw [hX]
      exact tP_zt hi (by omega) hj hl (by omega) (fun _ hx => absurd hx hne) (fun hx => hne hx.1)
    have hPXi : ∀ l, l < 20 → tP X i l = tP U.wd i l := by
      intro l hl
      unfold tP
      by_cases h4 : l < 4
      · rw [if_pos h4, if_pos h4, hIX i (2 + l) (by omega), if_neg (by omega)]
      · have e1 : (if l < 4 then tI U.wd i (2 + l) else if l = 20 then tI U.wd i 6 else if tF U.wd i = 0 then 0 else U.wd (tF U.wd i) (l - 4)) = 0 := hfarz l (by omega) hl
        rw [e1, if_neg h4, if_neg (c := l = 20) (by omega), if_pos hFX]
    have hno : ∀ j l, j < 24 → l ≤ 20 → tB X j l ≠ 42 + q := by
      intro j l hj hl hx
      by_cases hji : j = i
      · rw [hji] at hx
        by_cases hl20 : l = 20
        · rw [hl20, ← tF_eq, hFX] at hx; omega
        · have e : tB X i l = tB U.wd i l := by unfold tB; rw [hPXi l (by omega)]
          rw [e, ← hq, ← a3, tF_eq] at hx
          have := a1.a.pd i l i 20 hi hl hi (by omega) (by rw [hx, ← tF_eq, a3]; exact hf0) hx
          omega
      · have e : tB X j l = tB U.wd j l := by unfold tB; rw [hPX j l hj hl hji]
        rw [e, ← hq, ← a3, tF_eq] at hx
        have := a1.a.pd j l i 20 hj hl hi (by omega) (by rw [hx, ← tF_eq, a3]; exact hf0) hx
        exact hji this.1
    have hG := hP.give hno
    have eq' : tF T.wd i - 42 = q := by omega
    have eV : (xI (xGive U (tF T.wd i)) i 6 0).wd = zt X 29 (q / 32) (zclr (X 29 (q / 32)) (q % 32)) := by
      show zt (zt U.wd 29 ((tF T.wd i - 42) / 32) (zclr (U.wd 29 ((tF T.wd i - 42) / 32)) ((tF T.wd i - 42) % 32))) (30 + i / 2) (8 * (i % 2) + 6) 0 = _
      rw [eq', zt_comm (by omega)]
      have e29 : X 29 (q / 32) = U.wd 29 (q / 32) := by rw [hX, zt_blk (by omega)]
      rw [e29, hX]; rfl
    have hout : ∀ c, c ≠ 29 → (xI (xGive U (tF T.wd i)) i 6 0).wd c = X c := fun c hc => by rw [eV]; exact zt_blk hc
    obtain ⟨v1, v2⟩ := zPv_29 hout hP.a.pv
    refine ⟨size _ (by rw [eV]; exact hG) (fun j w hj hw2 => ?_) (fun l hl => ?_) (fun b hb hbf => ?_), ?_⟩
    · have e1 : tI (xI (xGive U (tF T.wd i)) i 6 0).wd j w = tI X j w := tI_out (fun c c1 c2 => hout c (by omega)) hj
      rw [e1, hIX j w (by omega), if_neg (by omega)]; exact a2 j w hj hw2
    · rw [v2 i l hi (by omega)]
      have e : tB X i l = tB U.wd i l := by unfold tB; rw [hPXi l hl]
      rw [e]; exact a4 l hl
    · rw [hout b (by omega), hX, zt_blk (by omega)]; exact a5 b hb hbf
    · refine zStep_mono (zStep_trans (zStep_trans (zStep_trans a6 zStep_give) (zStep_I hi)) (zStep_I hi)) (fun b hb => ?_) a6.2.2.2.2.2.2.2
      simp only [List.mem_append, List.mem_cons, List.not_mem_nil, or_false] at hb ⊢; omega
/-- the last block's words are cleared -/
theorem zzero_ok {T : ZTs} (hw : ZW T.wd) {i k m : Nat} (hi : i < 24) (hki : tI T.wd i 0 = 2) (hk : k < 20) (h0 : tB T.wd i k ≠ 0) : ZW (xZero T (tB T.wd i k) m).wd ∧ (∀ j w, j < 24 → tI (xZero T (tB T.wd i k) m).wd j w = tI T.wd j w) ∧ (∀ j l, j < 24 → l ≤ 20 → tB (xZero T (tB T.wd i k) m).wd j l = tB T.wd j l) ∧ zStep [tB T.wd i k] T (xZero T (tB T.wd i k) m) := by
  obtain ⟨b1, b2, b3, b4⟩ := zfile_blk hw.a hi hki hk h0
  obtain ⟨b, hb⟩ : ∃ b, b = tB T.wd i k := ⟨_, rfl⟩
  rw [← hb] at b1 b2 b3 b4 ⊢
  have hout : ∀ c, c ≠ b → (xZero T b m).wd c = T.wd c := by
    intro c hc; funext v
    show (if c = b ∧ _ then 0 else T.wd c v) = _
    rw [if_neg (fun hx => hc hx.1)]
  have hI : ∀ j w, j < 24 → tI (xZero T b m).wd j w = tI T.wd j w := fun j w hj => tI_out (fun c c1 c2 => hout c (by omega)) hj
  have hB : ∀ j l, j < 24 → l ≤ 20 → tB (xZero T b m).wd j l = tB T.wd j l := fun j l hj hl => by
    unfold tB
    rw [tP_out hj hl (fun c c1 c2 => hout c (by omega)) (fun _ _ _ => by rw [hout _ (b3 j hj)])]
  refine ⟨hw.data (b := b) b1 hout b3 b4 (fun j l w hj hkj hl hw' hx hs => ?_), hI, hB, ?_⟩
  · show (if b = b ∧ m ≤ w ∧ w < 16 then 0 else T.wd b w) = 0
    split
    · rfl
    · rw [← hx]; exact hw.c j l w hj hkj hl hw' hs (by rw [hx, hb]; exact h0)
  · refine ⟨rfl, rfl, rfl, rfl, rfl, fun c hc => ?_, fun c hc => ?_, fun c hc => by have := List.mem_singleton.mp hc; omega⟩
    · have hc : zu T.ch b true c = false := hc
      by_cases hcb : c = b
      · rw [hcb, zu_self] at hc; cases hc
      · rw [zu_ne _ _ hcb] at hc; exact ⟨hc, hout c hcb⟩
    · have hc : zu T.ch b true c = true := hc
      by_cases hcb : c = b
      · right; rw [hcb]; exact List.mem_singleton.mpr rfl
      · rw [zu_ne _ _ hcb] at hc; exact Or.inl hc
noncomputable def xCut (T : ZTs) (f n : Int32) : Int32 × ZTs :=
  if zKb T.wd f 2 = true ∧ 0 ≤ n ∧ n ≤ iN (tS T.wd (n32 f)) then
    (if n = iN (tS T.wd (n32 f)) then (0, T)
    else (if n32 n % 16 = 0 ∨ tB T.wd (n32 f) (n32 n / 16) = 0 then (0, xCut2 T (n32 f) (n32 n))
    else (if (xFetch T (tB T.wd (n32 f) (n32 n / 16))).tv.p.up = true then (0, xCut2 (xZero (xFetch T (tB T.wd (n32 f) (n32 n / 16))) (tB T.wd (n32 f) (n32 n / 16)) (n32 n % 16)) (n32 f) (n32 n)) else (-9, xFetch T (tB T.wd (n32 f) (n32 n / 16))))))
  else (-4, T)
theorem i32_le {x : Int32} {m : Nat} (hm : m < 2147483648) (h0 : 0 ≤ x) (h1 : x ≤ iN m) : x = iN (n32 x) ∧ n32 x ≤ m := by
  have hn : x = iN (n32 x) := by
    by_cases hz : 0 < n32 x
    · exact (iN_n32 hz).symm
    · have e : n32 x = 0 := by omega
      rw [e]
      exact Int32.le_antisymm ((n32_le (by omega)).mpr (by omega)) h0
  exact ⟨hn, (n32_le hm).mp h1⟩
theorem m_cut {W : ZSt → Prop} (K : px_K) (N : Nat) (hN : 2000 ≤ N) (hK : zKm K) (t4 : px_W) (s3 : px_S) (T : ZTs) (h : zRt s3 T) (hm : zMm T.tv) (hi : ZTi W T) (hw : ZW T.wd) (a0 a1 : Int32) : wp (px_bi (f_M_isKind_28 K N a0 (2 : Int32) s3 t4) (fun v12 s9 t10 => (if v12 = 0 then (some (.inl (some (.int (-4 : Int32))), s9, t10)) else (if a1 < 0 then (some (.inl (some (.int (-4 : Int32))), s9, t10)) else (px_bi (f_M_ofInode_28 K N a0 (1 : Int32) s9 t10) (fun v19 s16 t17 => (if a1 ≤ v19 then (px_bi (f_M_ofInode_28 K N a0 (1 : Int32) s16 t17) (fun v25 s22 t23 => (if ¬ a1 = v25 then (if ¬ (a1 - a1 / (16 : Int32) * (16 : Int32)) = 0 then (px_bi (f_M_blockOf_28 K N a0 (a1 / (16 : Int32)) s22 t23) (fun v32 s29 t30 => (if v32 ≤ 0 then (px_bi (f_M_ofInode_28 K N a0 (6 : Int32) s29 t30) (fun v38 s35 t36 => (px_lp (l_M_cut_28_77 K N N a0 a1 v38 (0 : Int32) (0 : Int32) s35 t36) (fun i40 vs41 s42 t43 => (if i40 = 126 then (px_v1 vs41 (fun y46 => (if v38 ≤ 0 then (px_bv (f_M_tellInode_28 K N a0 (1 : Int32) a1 s42 t43) (fun s49 t50 => (some (.inl (some (.int (0 : Int32))), s49, t50))) (fun x53 s49 t50 => none)) else (if ¬ y46 = 0 then (px_bv (f_M_tellInode_28 K N a0 (1 : Int32) a1 s42 t43) (fun s55 t56 => (some (.inl (some (.int (0 : Int32))), s55, t56))) (fun x59 s55 t56 => none)) else (px_bv (f_M_giveBack_28 K N v38 s42 t43) (fun s60 t61 => (px_bv (f_M_tellInode_28 K N a0 (6 : Int32) (0 : Int32) s60 t61) (fun s65 t66 => (px_bv (f_M_tellInode_28 K N a0 (1 : Int32) a1 s65 t66) (fun s70 t71 => (some (.inl (some (.int (0 : Int32))), s70, t71))) (fun x74 s70 t71 => none))) (fun x69 s65 t66 => none))) (fun x64 s60 t61 => none)))))) else none)) (fun z45 => some z45))) (fun x39 s35 t36 => none)) else (px_bv (f_M_fetch_28 K N v32 s29 t30) (fun s75 t76 => (if ¬ (s75.1 29) = 0 then (px_let (a1 - a1 / (16 : Int32) * (16 : Int32)) (fun v81 => (px_lp (l_M_cut_28_58 K N N a0 a1 v32 v81 s75 t76) (fun i83 vs84 s85 t86 => (if i83 = 68 then (px_v0 vs84 (px_bi (f_M_ofInode_28 K N a0 (6 : Int32) s85 t86) (fun v93 s90 t91 => (px_lp (l_M_cut_28_77 K N N a0 a1 v93 (0 : Int32) (0 : Int32) s90 t91) (fun i95 vs96 s97 t98 => (if i95 = 126 then (px_v1 vs96 (fun y101 => (if v93 ≤ 0 then (px_bv (f_M_tellInode_28 K N a0 (1 : Int32) a1 s97 t98) (fun s104 t105 => (some (.inl (some (.int (0 : Int32))), s104, t105))) (fun x108 s104 t105 => none)) else (if ¬ y101 = 0 then (px_bv (f_M_tellInode_28 K N a0 (1 : Int32) a1 s97 t98) (fun s110 t111 => (some (.inl (some (.int (0 : Int32))), s110, t111))) (fun x114 s110 t111 => none)) else (px_bv (f_M_giveBack_28 K N v93 s97 t98) (fun s115 t116 => (px_bv (f_M_tellInode_28 K N a0 (6 : Int32) (0 : Int32) s115 t116) (fun s120 t121 => (px_bv (f_M_tellInode_28 K N a0 (1 : Int32) a1 s120 t121) (fun s125 t126 => (some (.inl (some (.int (0 : Int32))), s125, t126))) (fun x129 s125 t126 => none))) (fun x124 s120 t121 => none))) (fun x119 s115 t116 => none)))))) else none)) (fun z100 => some z100))) (fun x94 s90 t91 => none))) else none)) (fun z88 => some z88)))) else (some (.inl (some (.int (-9 : Int32))), s75, t76)))) (fun x79 s75 t76 => none)))) (fun x33 s29 t30 => none)) else (if (0 : Int32) ≤ 0 then (px_bi (f_M_ofInode_28 K N a0 (6 : Int32) s22 t23) (fun v134 s131 t132 => (px_lp (l_M_cut_28_77 K N N a0 a1 v134 (0 : Int32) (0 : Int32) s131 t132) (fun i136 vs137 s138 t139 => (if i136 = 126 then (px_v1 vs137 (fun y142 => (if v134 ≤ 0 then (px_bv (f_M_tellInode_28 K N a0 (1 : Int32) a1 s138 t139) (fun s145 t146 => (some (.inl (some (.int (0 : Int32))), s145, t146))) (fun x149 s145 t146 => none)) else (if ¬ y142 = 0 then (px_bv (f_M_tellInode_28 K N a0 (1 : Int32) a1 s138 t139) (fun s151 t152 => (some (.inl (some (.int (0 : Int32))), s151, t152))) (fun x155 s151 t152 => none)) else (px_bv (f_M_giveBack_28 K N v134 s138 t139) (fun s156 t157 => (px_bv (f_M_tellInode_28 K N a0 (6 : Int32) (0 : Int32) s156 t157) (fun s161 t162 => (px_bv (f_M_tellInode_28 K N a0 (1 : Int32) a1 s161 t162) (fun s166 t167 => (some (.inl (some (.int (0 : Int32))), s166, t167))) (fun x170 s166 t167 => none))) (fun x165 s161 t162 => none))) (fun x160 s156 t157 => none)))))) else none)) (fun z141 => some z141))) (fun x135 s131 t132 => none)) else (px_bv (f_M_fetch_28 K N (0 : Int32) s22 t23) (fun s171 t172 => (if ¬ (s171.1 29) = 0 then (px_let (a1 - a1 / (16 : Int32) * (16 : Int32)) (fun v177 => (px_lp (l_M_cut_28_58 K N N a0 a1 (0 : Int32) v177 s171 t172) (fun i179 vs180 s181 t182 => (if i179 = 68 then (px_v0 vs180 (px_bi (f_M_ofInode_28 K N a0 (6 : Int32) s181 t182) (fun v189 s186 t187 => (px_lp (l_M_cut_28_77 K N N a0 a1 v189 (0 : Int32) (0 : Int32) s186 t187) (fun i191 vs192 s193 t194 => (if i191 = 126 then (px_v1 vs192 (fun y197 => (if v189 ≤ 0 then (px_bv (f_M_tellInode_28 K N a0 (1 : Int32) a1 s193 t194) (fun s200 t201 => (some (.inl (some (.int (0 : Int32))), s200, t201))) (fun x204 s200 t201 => none)) else (if ¬ y197 = 0 then (px_bv (f_M_tellInode_28 K N a0 (1 : Int32) a1 s193 t194) (fun s206 t207 => (some (.inl (some (.int (0 : Int32))), s206, t207))) (fun x210 s206 t207 => none)) else (px_bv (f_M_giveBack_28 K N v189 s193 t194) (fun s211 t212 => (px_bv (f_M_tellInode_28 K N a0 (6 : Int32) (0 : Int32) s211 t212) (fun s216 t217 => (px_bv (f_M_tellInode_28 K N a0 (1 : Int32) a1 s216 t217) (fun s221 t222 => (some (.inl (some (.int (0 : Int32))), s221, t222))) (fun x225 s221 t222 => none))) (fun x220 s216 t217 => none))) (fun x215 s211 t212 => none)))))) else none)) (fun z196 => some z196))) (fun x190 s186 t187 => none))) else none)) (fun z184 => some z184)))) else (some (.inl (some (.int (-9 : Int32))), s171, t172)))) (fun x175 s171 t172 => none)))) else (some (.inl (some (.int (0 : Int32))), s22, t23)))) (fun x26 s22 t23 => none)) else (some (.inl (some (.int (-4 : Int32))), s16, t17)))) (fun x20 s16 t17 => none))))) (fun x13 s9 t10 => none)) (zA (xCut T a0 a1).1 t4 (fun s' => zRt s' (xCut T a0 a1).2 ∧ zMm (xCut T a0 a1).2.tv ∧ zFt s3 s')) := by
  have hws : zWs s3 T.wd := h.2.1
  have same : ∀ (a : Int32) (F : Option px_Res), wp F (zA a t4 (fun s' => zRt s' T ∧ zMm T.tv ∧ zFt s3 s')) → xCut T a0 a1 = (a, T) → wp F (zA (xCut T a0 a1).1 t4 (fun s' => zRt s' (xCut T a0 a1).2 ∧ zMm (xCut T a0 a1).2.tv ∧ zFt s3 s')) := by
    intro a F hF he; rw [he]; exact hF
  refine wp_bi (m_kind K N hK t4 hws a0 2) ?_
  cases hkb : zKb T.wd a0 2 with
  | false => exact same (-4) _ (wp_if rfl (wp_rA ⟨h, hm, zFt_refl s3⟩)) (if_neg (fun hx => by rw [hkb] at hx; cases hx.1))
  | true =>
    obtain ⟨k1, k2, k3⟩ := zKd_of hkb
    refine wp_ifn (by decide) ?_
    by_cases c1 : a1 < 0
    · exact same (-4) _ (wp_if c1 (wp_rA ⟨h, hm, zFt_refl s3⟩)) (if_neg (fun hx => absurd hx.2.1 (Int32.not_le.mpr c1)))
    refine wp_ifn c1 ?_
    obtain ⟨z1, z2⟩ := zfile_size hw.a k2 k3
    obtain ⟨hsz, _⟩ := m_size K N hK t4 hws hw.a (n32 a0) k2 (Or.inr k3)
    rw [← k1] at hsz
    refine wp_bi hsz ?_
    by_cases c2 : a1 ≤ iN (tS T.wd (n32 a0))
    · refine wp_if c2 (wp_bi hsz ?_)
      obtain ⟨i, hi'⟩ : ∃ i, i = n32 a0 := ⟨_, rfl⟩
      obtain ⟨n, hn'⟩ : ∃ n, n = n32 a1 := ⟨_, rfl⟩
      have hxm : xCut T a0 a1 = (if a1 = iN (tS T.wd i) then (0, T)
        else (if n % 16 = 0 ∨ tB T.wd i (n / 16) = 0 then (0, xCut2 T i n)
        else (if (xFetch T (tB T.wd i (n / 16))).tv.p.up = true then (0, xCut2 (xZero (xFetch T (tB T.wd i (n / 16))) (tB T.wd i (n / 16)) (n % 16)) i n) else (-9, xFetch T (tB T.wd i (n / 16)))))) := by
        rw [hi', hn']; exact if_pos ⟨hkb, Int32.not_lt.mp c1, c2⟩
      rw [← hi'] at k1 k2 k3 z1 z2 c2 ⊢
      obtain ⟨n1, n2⟩ := i32_le (m := tS T.wd i) (by omega) (Int32.not_lt.mp c1) c2
      rw [← hn'] at n1 n2
      by_cases c3 : a1 = iN (tS T.wd i)
      · rw [if_pos c3] at hxm
        exact same 0 _ (wp_ifn (fun hx => hx c3) (wp_rA ⟨h, hm, zFt_refl s3⟩)) hxm
      refine wp_if c3 ?_
      rw [if_neg c3] at hxm
      have hlt : n < tS T.wd i := by
        rcases Nat.lt_or_ge n (tS T.wd i) with hh | hh
        · exact hh
        · exact absurd (by rw [n1]; congr 1; omega) c3
      have ed : a1 / (16 : Int32) = iN (n / 16) := by rw [n1, iL16, iN_div (by omega) (by omega) (by omega)]
      have er : a1 - a1 / (16 : Int32) * (16 : Int32) = iN (n % 16) := by rw [n1, iL16, iN_rem (by omega) (by omega) (by omega)]
      rw [er, ed]
      have hb := m_blockOf K N hK t4 hws hw.a i (n / 16) k2 (by omega)
      rw [← k1] at hb
      have hrb := (hw.a.pv i (n / 16) k2 (by omega)).2
      -- nothing to clear
      have simple : ∀ F, wp F (zA 0 t4 (fun s' => zRt s' (xCut2 T i n) ∧ zFt s3 s')) → xCut T a0 a1 = (0, xCut2 T i n) → wp F (zA (xCut T a0 a1).1 t4 (fun s' => zRt s' (xCut T a0 a1).2 ∧ zMm (xCut T a0 a1).2.tv ∧ zFt s3 s')) := by
        intro F hF he
        rw [he]
        refine wp_imp hF ?_
        rintro r ⟨s', r1, r2, r3⟩
        refine ⟨s', r1, r2, ?_, r3⟩
        have e : (xCut2 T i n).tv = T.tv := xCut2_tv T i n
        show zMm (xCut2 T i n).tv
        rw [e]; exact hm
      by_cases c4 : n % 16 = 0
      · rw [if_pos (Or.inl c4)] at hxm
        refine wp_ifn (fun hx => hx (by rw [c4]; rfl)) (wp_if (by decide) ?_)
        exact simple _ (m_cuttail K N hN hK t4 s3 T h hw i n k2 k3 (by omega) a0 a1 k1 n1) hxm
      refine wp_if (by rw [iL0, iN_eq (by omega) (by omega)]; exact c4) (wp_bi hb ?_)
      by_cases c5 : tB T.wd i (n / 16) = 0
      · rw [if_pos (Or.inr c5)] at hxm
        refine wp_if (by rw [c5]; decide) ?_
        exact simple _ (m_cuttail K N hN hK t4 s3 T h hw i n k2 k3 (by omega) a0 a1 k1 n1) hxm
      rw [if_neg (fun hx => hx.elim c4 c5)] at hxm
      refine wp_ifn (by rw [iL0, iN_le (by omega) (by omega)]; omega) ?_
      obtain ⟨s4, b1, b2, b3, b4⟩ := m_fetch K N hN hK t4 s3 T h hm hi (tB T.wd i (n / 16)) (by omega) (by omega)
      refine wp_bv b1 ?_
      obtain ⟨x1, x2, x3, x4, x5, x6⟩ := xFetch_same T (tB T.wd i (n / 16))
      cases hup : (xFetch T (tB T.wd i (n / 16))).tv.p.up with
      | true =>
        rw [if_pos hup] at hxm
        have e29 : ¬ s4.1 29 = 0 := fun hx => by have := (zRw_up b2.1.1).mp hx; rw [hup] at this; cases this
        refine wp_if e29 (wp_let ?_)
        obtain ⟨s5, d1, d2, d3⟩ := m_zero K N hN hK t4 a0 a1 (tB T.wd i (n / 16)) (n % 16) (by omega) (by omega) s4 _ b2
        refine wp_lp d1 (wp_if rfl (wp_v0 ?_))
        have hwF : ZW (xFetch T (tB T.wd i (n / 16))).wd := by rw [x1]; exact hw
        obtain ⟨y1, y2, y3, y4⟩ := zzero_ok (T := xFetch T (tB T.wd i (n / 16))) (m := n % 16) hwF k2 (by rw [x1]; exact k3) (show n / 16 < 20 by omega) (by rw [x1]; exact c5)
        rw [x1] at y1 y2 y3 y4
        rw [hxm]
        obtain ⟨V, hV⟩ : ∃ V, V = xZero (xFetch T (tB T.wd i (n / 16))) (tB T.wd i (n / 16)) (n % 16) := ⟨_, rfl⟩
        rw [← hV] at d2 y1 y2 y3 y4 ⊢
        refine wp_imp (m_cuttail K N hN hK t4 s5 V d2 y1 i n k2 (by rw [y2 i 0 k2]; exact k3) (by omega) a0 a1 k1 n1) ?_
        rintro r ⟨s', r1, r2, r3⟩
        refine ⟨s', r1, r2, ?_, zFt_trans b4 (zFt_trans d3 r3)⟩
        have e : (xCut2 V i n).tv = V.tv := xCut2_tv V i n
        show zMm (xCut2 V i n).tv
        rw [e, y4.1]; exact b3
      | false =>
        rw [if_neg (by rw [hup]; exact Bool.noConfusion)] at hxm
        rw [hxm]
        have e29 : s4.1 29 = 0 := (zRw_up b2.1.1).mpr hup
        exact wp_ifn (fun hx => hx e29) (wp_rA ⟨b2, b3, b4⟩)
    · exact same (-4) _ (wp_ifn c2 (wp_rA ⟨h, hm, zFt_refl s3⟩)) (if_neg (fun hx => c2 hx.2.2))
theorem zcut_ok {T : ZTs} (hi : ZTi ZW T) (h7 : (zCl T.ch).length ≤ 7) (f n : Int32) : ZTOk ZW (fun U => ZTi ZW U) (xCut T f n).2 ∧ ((xCut T f n).2.tv.p.up = false → (xCut T f n).1 = -9) := by
  have hw := hi.ww
  have same : ∀ a, xCut T f n = (a, T) → ZTOk ZW (fun U => ZTi ZW U) (xCut T f n).2 ∧ ((xCut T f n).2.tv.p.up = false → (xCut T f n).1 = -9) := by
    intro a he; rw [he]
    exact ⟨Or.inl ⟨hi.iv.up, hi⟩, fun hx => by have hx : T.tv.p.up = false := hx; rw [hi.iv.up] at hx; cases hx⟩
  by_cases hc : zKb T.wd f 2 = true ∧ 0 ≤ n ∧ n ≤ iN (tS T.wd (n32 f))
  · obtain ⟨k1, k2, k3⟩ := zKd_of hc.1
    obtain ⟨z1, z2⟩ := zfile_size hw.a k2 k3
    obtain ⟨n1, n2⟩ := i32_le (m := tS T.wd (n32 f)) (by omega) hc.2.1 hc.2.2
    obtain ⟨i, hi'⟩ : ∃ i, i = n32 f := ⟨_, rfl⟩
    obtain ⟨m, hm'⟩ : ∃ m, m = n32 n := ⟨_, rfl⟩
    have hxm : xCut T f n = (if n = iN (tS T.wd i) then (0, T)
      else (if m % 16 = 0 ∨ tB T.wd i (m / 16) = 0 then (0, xCut2 T i m)
      else (if (xFetch T (tB T.wd i (m / 16))).tv.p.up = true then (0, xCut2 (xZero (xFetch T (tB T.wd i (m / 16))) (tB T.wd i (m / 16)) (m % 16)) i m) else (-9, xFetch T (tB T.wd i (m / 16)))))) := by
      rw [hi', hm']; exact if_pos hc
    rw [← hi'] at k2 k3 z2 n2
    rw [← hm'] at n1 n2
    by_cases c3 : n = iN (tS T.wd i)
    · rw [if_pos c3] at hxm; exact same _ hxm
    rw [if_neg c3] at hxm
    have hlt : m < tS T.wd i := by
      rcases Nat.lt_or_ge m (tS T.wd i) with hh | hh
      · exact hh
      · exact absurd (by rw [n1]; congr 1; omega) c3
    have hrb := (hw.a.pv i (m / 16) k2 (by omega)).2
    have hfr := (hw.a.pv i 20 k2 (by omega)).2
    rw [← tF_eq] at hfr
    by_cases c4 : m % 16 = 0 ∨ tB T.wd i (m / 16) = 0
    · rw [if_pos c4] at hxm
      obtain ⟨y1, y2⟩ := zcut2_ok hw k2 k3 (show m ≤ 320 by omega) (fun h16 w hw1 hw' h0 => absurd c4 (fun hx => hx.elim h16 h0))
      rw [hxm]
      refine ⟨Or.inl ⟨by show (xCut2 T i m).tv.p.up = true; rw [y2.1]; exact hi.iv.up, hi.step y2 y1 h7 (by show 3 ≤ 5; omega)⟩, fun hx => ?_⟩
      have hx : (xCut2 T i m).tv.p.up = false := hx
      rw [y2.1, hi.iv.up] at hx; cases hx
    · rw [if_neg c4] at hxm
      have h16 : m % 16 ≠ 0 := fun hx => c4 (Or.inl hx)
      have h0 : tB T.wd i (m / 16) ≠ 0 := fun hx => c4 (Or.inr hx)
      obtain ⟨x1, x2, x3, x4, x5, x6⟩ := xFetch_same T (tB T.wd i (m / 16))
      rcases zfetch_ok hi (b := tB T.wd i (m / 16)) (by omega) with ⟨hu, hq⟩ | hdn
      · rw [if_pos hu] at hxm
        have hwF : ZW (xFetch T (tB T.wd i (m / 16))).wd := by rw [x1]; exact hw
        obtain ⟨y1, y2, y3, y4⟩ := zzero_ok (T := xFetch T (tB T.wd i (m / 16))) (m := m % 16) hwF k2 (by rw [x1]; exact k3) (show m / 16 < 20 by omega) (by rw [x1]; exact h0)
        rw [x1] at y1 y2 y3 y4
        rw [hxm]
        obtain ⟨V, hV⟩ : ∃ V, V = xZero (xFetch T (tB T.wd i (m / 16))) (tB T.wd i (m / 16)) (m % 16) := ⟨_, rfl⟩
        rw [← hV] at y1 y2 y3 y4 ⊢
        obtain ⟨w1, w2⟩ := zcut2_ok (T := V) y1 k2 (by rw [y2 i 0 k2]; exact k3) (show m ≤ 320 by omega) (fun _ w hw1 hw' _ => by
          rw [y3 i (m / 16) k2 (by omega), hV]
          show (if tB T.wd i (m / 16) = tB T.wd i (m / 16) ∧ m % 16 ≤ w ∧ w < 16 then 0 else (xFetch T (tB T.wd i (m / 16))).wd (tB T.wd i (m / 16)) w) = 0
          rw [if_pos ⟨rfl, hw1, hw'⟩])
        have hFV : tF V.wd i = tF T.wd i := by unfold tF; rw [y2 i 6 k2]
        rw [hFV] at w2
        have sf := zStep_trans y4 w2
        have htv : (xCut2 V i m).tv = (xFetch T (tB T.wd i (m / 16))).tv := sf.1
        refine ⟨Or.inl ⟨by show (xCut2 V i m).tv.p.up = true; rw [htv]; exact hu, hq.step sf w1 (by rw [x2]; exact h7) (by show 4 ≤ 5; omega)⟩, fun hx => ?_⟩
        have hx : (xCut2 V i m).tv.p.up = false := hx
        rw [htv, hu] at hx; cases hx
      · rw [if_neg (by rw [hdn.up]; exact Bool.noConfusion)] at hxm
        rw [hxm]
        exact ⟨Or.inr hdn, fun _ => rfl⟩
  · exact same _ (if_neg hc)
