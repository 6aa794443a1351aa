/-! THE TREE IS LOADED (the reference) -/
theorem m_wordThere (K : px_K) (N : Nat) (hN : 2000 ≤ N) (hK : zKm K) (t : px_W) (s : px_S) (v : ZVs) (h : zRv s v) (hs : zSf v) (b w : Nat) (hb : b < 106) (hw : w < 16) : f_M_wordThere_28 K N (iN b) (iN w) s t = some (.inl (some (.int (v.cur b w))), s, t) := by
  have hn64 : v.n ≤ 64 := hs.1.n64
  have i19 : (19 : Int32) + iN b = iN (19 + b) := by show iN 19 + iN b = _; rw [iN_add]
  have r0 : f_M_read_28 K N (0 : Int32) (iN (19 + b)) (iN w) s t = some (.inl (some (.int (v.dn (19 + b) w))), s, t) := m_read K N (by omega) hK t s v.p.dv h.1.1 0 (19 + b) w (by omega) (by show _ < 125; omega) hw
  unfold f_M_wordThere_28
  rw [i19, h.2.2.2.2.1]
  cases hwf : v.wf with
  | false =>
    have ec : v.cur b = v.dn (19 + b) := by unfold ZVs.cur; rw [if_neg (by rw [hwf]; exact Bool.noConfusion)]
    rw [ec, if_pos (by decide), if_pos (by decide), r0]; rfl
  | true =>
    rw [if_neg (by decide), m_newest K N (by omega) hK t s v h.2 hs b (by omega)]
    show (if oN (v.newest b) < 0 then _ else _) = _
    cases hnw : v.newest b with
    | none => rw [ZVs.cur_none hwf hnw, if_pos (by decide), r0]; rfl
    | some q =>
      obtain ⟨q1, _, _⟩ := zNew_some hnw
      have hq64 : q < 64 := by have : q < v.n := q1; omega
      have i50 : (50 : Int32) + oN (some q) = iN (50 + q) := by show iN 50 + iN q = _; rw [iN_add]
      have r1 : f_M_read_28 K N (1 : Int32) (iN (50 + q)) (iN w) s t = some (.inl (some (.int (v.fn (50 + q) w))), s, t) := m_read K N (by omega) hK t s v.p.dv h.1.1 1 (50 + q) w (by omega) (by show _ < 114; omega) hw
      rw [ZVs.cur_some hwf hnw, if_neg (by show ¬ iN q < 0; exact iN_neg (by omega)), i50, r1]; rfl
theorem m_ld1 (K : px_K) (N : Nat) (hN : 2000 ≤ N) (hK : zKm K) (t : px_W) (v : ZVs) (hs : zSf v) (b : Nat) (hb : b < 106) : ∀ (d m n : Nat) (s : px_S), m + d = 16 → d < n → zRv s v → wp (l_M_loadsTree_28_17 K N n (iN b) (iN m) s t) (zC 34 [] t (fun s' => ∃ g, s' = sF s 39 g ∧ ∀ c w, w < 16 → g (16 * c + w) = if c = b ∧ m ≤ w then v.cur b w else s.2.2.1 39 (16 * c + w))) := by
  have h39 : K.2.2 39 = 1696 := hK.2.2.2.2.2.2.2.2.2.2.1
  intro d
  induction d with
  | zero =>
    intro m n s hm hn h
    obtain ⟨n, rfl⟩ : ∃ n', n = n' + 1 := ⟨n - 1, by omega⟩
    have hm : m = 16 := by omega
    subst hm
    unfold l_M_loadsTree_28_17
    exact wp_if (by decide) (wp_rC ⟨s.2.2.1 39, by rw [sF_triv], fun c w hw => by rw [if_neg (by omega)]⟩)
  | succ d ih =>
    intro m n s hm hn h
    obtain ⟨n, rfl⟩ : ∃ n', n = n' + 1 := ⟨n - 1, by omega⟩
    have e3 : iN m + (1 : Int32) = iN (m + 1) := by rw [iL1, iN_add]
    have e16 : (16 : Int32) * iN b + iN m = iN (16 * b + m) := by rw [iL16, iN_mul, iN_add]
    unfold l_M_loadsTree_28_17
    rw [e3, e16, iN_nat (by omega)]
    refine wp_ifn (by rw [iL16, iN_le (by omega) (by omega)]; omega) (wp_bi (m_wordThere K N hN hK t s v h hs b m hb (by omega)) (wp_gd (by rw [h39]; exact iN_in (by omega) (by omega)) (wp_let ?_)))
    refine wp_imp (ih (m + 1) n _ (by omega) (by omega) (zRv_row h (by omega))) ?_
    rintro r ⟨s', h1, g, h2, h3⟩
    refine ⟨s', h1, g, by rw [h2, sA_eq, sF_sF], fun c w hw => ?_⟩
    rw [h3 c w hw, sA_arr]
    by_cases hcb : c = b ∧ w = m
    · rw [hcb.1, hcb.2, if_neg (by omega), if_pos ⟨rfl, Nat.le_refl _⟩, upd_self]
    · rw [upd_ne (by omega)]
      by_cases hle : c = b ∧ m ≤ w
      · rw [if_pos (by omega), if_pos hle]
      · rw [if_neg (by omega), if_neg hle]
theorem m_ld2 (K : px_K) (N : Nat) (hN : 2000 ≤ N) (hK : zKm K) (t : px_W) (v : ZVs) (hs : zSf v) : ∀ (d i n : Nat) (s : px_S), i + d = 106 → d < n → zRv s v → wp (l_M_loadsTree_28_2 K N n (iN i) s t) (zC 36 [] t (fun s' => zRv s' v ∧ zFt s s' ∧ (∀ b w, b < 106 → w < 16 → s'.2.2.1 39 (16 * b + w) = if i ≤ b then v.cur b w else s.2.2.1 39 (16 * b + w)) ∧ (∀ b, b < 106 → s'.2.2.1 41 b = if i ≤ b then 0 else s.2.2.1 41 b) ∧ (∀ b, b < 106 → s'.2.2.1 42 b = if i ≤ b then 0 else s.2.2.1 42 b))) := by
  have h41 : K.2.2 41 = 106 := hK.2.2.2.2.2.2.2.2.2.2.2.2.1
  have h42 : K.2.2 42 = 106 := hK.2.2.2.2.2.2.2.2.2.2.2.2.2.1
  have i106 : (106 : Int32) = iN 106 := rfl
  intro d
  induction d with
  | zero =>
    intro i n s hi hn h
    obtain ⟨n, rfl⟩ : ∃ n', n = n' + 1 := ⟨n - 1, by omega⟩
    have hi : i = 106 := by omega
    subst hi
    unfold l_M_loadsTree_28_2
    exact wp_if (by decide) (wp_rC ⟨h, zFt_refl s, fun b w hb hw => by rw [if_neg (by omega)], fun b hb => by rw [if_neg (by omega)], fun b hb => by rw [if_neg (by omega)]⟩)
  | succ d ih =>
    intro i n s hi hn h
    obtain ⟨n, rfl⟩ : ∃ n', n = n' + 1 := ⟨n - 1, by omega⟩
    have e3 : iN i + (1 : Int32) = iN (i + 1) := by rw [iL1, iN_add]
    unfold l_M_loadsTree_28_2
    rw [e3, iN_nat (by omega)]
    refine wp_ifn (by rw [i106, iN_le (by omega) (by omega)]; omega) (wp_gd (by rw [h41]; exact iN_in (by omega) (by omega)) (wp_let (wp_gd (by rw [h42]; exact iN_in (by omega) (by omega)) (wp_let ?_))))
    have h1 : zRv (sA (sA s 41 i (0 : Int32)) 42 i (0 : Int32)) v := zRv_row (zRv_row h (by omega)) (by omega)
    obtain ⟨s1, a1, g, a2, a3⟩ := wp_C (m_ld1 K N hN hK t v hs i (by omega) 16 0 N _ (by omega) (by omega) h1)
    refine wp_lp a1 (wp_if rfl ?_)
    show wp (l_M_loadsTree_28_2 K N n _ s1 t) _
    have h2 : zRv s1 v := by rw [a2]; exact zRv_row h1 (by omega)
    refine wp_imp (ih (i + 1) n s1 (by omega) (by omega) h2) ?_
    rintro r ⟨s', r1, r2, r3, r4, r5, r6⟩
    refine ⟨s', r1, r2, ?_, fun b w hb hw => ?_, fun b hb => ?_, fun b hb => ?_⟩
    · have k1 : zFt s (sA (sA s 41 i (0 : Int32)) 42 i (0 : Int32)) := zFt_trans (zFt_sA (by omega)) (zFt_sA (by omega))
      have k2 : zFt (sA (sA s 41 i (0 : Int32)) 42 i (0 : Int32)) s1 := by rw [a2]; exact zFt_sF (by omega)
      exact zFt_trans k1 (zFt_trans k2 r3)
    · rw [r4 b w hb hw, a2, sF_arr, a3 b w hw, sA_arr_ne (by omega), sA_arr_ne (by omega)]
      by_cases hbi : b = i
      · rw [if_neg (by omega), if_pos ⟨hbi, Nat.zero_le _⟩, if_pos (by omega), hbi]
      · rw [if_neg (c := b = i ∧ 0 ≤ w) (fun hx => hbi hx.1)]
        by_cases hle : i ≤ b
        · rw [if_pos (by omega), if_pos hle]
        · rw [if_neg (by omega), if_neg hle]
    · rw [r5 b hb, a2, sF_arr_ne (by omega), sA_arr_ne (by omega), sA_arr]
      by_cases hbi : b = i
      · rw [if_neg (by omega), if_pos (by omega), hbi, upd_self]
      · rw [upd_ne hbi]
        by_cases hle : i ≤ b
        · rw [if_pos (by omega), if_pos hle]
        · rw [if_neg (by omega), if_neg hle]
    · rw [r6 b hb, a2, sF_arr_ne (by omega), sA_arr]
      by_cases hbi : b = i
      · rw [if_neg (by omega), if_pos (by omega), hbi, upd_self]
      · rw [upd_ne hbi, sA_arr_ne (by omega)]
        by_cases hle : i ≤ b
        · rw [if_pos (by omega), if_pos hle]
        · rw [if_neg (by omega), if_neg hle]
/-- the tree's words are those of a store -/
def zWs (s : px_S) (V : ZSt) : Prop := ∀ b w, b < 106 → w < 16 → s.2.2.1 39 (16 * b + w) = V b w
theorem zWs_word (K : px_K) (N : Nat) (hK : zKm K) (t : px_W) {s : px_S} {V : ZSt} (h : zWs s V) (b w : Nat) (hb : b < 106) (hw : w < 16) : f_M_word_28 K N (iN b) (iN w) s t = some (.inl (some (.int (V b w))), s, t) := by
  rw [m_word K N hK t s b w hb hw, h b w hb hw]
theorem m_isCommit (K : px_K) (N : Nat) (hN : 2000 ≤ N) (hK : zKm K) (t : px_W) (s : px_S) (V : ZSt) (h : zWs s V) (fr sq : Nat) (hf1 : 1 ≤ fr) (hf : fr < 60) (hsq : s.1 36 = iN sq) : ∃ g : Bool, (g = true ↔ zIs V fr sq) ∧ f_M_isCommit_28 K N (iN fr) s t = some (.inl (some (.int (bN g))), s, t) := by
  have e2 : iN fr + (2 : Int32) = iN (fr + 2) := by rw [iL2, iN_add]
  have i28 : (28 : Int32) = iN 28 := rfl
  have i12 : (12 : Int32) = iN 12 := rfl
  have no : ∀ x : Int32, x = 0 → (¬ zIs V fr sq) → ∃ g : Bool, (g = true ↔ zIs V fr sq) ∧ (some ((.inl (some (.int x)), s, t) : px_Res)) = some (.inl (some (.int (bN g))), s, t) := fun x hx hn => ⟨false, ⟨fun hx => (by cases hx), fun hx => absurd hx hn⟩, by rw [hx]; rfl⟩
  unfold f_M_isCommit_28
  rw [e2, i28]
  by_cases c0 : 28 < fr + 2
  · rw [if_pos ((iN_lt (by omega) (by omega)).mpr c0)]
    refine no 0 rfl (fun hx => ?_)
    obtain ⟨_, _, x3, _, x5, _⟩ := hx
    omega
  rw [if_neg (fun hx => c0 ((iN_lt (by omega) (by omega)).mp hx))]
  have w0 : f_M_word_28 K N (iN fr) (0 : Int32) s t = _ := zWs_word K N hK t h fr 0 (by omega) (by omega)
  rw [w0]
  show ∃ g : Bool, _ ∧ (if ¬ V fr 0 = (1 : Int32) then _ else _) = _
  by_cases c1 : V fr 0 = 1
  · rw [if_neg (c := ¬ V fr 0 = (1 : Int32)) (fun hx => hx c1)]
    have w1 : f_M_word_28 K N (iN fr) (1 : Int32) s t = _ := zWs_word K N hK t h fr 1 (by omega) (by omega)
    rw [w1]
    show ∃ g : Bool, _ ∧ (if V fr 1 = s.1 36 then _ else _) = _
    rw [hsq]
    by_cases c2 : V fr 1 = iN sq
    · rw [if_pos (c := V fr 1 = iN sq) c2]
      have w2 : f_M_word_28 K N (iN fr) (2 : Int32) s t = _ := zWs_word K N hK t h fr 2 (by omega) (by omega)
      rw [w2]
      show ∃ g : Bool, _ ∧ (if V fr 2 < (1 : Int32) then _ else _) = _
      by_cases c3 : 1 ≤ n32 (V fr 2)
      · have hn : V fr 2 = iN (n32 (V fr 2)) := (iN_n32 (by omega)).symm
        have hlt := n32_lt (V fr 2)
        obtain ⟨n, hnn⟩ : ∃ n, n = n32 (V fr 2) := ⟨_, rfl⟩
        rw [hn]
        rw [← hnn] at c3 hlt ⊢
        rw [if_neg (c := iN n < (1 : Int32)) (by rw [iL1, iN_lt hlt (by omega)]; omega), i12]
        by_cases c4 : n ≤ 12
        · rw [if_neg (c := iN 12 < iN n) (by rw [iN_lt (by omega) hlt]; omega)]
          have en : iN fr + iN n + (1 : Int32) = iN (fr + n + 1) := by rw [iN_add, iL1, iN_add]
          rw [en]
          by_cases c5 : fr + n + 1 ≤ 28
          · rw [if_neg (c := iN 28 < iN (fr + n + 1)) (by rw [iN_lt (by omega) (by omega)]; omega)]
            have w3 : f_M_word_28 K N (iN (fr + n + 1)) (0 : Int32) s t = _ := zWs_word K N hK t h (fr + n + 1) 0 (by omega) (by omega)
            rw [w3]
            show ∃ g : Bool, _ ∧ (if ¬ V (fr + n + 1) 0 = (2 : Int32) then _ else _) = _
            by_cases c6 : V (fr + n + 1) 0 = 2
            · rw [if_neg (c := ¬ V (fr + n + 1) 0 = (2 : Int32)) (fun hx => hx c6)]
              have w4 : f_M_word_28 K N (iN (fr + n + 1)) (1 : Int32) s t = _ := zWs_word K N hK t h (fr + n + 1) 1 (by omega) (by omega)
              rw [w4]
              show ∃ g : Bool, _ ∧ some ((.inl (some (.int (if ¬ V (fr + n + 1) 1 = s.1 36 then (0 : Int32) else (1 : Int32)))), s, t) : px_Res) = _
              rw [hsq]
              by_cases c7 : V (fr + n + 1) 1 = iN sq
              · rw [if_neg (c := ¬ V (fr + n + 1) 1 = iN sq) (fun hx => hx c7)]
                refine ⟨true, ⟨fun _ => ?_, fun _ => rfl⟩, rfl⟩
                unfold zIs
                rw [← hnn]
                exact ⟨c1, c2, c3, c4, c5, c6, c7⟩
              · rw [if_pos (c := ¬ V (fr + n + 1) 1 = iN sq) c7]
                refine no 0 rfl (fun hx => ?_)
                unfold zIs at hx
                rw [← hnn] at hx
                exact c7 hx.2.2.2.2.2.2
            · rw [if_pos (c := ¬ V (fr + n + 1) 0 = (2 : Int32)) c6]
              refine no 0 rfl (fun hx => ?_)
              unfold zIs at hx
              rw [← hnn] at hx
              exact c6 hx.2.2.2.2.2.1
          · rw [if_pos (c := iN 28 < iN (fr + n + 1)) (by rw [iN_lt (by omega) (by omega)]; omega)]
            refine no 0 rfl (fun hx => ?_)
            unfold zIs at hx
            rw [← hnn] at hx
            omega
        · rw [if_pos (c := iN 12 < iN n) (by rw [iN_lt (by omega) hlt]; omega)]
          refine no 0 rfl (fun hx => ?_)
          unfold zIs at hx
          rw [← hnn] at hx
          omega
      · have hle : V fr 2 < (1 : Int32) := by
          rw [← Int32.not_le]
          intro hx
          have h0 : ¬ V fr 2 ≤ iN 0 := fun hy => by
            have : (1 : Int32) ≤ iN 0 := Int32.le_trans hx hy
            exact absurd this (by decide)
          rw [n32_le (by omega)] at h0
          omega
        rw [if_pos (c := V fr 2 < (1 : Int32)) hle]
        refine no 0 rfl (fun hx => ?_)
        exact c3 hx.2.2.1
    · rw [if_neg (c := V fr 1 = iN sq) c2]
      exact no 0 rfl (fun hx => c2 hx.2.1)
  · rw [if_pos (c := ¬ V fr 0 = (1 : Int32)) c1]
    exact no 0 rfl (fun hx => c1 hx.1)
/-! two bits of a word -/
theorem sh31 : ∀ j, j < 12 → ((2 : Int32) * iN j &&& 31).toBitVec.smod 32#32 = BitVec.ofNat 32 (2 * j) := by decide
theorem two_bits (x : Int32) (j : Nat) (hj : j < 12) : (x >>> ((2 : Int32) * iN j &&& 31)) &&& (3 : Int32) = iN (u32 x / 4 ^ j % 4) := by
  apply Int32.toBitVec.inj
  have e : ((x >>> ((2 : Int32) * iN j &&& 31)) &&& (3 : Int32)).toBitVec = (x.toBitVec.sshiftRight (2 * j)) &&& 3#32 := by
    show (x.toBitVec.sshiftRight' (((2 : Int32) * iN j &&& 31).toBitVec.smod 32#32)) &&& 3#32 = _
    rw [sh31 j hj]
    show (x.toBitVec.sshiftRight (BitVec.ofNat 32 (2 * j)).toNat) &&& 3#32 = _
    have : (BitVec.ofNat 32 (2 * j)).toNat = 2 * j := by simp; omega
    rw [this]
  rw [e]
  have e2 : (iN (u32 x / 4 ^ j % 4)).toBitVec = BitVec.ofNat 32 (u32 x / 4 ^ j % 4) := by unfold iN; simp
  rw [e2]
  apply BitVec.eq_of_getLsbD_eq
  intro i hi
  rw [BitVec.getLsbD_and, BitVec.getLsbD_sshiftRight]
  have h4 : 4 ^ j = 2 ^ (2 * j) := by rw [Nat.pow_mul]
  have h3 : (4 : Nat) = 2 ^ 2 := rfl
  have hr : (u32 x / 4 ^ j % 4).testBit i = (decide (i < 2) && (u32 x).testBit (2 * j + i)) := by
    rw [h4]
    conv => lhs; rw [h3]
    rw [Nat.testBit_mod_two_pow, Nat.testBit_div_two_pow]
    congr 2; omega
  have hb3 : (3#32).getLsbD i = decide (i < 2) := by
    have : ∀ i, i < 32 → (3#32).getLsbD i = decide (i < 2) := by decide
    exact this i hi
  rw [hb3, BitVec.getLsbD_ofNat, hr]
  by_cases h2 : i < 2
  · have hd : decide (i < 2) = true := decide_eq_true h2
    have hd2 : decide (32 ≤ i) = false := decide_eq_false (by omega)
    have hd3 : decide (i < 32) = true := decide_eq_true hi
    rw [hd, hd2, hd3, if_pos (by omega)]
    simp only [Bool.not_false, Bool.true_and, Bool.and_true]
    rfl
  · have hd : decide (i < 2) = false := decide_eq_false h2
    rw [hd, Bool.and_false, Bool.false_and, Bool.and_false]
/-- a block of the journal goes to the kept ones -/
theorem m_ld81 (K : px_K) (N : Nat) (hN : 2000 ≤ N) (hK : zKm K) (t : px_W) (V : ZSt) (u2 : Int32) (fr j b f : Nat) (hb : b < 106) (hfj : fr + 1 + j < 106) (hf : f = u32 (V fr 15) / 4 ^ j % 4) : ∀ (d m n : Nat) (s : px_S), m + d = 16 → d < n → zWs s V → wp (l_M_loadsTree_28_81 K N n (iN fr) u2 (iN j) (iN b) (iN f) (iN m) s t) (zC 108 [] t (fun s' => ∃ g, s' = sF s 40 g ∧ ∀ c w, w < 16 → g (16 * c + w) = if c = b ∧ m ≤ w then zDec V fr j w else s.2.2.1 40 (16 * c + w))) := by
  have h40 : K.2.2 40 = 1696 := hK.2.2.2.2.2.2.2.2.2.2.2.1
  have hf4 : f < 4 := by rw [hf]; exact Nat.mod_lt _ (by omega)
  intro d
  induction d with
  | zero =>
    intro m n s hm hn h
    obtain ⟨n, rfl⟩ : ∃ n', n = n' + 1 := ⟨n - 1, by omega⟩
    have hm : m = 16 := by omega
    subst hm
    unfold l_M_loadsTree_28_81
    exact wp_if (by decide) (wp_rC ⟨s.2.2.1 40, by rw [sF_triv], fun c w hw => by rw [if_neg (by omega)]⟩)
  | succ d ih =>
    intro m n s hm hn h
    obtain ⟨n, rfl⟩ : ∃ n', n = n' + 1 := ⟨n - 1, by omega⟩
    have e3 : iN m + (1 : Int32) = iN (m + 1) := by rw [iL1, iN_add]
    have e16 : (16 : Int32) * iN b + iN m = iN (16 * b + m) := by rw [iL16, iN_mul, iN_add]
    have efj : iN fr + (1 : Int32) + iN j = iN (fr + 1 + j) := by rw [iL1, iN_add, iN_add]
    have hw1 := zWs_word K N hK t h (fr + 1 + j) m hfj (by omega)
    have fin : ∀ x : Int32, x = zDec V fr j m → wp (l_M_loadsTree_28_81 K N n (iN fr) u2 (iN j) (iN b) (iN f) (iN (m + 1)) (sA s 40 (16 * b + m) x) t) (zC 108 [] t (fun s' => ∃ g, s' = sF s 40 g ∧ ∀ c w, w < 16 → g (16 * c + w) = if c = b ∧ m ≤ w then zDec V fr j w else s.2.2.1 40 (16 * c + w))) := by
      intro x hx
      refine wp_imp (ih (m + 1) n _ (by omega) (by omega) (fun b' w hb' hw => by rw [sA_arr_ne (by omega)]; exact h b' w hb' hw)) ?_
      rintro r ⟨s', h1, g, h2, h3⟩
      refine ⟨s', h1, g, by rw [h2, sA_eq, sF_sF], fun c w hw => ?_⟩
      rw [h3 c w hw, sA_arr]
      by_cases hcb : c = b ∧ w = m
      · rw [hcb.1, hcb.2, if_neg (by omega), if_pos ⟨rfl, Nat.le_refl _⟩, upd_self]; exact hx
      · rw [upd_ne (by omega)]
        by_cases hle : c = b ∧ m ≤ w
        · rw [if_pos (by omega), if_pos hle]
        · rw [if_neg (by omega), if_neg hle]
    unfold l_M_loadsTree_28_81
    rw [e3, e16, efj, iN_nat (by omega)]
    refine wp_ifn (by rw [iL16, iN_le (by omega) (by omega)]; omega) ?_
    by_cases hm0 : m = 0
    · refine wp_ifn (fun hx => hx (by rw [hm0]; rfl)) ?_
      by_cases hf0 : f = 0
      · refine wp_if (by rw [hf0]; decide) (wp_bi hw1 (wp_gd (by rw [h40]; exact iN_in (by omega) (by omega)) (wp_let (fin _ ?_))))
        unfold zDec; rw [if_neg (fun hx => hx.2 (by rw [← hf]; exact hf0))]
      · refine wp_ifn (by rw [iL0, iN_le (by omega) (by omega)]; omega) (wp_gd (by rw [h40]; exact iN_in (by omega) (by omega)) (wp_let (fin _ ?_)))
        unfold zDec; rw [if_pos ⟨hm0, by rw [← hf]; exact hf0⟩, ← hf]
    · refine wp_if (by rw [iL0, iN_eq (by omega) (by omega)]; exact hm0) (wp_bi hw1 (wp_gd (by rw [h40]; exact iN_in (by omega) (by omega)) (wp_let (fin _ ?_))))
      unfold zDec; rw [if_neg (fun hx => hm0 hx.1)]
/-- the kept blocks -/
def zKq (s : px_S) (kt : Nat → Bool) (kp : ZSt) : Prop := (∀ b w, b < 106 → w < 16 → kt b = true → s.2.2.1 40 (16 * b + w) = kp b w) ∧ ∀ b, b < 106 → s.2.2.1 42 b = bN (kt b)
theorem m_ld58 (K : px_K) (N : Nat) (hN : 2000 ≤ N) (hK : zKm K) (t : px_W) (V : ZSt) (fr c : Nat) (l : List Nat) (hc : c = l.length) (hfr : fr + c + 1 ≤ 28) (h12 : c ≤ 12) (hl : ∀ j, j < c → V fr (3 + j) = iN (l.getD j 0) ∧ l.getD j 0 < 106) : ∀ (d j n : Nat) (s : px_S) (kt : Nat → Bool) (kp : ZSt), j + d = c → d < n → zWs s V → zKq s kt kp → wp (l_M_loadsTree_28_58 K N n (iN fr) (iN c) (iN j) s t) (zC 115 [] t (fun s' => zWs s' V ∧ (∃ g40 g42, s' = sF (sF s 40 g40) 42 g42) ∧ ∃ kt', (∀ b, kt' b = true ↔ kt b = true ∨ ∃ i, j ≤ i ∧ i < c ∧ l.getD i 0 = b) ∧ zKq s' kt' (zov kp ((List.range' j (c - j)).map fun i => (l.getD i 0, zDec V fr i))))) := by
  have h42 : K.2.2 42 = 106 := hK.2.2.2.2.2.2.2.2.2.2.2.2.2.1
  intro d
  induction d with
  | zero =>
    intro j n s kt kp hj hn h hk
    obtain ⟨n, rfl⟩ : ∃ n', n = n' + 1 := ⟨n - 1, by omega⟩
    unfold l_M_loadsTree_28_58
    refine wp_if ((iN_le (by omega) (by omega)).mpr (by omega)) (wp_rC ⟨h, ⟨s.2.2.1 40, s.2.2.1 42, by rw [sF_triv, sF_triv]⟩, kt, fun b => ⟨Or.inl, fun hx => ?_⟩, ?_⟩)
    · rcases hx with hx | ⟨i, i1, i2, _⟩
      · exact hx
      · omega
    · rw [show c - j = 0 by omega]; exact hk
  | succ d ih =>
    intro j n s kt kp hj hn h hk
    obtain ⟨n, rfl⟩ : ∃ n', n = n' + 1 := ⟨n - 1, by omega⟩
    have e3 : iN j + (1 : Int32) = iN (j + 1) := by rw [iL1, iN_add]
    have e3j : (3 : Int32) + iN j = iN (3 + j) := by show iN 3 + iN j = _; rw [iN_add]
    obtain ⟨l1, l2⟩ := hl j (by omega)
    obtain ⟨b, hb⟩ : ∃ b, b = l.getD j 0 := ⟨_, rfl⟩
    rw [← hb] at l1 l2
    unfold l_M_loadsTree_28_58
    rw [e3, e3j]
    refine wp_ifn (by rw [iN_le (by omega) (by omega)]; omega) ?_
    have w1 := zWs_word K N hK t h fr (3 + j) (by omega) (by omega)
    rw [l1] at w1
    refine wp_bi w1 (wp_bi (zWs_word K N hK t h fr 15 (by omega) (by omega)) (wp_let ?_))
    rw [two_bits _ j (by omega)]
    obtain ⟨s1, a1, g, a2, a3⟩ := wp_C (m_ld81 K N hN hK t V (iN c) fr j b (u32 (V fr 15) / 4 ^ j % 4) l2 (by omega) rfl 16 0 N s (by omega) (by omega) h)
    refine wp_lp a1 (wp_if rfl ?_)
    rw [iN_nat (by omega)]
    refine wp_gd (by rw [h42]; exact iN_in (by omega) (by omega)) (wp_let ?_)
    have hw2 : zWs (sA s1 42 b (1 : Int32)) V := fun b' w hb' hw => by rw [sA_arr_ne (by omega), a2, sF_arr_ne (by omega)]; exact h b' w hb' hw
    have hk2 : zKq (sA s1 42 b (1 : Int32)) (zu kt b true) (zu kp b (zDec V fr j)) := by
      refine ⟨fun b' w hb' hw hx => ?_, fun b' hb' => ?_⟩
      · rw [sA_arr_ne (by omega), a2, sF_arr, a3 b' w hw]
        by_cases hbb : b' = b
        · rw [if_pos ⟨hbb, Nat.zero_le _⟩, hbb, zu_self]
        · rw [if_neg (fun hx => hbb hx.1), zu_ne _ _ hbb]
          rw [zu_ne _ _ hbb] at hx
          exact hk.1 b' w hb' hw hx
      · rw [sA_arr]
        by_cases hbb : b' = b
        · rw [hbb, upd_self, zu_self]; rfl
        · rw [upd_ne hbb, zu_ne _ _ hbb, a2, sF_arr_ne (by omega)]; exact hk.2 b' hb'
    refine wp_imp (ih (j + 1) n _ _ _ (by omega) (by omega) hw2 hk2) ?_
    rintro r ⟨s', r1, r2, ⟨g40, g42, r3⟩, kt', r4, r5⟩
    refine ⟨s', r1, r2, ⟨g40, g42, ?_⟩, kt', fun b' => ?_, ?_⟩
    · rw [r3, a2]
      unfold sA sF
      dsimp only
      congr 1
      congr 1
      congr 1
      funext q
      unfold gA
      by_cases c1 : q = 42
      · simp [c1]
      · by_cases c2 : q = 40 <;> simp [c1, c2]
    · rw [r4 b']
      constructor
      · rintro (hx | ⟨i, i1, i2, i3⟩)
        · by_cases hbb : b' = b
          · right; exact ⟨j, Nat.le_refl _, by omega, by rw [hbb]; exact hb.symm⟩
          · rw [zu_ne _ _ hbb] at hx; exact Or.inl hx
        · exact Or.inr ⟨i, by omega, i2, i3⟩
      · rintro (hx | ⟨i, i1, i2, i3⟩)
        · left
          by_cases hbb : b' = b
          · rw [hbb, zu_self]
          · rw [zu_ne _ _ hbb]; exact hx
        · by_cases hij : i = j
          · left; rw [← i3, hij, ← hb, zu_self]
          · right; exact ⟨i, by omega, i2, i3⟩
    · have e : c - j = (c - (j + 1)) + 1 := by omega
      rw [e, List.range'_succ, List.map_cons]
      show zKq s' kt' (zov (zu kp (l.getD j 0) (zDec V fr j)) _)
      rw [← hb]; exact r5
/-- the commits are taken, one after another -/
theorem m_ld47 (K : px_K) (N : Nat) (hN : 2000 ≤ N) (hK : zKm K) (t : px_W) (V : ZSt) : ∀ (cs : List (List Nat)) (fr sq n : Nat) (s : px_S) (kt : Nat → Bool) (kp : ZSt), zCh V fr sq cs → 1 ≤ fr → fr ≤ 29 → cs.length < n → sq + cs.length < 2147483648 → zNT V (sq + cs.length) → zWs s V → s.1 36 = iN sq → zKq s kt kp → wp (l_M_loadsTree_28_47 K N n (iN fr) s t) (zC 128 [] t (fun s' => zWs s' V ∧ s'.1 36 = iN (sq + cs.length) ∧ (∀ c, c ≠ 40 → c ≠ 42 → s'.2.2.1 c = s.2.2.1 c) ∧ (∀ r, r ≠ 36 → s'.1 r = s.1 r) ∧ s'.2.1 = s.2.1 ∧ s'.2.2.2 = s.2.2.2 ∧ ∃ kt', (∀ b, kt' b = true ↔ kt b = true ∨ ∃ e ∈ zPr V fr cs, e.1 = b) ∧ zKq s' kt' (zov kp (zPr V fr cs)))) := by
  intro cs
  induction cs with
  | nil =>
    intro fr sq n s kt kp hch hf1 hf2 hn hsq hnt h h36 hk
    obtain ⟨n, rfl⟩ : ∃ n', n = n' + 1 := ⟨n - 1, by omega⟩
    obtain ⟨g, g1, g2⟩ := m_isCommit K N hN hK t s V h fr sq hf1 (by omega) h36
    unfold l_M_loadsTree_28_47
    refine wp_bi g2 ?_
    cases g with
    | false =>
      refine wp_if rfl (wp_rC ⟨h, h36, fun _ _ _ => rfl, fun _ _ => rfl, rfl, rfl, kt, fun b => ⟨Or.inl, fun hx => ?_⟩, hk⟩)
      rcases hx with hx | ⟨e, he, _⟩
      · exact hx
      · cases he
    | true =>
      exfalso
      obtain ⟨_, _, x3, x4, x5, x6, x7⟩ := g1.mp rfl
      have := hnt (fr + n32 (V fr 2) + 1) (by omega) (by omega) x6
      rw [x7, n32_iN (by have : sq + 0 < 2147483648 := hsq; omega)] at this
      have this : sq < sq + 0 := this
      omega
  | cons l cs ih =>
    intro fr sq n s kt kp hch hf1 hf2 hn hsq hnt h h36 hk
    obtain ⟨n, rfl⟩ : ∃ n', n = n' + 1 := ⟨n - 1, by omega⟩
    rw [List.length_cons] at hn hsq hnt
    obtain ⟨hcm, hch'⟩ := hch
    obtain ⟨hz, hn2, _⟩ := zCm_is hcm
    have hcm2 := hcm
    obtain ⟨_, _, k3, k4, k5, k6, _, _, k9⟩ := hcm2
    obtain ⟨g, g1, g2⟩ := m_isCommit K N hN hK t s V h fr sq hf1 (by omega) h36
    have hg : g = true := g1.mpr hz
    subst hg
    unfold l_M_loadsTree_28_47
    have w2 := zWs_word K N hK t h fr 2 (by omega) (by omega)
    rw [k3] at w2
    refine wp_bi g2 (wp_ifn (by decide) (wp_bi w2 ?_))
    obtain ⟨s1, a1, a2, ⟨g40, g42, a3⟩, kt1, a4, a5⟩ := wp_C (m_ld58 K N hN hK t V fr l.length l rfl k6 k5 (fun j hj => ⟨(k9 j hj).1, (k9 j hj).2.2⟩) l.length 0 N s kt kp (by omega) (by omega) h hk)
    refine wp_lp a1 (wp_if rfl ?_)
    have e1 : iN fr + (iN l.length + (2 : Int32)) = iN (fr + (l.length + 2)) := by rw [iL2, iN_add, iN_add]
    have e36 : s1.1 36 + (1 : Int32) = iN (sq + 1) := by rw [a3]; show s.1 36 + (1 : Int32) = _; rw [h36, iL1, iN_add]
    refine wp_let (wp_let ?_)
    show wp (l_M_loadsTree_28_47 K N n (iN fr + (iN l.length + (2 : Int32))) (sR s1 36 (s1.1 36 + (1 : Int32))) t) _
    rw [e1, e36]
    have hp : (List.range' 0 (l.length - 0)).map (fun i => (l.getD i 0, zDec V fr i)) = zPj V fr l := by
      unfold zPj; rw [List.range_eq_range', Nat.sub_zero]
    rw [hp] at a5
    refine wp_imp (ih (fr + (l.length + 2)) (sq + 1) n _ kt1 _ hch' (by omega) (by omega) (by omega) (by omega) (by rw [show sq + 1 + cs.length = sq + (cs.length + 1) by omega]; exact hnt) a2 rfl a5) ?_
    rintro r ⟨s', r1, r2, r3, r4, r5, r6, r7, kt', r8, r9⟩
    refine ⟨s', r1, r2, ?_, fun c c1 c2 => ?_, fun r hr => ?_, ?_, ?_, kt', fun b => ?_, ?_⟩
    · rw [r3, List.length_cons]; congr 1; omega
    · rw [r4 c c1 c2]; show s1.2.2.1 c = _; rw [a3, sF_arr_ne c2, sF_arr_ne c1]
    · rw [r5 r hr, sR_1, if_neg hr, a3]; rfl
    · rw [r6]; show s1.2.1 = _; rw [a3]; rfl
    · rw [r7]; show s1.2.2.2 = _; rw [a3]; rfl
    · rw [r8 b, a4 b]
      have hpr : zPr V fr (l :: cs) = zPj V fr l ++ zPr V (fr + (l.length + 2)) cs := rfl
      rw [hpr]
      constructor
      · rintro ((hx | ⟨i, _, i2, i3⟩) | ⟨e, he, hx⟩)
        · exact Or.inl hx
        · right
          exact ⟨(l.getD i 0, zDec V fr i), List.mem_append_left _ (List.mem_map.mpr ⟨i, List.mem_range.mpr i2, rfl⟩), i3⟩
        · exact Or.inr ⟨e, List.mem_append_right _ he, hx⟩
      · rintro (hx | ⟨e, he, hx⟩)
        · exact Or.inl (Or.inl hx)
        · rcases List.mem_append.mp he with he | he
          · obtain ⟨i, hi, rfl⟩ := List.mem_map.mp he
            exact Or.inl (Or.inr ⟨i, Nat.zero_le _, List.mem_range.mp hi, hx⟩)
          · exact Or.inr ⟨e, he, hx⟩
    · have hpr : zPr V fr (l :: cs) = zPj V fr l ++ zPr V (fr + (l.length + 2)) cs := rfl
      rw [hpr, zov_append]; exact r9
theorem m_ld135 (K : px_K) (N : Nat) (hN : 2000 ≤ N) (hK : zKm K) (t : px_W) (b : Nat) (hb : b < 106) (f : Bool) : ∀ (d m n : Nat) (s : px_S), m + d = 16 → d < n → s.2.2.1 42 b = bN f → wp (l_M_loadsTree_28_135 K N n (iN b) (iN m) s t) (zC 161 [] t (fun s' => ∃ g, s' = sF s 39 g ∧ ∀ c w, w < 16 → g (16 * c + w) = if c = b ∧ m ≤ w ∧ f = true then s.2.2.1 40 (16 * b + w) else s.2.2.1 39 (16 * c + w))) := by
  have h39 : K.2.2 39 = 1696 := hK.2.2.2.2.2.2.2.2.2.2.1
  have h40 : K.2.2 40 = 1696 := hK.2.2.2.2.2.2.2.2.2.2.2.1
  have h42 : K.2.2 42 = 106 := hK.2.2.2.2.2.2.2.2.2.2.2.2.2.1
  intro d
  induction d with
  | zero =>
    intro m n s hm hn h
    obtain ⟨n, rfl⟩ : ∃ n', n = n' + 1 := ⟨n - 1, by omega⟩
    have hm : m = 16 := by omega
    subst hm
    unfold l_M_loadsTree_28_135
    exact wp_if (by decide) (wp_rC ⟨s.2.2.1 39, by rw [sF_triv], fun c w hw => by rw [if_neg (by omega)]⟩)
  | succ d ih =>
    intro m n s hm hn h
    obtain ⟨n, rfl⟩ : ∃ n', n = n' + 1 := ⟨n - 1, by omega⟩
    have e3 : iN m + (1 : Int32) = iN (m + 1) := by rw [iL1, iN_add]
    have e16 : (16 : Int32) * iN b + iN m = iN (16 * b + m) := by rw [iL16, iN_mul, iN_add]
    unfold l_M_loadsTree_28_135
    rw [e3, e16, iN_nat (show b < 2147483648 by omega), iN_nat (by omega), h]
    refine wp_ifn (by rw [iL16, iN_le (by omega) (by omega)]; omega) (wp_gd (by rw [h42]; exact iN_in (by omega) (by omega)) ?_)
    cases f with
    | false =>
      refine wp_if rfl (wp_rC ⟨s.2.2.1 39, by rw [sF_triv], fun c w hw => by rw [if_neg (fun hx => by cases hx.2.2)]⟩)
    | true =>
      refine wp_ifn (by decide) (wp_gd ⟨by rw [h40]; exact iN_in (by omega) (by omega), by rw [h39]; exact iN_in (by omega) (by omega)⟩ (wp_let ?_))
      refine wp_imp (ih (m + 1) n _ (by omega) (by omega) (by rw [sA_arr_ne (by omega)]; exact h)) ?_
      rintro r ⟨s', h1, g, h2, h3⟩
      refine ⟨s', h1, g, by rw [h2, sA_eq, sF_sF], fun c w hw => ?_⟩
      rw [h3 c w hw, sA_arr, sA_arr_ne (by omega)]
      by_cases hcb : c = b ∧ w = m
      · rw [hcb.1, hcb.2, if_neg (by omega), if_pos ⟨rfl, Nat.le_refl _, rfl⟩, upd_self]
      · rw [upd_ne (by omega)]
        by_cases hle : c = b ∧ m ≤ w ∧ true = true
        · rw [if_pos ⟨hle.1, by omega, rfl⟩, if_pos hle]
        · rw [if_neg (fun hx => hle ⟨hx.1, by omega, rfl⟩), if_neg hle]
theorem m_ld130 (K : px_K) (N : Nat) (hN : 2000 ≤ N) (hK : zKm K) (t : px_W) (kt : Nat → Bool) : ∀ (d i n : Nat) (s : px_S), i + d = 106 → d < n → (∀ b, b < 106 → s.2.2.1 42 b = bN (kt b)) → wp (l_M_loadsTree_28_130 K N n (iN i) s t) (zC 163 [] t (fun s' => ∃ g, s' = sF s 39 g ∧ ∀ c w, c < 106 → w < 16 → g (16 * c + w) = if i ≤ c ∧ kt c = true then s.2.2.1 40 (16 * c + w) else s.2.2.1 39 (16 * c + w))) := by
  have i106 : (106 : Int32) = iN 106 := rfl
  intro d
  induction d with
  | zero =>
    intro i n s hi hn h
    obtain ⟨n, rfl⟩ : ∃ n', n = n' + 1 := ⟨n - 1, by omega⟩
    have hi : i = 106 := by omega
    subst hi
    unfold l_M_loadsTree_28_130
    exact wp_if (by decide) (wp_rC ⟨s.2.2.1 39, by rw [sF_triv], fun c w hc hw => by rw [if_neg (by omega)]⟩)
  | succ d ih =>
    intro i n s hi hn h
    obtain ⟨n, rfl⟩ : ∃ n', n = n' + 1 := ⟨n - 1, by omega⟩
    have e3 : iN i + (1 : Int32) = iN (i + 1) := by rw [iL1, iN_add]
    unfold l_M_loadsTree_28_130
    rw [e3]
    refine wp_ifn (by rw [i106, iN_le (by omega) (by omega)]; omega) ?_
    obtain ⟨s1, a1, g, a2, a3⟩ := wp_C (m_ld135 K N hN hK t i (by omega) (kt i) 16 0 N s (by omega) (by omega) (h i (by omega)))
    refine wp_lp a1 (wp_if rfl ?_)
    show wp (l_M_loadsTree_28_130 K N n _ s1 t) _
    refine wp_imp (ih (i + 1) n s1 (by omega) (by omega) (fun b hb => by rw [a2, sF_arr_ne (by omega)]; exact h b hb)) ?_
    rintro r ⟨s', r1, g', r2, r3⟩
    refine ⟨s', r1, g', by rw [r2, a2, sF_sF], fun c w hc hw => ?_⟩
    rw [r3 c w hc hw, a2, sF_arr, sF_arr_ne (by omega), a3 c w hw]
    by_cases hci : c = i
    · rw [if_neg (by omega), hci]
      by_cases hk : kt i = true
      · rw [if_pos ⟨rfl, Nat.zero_le _, hk⟩, if_pos ⟨Nat.le_refl _, hk⟩]
      · rw [if_neg (fun hx => hk hx.2.2), if_neg (fun hx => hk hx.2)]
    · rw [if_neg (c := c = i ∧ 0 ≤ w ∧ kt i = true) (fun hx => hci hx.1)]
      by_cases hle : i ≤ c ∧ kt c = true
      · rw [if_pos ⟨by omega, hle.2⟩, if_pos hle]
      · rw [if_neg (fun hx => hle ⟨by omega, hx.2⟩), if_neg hle]
theorem m_loads {W : ZSt → Prop} (K : px_K) (N : Nat) (hN : 2000 ≤ N) (hK : zKm K) (t : px_W) (s : px_S) (v : ZVs) (h : zRv s v) (hs : zSf v) (m : Nat) (hm : m + 1 < 2147483648) (hg : zGood W m v.cur) : ∃ s', f_M_loadsTree_28 K N s t = some (.inl none, s', t) ∧ zRt s' (zLoad v) ∧ zFt s s' := by
  apply wp_B
  obtain ⟨s0, cs, g1, g2, g3, g4, g5, g6⟩ := hg
  have hl := zCh_len g4 (by omega)
  have hgl := zLen_ge g4
  have hs0 : n32 (v.cur 0 0) = s0 := by rw [g1]; exact n32_iN (by omega)
  unfold f_M_loadsTree_28
  obtain ⟨s1, a1, a2, a3, a4, a5, a6⟩ := wp_C (m_ld2 K N hN hK t v hs 106 0 N s (by omega) (by omega) h)
  refine wp_lp a1 (wp_if rfl ?_)
  show wp (px_bi _ _ _) _
  have hw1 : zWs s1 v.cur := fun b w hb hw => by rw [a4 b w hb hw, if_pos (Nat.zero_le _)]
  have w0 := zWs_word K N hK t hw1 0 0 (by omega) (by omega)
  rw [g1] at w0
  refine wp_bi w0 (wp_let (wp_let ?_))
  have hk1 : zKq (sR (sR s1 36 (iN s0)) 37 (1 : Int32)) (fun _ => false) (fun _ _ => 0) := ⟨fun b w hb hw hx => (by cases hx), fun b hb => by
    show s1.2.2.1 42 b = _
    rw [a6 b hb, if_pos (Nat.zero_le _)]; rfl⟩
  obtain ⟨s2, b1, b2, b3, b4, b5, b6, b7, kt', b8, b9⟩ := wp_C (m_ld47 K N hN hK t v.cur cs 1 s0 N (sR (sR s1 36 (iN s0)) 37 (1 : Int32)) (fun _ => false) (fun _ _ => 0) g4 (by omega) (by omega) (by omega) (by omega) g5 hw1 rfl hk1)
  refine wp_lp b1 (wp_if rfl ?_)
  show wp (px_lp _ _ _) _
  obtain ⟨s3, c1, g, c2, c3⟩ := wp_C (m_ld130 K N hN hK t kt' 106 0 N s2 (by omega) (by omega) b9.2)
  refine wp_lp c1 (wp_if rfl ?_)
  obtain ⟨r1, r2, r3⟩ := zRep_eq (c := 28) (kt := fun _ => false) (kp := fun _ _ => 0) g4 g5 (Nat.le_refl _) (by omega) (by omega)
  have hkt : ∀ b, kt' b = (zRep v.cur 28 1 s0 (fun _ => false) (fun _ _ => 0)).2.1 b := by
    intro b
    rw [Bool.eq_iff_iff, b8 b, r2 b]
  have hkt' : kt' = (zRep v.cur 28 1 s0 (fun _ => false) (fun _ _ => 0)).2.1 := funext hkt
  have hv2 : zRv s2 v := by
    refine ⟨?_, ?_⟩
    · obtain ⟨h1, h2, h3, h4, h5⟩ := a2.1
      refine ⟨fun k hk => ?_, by rw [b5 29 (by omega)]; exact h2, by rw [b5 30 (by omega)]; exact h3, h4, fun hx => by rw [b6]; exact h5 hx⟩
      obtain ⟨y1, y2, y3, y4, y5, y6⟩ := h1 k hk
      exact ⟨y1, by rw [b4 30 (by omega) (by omega)]; exact y2, fun j hj => by rw [b4 31 (by omega) (by omega), b4 32 (by omega) (by omega)]; exact y3 j hj, fun b w hb hw => by rw [b4 29 (by omega) (by omega)]; exact y4 b w hb hw, by rw [b4 33 (by omega) (by omega)]; exact y5, by rw [b4 34 (by omega) (by omega)]; exact y6⟩
    · obtain ⟨q1, q2, q3, q4, q5, q6, q7, q8, q9, q10⟩ := a2.2
      refine ⟨by rw [b5 26 (by omega)]; exact q1, by rw [b5 27 (by omega)]; exact q2, by rw [b5 28 (by omega)]; exact q3, by rw [b5 31 (by omega)]; exact q4, by rw [b5 32 (by omega)]; exact q5, by rw [b5 33 (by omega)]; exact q6, by rw [b5 34 (by omega)]; exact q7, by rw [b5 35 (by omega)]; exact q8, fun i hi => ?_, fun k hk => ?_⟩
      · rw [b4 35 (by omega) (by omega), b4 36 (by omega) (by omega), b4 37 (by omega) (by omega)]; exact q9 i hi
      · rw [b4 38 (by omega) (by omega)]; exact q10 k hk
  have hload : (zLoad v).kt = kt' ∧ (zLoad v).kp = zov (fun _ _ => 0) (zPr v.cur 1 cs) ∧ (zLoad v).sq = s0 + cs.length ∧ (zLoad v).wd = (fun b => if kt' b = true then zov (fun _ _ => 0) (zPr v.cur 1 cs) b else v.cur b) := by
    unfold zLoad
    rw [hs0]
    refine ⟨hkt'.symm, r3, r1, ?_⟩
    rw [hkt', ← r3]; rfl
  obtain ⟨l1, l2, l3, l4⟩ := hload
  refine wp_rB ⟨⟨by rw [c2]; exact zRv_row hv2 (by omega), fun b w hb hw => ?_, fun b w hb hw hx => ?_, fun b hb => ?_, fun b hb => ?_, ?_, ?_⟩, ?_⟩
  · rw [c2, sF_arr, c3 b w hb hw, l4]
    show _ = (if kt' b = true then zov (fun _ _ => 0) (zPr v.cur 1 cs) b else v.cur b) w
    by_cases hk : kt' b = true
    · rw [if_pos ⟨Nat.zero_le _, hk⟩, if_pos hk]; exact b9.1 b w hb hw hk
    · rw [if_neg (fun hx => hk hx.2), if_neg hk]; exact b2 b w hb hw
  · rw [l1] at hx
    rw [c2, sF_arr_ne (by omega), l2]
    exact b9.1 b w hb hw hx
  · rw [c2, sF_arr_ne (by omega), b4 41 (by omega) (by omega)]
    show s1.2.2.1 41 b = bN false
    rw [a5 b hb, if_pos (Nat.zero_le _)]; rfl
  · rw [c2, sF_arr_ne (by omega), l1]; exact b9.2 b hb
  · rw [c2, l3]; exact b3
  · rw [c2]; show s2.1 37 = iN 1
    rw [b5 37 (by omega)]; rfl
  · have k2 : zFt s1 s2 := by
      refine ⟨fun c hc => ?_, fun r hr => ?_, b6, b7⟩
      · rw [b4 c (by omega) (by omega)]; rfl
      · rw [b5 r (by omega), sR_1, if_neg (by omega), sR_1, if_neg (by omega)]
    exact zFt_trans a3 (zFt_trans k2 (by rw [c2]; exact zFt_sF (by omega)))
