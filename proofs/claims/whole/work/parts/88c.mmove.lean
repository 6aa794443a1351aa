/-! WHAT LIES WITHIN A DIRECTORY -/
def zWi (W : ZSt) (i : Nat) : Nat → Nat → Bool
  | 0, o => decide (i = o)
  | m + 1, o => decide (i = o) || (List.range (tS W o)).any fun p => !decide (tN W o p = 0) && (decide (tI W (n32 (tE W o p)) 0 = 1) && zWi W i m (n32 (tE W o p)))
/-- ranks that stay below 24 -/
theorem zrank {W : ZSt} (hw : ZW W) : ∃ r : Nat → Nat, (∀ d p i, zEnt W d p i → i < 24 → r d < r i) ∧ ∀ j, j < 24 → r j < 24 := by
  obtain ⟨r, hr⟩ := hw.b.er
  refine ⟨fun j => ((List.range 24).filter fun k => decide (r k < r j)).length, fun d p i he hi => ?_, fun j hj => ?_⟩
  · have hd := he.1
    have hlt := hr d p i he hi
    show ((List.range 24).filter fun k => decide (r k < r d)).length < ((List.range 24).filter fun k => decide (r k < r i)).length
    rw [← List.countP_eq_length_filter, ← List.countP_eq_length_filter]
    have key : ∀ l : List Nat, d ∈ l → List.countP (fun k => decide (r k < r d)) l < List.countP (fun k => decide (r k < r i)) l := by
      intro l
      induction l with
      | nil => intro h; cases h
      | cons a l ih =>
        intro h
        rw [List.countP_cons, List.countP_cons]
        have mono : List.countP (fun k => decide (r k < r d)) l ≤ List.countP (fun k => decide (r k < r i)) l := List.countP_mono_left (fun k _ hk => by
          have := of_decide_eq_true hk
          exact decide_eq_true (by omega))
        by_cases hda : d = a
        · rw [if_neg (by rw [← hda, decide_eq_false (Nat.lt_irrefl _)]; exact Bool.noConfusion), if_pos (by rw [← hda]; exact decide_eq_true hlt)]
          omega
        · have hdl : d ∈ l := by
            rcases List.mem_cons.mp h with h | h
            · exact absurd h hda
            · exact h
          have := ih hdl
          by_cases ha : r a < r d
          · rw [if_pos (decide_eq_true ha), if_pos (decide_eq_true (by omega))]; omega
          · rw [if_neg (by rw [decide_eq_false ha]; exact Bool.noConfusion)]; split <;> omega
    exact key _ (List.mem_range.mpr hd)
  · have h1 : ((List.range 24).filter fun k => decide (r k < r j)).length < (List.range 24).length := by
      rw [← List.countP_eq_length_filter]
      have key : ∀ l : List Nat, j ∈ l → List.countP (fun k => decide (r k < r j)) l < l.length := by
        intro l
        induction l with
        | nil => intro h; cases h
        | cons a l ih =>
          intro h
          rw [List.countP_cons, List.length_cons]
          have hle := List.countP_le_length (p := fun k => decide (r k < r j)) (l := l)
          by_cases hja : j = a
          · rw [if_neg (by rw [← hja, decide_eq_false (Nat.lt_irrefl _)]; exact Bool.noConfusion)]; omega
          · have hjl : j ∈ l := by
              rcases List.mem_cons.mp h with h | h
              · exact absurd h hja
              · exact h
            have := ih hjl
            split <;> omega
      exact key _ (List.mem_range.mpr hj)
    rw [List.length_range] at h1
    exact h1
theorem m_isWithin_loop (K : px_K) (N : Nat) (hN : 2000 ≤ N) (hK : zKm K) (t : px_W) {s : px_S} {W : ZSt} (h : zWs s W) (hw : ZW W) (rec : Int32 → Int32 → px_S → px_W → Option px_Res) (i o m : Nat) (ho : o < 24) (hk : tI W o 0 = 1) (hrec : ∀ p, p < tS W o → tN W o p ≠ 0 → tI W (n32 (tE W o p)) 0 = 1 → rec (iN i) (tE W o p) s t = some (.inl (some (.int (bN (zWi W i m (n32 (tE W o p)))))), s, t)) : ∀ (k p n : Nat) (f : Bool), p + k = tS W o → k < n → l_M_isWithin_28_9 K N rec n (iN i) (iN o) (bN f) (iN p) s t = some (.inl (44, [bN (f || (List.range' p k).any fun q => !decide (tN W o q = 0) && (decide (tI W (n32 (tE W o q)) 0 = 1) && zWi W i m (n32 (tE W o q))))], s, t)) := by
  obtain ⟨hs, h320⟩ := m_size K N hK t h hw.a o ho (Or.inl hk)
  intro k
  induction k with
  | zero =>
    intro p n f hp hn
    obtain ⟨n, rfl⟩ : ∃ n', n = n' + 1 := ⟨n - 1, by omega⟩
    obtain ⟨r, e1, e2⟩ : wp (l_M_isWithin_28_9 K N rec (n + 1) (iN i) (iN o) (bN f) (iN p) s t) (fun r => r = .inl (44, [bN f], s, t)) := by
      unfold l_M_isWithin_28_9
      exact wp_bi hs (wp_if ((iN_le (by omega) (by omega)).mpr (by omega)) (wp_some rfl))
    rw [e1, e2]
    show _ = some (Sum.inl (44, [bN (f || false)], s, t))
    rw [Bool.or_false]
  | succ k ih =>
    intro p n f hp hn
    obtain ⟨n, rfl⟩ : ∃ n', n = n' + 1 := ⟨n - 1, by omega⟩
    have e3 : iN p + (1 : Int32) = iN (p + 1) := by rw [iL1, iN_add]
    have hnm := m_nameAt K N hK t h hw.a o p ho hk (by omega)
    rw [List.range'_succ, List.any_cons]
    obtain ⟨c, hc⟩ : ∃ c, c = (!decide (tN W o p = 0) && (decide (tI W (n32 (tE W o p)) 0 = 1) && zWi W i m (n32 (tE W o p)))) := ⟨_, rfl⟩
    rw [← hc]
    cases f with
    | true =>
      rw [Bool.true_or]
      obtain ⟨r, e1, e2⟩ : wp (l_M_isWithin_28_9 K N rec (n + 1) (iN i) (iN o) (bN true) (iN p) s t) (fun r => r = .inl (44, [bN true], s, t)) := by
        unfold l_M_isWithin_28_9
        exact wp_bi hs (wp_ifn (by rw [iN_le (by omega) (by omega)]; omega) (wp_if (by decide) (wp_some rfl)))
      rw [e1, e2]
    | false =>
      rw [Bool.false_or]
      obtain ⟨r, e1, e2⟩ : wp (l_M_isWithin_28_9 K N rec (n + 1) (iN i) (iN o) (bN false) (iN p) s t) (fun r => r = .inl (44, [bN (c || (List.range' (p + 1) k).any fun q => !decide (tN W o q = 0) && (decide (tI W (n32 (tE W o q)) 0 = 1) && zWi W i m (n32 (tE W o q))))], s, t)) := by
        unfold l_M_isWithin_28_9
        rw [e3]
        refine wp_bi hs (wp_ifn (by rw [iN_le (by omega) (by omega)]; omega) (wp_ifn (fun hx => hx rfl) (wp_bi hnm ?_)))
        by_cases h0 : tN W o p = 0
        · have hcf : c = false := by rw [hc, decide_eq_true h0]; rfl
          rw [hcf]
          exact wp_if h0 ⟨_, ih (p + 1) n false (by omega) (by omega), rfl⟩
        · refine wp_ifn h0 ?_
          obtain ⟨j, j0, j1, j2, j3, j4⟩ := zent_of hw ho hk (show p < tS W o by omega) h0
          have hia := m_inodeAt K N hK t h hw.a o p ho hk (by omega)
          rw [j0] at hia
          have hn32 : n32 (iN j) = j := n32_iN (by omega)
          refine wp_bi hia (wp_bi (m_kind K N hK t h (iN j) 1) ?_)
          cases hkk : zKb W (iN j) 1 with
          | false =>
            have hne : ¬ tI W j 0 = 1 := fun hx => zKb_no hkk ⟨by rw [iL0, iN_le (by omega) (by omega)]; omega, by show iN j < iN 24; rw [iN_lt (by omega) (by omega)]; exact j3, by rw [hn32]; exact hx⟩
            have hcf : c = false := by rw [hc, j1, decide_eq_false hne, Bool.false_and, Bool.and_false]
            rw [hcf]
            exact wp_if rfl ⟨_, ih (p + 1) n false (by omega) (by omega), rfl⟩
          | true =>
            obtain ⟨_, _, q3⟩ := zKd_of hkk
            rw [hn32] at q3
            refine wp_ifn (by decide) (wp_bi hia ?_)
            have hr := hrec p (by omega) h0 (by rw [j1]; exact q3)
            rw [j1, j0] at hr
            refine wp_bi hr (wp_let ?_)
            have hcz : c = zWi W i m j := by rw [hc, j1, decide_eq_false h0, decide_eq_true q3]; rfl
            have e : (if bN (zWi W i m j) = 0 then (0 : Int32) else (1 : Int32)) = bN c := by rw [hcz]; cases zWi W i m j <;> rfl
            rw [e]
            exact ⟨_, ih (p + 1) n c (by omega) (by omega), rfl⟩
      rw [e1, e2]
theorem m_isWithin_g (K : px_K) (N : Nat) (hN : 2000 ≤ N) (hK : zKm K) (t : px_W) {s : px_S} {W : ZSt} (h : zWs s W) (hw : ZW W) (i : Nat) (hi : i < 24) (r : Nat → Nat) (hr : ∀ d p j, zEnt W d p j → j < 24 → r d < r j) (hr24 : ∀ j, j < 24 → r j < 24) : ∀ (m o : Nat), o < 24 → tI W o 0 = 1 → 24 - r o ≤ m → g_M_isWithin_28 K N m (iN i) (iN o) s t = some (.inl (some (.int (bN (zWi W i m o)))), s, t) := by
  intro m
  induction m with
  | zero => intro o ho hk hm; have := hr24 o ho; omega
  | succ m ih =>
    intro o ho hk hm
    obtain ⟨z, e1, e2⟩ : wp (g_M_isWithin_28 K N (m + 1) (iN i) (iN o) s t) (fun z => z = (.inl (some (.int (bN (zWi W i (m + 1) o)))), s, t)) := by
      unfold g_M_isWithin_28 b_M_isWithin_28
      by_cases hio : i = o
      · have hz : zWi W i (m + 1) o = true := by unfold zWi; rw [decide_eq_true hio, Bool.true_or]
        rw [hz]
        exact wp_ifn (fun hx => hx (by rw [hio])) (wp_some rfl)
      · refine wp_if (by rw [iN_eq (by omega) (by omega)]; exact hio) ?_
        obtain ⟨hs, h320⟩ := m_size K N hK t h hw.a o ho (Or.inl hk)
        have hl := m_isWithin_loop K N hN hK t h hw (g_M_isWithin_28 K N m) i o m ho hk (fun p hp hn0 hkk => by
          obtain ⟨j, j0, j1, j2, j3, j4⟩ := zent_of hw ho hk hp hn0
          rw [j1] at hkk ⊢
          rw [j0]
          exact ih j j3 hkk (by have := hr o p j ⟨ho, hk, hp, hn0, j0⟩ j3; omega)) (tS W o) 0 N false (by omega) (by omega)
        have hz : zWi W i (m + 1) o = (false || (List.range' 0 (tS W o)).any fun q => !decide (tN W o q = 0) && (decide (tI W (n32 (tE W o q)) 0 = 1) && zWi W i m (n32 (tE W o q)))) := by
          show (decide (i = o) || _) = _
          rw [decide_eq_false hio, List.range_eq_range']
        rw [hz]
        refine wp_lp hl (wp_if rfl (wp_v1 (wp_gd ?_ (wp_some rfl))))
        cases (false || (List.range' 0 (tS W o)).any fun q => !decide (tN W o q = 0) && (decide (tI W (n32 (tE W o q)) 0 = 1) && zWi W i m (n32 (tE W o q)))) <;> decide
    rw [e1, e2]
theorem m_isWithin (K : px_K) (N : Nat) (hN : 2000 ≤ N) (hK : zKm K) (t : px_W) {s : px_S} {W : ZSt} (h : zWs s W) (hw : ZW W) (i o : Nat) (hi : i < 24) (ho : o < 24) (hk : tI W o 0 = 1) : f_M_isWithin_28 K N (iN i) (iN o) s t = some (.inl (some (.int (bN (zWi W i 30 o)))), s, t) := by
  obtain ⟨r, r1, r2⟩ := zrank hw
  unfold f_M_isWithin_28
  exact m_isWithin_g K N hN hK t h hw i hi r r1 r2 30 o ho hk (by omega)
/-! below an inode -/
def zSb (W : ZSt) (i : Nat) : Nat → Nat → Prop
  | 0, j => j = i
  | m + 1, j => j = i ∨ ∃ e p, zSb W i m e ∧ zEnt W e p j
theorem zSb_lift {W : ZSt} {i : Nat} : ∀ {m j : Nat}, zSb W i m j → zSb W i (m + 1) j := by
  intro m
  induction m with
  | zero => intro j h; exact Or.inl h
  | succ m ih =>
    intro j h
    rcases h with h | ⟨e, p, h1, h2⟩
    · exact Or.inl h
    · exact Or.inr ⟨e, p, ih h1, h2⟩
theorem zWi_step {W : ZSt} (hw : ZW W) {e p j : Nat} (he : zEnt W e p j) (hj : j < 24) (hk : tI W j 0 = 1) : ∀ {m o : Nat}, zWi W e m o = true → zWi W j (m + 1) o = true := by
  intro m
  obtain ⟨e1, e2, e3, e4, e5⟩ := he
  have hn : n32 (tE W e p) = j := by rw [e5, n32_iN (by omega)]
  induction m with
  | zero =>
    intro o h
    have ho : e = o := of_decide_eq_true h
    subst ho
    show (decide (j = e) || (List.range (tS W e)).any _) = true
    rw [Bool.or_eq_true]
    right
    rw [List.any_eq_true]
    refine ⟨p, List.mem_range.mpr e3, ?_⟩
    rw [hn, decide_eq_false e4, decide_eq_true hk]
    show decide (j = j) = true
    exact decide_eq_true rfl
  | succ m ih =>
    intro o h
    have h : (decide (e = o) || (List.range (tS W o)).any fun q => !decide (tN W o q = 0) && (decide (tI W (n32 (tE W o q)) 0 = 1) && zWi W e m (n32 (tE W o q)))) = true := h
    rw [Bool.or_eq_true] at h
    show (decide (j = o) || (List.range (tS W o)).any fun q => !decide (tN W o q = 0) && (decide (tI W (n32 (tE W o q)) 0 = 1) && zWi W j (m + 1) (n32 (tE W o q)))) = true
    rw [Bool.or_eq_true]
    right
    rcases h with h | h
    · have ho : e = o := of_decide_eq_true h
      subst ho
      rw [List.any_eq_true]
      refine ⟨p, List.mem_range.mpr e3, ?_⟩
      rw [hn, decide_eq_false e4, decide_eq_true hk]
      show zWi W j (m + 1) j = true
      show (decide (j = j) || _) = true
      rw [decide_eq_true rfl, Bool.true_or]
    · rw [List.any_eq_true] at h ⊢
      obtain ⟨q, q1, q2⟩ := h
      refine ⟨q, q1, ?_⟩
      rw [Bool.and_eq_true, Bool.and_eq_true] at q2 ⊢
      exact ⟨q2.1, q2.2.1, ih q2.2.2⟩
theorem zWi_of_sb {W : ZSt} (hw : ZW W) {i : Nat} : ∀ {m j : Nat}, zSb W i m j → j < 24 → tI W j 0 = 1 → zWi W j m i = true := by
  intro m
  induction m with
  | zero => intro j h _ _; exact decide_eq_true h
  | succ m ih =>
    intro j h hj hk
    rcases h with h | ⟨e, p, h1, h2⟩
    · show (decide (j = i) || _) = true
      rw [decide_eq_true h, Bool.true_or]
    · exact zWi_step hw h2 hj hk (ih h1 h2.1 h2.2.1)
theorem zSb_trans {W : ZSt} {i o : Nat} {p : Nat} (he : zEnt W o p i) : ∀ {m j : Nat}, zSb W i m j → zSb W o (m + 1) j := by
  intro m
  induction m with
  | zero => intro j h; right; exact ⟨o, p, rfl, by rw [show j = i from h]; exact he⟩
  | succ m ih =>
    intro j h
    rcases h with h | ⟨e, q, h1, h2⟩
    · right; refine ⟨o, p, ?_, by rw [h]; exact he⟩
      exact Or.inl rfl
    · right; exact ⟨e, q, ih h1, h2⟩
theorem zSb_of_wi {W : ZSt} (hw : ZW W) {j : Nat} : ∀ {m o : Nat}, o < 24 → tI W o 0 = 1 → zWi W j m o = true → zSb W o m j := by
  intro m
  induction m with
  | zero => intro o _ _ h; exact (of_decide_eq_true (show decide (j = o) = true from h) : j = o)
  | succ m ih =>
    intro o ho hk h
    have h : (decide (j = o) || (List.range (tS W o)).any fun q => !decide (tN W o q = 0) && (decide (tI W (n32 (tE W o q)) 0 = 1) && zWi W j m (n32 (tE W o q)))) = true := h
    rw [Bool.or_eq_true] at h
    rcases h with h | h
    · exact Or.inl (of_decide_eq_true h)
    · rw [List.any_eq_true] at h
      obtain ⟨q, q1, q2⟩ := h
      rw [Bool.and_eq_true, Bool.and_eq_true] at q2
      have hq := List.mem_range.mp q1
      have hn0 : tN W o q ≠ 0 := fun hx => by have := q2.1; rw [decide_eq_true hx] at this; cases this
      have hkk := of_decide_eq_true q2.2.1
      obtain ⟨c, c0, c1, c2, c3, c4⟩ := zent_of hw ho hk hq hn0
      rw [c1] at hkk q2
      exact zSb_trans ⟨ho, hk, hq, hn0, c0⟩ (ih c3 hkk q2.2.2)
theorem zSb_more {W : ZSt} {i j : Nat} : ∀ {m k : Nat}, zSb W i m j → zSb W i (m + k) j := by
  intro m k
  induction k with
  | zero => intro h; exact h
  | succ k ih => intro h; exact zSb_lift (ih h)
theorem zWi_mono {W : ZSt} {j : Nat} : ∀ {m o : Nat}, zWi W j m o = true → zWi W j (m + 1) o = true := by
  intro m
  induction m with
  | zero =>
    intro o h
    show (decide (j = o) || _) = true
    have h : decide (j = o) = true := h
    rw [h, Bool.true_or]
  | succ m ih =>
    intro o h
    have h : (decide (j = o) || (List.range (tS W o)).any fun q => !decide (tN W o q = 0) && (decide (tI W (n32 (tE W o q)) 0 = 1) && zWi W j m (n32 (tE W o q)))) = true := h
    rw [Bool.or_eq_true] at h
    show (decide (j = o) || (List.range (tS W o)).any fun q => !decide (tN W o q = 0) && (decide (tI W (n32 (tE W o q)) 0 = 1) && zWi W j (m + 1) (n32 (tE W o q)))) = true
    rw [Bool.or_eq_true]
    rcases h with h | h
    · exact Or.inl h
    · right
      rw [List.any_eq_true] at h ⊢
      obtain ⟨q, q1, q2⟩ := h
      refine ⟨q, q1, ?_⟩
      rw [Bool.and_eq_true, Bool.and_eq_true] at q2 ⊢
      exact ⟨q2.1, q2.2.1, ih q2.2.2⟩
/-- a path is never longer than the ranks allow -/
theorem zSb_short {W : ZSt} (hw : ZW W) {i j m : Nat} (h : zSb W i m j) (hi : i < 24) (hj : j < 24) : zSb W i 30 j := by
  obtain ⟨r, r1, r2⟩ := zrank hw
  have key : ∀ (m j : Nat), zSb W i m j → j < 24 → ∀ k, r j ≤ k → zSb W i k j := by
    intro m
    induction m with
    | zero => intro j h _ k _; rw [show k = 0 + k by omega]; exact zSb_more (m := 0) h
    | succ m ih =>
      intro j h hj k hk
      rcases h with h | ⟨e, p, h1, h2⟩
      · rw [show k = 0 + k by omega]; exact zSb_more (m := 0) h
      · have hlt := r1 e p j h2 hj
        obtain ⟨k', rfl⟩ : ∃ k', k = k' + 1 := ⟨k - 1, by omega⟩
        exact Or.inr ⟨e, p, ih e h1 h2.1 k' (by omega), h2⟩
  exact key m j h hj 30 (by have := r2 j hj; omega)
theorem zWi_iff {W : ZSt} (hw : ZW W) {i o : Nat} (hi : i < 24) (ho : o < 24) (hki : tI W i 0 = 1) (hko : tI W o 0 = 1) : zWi W i 30 o = true ↔ ∃ m, zSb W o m i := by
  constructor
  · intro h; exact ⟨30, zSb_of_wi hw ho hko h⟩
  · rintro ⟨m, h⟩
    exact zWi_of_sb hw (zSb_short hw h ho hi) hi hki
/-! MOVE (the reference) -/
noncomputable def xMove (T : ZTs) (d x to y : Int32) : Int32 × ZTs :=
  if zKb T.wd d 1 = true ∧ zKb T.wd to 1 = true ∧ 1 ≤ y then (match (if 1 ≤ x then zPl T.wd (n32 d) x else none) with
    | none => (-1, T)
    | some p => match zPl T.wd (n32 to) y with
      | some _ => (-2, T)
      | none => if tI T.wd (n32 (tE T.wd (n32 d) p)) 0 = 1 ∧ zWi T.wd (n32 to) 30 (n32 (tE T.wd (n32 d) p)) = true then (-4, T)
        else if zRoom T.wd (n32 to) = true then (0, xEnt (xEnter T (n32 to) y (tE T.wd (n32 d) p)) (n32 d) p 0 0) else (-3, T)) else (-4, T)
/-- a name is entered: the frame stays, and the places -/
theorem zenter_a {T : ZTs} (hw : ZW T.wd) {d : Nat} (hd : d < 24) (hk : tI T.wd d 0 = 1) (hr : zRoom T.wd d = true) (x y : Int32) : ZWa (xEnter T d x y).wd ∧ (∀ j, j < 24 → tI (xEnter T d x y).wd j 0 = tI T.wd j 0) ∧ (∀ e q, e < 24 → tI T.wd e 0 = 1 → q < tS T.wd e → q < tS (xEnter T d x y).wd e ∧ tB (xEnter T d x y).wd e (q / 8) = tB T.wd e (q / 8)) := by
  obtain ⟨g1, g2, g3, g4, g5, g6⟩ := zgrow_ok hw hd hk hr
  have hkd : tI (xGrow T d).wd d 0 = 1 := by rw [g2 d hd]; exact hk
  obtain ⟨b0, b1, b2, b3⟩ := zdir_blk g1.a hd hkd g3
  have hf := zdir_far g1.a hd hkd g3
  obtain ⟨y1, y2, y3⟩ := zwa_data g1.a (b := tB (xGrow T d).wd d (zFpl T.wd d / 8)) (w := 2 * (zFpl T.wd d % 8)) (x := x) b2 hf
  obtain ⟨y4, y5, y6⟩ := zwa_data y1 (b := tB (xGrow T d).wd d (zFpl T.wd d / 8)) (w := 2 * (zFpl T.wd d % 8) + 1) (x := y) b2 (fun j hj => by
    have e : ∀ U : ZSt, tI U j 6 = tI (xGrow T d).wd j 6 → tF U j = tF (xGrow T d).wd j := fun U hU => by unfold tF; rw [hU]
    rw [e _ (y3 j 6 hj)]; exact hf j hj)
  refine ⟨y4, fun j hj => ?_, fun e q he hke hq => ?_⟩
  · show tI (zt (zt (xGrow T d).wd _ _ _) _ _ _) j 0 = _
    rw [y6 j 0 hj, y3 j 0 hj]; exact g2 j hj
  · obtain ⟨c1, c2, c3, c4⟩ := g5 e q he hke hq
    have hq8 := (zdir_blk hw.a he hke hq).2.1
    refine ⟨?_, ?_⟩
    · have e1 : tS (xEnter T d x y).wd e = tS (xGrow T d).wd e := tS_of (by
        show tI (zt (zt (xGrow T d).wd _ _ _) _ _ _) e 1 = _
        rw [y6 e 1 he, y3 e 1 he])
      rw [e1]; exact c1
    · show tB (zt (zt (xGrow T d).wd _ _ _) _ _ _) e (q / 8) = _
      rw [y5 e (q / 8) he (by omega), y2 e (q / 8) he (by omega)]; exact c4
theorem zt_comm2 {T : ZSt} {b c w v : Nat} {x y : Int32} (h : b ≠ c ∨ w ≠ v) : zt (zt T b w x) c v y = zt (zt T c v y) b w x := by
  by_cases hbc : b = c
  · have hwv : w ≠ v := h.resolve_left (fun hx => hx hbc)
    subst hbc
    funext a u
    by_cases ha : a = b
    · subst ha
      by_cases h1 : u = v
      · rw [h1, zt_self, zt_wrd (fun hx => hwv hx.symm), zt_self]
      · rw [zt_wrd h1]
        by_cases h2 : u = w
        · rw [h2, zt_self, zt_self]
        · rw [zt_wrd h2, zt_wrd h2, zt_wrd h1]
    · rw [zt_blk ha, zt_blk ha, zt_blk ha, zt_blk ha]
  · exact zt_comm hbc
theorem zmove_w {T : ZTs} (hw : ZW T.wd) {d p to i : Nat} (hd : d < 24) (hkd : tI T.wd d 0 = 1) (hp : p < tS T.wd d) (hn0 : tN T.wd d p ≠ 0) (he : tE T.wd d p = iN i) (hi1 : 1 ≤ i) (hi : i < 24) (hki : tI T.wd i 0 ≠ 0) (hto : to < 24) (hkt : tI T.wd to 0 = 1) {y : Int32} (hy : 1 ≤ y) (hnew : zPl T.wd to y = none) (hr : zRoom T.wd to = true) (hin : tI T.wd i 0 = 1 → zWi T.wd to 30 i = false) : ZW (xEnt (xEnter T to y (iN i)) d p 0 0).wd := by
  obtain ⟨g1, g2, g3, g4, g5, g6⟩ := zgrow_ok hw hto hkt hr
  have hgr : zGr T.wd (xGrow T to).wd to (zFpl T.wd to) := ⟨g1, g2, g3, g4, g5, g6⟩
  obtain ⟨a1, a2, a3⟩ := zenter_a hw hto hkt hr y (iN i)
  obtain ⟨U, hU⟩ : ∃ U, U = (xGrow T to).wd := ⟨_, rfl⟩
  obtain ⟨q, hq⟩ : ∃ q, q = zFpl T.wd to := ⟨_, rfl⟩
  have hent : zEnt T.wd d p i := ⟨hd, hkd, hp, hn0, he⟩
  have htB := (a3 d p hd hkd hp).2
  obtain ⟨p1, p2, p3, p4⟩ := g5 d p hd hkd hp
  have eX : (xEnt (xEnter T to y (iN i)) d p 0 0).wd = zt (zt (zt (zt U (tB U to (q / 8)) (2 * (q % 8)) y) (tB U to (q / 8)) (2 * (q % 8) + 1) (iN i)) (tB T.wd d (p / 8)) (2 * (p % 8)) 0) (tB T.wd d (p / 8)) (2 * (p % 8) + 1) 0 := by
    show zt (zt (xEnter T to y (iN i)).wd (tB (xEnter T to y (iN i)).wd d (p / 8)) _ _) (tB (xEnter T to y (iN i)).wd d (p / 8)) _ _ = _
    rw [htB, hU, hq]; rfl
  rw [eX]
  rw [← hU, ← hq] at hgr
  rw [← hU] at g1 g2 g5 g6 p1 p2 p3 p4
  rw [← hU, ← hq] at g3 g4
  have hkdU : tI U d 0 = 1 := by rw [g2 d hd]; exact hkd
  have hktU : tI U to 0 = 1 := by rw [g2 to hto]; exact hkt
  rw [← p4]
  -- the two places are apart
  have hne : ¬ (to = d ∧ q = p) := by
    rintro ⟨h1, h2⟩
    rw [h1, h2, p2] at g4
    exact hn0 g4
  have hcell : ∀ u v, (u = 2 * (q % 8) ∨ u = 2 * (q % 8) + 1) → (v = 2 * (p % 8) ∨ v = 2 * (p % 8) + 1) → tB U to (q / 8) ≠ tB U d (p / 8) ∨ u ≠ v := by
    intro u v hu hv
    by_cases hb : tB U to (q / 8) = tB U d (p / 8)
    · right
      obtain ⟨c1, c2⟩ := g1.place hto hd hktU hkdU g3 p1 hb
      intro hx
      apply hne
      exact ⟨c1, by omega⟩
    · exact Or.inl hb
  have ecomm : zt (zt (zt (zt U (tB U to (q / 8)) (2 * (q % 8)) y) (tB U to (q / 8)) (2 * (q % 8) + 1) (iN i)) (tB U d (p / 8)) (2 * (p % 8)) 0) (tB U d (p / 8)) (2 * (p % 8) + 1) 0 = zt (zt (zt (zt U (tB U d (p / 8)) (2 * (p % 8)) 0) (tB U d (p / 8)) (2 * (p % 8) + 1) 0) (tB U to (q / 8)) (2 * (q % 8)) y) (tB U to (q / 8)) (2 * (q % 8) + 1) (iN i) := by
    rw [zt_comm2 (T := zt U (tB U to (q / 8)) (2 * (q % 8)) y) (hcell _ _ (Or.inr rfl) (Or.inl rfl)), zt_comm2 (T := U) (hcell _ _ (Or.inl rfl) (Or.inl rfl)), zt_comm2 (T := zt (zt U (tB U d (p / 8)) (2 * (p % 8)) 0) (tB U to (q / 8)) (2 * (q % 8)) y) (hcell _ _ (Or.inr rfl) (Or.inr rfl)), zt_comm2 (T := zt U (tB U d (p / 8)) (2 * (p % 8)) 0) (hcell _ _ (Or.inl rfl) (Or.inr rfl))]
  rw [ecomm]
  obtain ⟨E, hE⟩ : ∃ E, E = zt (zt U (tB U d (p / 8)) (2 * (p % 8)) 0) (tB U d (p / 8)) (2 * (p % 8) + 1) 0 := ⟨_, rfl⟩
  rw [← hE]
  obtain ⟨e1, e2⟩ := g1.clrEntry hd hkdU p1 hE
  obtain ⟨f1, f2, f3, f4, f5, f6, f7⟩ := g1.atPlace hd hkdU p1 hE
  have hEe : ∀ a u j, zEnt E a u j ↔ zEnt T.wd a u j ∧ ¬ (a = d ∧ u = p) := fun a u j => by rw [e2 a u j, zGr_ent hgr a u j]
  have hSE : ∀ a, a < 24 → tS E a = tS U a := fun a ha => tS_of (f1 a 1 ha)
  have hBE : tB E to (q / 8) = tB U to (q / 8) := by unfold tB; rw [f2 to (q / 8) hto (by have := (zdir_blk g1.a hto hktU g3).2.1; omega)]
  have hyp : 0 < n32 y := by
    have : iN 0 < y := Int32.lt_of_lt_of_le (by decide) hy
    rw [n32_lt' (by omega)] at this
    exact this
  have hy0 : y ≠ 0 := fun hx => by rw [hx] at hy; exact absurd hy (by decide)
  rw [← hBE]
  refine e1.setEntry (d := to) (p := q) (i := i) hto (by rw [f1 to 0 hto]; exact hktU) (by rw [hSE to hto]; exact g3) rfl hyp ?_ (fun u hu => ?_) hi1 hi (by rw [f1 i 0 hi, g2 i hi]; exact hki) (fun a u hx => ?_) ?_
  · rw [(f6 to q hto hktU g3 hne).1]; exact g4
  · rw [hSE to hto] at hu
    by_cases hup : to = d ∧ u = p
    · rw [hup.1, hup.2, f4]; exact fun hx => hy0 hx.symm
    · rw [(f6 to u hto hktU hu hup).1]
      rcases g6 to u hto hkt hu with h | h
      · rw [(g5 to u hto hkt h).2.1]; exact zPl_none hnew u h
      · rw [h]; exact fun hx => hy0 hx.symm
  · obtain ⟨h1, h2⟩ := (hEe a u i).mp hx
    exact h2 (hw.b.ep a u d p i h1 hent)
  · obtain ⟨r, hr'⟩ := hw.b.er
    have hS : ∀ j, Decidable (∃ m, zSb T.wd i m j) := fun j => Classical.propDecidable _
    have hnotS : ¬ ∃ m, zSb T.wd i m to := by
      rintro ⟨m, hm⟩
      by_cases hk1 : tI T.wd i 0 = 1
      · have := (zWi_iff hw hto hi hkt hk1).mpr ⟨m, hm⟩
        rw [hin hk1] at this; cases this
      · have alone : ∀ (m j : Nat), zSb T.wd i m j → j = i := by
          intro m
          induction m with
          | zero => intro j h; exact h
          | succ m ih =>
            intro j h
            rcases h with h | ⟨e, u, h1, h2⟩
            · exact h
            · have := ih e h1
              rw [this] at h2
              exact absurd h2.2.1 hk1
        have := alone m to hm
        rw [this] at hkt; exact hk1 hkt
    refine ⟨fun j => @ite _ (∃ m, zSb T.wd i m j) (hS j) (r j + (r to + 1)) (r j), fun a u j hx hj => ?_, ?_⟩
    · obtain ⟨h1, h2⟩ := (hEe a u j).mp hx
      have hlt := hr' a u j h1 hj
      show @ite _ (∃ m, zSb T.wd i m a) (hS a) _ _ < @ite _ (∃ m, zSb T.wd i m j) (hS j) _ _
      by_cases ha : ∃ m, zSb T.wd i m a
      · have hjS : ∃ m, zSb T.wd i m j := by
          obtain ⟨m, hm⟩ := ha
          exact ⟨m + 1, Or.inr ⟨a, u, hm, h1⟩⟩
        rw [if_pos ha, if_pos hjS]; omega
      · have hjS : ¬ ∃ m, zSb T.wd i m j := by
          rintro ⟨m, hm⟩
          cases m with
          | zero =>
            have hm : j = i := hm
            rw [hm] at h1
            exact h2 (hw.b.ep a u d p i h1 hent)
          | succ m =>
            rcases hm with hm | ⟨e, v, m1, m2⟩
            · rw [hm] at h1
              exact h2 (hw.b.ep a u d p i h1 hent)
            · have := hw.b.ep e v a u j m2 h1
              rw [this.1] at m1
              exact ha ⟨m, m1⟩
        rw [if_neg ha, if_neg hjS]; exact hlt
    · show @ite _ (∃ m, zSb T.wd i m to) (hS to) _ _ < @ite _ (∃ m, zSb T.wd i m i) (hS i) _ _
      rw [if_neg hnotS, if_pos ⟨0, rfl⟩]; omega
theorem m_mvtail (K : px_K) (N : Nat) (hN : 2000 ≤ N) (hK : zKm K) (t40 : px_W) (s39 : px_S) (T : ZTs) (h : zRt s39 T) (hw : ZW T.wd) (d p to : Nat) (hd : d < 24) (hkd : tI T.wd d 0 = 1) (hp : p < tS T.wd d) (hto : to < 24) (hkt : tI T.wd to 0 = 1) (a0 a2 a3 v25 v37 : Int32) (ha0 : a0 = iN d) (ha2 : a2 = iN to) (hv25 : v25 = iN p) : wp (px_bi (f_M_hasRoom_28 K N a2 s39 t40) (fun v48 s45 t46 => (if ¬ v48 = 0 then (px_bv (f_M_enter_28 K N a2 a3 v37 s45 t46) (fun s51 t52 => (px_bv (f_M_leave_28 K N a0 v25 s51 t52) (fun s56 t57 => (some (.inl (some (.int (0 : Int32))), s56, t57))) (fun x60 s56 t57 => none))) (fun x55 s51 t52 => none)) else (some (.inl (some (.int (-3 : Int32))), s45, t46)))) (fun x49 s45 t46 => none)) (zA (if zRoom T.wd to = true then 0 else -3) t40 (fun s' => zRt s' (if zRoom T.wd to = true then xEnt (xEnter T to a3 v37) d p 0 0 else T) ∧ zFt s39 s')) := by
  subst ha0 ha2 hv25
  have hws : zWs s39 T.wd := h.2.1
  refine wp_bi (m_hasRoom K N hN hK t40 hws hw.a to hto hkt) ?_
  cases hr : zRoom T.wd to with
  | false =>
    rw [if_neg (c := false = true) Bool.noConfusion, if_neg (c := false = true) Bool.noConfusion]
    exact wp_ifn (fun hx => hx rfl) (wp_rA ⟨h, zFt_refl s39⟩)
  | true =>
    rw [if_pos (c := true = true) rfl, if_pos (c := true = true) rfl]
    refine wp_if (by decide) ?_
    obtain ⟨s1, a1, a2, a3'⟩ := m_enter K N hN hK t40 s39 T h hw to hto hkt hr a3 v37
    refine wp_bv a1 ?_
    obtain ⟨b1, b2, b3⟩ := zenter_a hw hto hkt hr a3 v37
    obtain ⟨s2, c1, c2, c3⟩ := m_leave K N hN hK t40 s1 _ a2 b1 d p hd (by rw [b2 d hd]; exact hkd) (b3 d p hd hkd hp).1
    exact wp_bv c1 (wp_rA ⟨c2, zFt_trans a3' c3⟩)
theorem m_move (K : px_K) (N : Nat) (hN : 2000 ≤ N) (hK : zKm K) (t4 : px_W) (s3 : px_S) (T : ZTs) (h : zRt s3 T) (hw : ZW T.wd) (a0 a1 a2 a3 : Int32) : wp (px_bi (f_M_isKind_28 K N a0 (1 : Int32) s3 t4) (fun v12 s9 t10 => (if v12 = 0 then (some (.inl (some (.int (-4 : Int32))), s9, t10)) else (px_bi (f_M_isKind_28 K N a2 (1 : Int32) s9 t10) (fun v18 s15 t16 => (if v18 = 0 then (some (.inl (some (.int (-4 : Int32))), s15, t16)) else (if (1 : Int32) ≤ a3 then (px_bi (f_M_placeOf_28 K N a0 a1 s15 t16) (fun v25 s22 t23 => (if 0 ≤ v25 then (px_bi (f_M_placeOf_28 K N a2 a3 s22 t23) (fun v31 s28 t29 => (if v31 < 0 then (px_bi (f_M_inodeAt_28 K N a0 v25 s28 t29) (fun v37 s34 t35 => (px_bi (f_M_isKind_28 K N v37 (1 : Int32) s34 t35) (fun v42 s39 t40 => (if v42 = 0 then (px_bi (f_M_hasRoom_28 K N a2 s39 t40) (fun v48 s45 t46 => (if ¬ v48 = 0 then (px_bv (f_M_enter_28 K N a2 a3 v37 s45 t46) (fun s51 t52 => (px_bv (f_M_leave_28 K N a0 v25 s51 t52) (fun s56 t57 => (some (.inl (some (.int (0 : Int32))), s56, t57))) (fun x60 s56 t57 => none))) (fun x55 s51 t52 => none)) else (some (.inl (some (.int (-3 : Int32))), s45, t46)))) (fun x49 s45 t46 => none)) else (px_bi (f_M_isWithin_28 K N a2 v37 s39 t40) (fun v64 s61 t62 => (if v64 = 0 then (px_bi (f_M_hasRoom_28 K N a2 s61 t62) (fun v70 s67 t68 => (if ¬ v70 = 0 then (px_bv (f_M_enter_28 K N a2 a3 v37 s67 t68) (fun s73 t74 => (px_bv (f_M_leave_28 K N a0 v25 s73 t74) (fun s78 t79 => (some (.inl (some (.int (0 : Int32))), s78, t79))) (fun x82 s78 t79 => none))) (fun x77 s73 t74 => none)) else (some (.inl (some (.int (-3 : Int32))), s67, t68)))) (fun x71 s67 t68 => none)) else (some (.inl (some (.int (-4 : Int32))), s61, t62)))) (fun x65 s61 t62 => none)))) (fun x43 s39 t40 => none))) (fun x38 s34 t35 => none)) else (some (.inl (some (.int (-2 : Int32))), s28, t29)))) (fun x32 s28 t29 => none)) else (some (.inl (some (.int (-1 : Int32))), s22, t23)))) (fun x26 s22 t23 => none)) else (some (.inl (some (.int (-4 : Int32))), s15, t16))))) (fun x19 s15 t16 => none)))) (fun x13 s9 t10 => none)) (zA (xMove T a0 a1 a2 a3).1 t4 (fun s' => zRt s' (xMove T a0 a1 a2 a3).2 ∧ zFt s3 s')) := by
  have hws : zWs s3 T.wd := h.2.1
  have same : ∀ (a : Int32) (F : Option px_Res), wp F (zA a t4 (fun s' => zRt s' T ∧ zFt s3 s')) → xMove T a0 a1 a2 a3 = (a, T) → wp F (zA (xMove T a0 a1 a2 a3).1 t4 (fun s' => zRt s' (xMove T a0 a1 a2 a3).2 ∧ zFt s3 s')) := by
    intro a F hF he; rw [he]; exact hF
  refine wp_bi (m_kind K N hK t4 hws a0 1) ?_
  cases hkb : zKb T.wd a0 1 with
  | false => exact same (-4) _ (wp_if rfl (wp_rA ⟨h, zFt_refl s3⟩)) (if_neg (fun hx => by rw [hkb] at hx; cases hx.1))
  | true =>
    refine wp_ifn (by decide) (wp_bi (m_kind K N hK t4 hws a2 1) ?_)
    cases hkb2 : zKb T.wd a2 1 with
    | false => exact same (-4) _ (wp_if rfl (wp_rA ⟨h, zFt_refl s3⟩)) (if_neg (fun hx => by rw [hkb2] at hx; cases hx.2.1))
    | true =>
      refine wp_ifn (by decide) ?_
      obtain ⟨k1, k2, k3⟩ := zKd_of hkb
      obtain ⟨l1, l2, l3⟩ := zKd_of hkb2
      by_cases hy1 : 1 ≤ a3
      · refine wp_if hy1 ?_
        have hxm : xMove T a0 a1 a2 a3 = (match (if 1 ≤ a1 then zPl T.wd (n32 a0) a1 else none) with
          | none => (-1, T)
          | some p => match zPl T.wd (n32 a2) a3 with
            | some _ => (-2, T)
            | none => if tI T.wd (n32 (tE T.wd (n32 a0) p)) 0 = 1 ∧ zWi T.wd (n32 a2) 30 (n32 (tE T.wd (n32 a0) p)) = true then (-4, T)
              else if zRoom T.wd (n32 a2) = true then (0, xEnt (xEnter T (n32 a2) a3 (tE T.wd (n32 a0) p)) (n32 a0) p 0 0) else (-3, T)) := if_pos ⟨hkb, hkb2, hy1⟩
        obtain ⟨m, m1, m2, _, _⟩ := hw.a.dsz k2 k3
        obtain ⟨m', m1', m2', _, _⟩ := hw.a.dsz l2 l3
        have hpl := m_placeOf K N hN hK t4 hws hw.a hw.b (n32 a0) k2 k3 a1
        rw [← k1] at hpl
        refine wp_bi hpl ?_
        by_cases hx1 : 1 ≤ a1
        · rw [if_pos hx1] at hxm
          rw [if_pos hx1]
          cases hz : zPl T.wd (n32 a0) a1 with
          | none =>
            rw [hz] at hxm
            exact same (-1) _ (wp_ifn (by decide) (wp_rA ⟨h, zFt_refl s3⟩)) hxm
          | some p =>
            rw [hz] at hxm
            dsimp only at hxm
            obtain ⟨p1, p2⟩ := zPl_x hz hx1
            have hpl2 := m_placeOf K N hN hK t4 hws hw.a hw.b (n32 a2) l2 l3 a3
            rw [← l1, if_pos hy1] at hpl2
            refine wp_if (by show 0 ≤ iN p; rw [iL0, iN_le (by omega) (by omega)]; omega) (wp_bi hpl2 ?_)
            cases hz2 : zPl T.wd (n32 a2) a3 with
            | some q =>
              rw [hz2] at hxm
              obtain ⟨q1, _⟩ := zPl_some hz2
              exact same (-2) _ (wp_ifn (by show ¬ iN q < 0; exact iN_neg (by omega)) (wp_rA ⟨h, zFt_refl s3⟩)) hxm
            | none =>
              rw [hz2] at hxm
              dsimp only at hxm
              obtain ⟨i, i0, i1, i2, i3, i4⟩ := zent_of hw k2 k3 p1 p2
              rw [i1, i0] at hxm
              have hia := m_inodeAt K N hK t4 hws hw.a (n32 a0) p k2 k3 p1
              rw [← k1, i0] at hia
              have hn32 : n32 (iN i) = i := n32_iN (by omega)
              refine wp_if (by decide) (wp_bi hia (wp_bi (m_kind K N hK t4 hws (iN i) 1) ?_))
              have tail : ¬ (tI T.wd i 0 = 1 ∧ zWi T.wd (n32 a2) 30 i = true) → wp (px_bi (f_M_hasRoom_28 K N a2 s3 t4) (fun v48 s45 t46 => (if ¬ v48 = 0 then (px_bv (f_M_enter_28 K N a2 a3 (iN i) s45 t46) (fun s51 t52 => (px_bv (f_M_leave_28 K N a0 (iN p) s51 t52) (fun s56 t57 => (some (.inl (some (.int (0 : Int32))), s56, t57))) (fun x60 s56 t57 => none))) (fun x55 s51 t52 => none)) else (some (.inl (some (.int (-3 : Int32))), s45, t46)))) (fun x49 s45 t46 => none)) (zA (xMove T a0 a1 a2 a3).1 t4 (fun s' => zRt s' (xMove T a0 a1 a2 a3).2 ∧ zFt s3 s')) := by
                intro hno
                rw [if_neg hno] at hxm
                have ht := m_mvtail K N hN hK t4 s3 T h hw (n32 a0) p (n32 a2) k2 k3 p1 l2 l3 a0 a2 a3 (iN p) (iN i) k1 l1 rfl
                rw [hxm]
                cases hrm : zRoom T.wd (n32 a2) with
                | false => rw [hrm] at ht; exact ht
                | true => rw [hrm] at ht; exact ht
              cases hkk : zKb T.wd (iN i) 1 with
              | false =>
                refine wp_if rfl (tail (fun hx => ?_))
                exact absurd ⟨by rw [iL0, iN_le (by omega) (by omega)]; omega, by show iN i < iN 24; rw [iN_lt (by omega) (by omega)]; exact i3, by rw [hn32]; exact hx.1⟩ (zKb_no hkk)
              | true =>
                obtain ⟨_, _, q3⟩ := zKd_of hkk
                rw [hn32] at q3
                have hin := m_isWithin K N hN hK t4 hws hw (n32 a2) i l2 i3 q3
                rw [← l1] at hin
                refine wp_ifn (by decide) (wp_bi hin ?_)
                cases hwi : zWi T.wd (n32 a2) 30 i with
                | false => exact wp_if rfl (tail (fun hx => by rw [hwi] at hx; cases hx.2))
                | true =>
                  rw [if_pos ⟨q3, hwi⟩] at hxm
                  exact same (-4) _ (wp_ifn (by decide) (wp_rA ⟨h, zFt_refl s3⟩)) hxm
        · rw [if_neg hx1] at hxm
          rw [if_neg hx1]
          exact same (-1) _ (wp_ifn (by decide) (wp_rA ⟨h, zFt_refl s3⟩)) hxm
      · exact same (-4) _ (wp_ifn hy1 (wp_rA ⟨h, zFt_refl s3⟩)) (if_neg (fun hx => hy1 hx.2.2))
theorem zmove_ok {T : ZTs} (hw : ZW T.wd) (d x to y : Int32) : ZW (xMove T d x to y).2.wd ∧ ∃ L : List Nat, L.length ≤ 5 ∧ zStep L T (xMove T d x to y).2 := by
  have same : ∀ a, xMove T d x to y = (a, T) → ZW (xMove T d x to y).2.wd ∧ ∃ L : List Nat, L.length ≤ 5 ∧ zStep L T (xMove T d x to y).2 := by
    intro a he; rw [he]; exact ⟨hw, [], Nat.zero_le _, zStep_refl T⟩
  by_cases hc : zKb T.wd d 1 = true ∧ zKb T.wd to 1 = true ∧ 1 ≤ y
  · have hxm : xMove T d x to y = (match (if 1 ≤ x then zPl T.wd (n32 d) x else none) with
      | none => (-1, T)
      | some p => match zPl T.wd (n32 to) y with
        | some _ => (-2, T)
        | none => if tI T.wd (n32 (tE T.wd (n32 d) p)) 0 = 1 ∧ zWi T.wd (n32 to) 30 (n32 (tE T.wd (n32 d) p)) = true then (-4, T)
          else if zRoom T.wd (n32 to) = true then (0, xEnt (xEnter T (n32 to) y (tE T.wd (n32 d) p)) (n32 d) p 0 0) else (-3, T)) := if_pos hc
    obtain ⟨k1, k2, k3⟩ := zKd_of hc.1
    obtain ⟨l1, l2, l3⟩ := zKd_of hc.2.1
    by_cases hx1 : 1 ≤ x
    · rw [if_pos hx1] at hxm
      cases hz : zPl T.wd (n32 d) x with
      | none => rw [hz] at hxm; exact same _ hxm
      | some p =>
        rw [hz] at hxm
        dsimp only at hxm
        obtain ⟨p1, p2⟩ := zPl_x hz hx1
        cases hz2 : zPl T.wd (n32 to) y with
        | some q => rw [hz2] at hxm; exact same _ hxm
        | none =>
          rw [hz2] at hxm
          dsimp only at hxm
          obtain ⟨i, i0, i1, i2, i3, i4⟩ := zent_of hw k2 k3 p1 p2
          rw [i1, i0] at hxm
          by_cases hin : tI T.wd i 0 = 1 ∧ zWi T.wd (n32 to) 30 i = true
          · rw [if_pos hin] at hxm; exact same _ hxm
          · rw [if_neg hin] at hxm
            by_cases hrm : zRoom T.wd (n32 to) = true
            · rw [if_pos hrm] at hxm
              rw [hxm]
              refine ⟨zmove_w hw k2 k3 p1 p2 i0 i2 i3 i4 l2 l3 hc.2.2 hz2 hrm (fun hk => by
                cases hh : zWi T.wd (n32 to) 30 i with
                | false => rfl
                | true => exact absurd ⟨hk, hh⟩ hin), ?_⟩
              obtain ⟨L, L1, L2⟩ := zenter_step hw l2 l3 hrm y (iN i)
              obtain ⟨a1, a2, a3⟩ := zenter_a hw l2 l3 hrm y (iN i)
              have htB := (a3 (n32 d) p k2 k3 p1).2
              obtain ⟨b0, b1, b2, b3⟩ := zdir_blk hw.a k2 k3 p1
              have hst := zent_step (T := xEnter T (n32 to) y (iN i)) (d := n32 d) (p := p) (x := 0) (y := 0) (by rw [htB]; omega) (by rw [htB]; exact b3)
              exact ⟨L ++ [tB (xEnter T (n32 to) y (iN i)).wd (n32 d) (p / 8)], by rw [List.length_append]; show L.length + 1 ≤ 5; omega, zStep_trans L2 hst⟩
            · rw [if_neg hrm] at hxm; exact same _ hxm
    · rw [if_neg hx1] at hxm; exact same _ hxm
  · exact same _ (if_neg hc)
