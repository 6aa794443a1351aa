/-! MOVE (the class) -/
theorem c_par17 (K : px_K) (N n sets : Nat) (hK : zKc K n sets) (t : px_W) {s : px_S} {W : ZSt} (h : zCx s W) (hw : ZWa W) (d j : Nat) (hd : d < 24) (hk : tI W d 0 = 1) : ∀ (k p f : Nat), p + k = tS W d → k < f → ((∃ q, p ≤ q ∧ q < tS W d ∧ tN W d q ≠ 0 ∧ tE W d q = iN j) ∧ l_T_parentOf_22_17 K N f (iN j) (iN d) (iN (tS W d)) (iN p) s t = some (.inl (33, [], s, t))) ∨ ((∀ q, p ≤ q → q < tS W d → tN W d q ≠ 0 → tE W d q ≠ iN j) ∧ l_T_parentOf_22_17 K N f (iN j) (iN d) (iN (tS W d)) (iN p) s t = some (.inl (37, [], s, t))) := by
  obtain ⟨m, m1, m2, _⟩ := hw.dsz hd hk
  intro k
  induction k with
  | zero =>
    intro p f hp hf
    obtain ⟨f, rfl⟩ : ∃ f', f = f' + 1 := ⟨f - 1, by omega⟩
    refine Or.inr ⟨fun q q1 q2 => by omega, ?_⟩
    unfold l_T_parentOf_22_17
    rw [if_pos (by rw [iN_le (by omega) (by omega)]; omega)]
  | succ k ih =>
    intro p f hp hf
    obtain ⟨f, rfl⟩ : ∃ f', f = f' + 1 := ⟨f - 1, by omega⟩
    have hnm := c_nameAt K N n sets hK t h hw d p hd hk (by omega)
    have hia := c_inodeAt K N n sets hK t h hw d p hd hk (by omega)
    have e3 : iN p + (1 : Int32) = iN (p + 1) := by rw [iL1, iN_add]
    have step : l_T_parentOf_22_17 K N (f + 1) (iN j) (iN d) (iN (tS W d)) (iN p) s t = if tN W d p = 0 then l_T_parentOf_22_17 K N f (iN j) (iN d) (iN (tS W d)) (iN (p + 1)) s t else if ¬ tE W d p = iN j then l_T_parentOf_22_17 K N f (iN j) (iN d) (iN (tS W d)) (iN (p + 1)) s t else some (.inl (33, [], s, t)) := by
      conv => lhs; unfold l_T_parentOf_22_17
      rw [if_neg (by rw [iN_le (by omega) (by omega)]; omega), hnm, e3]
      show (if tN W d p = 0 then _ else px_bi (f_T_entryWord_22 K N (iN d) (iN p) 1 s t) _ _) = _
      rw [hia]; rfl
    have ihp := ih (p + 1) f (by omega) (by omega)
    have next : (tN W d p ≠ 0 → tE W d p ≠ iN j) → l_T_parentOf_22_17 K N (f + 1) (iN j) (iN d) (iN (tS W d)) (iN p) s t = l_T_parentOf_22_17 K N f (iN j) (iN d) (iN (tS W d)) (iN (p + 1)) s t → ((∃ q, p ≤ q ∧ q < tS W d ∧ tN W d q ≠ 0 ∧ tE W d q = iN j) ∧ l_T_parentOf_22_17 K N (f + 1) (iN j) (iN d) (iN (tS W d)) (iN p) s t = some (.inl (33, [], s, t))) ∨ ((∀ q, p ≤ q → q < tS W d → tN W d q ≠ 0 → tE W d q ≠ iN j) ∧ l_T_parentOf_22_17 K N (f + 1) (iN j) (iN d) (iN (tS W d)) (iN p) s t = some (.inl (37, [], s, t))) := by
      intro hno hs
      rw [hs]
      rcases ihp with ⟨⟨q, q1, q2, q3, q4⟩, e⟩ | ⟨hq, e⟩
      · exact Or.inl ⟨⟨q, by omega, q2, q3, q4⟩, e⟩
      · refine Or.inr ⟨fun q q1 q2 q3 => ?_, e⟩
        by_cases hqp : q = p
        · rw [hqp] at q3 ⊢; exact hno q3
        · exact hq q (by omega) q2 q3
    by_cases h0 : tN W d p = 0
    · exact next (fun hx => absurd h0 hx) (by rw [step, if_pos h0])
    · by_cases h1 : tE W d p = iN j
      · exact Or.inl ⟨⟨p, Nat.le_refl _, by omega, h0, h1⟩, by rw [step, if_neg h0, if_neg (fun hx => hx h1)]⟩
      · exact next (fun _ => h1) (by rw [step, if_neg h0, if_pos h1])
theorem c_par2 (K : px_K) (N n sets : Nat) (hN : 2000 ≤ N) (hK : zKc K n sets) (t : px_W) {s : px_S} {W : ZSt} (h : zCx s W) (hw : ZWa W) (j : Nat) : ∀ (k d f : Nat), d + k = 24 → k < f → (∃ e p, zEnt W e p j ∧ l_T_parentOf_22_2 K N f (iN j) (iN d) s t = some (.inl (33, [iN e], s, t))) ∨ ((∀ e p, d ≤ e → ¬ zEnt W e p j) ∧ l_T_parentOf_22_2 K N f (iN j) (iN d) s t = some (.inl (39, [], s, t))) := by
  intro k
  induction k with
  | zero =>
    intro d f hd hf
    obtain ⟨f, rfl⟩ : ∃ f', f = f' + 1 := ⟨f - 1, by omega⟩
    refine Or.inr ⟨fun e p he hx => by have := hx.1; omega, ?_⟩
    have hd : d = 24 := by omega
    subst hd
    unfold l_T_parentOf_22_2
    rw [if_pos (by decide)]
  | succ k ih =>
    intro d f hd hf
    obtain ⟨f, rfl⟩ : ∃ f', f = f' + 1 := ⟨f - 1, by omega⟩
    have e3 : iN d + (1 : Int32) = iN (d + 1) := by rw [iL1, iN_add]
    have h24 : ¬ (24 : Int32) ≤ iN d := by show ¬ iN 24 ≤ iN d; rw [iN_le (by omega) (by omega)]; omega
    have hdir := c_isDir K N n sets hK t h (iN d)
    have hn32 : n32 (iN d) = d := n32_iN (by omega)
    have ihp := ih (d + 1) f (by omega) (by omega)
    have next : (∀ p, ¬ zEnt W d p j) → l_T_parentOf_22_2 K N (f + 1) (iN j) (iN d) s t = l_T_parentOf_22_2 K N f (iN j) (iN (d + 1)) s t → (∃ e p, zEnt W e p j ∧ l_T_parentOf_22_2 K N (f + 1) (iN j) (iN d) s t = some (.inl (33, [iN e], s, t))) ∨ ((∀ e p, d ≤ e → ¬ zEnt W e p j) ∧ l_T_parentOf_22_2 K N (f + 1) (iN j) (iN d) s t = some (.inl (39, [], s, t))) := by
      intro hno hs
      rw [hs]
      rcases ihp with hx | ⟨hq, e⟩
      · exact Or.inl hx
      · refine Or.inr ⟨fun e' p he hx => ?_, e⟩
        by_cases hed : e' = d
        · rw [hed] at hx; exact hno p hx
        · exact hq e' p (by omega) hx
    cases hkb : zKb W (iN d) 1 with
    | false =>
      rw [hkb] at hdir
      refine next (fun p hx => ?_) ?_
      · exact zKb_no hkb ⟨by rw [iL0, iN_le (by omega) (by omega)]; omega, by show iN d < iN 24; rw [iN_lt (by omega) (by omega)]; omega, by rw [hn32]; exact hx.2.1⟩
      · obtain ⟨r, e1, e2⟩ : wp (l_T_parentOf_22_2 K N (f + 1) (iN j) (iN d) s t) (fun r => some r = l_T_parentOf_22_2 K N f (iN j) (iN (d + 1)) s t) := by
          have hlp : l_T_parentOf_22_17 K N N (iN j) (iN d) (0 : Int32) (0 : Int32) s t = some (.inl (37, [], s, t)) := by
            obtain ⟨N', hN'⟩ : ∃ N', N = N' + 1 := ⟨N - 1, by omega⟩
            conv => lhs; rw [hN']; unfold l_T_parentOf_22_17
            rw [if_pos (by decide)]
          rcases ihp with ⟨e, p, _, e0⟩ | ⟨_, e0⟩
          · conv => lhs; unfold l_T_parentOf_22_2
            refine wp_ifn h24 (wp_bi hdir (wp_if rfl (wp_lp hlp (wp_ifn (by decide) (wp_if rfl (wp_v0 ?_))))))
            rw [e3, e0]; exact ⟨_, rfl, rfl⟩
          · conv => lhs; unfold l_T_parentOf_22_2
            refine wp_ifn h24 (wp_bi hdir (wp_if rfl (wp_lp hlp (wp_ifn (by decide) (wp_if rfl (wp_v0 ?_))))))
            rw [e3, e0]; exact ⟨_, rfl, rfl⟩
        rw [e1, e2]
    | true =>
      rw [hkb] at hdir
      obtain ⟨_, _, q3⟩ := zKd_of hkb
      rw [hn32] at q3
      have hpl := c_placesOf K N n sets hK t h hw d (by omega) q3
      obtain ⟨m, m1, m2, _⟩ := hw.dsz (show d < 24 by omega) q3
      rcases c_par17 K N n sets hK t h hw d j (by omega) q3 (tS W d) 0 N (by omega) (by omega) with ⟨⟨q, q1, q2, q3', q4⟩, e0⟩ | ⟨hq, e0⟩
      · have e0 : l_T_parentOf_22_17 K N N (iN j) (iN d) (iN (tS W d)) (0 : Int32) s t = _ := e0
        refine Or.inl ⟨d, q, ⟨by omega, q3, q2, q3', q4⟩, ?_⟩
        obtain ⟨r, e1, e2⟩ : wp (l_T_parentOf_22_2 K N (f + 1) (iN j) (iN d) s t) (fun r => r = .inl (33, [iN d], s, t)) := by
          unfold l_T_parentOf_22_2
          exact wp_ifn h24 (wp_bi hdir (wp_ifn (by decide) (wp_bi hpl (wp_lp e0 (wp_if rfl (wp_v0 (wp_some rfl)))))))
        rw [e1, e2]
      · have e0 : l_T_parentOf_22_17 K N N (iN j) (iN d) (iN (tS W d)) (0 : Int32) s t = _ := e0
        refine next (fun p hx => hq p (by omega) hx.2.2.1 hx.2.2.2.1 hx.2.2.2.2) ?_
        obtain ⟨r, e1, e2⟩ : wp (l_T_parentOf_22_2 K N (f + 1) (iN j) (iN d) s t) (fun r => some r = l_T_parentOf_22_2 K N f (iN j) (iN (d + 1)) s t) := by
          rcases ihp with ⟨e, p, _, e9⟩ | ⟨_, e9⟩
          · conv => lhs; unfold l_T_parentOf_22_2
            refine wp_ifn h24 (wp_bi hdir (wp_ifn (by decide) (wp_bi hpl (wp_lp e0 (wp_ifn (by decide) (wp_if rfl (wp_v0 ?_)))))))
            rw [e3, e9]; exact ⟨_, rfl, rfl⟩
          · conv => lhs; unfold l_T_parentOf_22_2
            refine wp_ifn h24 (wp_bi hdir (wp_ifn (by decide) (wp_bi hpl (wp_lp e0 (wp_ifn (by decide) (wp_if rfl (wp_v0 ?_)))))))
            rw [e3, e9]; exact ⟨_, rfl, rfl⟩
        rw [e1, e2]
theorem c_parentOf (K : px_K) (N n sets : Nat) (hN : 2000 ≤ N) (hK : zKc K n sets) (t : px_W) {s : px_S} {W : ZSt} (h : zCx s W) (hw : ZWa W) (j : Nat) : ∃ q, f_T_parentOf_22 K N (iN j) s t = some (.inl (some (.int (iN q))), s, t) ∧ ((∃ p, zEnt W q p j) ∨ (q = 0 ∧ ∀ e p, ¬ zEnt W e p j)) := by
  rcases c_par2 K N n sets hN hK t h hw j 24 0 N (by omega) (by omega) with ⟨e, p, he, e0⟩ | ⟨hq, e0⟩
  · have e0 : l_T_parentOf_22_2 K N N (iN j) (0 : Int32) s t = _ := e0
    refine ⟨e, ?_, Or.inl ⟨p, he⟩⟩
    unfold f_T_parentOf_22
    rw [e0]; rfl
  · have e0 : l_T_parentOf_22_2 K N N (iN j) (0 : Int32) s t = _ := e0
    refine ⟨0, ?_, Or.inr ⟨rfl, fun e p hx => hq e p (by omega) hx⟩⟩
    unfold f_T_parentOf_22
    rw [e0]; rfl
theorem zEnt_pos {W : ZSt} (hw : ZWb W) {e p j : Nat} (h : zEnt W e p j) (hj : j < 24) : 1 ≤ j := by
  obtain ⟨_, i, i1, i2, i3, _⟩ := hw.en e p h.1 h.2.1 h.2.2.1 h.2.2.2.1
  have := h.2.2.2.2
  rw [i1, iN_eq (by omega) (by omega)] at this
  omega
theorem zSb_not0 {W : ZSt} (hw : ZWb W) {o : Nat} (ho : 1 ≤ o) : ∀ m, ¬ zSb W o m 0 := by
  intro m hx
  cases m with
  | zero => have hx : 0 = o := hx; omega
  | succ m =>
    rcases hx with hx | ⟨e, p, _, he⟩
    · omega
    · have := zEnt_pos hw he (by omega); omega
theorem c_within_loop (K : px_K) (N n sets : Nat) (hN : 2000 ≤ N) (hK : zKc K n sets) (t : px_W) {s : px_S} {W : ZSt} (h : zCx s W) (hw : ZW W) (o : Nat) (ho : o < 24) (ho1 : 1 ≤ o) (r : Nat → Nat) (hr : ∀ d p i, zEnt W d p i → i < 24 → r d < r i) : ∀ (k m f u : Nat), m + k = 24 → k < f → u < 24 → (u ≠ 0 → m + r u < 24) → ((∃ j, zSb W o j u) ∧ l_T_isWithin_22_4 K N f (iN o) (iN u) (iN m) s t = some (.inl (12, [], s, t))) ∨ ((¬ ∃ j, zSb W o j u) ∧ l_T_isWithin_22_4 K N f (iN o) (iN u) (iN m) s t = some (.inl (20, [iN 0], s, t))) := by
  intro k
  induction k with
  | zero =>
    intro m f u hm hf hu hru
    obtain ⟨f, rfl⟩ : ∃ f', f = f' + 1 := ⟨f - 1, by omega⟩
    have hm : m = 24 := by omega
    have hu0 : u = 0 := by
      rcases Nat.eq_zero_or_pos u with hx | hx
      · exact hx
      · have := hru (by omega); omega
    subst hm hu0
    refine Or.inr ⟨fun ⟨j, hj⟩ => zSb_not0 hw.b ho1 j hj, ?_⟩
    unfold l_T_isWithin_22_4
    rw [if_pos (by decide)]
  | succ k ih =>
    intro m f u hm hf hu hru
    obtain ⟨f, rfl⟩ : ∃ f', f = f' + 1 := ⟨f - 1, by omega⟩
    have h24 : ¬ (24 : Int32) ≤ iN m := by show ¬ iN 24 ≤ iN m; rw [iN_le (by omega) (by omega)]; omega
    have e3 : iN m + (1 : Int32) = iN (m + 1) := by rw [iL1, iN_add]
    by_cases hu0 : u = 0
    · subst hu0
      refine Or.inr ⟨fun ⟨j, hj⟩ => zSb_not0 hw.b ho1 j hj, ?_⟩
      unfold l_T_isWithin_22_4
      rw [if_neg h24, if_pos (c := iN 0 = 0) rfl]
    have hru := hru hu0
    have c0 : ¬ iN u = 0 := by rw [iL0, iN_eq (by omega) (by omega)]; exact hu0
    by_cases huo : u = o
    · subst huo
      refine Or.inl ⟨⟨0, rfl⟩, ?_⟩
      unfold l_T_isWithin_22_4
      rw [if_neg h24, if_neg c0, if_neg (fun hx => hx rfl)]
    have cuo : ¬ iN u = iN o := by rw [iN_eq (by omega) (by omega)]; exact huo
    obtain ⟨q, p1, p2⟩ := c_parentOf K N n sets hN hK t h hw.a u
    have step : l_T_isWithin_22_4 K N (f + 1) (iN o) (iN u) (iN m) s t = l_T_isWithin_22_4 K N f (iN o) (iN q) (iN (m + 1)) s t := by
      conv => lhs; unfold l_T_isWithin_22_4
      rw [if_neg h24, if_neg c0, if_pos cuo, p1, e3]; rfl
    rw [step]
    rcases p2 with ⟨p, hp⟩ | ⟨hq0, hno⟩
    · have hlt := hr q p u hp hu
      have hq24 : q < 24 := hp.1
      have hiff : (∃ j, zSb W o j u) ↔ ∃ j, zSb W o j q := by
        constructor
        · rintro ⟨j, hj⟩
          cases j with
          | zero => exact absurd hj huo
          | succ j =>
            rcases hj with hj | ⟨e, p', hj, he⟩
            · exact absurd hj huo
            · obtain ⟨eq, _⟩ := hw.b.ep e p' q p u he hp
              rw [eq] at hj; exact ⟨j, hj⟩
        · rintro ⟨j, hj⟩
          exact ⟨j + 1, Or.inr ⟨q, p, hj, hp⟩⟩
      rw [hiff]
      exact ih (m + 1) f q (by omega) (by omega) hq24 (fun _ => by omega)
    · subst hq0
      have h0 := ih (m + 1) f 0 (by omega) (by omega) (by omega) (fun hx => absurd rfl hx)
      rcases h0 with ⟨⟨j, hj⟩, _⟩ | ⟨_, e⟩
      · exact absurd hj (zSb_not0 hw.b ho1 j)
      · refine Or.inr ⟨?_, e⟩
        rintro ⟨j, hj⟩
        cases j with
        | zero => exact huo hj
        | succ j =>
          rcases hj with hj | ⟨e, p', _, he⟩
          · exact huo hj
          · exact hno e p' he
theorem c_isWithin (K : px_K) (N n sets : Nat) (hN : 2000 ≤ N) (hK : zKc K n sets) (t : px_W) {s : px_S} {W : ZSt} (h : zCx s W) (hw : ZW W) (u o : Nat) (hu : u < 24) (ho : o < 24) (ho1 : 1 ≤ o) (hku : tI W u 0 = 1) (hko : tI W o 0 = 1) : f_T_isWithin_22 K N (iN u) (iN o) s t = some (.inl (some (.int (bN (zWi W u 30 o)))), s, t) := by
  obtain ⟨r, hr, hr24⟩ := zrank hw
  have hiff := zWi_iff hw hu ho hku hko
  rcases c_within_loop K N n sets hN hK t h hw o ho ho1 r hr 24 0 N u (by omega) (by omega) hu (fun _ => by have := hr24 u hu; omega) with ⟨hp, e0⟩ | ⟨hp, e0⟩
  · have e0 : l_T_isWithin_22_4 K N N (iN o) (iN u) (0 : Int32) s t = _ := e0
    rw [hiff.mpr hp]
    unfold f_T_isWithin_22
    rw [e0]; rfl
  · have e0 : l_T_isWithin_22_4 K N N (iN o) (iN u) (0 : Int32) s t = _ := e0
    have hb : zWi W u 30 o = false := by
      cases hz : zWi W u 30 o with
      | false => rfl
      | true => exact absurd (hiff.mp hz) hp
    rw [hb]
    unfold f_T_isWithin_22
    rw [e0]
    show some ((.inl (some (.int (if ¬ iN 0 = iN o then (0 : Int32) else (1 : Int32)))), s, t) : px_Res) = _
    rw [if_pos (by rw [iN_eq (by omega) (by omega)]; omega)]; rfl
/-- the tail of a move -/
theorem c_mvtail (K : px_K) (N n sets : Nat) (hN : 2000 ≤ N) (hK : zKc K n sets) (t33 : px_W) (s32 : px_S) (T : ZTs) (h : zCt s32 T) (hw : ZW T.wd) (d p to : Nat) (hd : d < 24) (hkd : tI T.wd d 0 = 1) (hp : p < tS T.wd d) (hto : to < 24) (hkt : tI T.wd to 0 = 1) (a0 a2 a3 v18 v30 : Int32) (ha0 : a0 = iN d) (ha2 : a2 = iN to) (hv18 : v18 = iN p) : wp (α := px_Res) (px_bi (f_T_placeForNew_22 K N a2 s32 t33) (fun v41 s38 t39 => (if 0 ≤ v41 then (px_bv (f_T_tellEntry_22 K N a2 v41 a3 v30 s38 t39) (fun s44 t45 => (px_bv (f_T_tellEntry_22 K N a0 v18 (0 : Int32) (0 : Int32) s44 t45) (fun s49 t50 => (some (.inl (some (.int (0 : Int32))), s49, t50))) (fun x53 s49 t50 => none))) (fun x48 s44 t45 => none)) else (some (.inl (some (.int (-3 : Int32))), s38, t39)))) (fun x42 s38 t39 => none)) (zA (if zRoom T.wd to = true then 0 else -3) t33 (fun s' => zCt s' (if zRoom T.wd to = true then xEnt (xEnter T to a3 v30) d p 0 0 else T) ∧ zHt s32 s')) := by
  subst ha0 ha2 hv18
  obtain ⟨s1, a1, b2, b3⟩ := wp_A (c_placeForNew K N n sets hN hK t33 s32 T h hw to hto hkt)
  refine wp_bi a1 ?_
  cases hr : zRoom T.wd to with
  | false =>
    rw [hr, if_neg (c := false = true) Bool.noConfusion] at b2
    rw [if_neg (c := false = true) Bool.noConfusion, if_neg (c := false = true) Bool.noConfusion, if_neg (c := false = true) Bool.noConfusion]
    exact wp_ifn (by decide) (wp_rA ⟨b2, b3⟩)
  | true =>
    rw [hr, if_pos (c := true = true) rfl] at b2
    rw [if_pos (c := true = true) rfl, if_pos (c := true = true) rfl, if_pos (c := true = true) rfl]
    have hle := zFpl_le (W := T.wd) (d := to)
    obtain ⟨m, m1, m2, _, _⟩ := hw.a.dsz hto hkt
    obtain ⟨g1, g2, g3, _⟩ := zgrow_ok hw hto hkt hr
    obtain ⟨e1, e2, e3⟩ := zenter_a hw hto hkt hr a3 v30
    refine wp_if (by show 0 ≤ iN (zFpl T.wd to); rw [iL0, iN_le (by omega) (by omega)]; omega) ?_
    obtain ⟨s2, c1, c2, c3⟩ := c_tellEntry K N n sets hK t33 s1 _ b2 g1.a to (zFpl T.wd to) a3 v30 hto (by rw [g2 to hto]; exact hkt) g3
    refine wp_bv c1 ?_
    obtain ⟨s3, d1, d2, d3⟩ := c_tellEntry K N n sets hK t33 s2 (xEnter T to a3 v30) c2 e1 d p 0 0 hd (by rw [e2 d hd]; exact hkd) (e3 d p hd hkd hp).1
    exact wp_bv d1 (wp_rA ⟨d2, zHt_trans b3 (zHt_trans c3 d3)⟩)
theorem c_rename (K : px_K) (N n sets : Nat) (hN : 2000 ≤ N) (hK : zKc K n sets) (t : px_W) (s : px_S) (T : ZTs) (h : zCt s T) (hw : ZW T.wd) (a0 a1 a2 a3 : Int32) : wp (f_T_rename_22 K N a0 a1 a2 a3 s t) (zA (xMove T a0 a1 a2 a3).1 t (fun s' => zCt s' (xMove T a0 a1 a2 a3).2 ∧ zHt s s')) := by
  have hx := zCt_x h
  have same : ∀ (a : Int32) (F : Option px_Res), wp F (zA a t (fun s' => zCt s' T ∧ zHt s s')) → xMove T a0 a1 a2 a3 = (a, T) → wp F (zA (xMove T a0 a1 a2 a3).1 t (fun s' => zCt s' (xMove T a0 a1 a2 a3).2 ∧ zHt s s')) := by
    intro a F hF he; rw [he]; exact hF
  have hT : zCt s T ∧ zHt s s := ⟨h, zHt_refl s⟩
  unfold f_T_rename_22
  refine wp_bi (c_isDir K N n sets hK t hx a0) ?_
  cases hkb : zKb T.wd a0 1 with
  | false => exact same (-4) _ (wp_if rfl (wp_rA hT)) (if_neg (fun hx => by rw [hkb] at hx; cases hx.1))
  | true =>
    refine wp_ifn (by decide) (wp_bi (c_isDir K N n sets hK t hx a2) ?_)
    cases hkb2 : zKb T.wd a2 1 with
    | false => exact same (-4) _ (wp_if rfl (wp_rA hT)) (if_neg (fun hx => by rw [hkb2] at hx; cases hx.2.1))
    | true =>
      refine wp_ifn (by decide) ?_
      by_cases hy : 1 ≤ a3
      · refine wp_if hy ?_
        obtain ⟨k1, k2, k3⟩ := zKd_of hkb
        obtain ⟨l1, l2, l3⟩ := zKd_of hkb2
        have hxm : xMove T a0 a1 a2 a3 = (match (if 1 ≤ a1 then zPl T.wd (n32 a0) a1 else none) with
          | none => (-1, T)
          | some p => match zPl T.wd (n32 a2) a3 with
            | some _ => (-2, T)
            | none => if tI T.wd (n32 (tE T.wd (n32 a0) p)) 0 = 1 ∧ zWi T.wd (n32 a2) 30 (n32 (tE T.wd (n32 a0) p)) = true then (-4, T)
              else if zRoom T.wd (n32 a2) = true then (0, xEnt (xEnter T (n32 a2) a3 (tE T.wd (n32 a0) p)) (n32 a0) p 0 0) else (-3, T)) := if_pos ⟨hkb, hkb2, hy⟩
        obtain ⟨m, m1, m2, _, _⟩ := hw.a.dsz k2 k3
        obtain ⟨m', m1', m2', _, _⟩ := hw.a.dsz l2 l3
        by_cases hx1 : 1 ≤ a1
        · rw [if_pos hx1] at hxm
          refine wp_if hx1 ?_
          have hpl := c_placeOf K N n sets hN hK t hx hw.a (n32 a0) k2 k3 a1
          rw [← k1] at hpl
          refine wp_bi hpl ?_
          cases hz : zPl T.wd (n32 a0) a1 with
          | none =>
            rw [hz] at hxm
            exact same (-1) _ (wp_ifn (by decide) (wp_rA hT)) hxm
          | some p =>
            rw [hz] at hxm
            dsimp only at hxm
            obtain ⟨p1, p2⟩ := zPl_x hz hx1
            obtain ⟨i, i0, i1, i2, i3, i4⟩ := zent_of hw k2 k3 p1 p2
            rw [i1] at hxm
            have hpl2 := c_placeOf K N n sets hN hK t hx hw.a (n32 a2) l2 l3 a3
            rw [← l1] at hpl2
            refine wp_if (by show 0 ≤ iN p; rw [iL0, iN_le (by omega) (by omega)]; omega) (wp_bi hpl2 ?_)
            cases hz2 : zPl T.wd (n32 a2) a3 with
            | some q =>
              rw [hz2] at hxm
              obtain ⟨q1, _⟩ := zPl_some hz2
              exact same (-2) _ (wp_ifn (by show ¬ iN q < 0; exact iN_neg (by omega)) (wp_rA hT)) hxm
            | none =>
              rw [hz2] at hxm
              dsimp only at hxm
              have hia := c_inodeAt K N n sets hK t hx hw.a (n32 a0) p k2 k3 p1
              rw [← k1, i0] at hia
              refine wp_if (by decide) (wp_bi hia (wp_bi (c_isDir K N n sets hK t hx (iN i)) ?_))
              have hn32 : n32 (iN i) = i := n32_iN (by omega)
              have tail := c_mvtail K N n sets hN hK t s T h hw (n32 a0) p (n32 a2) k2 k3 p1 l2 l3 a0 a2 a3 (iN p) (iN i) k1 l1 rfl
              have fin : ¬ (tI T.wd i 0 = 1 ∧ zWi T.wd (n32 a2) 30 i = true) → (xMove T a0 a1 a2 a3).1 = (if zRoom T.wd (n32 a2) = true then 0 else -3) ∧ (xMove T a0 a1 a2 a3).2 = (if zRoom T.wd (n32 a2) = true then xEnt (xEnter T (n32 a2) a3 (iN i)) (n32 a0) p 0 0 else T) := by
                intro hno
                rw [if_neg hno, i0] at hxm
                rw [hxm]
                by_cases hrm : zRoom T.wd (n32 a2) = true
                · rw [if_pos hrm, if_pos hrm, if_pos hrm]; exact ⟨rfl, rfl⟩
                · rw [if_neg hrm, if_neg hrm, if_neg hrm]; exact ⟨rfl, rfl⟩
              cases hkk : zKb T.wd (iN i) 1 with
              | false =>
                have hno : ¬ (tI T.wd i 0 = 1 ∧ zWi T.wd (n32 a2) 30 i = true) := fun hx => absurd ⟨by rw [iL0, iN_le (by omega) (by omega)]; omega, by show iN i < iN 24; rw [iN_lt (by omega) (by omega)]; exact i3, by rw [hn32]; exact hx.1⟩ (zKb_no hkk)
                rw [(fin hno).1, (fin hno).2]
                exact wp_if rfl tail
              | true =>
                obtain ⟨_, _, q3⟩ := zKd_of hkk
                rw [hn32] at q3
                have hwi := c_isWithin K N n sets hN hK t hx hw (n32 a2) i l2 i3 i2 l3 q3
                rw [← l1] at hwi
                refine wp_ifn (by decide) (wp_bi hwi ?_)
                cases hzw : zWi T.wd (n32 a2) 30 i with
                | false =>
                  have hno : ¬ (tI T.wd i 0 = 1 ∧ zWi T.wd (n32 a2) 30 i = true) := fun hx => by rw [hzw] at hx; cases hx.2
                  rw [(fin hno).1, (fin hno).2]
                  exact wp_if rfl tail
                | true =>
                  rw [if_pos ⟨q3, hzw⟩] at hxm
                  exact same (-4) _ (wp_ifn (by decide) (wp_rA hT)) hxm
        · rw [if_neg hx1] at hxm
          exact same (-1) _ (wp_ifn hx1 (wp_ifn (by decide) (wp_rA hT))) hxm
      · exact same (-4) _ (wp_ifn hy (wp_rA hT)) (if_neg (fun hx => hy hx.2.2))
