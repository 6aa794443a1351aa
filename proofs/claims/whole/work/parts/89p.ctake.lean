/-! THE SLOTS ARE TAKEN FROM THE FLASH (the class) -/
def zHg (s u : px_S) : Prop := (∀ c, c < 15 ∨ 19 < c → u.2.2.1 c = s.2.2.1 c) ∧ (∀ r, r ≠ 16 → r ≠ 17 → u.1 r = s.1 r) ∧ u.2.1 = s.2.1 ∧ u.2.2.2 = s.2.2.2
theorem zHg_refl (s : px_S) : zHg s s := ⟨fun _ _ => rfl, fun _ _ _ => rfl, rfl, rfl⟩
theorem zHg_trans {s u v : px_S} (h1 : zHg s u) (h2 : zHg u v) : zHg s v := ⟨fun c a => (h2.1 c a).trans (h1.1 c a), fun r a b => (h2.2.1 r a b).trans (h1.2.1 r a b), h2.2.2.1.trans h1.2.2.1, h2.2.2.2.trans h1.2.2.2⟩
theorem zHs_g {s u : px_S} (h : zHs s u) : zHg s u := ⟨h.1, fun r _ _ => by rw [h.2.1], h.2.2.1, h.2.2.2⟩
theorem zHg_v {s u : px_S} (h : zHg s u) : zHv s u := ⟨fun c hc => h.1 c (by omega), fun r hr => h.2.1 r (by omega) (by omega), fun r _ => by rw [h.2.2.1], h.2.2.2⟩
theorem zCw_g {n : Nat} {s u : px_S} {p : ZPw} (h : zCw n s p) (hs : zHg s u) : zCw n u p := zCw_of h (fun r _ _ => hs.2.1 r (by omega) (by omega)) (fun a _ _ => hs.1 a (by omega)) hs.2.2.1
/-- no slot has anything, no hand has moved -/
def zCn (s : px_S) (n sets : Nat) : Prop := (∀ j, j < n → s.2.2.1 15 j = 0 ∧ s.2.2.1 16 j = 0 ∧ s.2.2.1 17 j = 0 ∧ s.2.2.1 18 j = 0) ∧ ∀ k, k < sets → s.2.2.1 19 k = 0
theorem c_startSlots (K : px_K) (N n sets : Nat) (hN : 2000 ≤ N) (hK : zKc K n sets) (hs : sets < 2000) (t : px_W) (s : px_S) (v : ZVs) (h : zCw n s v.p) (h20 : s.1 20 = iN n) (hL : v.dn 1 1 = iN v.landed) : ∃ u, f_V_startSlots_13 K N s t = some (.inl none, u, t) ∧ zCn u n sets ∧ u.1 16 = iN (v.landed + 1) ∧ u.1 17 = 0 ∧ zHg s u := by
  obtain ⟨u, a1, a2, a3, a4⟩ := c_clear K N n sets hN hK hs t s h20
  have hcw : zCw n (sR u 17 0) v.p := zCw_of h (fun r _ _ => by rw [sR_ne (by omega), a4.2.1]) (fun a _ _ => a4.1 a (by omega)) a4.2.2.1
  have hlan := c_landed K N n sets hK t (sR u 17 0) (v.p.dv 0) hcw.1
  rw [show (v.p.dv 0).now 1 1 = iN v.landed from hL] at hlan
  refine ⟨sR (sR u 17 0) 16 (iN (v.landed + 1)), ?_, ⟨a2, a3⟩, sR_self _ _ _, ?_, ⟨a4.1, fun r r1 r2 => ?_, a4.2.2.1, a4.2.2.2⟩⟩
  · obtain ⟨r, r1, r2⟩ : wp (f_V_startSlots_13 K N s t) (fun r => r = (.inl none, sR (sR u 17 0) 16 (iN (v.landed + 1)), t)) := by
      unfold f_V_startSlots_13
      refine wp_bv a1 (wp_let (wp_bi hlan (wp_let (wp_some ?_))))
      rw [iL1, iN_add]
    rw [r1, r2]
  · rw [sR_ne (by omega)]; exact sR_self _ _ _
  · rw [sR_ne r1, sR_ne r2, a4.2.1]
theorem c_hl_loop (K : px_K) (N n sets : Nat) (hK : zKc K n sets) (t : px_W) (s : px_S) (D : ZDv) (h : zCd s 6 8 (50 + n) D) (h0 g : Nat) (hh : h0 < 2) (h13 : s.1 13 = iN h0) (h14 : s.1 14 = iN g) (e : Int32) : ∀ (d i f : Nat), i + d = 24 → d < f → ((∃ k, i ≤ k ∧ k < 24 ∧ D.now (25 * h0 + 1 + k) 0 = iN g ∧ D.now (25 * h0 + 1 + k) 1 = e ∧ D.now (25 * h0 + 1 + k) 2 = 1) ∧ l_V_hasLast_13_2 K N f e (iN i) s t = some (.inl (36, [], s, t))) ∨ ((∀ k, i ≤ k → k < 24 → ¬ (D.now (25 * h0 + 1 + k) 0 = iN g ∧ D.now (25 * h0 + 1 + k) 1 = e ∧ D.now (25 * h0 + 1 + k) 2 = 1)) ∧ l_V_hasLast_13_2 K N f e (iN i) s t = some (.inl (40, [], s, t))) := by
  intro d
  induction d with
  | zero =>
    intro i f hi hf
    obtain ⟨f, rfl⟩ : ∃ f', f = f' + 1 := ⟨f - 1, by omega⟩
    have hi : i = 24 := by omega
    subst hi
    refine Or.inr ⟨fun k k1 k2 => by omega, ?_⟩
    unfold l_V_hasLast_13_2
    rw [if_pos (by decide)]
  | succ d ih =>
    intro i f hi hf
    obtain ⟨f, rfl⟩ : ∃ f', f = f' + 1 := ⟨f - 1, by omega⟩
    have e3 : iN i + (1 : Int32) = iN (i + 1) := by rw [iL1, iN_add]
    have ev : ((s.1 13 * (25 : Int32)) + (1 : Int32)) + iN i = iN (25 * h0 + 1 + i) := by
      have h25 : (25 : Int32) = iN 25 := rfl
      rw [h13, h25, iN_mul, iL1, iN_add, iN_add, Nat.mul_comm h0 25]
    have h24 : ¬ (24 : Int32) ≤ iN i := by show ¬ iN 24 ≤ iN i; rw [iN_le (by omega) (by omega)]; omega
    have w0 : f_D_at_8 K N (iN (25 * h0 + 1 + i)) (0 : Int32) s t = _ := c_at_8 K N n sets hK t s D h (25 * h0 + 1 + i) 0 (by omega) (by omega)
    have w1 : f_D_at_8 K N (iN (25 * h0 + 1 + i)) (1 : Int32) s t = _ := c_at_8 K N n sets hK t s D h (25 * h0 + 1 + i) 1 (by omega) (by omega)
    have w2 : f_D_at_8 K N (iN (25 * h0 + 1 + i)) (2 : Int32) s t = _ := c_at_8 K N n sets hK t s D h (25 * h0 + 1 + i) 2 (by omega) (by omega)
    obtain ⟨x0, hx0⟩ : ∃ x, x = D.now (25 * h0 + 1 + i) 0 := ⟨_, rfl⟩
    obtain ⟨x1, hx1⟩ : ∃ x, x = D.now (25 * h0 + 1 + i) 1 := ⟨_, rfl⟩
    obtain ⟨x2, hx2⟩ : ∃ x, x = D.now (25 * h0 + 1 + i) 2 := ⟨_, rfl⟩
    rw [← hx0] at w0
    rw [← hx1] at w1
    rw [← hx2] at w2
    have step : l_V_hasLast_13_2 K N (f + 1) e (iN i) s t = if ¬ x0 = iN g then l_V_hasLast_13_2 K N f e (iN (i + 1)) s t else if ¬ x1 = e then l_V_hasLast_13_2 K N f e (iN (i + 1)) s t else if ¬ x2 = 1 then l_V_hasLast_13_2 K N f e (iN (i + 1)) s t else some (.inl (36, [], s, t)) := by
      conv => lhs; unfold l_V_hasLast_13_2
      rw [if_neg h24, ev, e3]
      show px_bi (f_D_at_8 K N (iN (25 * h0 + 1 + i)) (0 : Int32) s t) _ _ = _
      rw [w0]
      show (if ¬ x0 = s.1 14 then _ else px_bi (f_D_at_8 K N (iN (25 * h0 + 1 + i)) (1 : Int32) s t) _ _) = _
      rw [h14, w1]
      show (if ¬ x0 = iN g then _ else (if ¬ x1 = e then _ else px_bi (f_D_at_8 K N (iN (25 * h0 + 1 + i)) (2 : Int32) s t) _ _)) = _
      rw [w2]
      rfl
    have next : ¬ (x0 = iN g ∧ x1 = e ∧ x2 = 1) → l_V_hasLast_13_2 K N (f + 1) e (iN i) s t = l_V_hasLast_13_2 K N f e (iN (i + 1)) s t → ((∃ k, i ≤ k ∧ k < 24 ∧ D.now (25 * h0 + 1 + k) 0 = iN g ∧ D.now (25 * h0 + 1 + k) 1 = e ∧ D.now (25 * h0 + 1 + k) 2 = 1) ∧ l_V_hasLast_13_2 K N (f + 1) e (iN i) s t = some (.inl (36, [], s, t))) ∨ ((∀ k, i ≤ k → k < 24 → ¬ (D.now (25 * h0 + 1 + k) 0 = iN g ∧ D.now (25 * h0 + 1 + k) 1 = e ∧ D.now (25 * h0 + 1 + k) 2 = 1)) ∧ l_V_hasLast_13_2 K N (f + 1) e (iN i) s t = some (.inl (40, [], s, t))) := by
      intro hno hs
      rw [hs]
      rcases ih (i + 1) f (by omega) (by omega) with ⟨⟨k, k1, k2, k3⟩, e1⟩ | ⟨hk, e1⟩
      · exact Or.inl ⟨⟨k, by omega, k2, k3⟩, e1⟩
      · refine Or.inr ⟨fun k k1 k2 => ?_, e1⟩
        by_cases hki : k = i
        · rw [hki, ← hx0, ← hx1, ← hx2]; exact hno
        · exact hk k (by omega) k2
    by_cases c0 : x0 = iN g
    · by_cases c1 : x1 = e
      · by_cases c2 : x2 = 1
        · exact Or.inl ⟨⟨i, Nat.le_refl _, by omega, by rw [← hx0]; exact c0, by rw [← hx1]; exact c1, by rw [← hx2]; exact c2⟩, by rw [step, if_neg (fun hx => hx c0), if_neg (fun hx => hx c1), if_neg (fun hx => hx c2)]⟩
        · exact next (fun hx => c2 hx.2.2) (by rw [step, if_neg (fun hx => hx c0), if_neg (fun hx => hx c1), if_pos c2])
      · exact next (fun hx => c1 hx.2.1) (by rw [step, if_neg (fun hx => hx c0), if_pos c1])
    · exact next (fun hx => c0 hx.1) (by rw [step, if_pos c0])
theorem c_hasLast (K : px_K) (N n sets : Nat) (hN : 2000 ≤ N) (hK : zKc K n sets) (t : px_W) (s : px_S) (D : ZDv) (h : zCd s 6 8 (50 + n) D) (h0 g : Nat) (hh : h0 < 2) (h13 : s.1 13 = iN h0) (h14 : s.1 14 = iN g) (e : Int32) : ∃ b : Bool, (b = true ↔ ∃ k, k < 24 ∧ D.now (25 * h0 + 1 + k) 0 = iN g ∧ D.now (25 * h0 + 1 + k) 1 = e ∧ D.now (25 * h0 + 1 + k) 2 = 1) ∧ f_V_hasLast_13 K N e s t = some (.inl (some (.int (bN b))), s, t) := by
  rcases c_hl_loop K N n sets hK t s D h h0 g hh h13 h14 e 24 0 N (by omega) (by omega) with ⟨⟨k, k1, k2, k3⟩, e1⟩ | ⟨hk, e1⟩
  · have e1 : l_V_hasLast_13_2 K N N e (0 : Int32) s t = _ := e1
    refine ⟨true, ⟨fun _ => ⟨k, k2, k3⟩, fun _ => rfl⟩, ?_⟩
    unfold f_V_hasLast_13
    rw [e1]; rfl
  · have e1 : l_V_hasLast_13_2 K N N e (0 : Int32) s t = _ := e1
    refine ⟨false, ⟨fun hx => (by cases hx), fun ⟨k, k2, k3⟩ => absurd k3 (hk k (by omega) k2)⟩, ?_⟩
    unfold f_V_hasLast_13
    rw [e1]; rfl
/-- a slot is dirty with a block -/
theorem zCk_put {s : px_S} {v : ZVs} (h : zCk s v) (q b e : Nat) (he : 0 < e) : zCk (zcD s q 2 (iN b) (iN e)) (ZVs.mk v.p v.sets v.ways v.eps v.wf (zu v.sb q (b + 1)) (zu v.se q e) v.mrk v.hd v.opn v.half v.gen v.plc) := by
  obtain ⟨q1, q2, q3, q4, q5, q6⟩ := zcD_eq s q 2 (iN b) (iN e)
  intro i hi
  obtain ⟨a1, a2, a3, a4⟩ := h i hi
  show (zcD s q 2 (iN b) (iN e)).2.2.1 15 i = zKnd (zu v.sb q (b + 1) i) (zu v.se q e i) ∧ (zcD s q 2 (iN b) (iN e)).2.2.1 16 i = iN (zu v.sb q (b + 1) i - 1) ∧ (zcD s q 2 (iN b) (iN e)).2.2.1 17 i = iN (zu v.se q e i) ∧ (zcD s q 2 (iN b) (iN e)).2.2.1 18 i = bN (v.mrk i)
  rw [q1, q2, q3, q4]
  by_cases hiq : i = q
  · rw [hiq, upd_self, upd_self, upd_self, zu_self, zu_self]
    refine ⟨?_, rfl, rfl, by rw [← hiq]; exact a4⟩
    unfold zKnd
    rw [if_neg (by omega), if_neg (by omega)]
  · rw [upd_ne hiq, upd_ne hiq, upd_ne hiq, zu_ne _ _ hiq, zu_ne _ _ hiq]
    exact ⟨a1, a2, a3, a4⟩
theorem c_tr10 (K : px_K) (N n sets : Nat) (hK : zKc K n sets) (t : px_W) (bb : Nat) (hbb : bb < 50) (r : ZBk) (e : Nat) (he : 0 < e) (D : ZDv) (hD : D.now bb = r) (u3 : Int32) (c : Nat) (hu3 : n32 u3 = c) (h6 : c ≤ 6) (hr : ∀ j, j < c → ∃ q b, r (4 + 2 * j) = iN q ∧ r (5 + 2 * j) = iN b ∧ q < n ∧ b < 106) : ∀ (k j f : Nat) (s : px_S) (v : ZVs), v.n = n → zCd s 6 8 (50 + n) D → zCk s v → s.1 20 = iN n → j + k = c → k < f → ∃ u, l_V_takeRecord_13_10 K N f (iN bb) (iN e) u3 (iN j) s t = some (.inl (53, [], u, t)) ∧ zCk u (ZVs.takePairs r e k j v) ∧ zHs s u ∧ u.2.2.1 19 = s.2.2.1 19 := by
  have hn64 : n ≤ 64 := hK.2.2.2.2.2.2.2.2.2.2.2.2.2.2.2.2.2.2.2.2
  intro k
  induction k with
  | zero =>
    intro j f s v hn hd hk h20 hj hf
    obtain ⟨f, rfl⟩ : ∃ f', f = f' + 1 := ⟨f - 1, by omega⟩
    refine ⟨s, ?_, hk, zHs_refl s, rfl⟩
    unfold l_V_takeRecord_13_10
    rw [if_pos ((n32_le (by omega)).mpr (by omega))]
  | succ k ih =>
    intro j f s v hn hd hk h20 hj hf
    obtain ⟨f, rfl⟩ : ∃ f', f = f' + 1 := ⟨f - 1, by omega⟩
    have e3 : iN j + (1 : Int32) = iN (j + 1) := by rw [iL1, iN_add]
    have e4 : (4 : Int32) + (2 : Int32) * iN j = iN (4 + 2 * j) := by show iN 4 + iN 2 * iN j = _; rw [iN_mul, iN_add]
    have e5 : (5 : Int32) + (2 : Int32) * iN j = iN (5 + 2 * j) := by show iN 5 + iN 2 * iN j = _; rw [iN_mul, iN_add]
    obtain ⟨q, b, q1, q2, q3, q4⟩ := hr j (by omega)
    have n1 : n32 (r (4 + 2 * j)) = q := by rw [q1, n32_iN (by omega)]
    have n2 : n32 (r (5 + 2 * j)) = b := by rw [q2, n32_iN (by omega)]
    have w4 := c_at_8 K N n sets hK t s D hd bb (4 + 2 * j) (by omega) (by omega)
    have w5 := c_at_8 K N n sets hK t s D hd bb (5 + 2 * j) (by omega) (by omega)
    rw [hD, q1] at w4
    rw [hD, q2] at w5
    obtain ⟨z1, z2, z3, z4, z5, z6⟩ := zcD_eq s q 2 (iN b) (iN e)
    obtain ⟨u, a1, a2, a3, a4⟩ := ih (j + 1) f (zcD s q 2 (iN b) (iN e)) _ (show (ZVs.mk v.p v.sets v.ways v.eps v.wf (zu v.sb q (b + 1)) (zu v.se q e) v.mrk v.hd v.opn v.half v.gen v.plc).n = n from hn) (zCd_of hd (fun r' _ _ => by rw [z6.2.1]) (fun a _ _ => z6.1 a (by omega))) (zCk_put hk q b e he) (by rw [z6.2.1]; exact h20) (by omega) (by omega)
    refine ⟨u, ?_, ?_, zHs_trans z6 a3, a4.trans z5⟩
    · obtain ⟨rr, r1, r2⟩ : wp (l_V_takeRecord_13_10 K N (f + 1) (iN bb) (iN e) u3 (iN j) s t) (fun z => z = .inl (53, [], u, t)) := by
        unfold l_V_takeRecord_13_10
        rw [e3, e4, e5]
        refine wp_ifn (by rw [n32_le (by omega)]; omega) (wp_bi w4 (wp_bi w5 (wp_ifn (iN_neg (by omega)) (wp_ifn (by rw [h20, iN_le (by omega) (by omega)]; omega) (wp_ifn (iN_neg (by omega)) (wp_ifn (by show ¬ iN 106 ≤ iN b; rw [iN_le (by omega) (by omega)]; omega) (wp_bv (c_setDirty K N n sets hK t s q (iN b) (iN e) q3) ⟨_, a1, rfl⟩)))))))
      rw [r1, r2]
    · unfold ZVs.takePairs
      rw [n1, n2]; exact a2
theorem c_takeRecord (K : px_K) (N n sets : Nat) (hN : 2000 ≤ N) (hK : zKc K n sets) (t : px_W) (bb : Nat) (hbb : bb < 50) (r : ZBk) (e : Nat) (he : 0 < e) (s : px_S) (v : ZVs) (hn : v.n = n) (D : ZDv) (hd : zCd s 6 8 (50 + n) D) (hD : D.now bb = r) (hk : zCk s v) (h20 : s.1 20 = iN n) (h6 : n32 (r 3) ≤ 6) (hr : ∀ j, j < n32 (r 3) → ∃ q b, r (4 + 2 * j) = iN q ∧ r (5 + 2 * j) = iN b ∧ q < n ∧ b < 106) : ∃ u, f_V_takeRecord_13 K N (iN bb) (iN e) s t = some (.inl none, u, t) ∧ zCk u (ZVs.takePairs r e (n32 (r 3)) 0 v) ∧ zHs s u ∧ u.2.2.1 19 = s.2.2.1 19 := by
  have w3 : f_D_at_8 K N (iN bb) (3 : Int32) s t = _ := c_at_8 K N n sets hK t s D hd bb 3 (by omega) (by omega)
  rw [hD] at w3
  have hmin : f_Math_min K N (6 : Int32) (r 3) s t = some (.inl (some (.int (r 3))), s, t) := by
    unfold f_Math_min
    by_cases hc : r 3 < (6 : Int32)
    · rw [if_pos hc]
    · have e : r 3 = 6 := Int32.le_antisymm ((n32_le (j := 6) (by omega)).mpr h6) (Int32.not_lt.mp hc)
      rw [if_neg hc, e]
  obtain ⟨u, a1, a2, a3, a4⟩ := c_tr10 K N n sets hK t bb hbb r e he D hD (r 3) (n32 (r 3)) rfl h6 hr (n32 (r 3)) 0 N s v hn hd hk h20 (by omega) (by omega)
  have a1 : l_V_takeRecord_13_10 K N N (iN bb) (iN e) (r 3) (0 : Int32) s t = _ := a1
  refine ⟨u, ?_, a2, a3, a4⟩
  obtain ⟨rr, r1, r2⟩ : wp (f_V_takeRecord_13 K N (iN bb) (iN e) s t) (fun z => z = (.inl none, u, t)) := by
    unfold f_V_takeRecord_13
    exact wp_bi w3 (wp_bi hmin (wp_lp a1 (wp_if rfl (wp_v0 (wp_some rfl)))))
  rw [r1, r2]
/-- what a record that counts must be -/
def zRq (v : ZVs) (n h k : Nat) : Prop := n32 (v.fn (25 * h + 1 + k) 0) = v.gen → v.landed < n32 (v.fn (25 * h + 1 + k) 1) → ZVs.hasLast v.fn h v.gen (n32 (v.fn (25 * h + 1 + k) 1)) → (n32 (v.fn (25 * h + 1 + k) 3) ≤ 6 ∧ ∀ j, j < n32 (v.fn (25 * h + 1 + k) 3) → ∃ q b, v.fn (25 * h + 1 + k) (4 + 2 * j) = iN q ∧ v.fn (25 * h + 1 + k) (5 + 2 * j) = iN b ∧ q < n ∧ b < 106) ∧ n32 (v.fn (25 * h + 1 + k) 1) < 2147483647
theorem c_takeRecs (K : px_K) (N n sets : Nat) (hN : 2000 ≤ N) (hK : zKc K n sets) (t : px_W) (h0 : Nat) (hh : h0 < 2) : ∀ (c k f : Nat) (s : px_S) (v : ZVs), v.n = n → zCw n s v.p → zCk s v → s.1 13 = iN h0 → s.1 14 = iN v.gen → s.1 16 = iN v.opn → s.1 20 = iN n → 1 ≤ v.gen → v.gen < 2147483648 → v.opn < 2147483648 → v.dn 1 1 = iN v.landed → v.landed < 2147483647 → (∀ k', k' < 24 → zRq v n h0 k') → k + c = 24 → c < f → ∃ u, l_V_openFlash_13_23 K N f (iN k) s t = some (.inl (71, [], u, t)) ∧ zCk u (ZVs.takeRecs h0 c k v) ∧ u.1 16 = iN (ZVs.takeRecs h0 c k v).opn ∧ u.2.2.1 19 = s.2.2.1 19 ∧ u.1 17 = s.1 17 ∧ zHg s u := by
  intro c
  induction c with
  | zero =>
    intro k f s v hn hcw hck h13 h14 h16 h20 hg hg2 ho hL hl hrk hk hf
    obtain ⟨f, rfl⟩ : ∃ f', f = f' + 1 := ⟨f - 1, by omega⟩
    have hk : k = 24 := by omega
    subst hk
    refine ⟨s, ?_, hck, h16, rfl, rfl, zHg_refl s⟩
    unfold l_V_openFlash_13_23
    rw [if_pos (by decide)]
  | succ c ih =>
    intro k f s v hn hcw hck h13 h14 h16 h20 hg hg2 ho hL hl hrk hk hf
    obtain ⟨f, rfl⟩ : ∃ f', f = f' + 1 := ⟨f - 1, by omega⟩
    have e3 : iN k + (1 : Int32) = iN (k + 1) := by rw [iL1, iN_add]
    have ev : ((s.1 13 * (25 : Int32)) + (1 : Int32)) + iN k = iN (25 * h0 + 1 + k) := by
      have h25 : (25 : Int32) = iN 25 := rfl
      rw [h13, h25, iN_mul, iL1, iN_add, iN_add, Nat.mul_comm h0 25]
    have h24 : ¬ (24 : Int32) ≤ iN k := by show ¬ iN 24 ≤ iN k; rw [iN_le (by omega) (by omega)]; omega
    have hst : ZVs.takeRecs h0 (c + 1) k v = ZVs.takeRecs h0 c (k + 1) (@ite _ (n32 (v.fn (25 * h0 + 1 + k) 0) = v.gen ∧ v.landed < n32 (v.fn (25 * h0 + 1 + k) 1) ∧ ZVs.hasLast v.fn h0 v.gen (n32 (v.fn (25 * h0 + 1 + k) 1))) (Classical.propDecidable _) (ZVs.takePairs (v.fn (25 * h0 + 1 + k)) (n32 (v.fn (25 * h0 + 1 + k) 1)) (n32 (v.fn (25 * h0 + 1 + k) 3)) 0 (v.s_opn (max v.opn (n32 (v.fn (25 * h0 + 1 + k) 1) + 1)))) v) := rfl
    have hgen : v.fn (25 * h0 + 1 + k) 0 = iN v.gen ↔ n32 (v.fn (25 * h0 + 1 + k) 0) = v.gen := ⟨fun hx => by rw [hx, n32_iN hg2], fun hx => eq_iN hg hx⟩
    have hlan := c_landed K N n sets hK t s (v.p.dv 0) hcw.1
    rw [show (v.p.dv 0).now 1 1 = iN v.landed from hL] at hlan
    have w0 : f_D_at_8 K N (iN (25 * h0 + 1 + k)) (0 : Int32) s t = some (.inl (some (.int (v.fn (25 * h0 + 1 + k) 0))), s, t) := c_at_8 K N n sets hK t s (v.p.dv 1) hcw.2.1 (25 * h0 + 1 + k) 0 (by omega) (by omega)
    have w1 : f_D_at_8 K N (iN (25 * h0 + 1 + k)) (1 : Int32) s t = some (.inl (some (.int (v.fn (25 * h0 + 1 + k) 1))), s, t) := c_at_8 K N n sets hK t s (v.p.dv 1) hcw.2.1 (25 * h0 + 1 + k) 1 (by omega) (by omega)
    obtain ⟨e, hee⟩ : ∃ e, e = n32 (v.fn (25 * h0 + 1 + k) 1) := ⟨_, rfl⟩
    -- a record that does not count
    have skip : ¬ (n32 (v.fn (25 * h0 + 1 + k) 0) = v.gen ∧ v.landed < n32 (v.fn (25 * h0 + 1 + k) 1) ∧ ZVs.hasLast v.fn h0 v.gen (n32 (v.fn (25 * h0 + 1 + k) 1))) → (∀ u, l_V_openFlash_13_23 K N f (iN (k + 1)) s t = some (.inl (71, [], u, t)) → wp (l_V_openFlash_13_23 K N (f + 1) (iN k) s t) (fun z => z = .inl (71, [], u, t))) → ∃ u, l_V_openFlash_13_23 K N (f + 1) (iN k) s t = some (.inl (71, [], u, t)) ∧ zCk u (ZVs.takeRecs h0 (c + 1) k v) ∧ u.1 16 = iN (ZVs.takeRecs h0 (c + 1) k v).opn ∧ u.2.2.1 19 = s.2.2.1 19 ∧ u.1 17 = s.1 17 ∧ zHg s u := by
      intro hno hgo
      rw [hst, if_neg hno]
      obtain ⟨u, a1, a2⟩ := ih (k + 1) f s v hn hcw hck h13 h14 h16 h20 hg hg2 ho hL hl hrk (by omega) (by omega)
      obtain ⟨z, z1, z2⟩ := hgo u a1
      exact ⟨u, by rw [z1, z2], a2⟩
    by_cases c1 : n32 (v.fn (25 * h0 + 1 + k) 0) = v.gen
    · by_cases c2 : v.landed < n32 (v.fn (25 * h0 + 1 + k) 1)
      · obtain ⟨g, g1, g2⟩ := c_hasLast K N n sets hN hK t s (v.p.dv 1) hcw.2.1 h0 v.gen hh h13 h14 (v.fn (25 * h0 + 1 + k) 1)
        have hE : v.fn (25 * h0 + 1 + k) 1 = iN e := eq_iN (by omega) hee.symm
        have hlast : g = true ↔ ZVs.hasLast v.fn h0 v.gen (n32 (v.fn (25 * h0 + 1 + k) 1)) := by
          rw [g1]
          unfold ZVs.hasLast
          constructor
          · rintro ⟨q, q1, q2, q3, q4⟩
            exact ⟨q, q1, by show n32 ((v.p.dv 1).now _ 0) = _; rw [q2, n32_iN hg2], by show n32 ((v.p.dv 1).now _ 1) = _; rw [q3], q4⟩
          · rintro ⟨q, q1, q2, q3, q4⟩
            exact ⟨q, q1, eq_iN hg q2, by rw [hE]; exact eq_iN (by omega) (by rw [hee]; exact q3), q4⟩
        cases g with
        | false =>
          refine skip (fun hx => ?_) (fun u hu => ?_)
          · have := hlast.mpr hx.2.2
            cases this
          · unfold l_V_openFlash_13_23
            rw [ev, e3]
            exact wp_ifn h24 (wp_let (wp_bi w1 (wp_bi w0 (wp_ifn (fun hx => hx (by rw [h14]; exact hgen.mpr c1)) (wp_bi hlan (wp_ifn (by rw [n32_le (by omega)]; omega) (wp_bi g2 (wp_if rfl ⟨_, hu, rfl⟩))))))))
        | true =>
          have hl3 := hlast.mp rfl
          obtain ⟨⟨k6, kr⟩, he31⟩ := hrk k (by omega) c1 c2 hl3
          rw [hst, if_pos (c := n32 (v.fn (25 * h0 + 1 + k) 0) = v.gen ∧ v.landed < n32 (v.fn (25 * h0 + 1 + k) 1) ∧ ZVs.hasLast v.fn h0 v.gen (n32 (v.fn (25 * h0 + 1 + k) 1))) ⟨c1, c2, hl3⟩]
          rw [← hee] at he31 c2 ⊢
          obtain ⟨s2, b1, b2, b3, b4⟩ := c_takeRecord K N n sets hN hK t (25 * h0 + 1 + k) (by omega) (v.fn (25 * h0 + 1 + k)) e (by omega) s (v.s_opn (max v.opn (e + 1))) hn (v.p.dv 1) hcw.2.1 rfl hck h20 k6 kr
          obtain ⟨z1, z2, z3, z4, z5, z6⟩ := zfr_takePairs (v.fn (25 * h0 + 1 + k)) e (n32 (v.fn (25 * h0 + 1 + k) 3)) 0 (v.s_opn (max v.opn (e + 1)))
          have hmax : f_Math_max K N (s2.1 16) (iN e + (1 : Int32)) s2 t = some (.inl (some (.int (iN (max v.opn (e + 1))))), s2, t) := by
            unfold f_Math_max
            rw [b3.2.1, h16, iL1, iN_add]
            by_cases hlt : v.opn < e + 1
            · rw [if_pos ((iN_lt ho (by omega)).mpr hlt), Nat.max_eq_right (by omega)]
            · rw [if_neg (fun hx => hlt ((iN_lt ho (by omega)).mp hx)), Nat.max_eq_left (by omega)]
          have key : ∀ x : ZVs, zCk s2 x → x.p = v.p → x.gen = v.gen → x.n = v.n → x.opn = max v.opn (e + 1) → ∃ u, l_V_openFlash_13_23 K N f (iN (k + 1)) (sR s2 16 (iN (max v.opn (e + 1)))) t = some (.inl (71, [], u, t)) ∧ zCk u (ZVs.takeRecs h0 c (k + 1) x) ∧ u.1 16 = iN (ZVs.takeRecs h0 c (k + 1) x).opn ∧ u.2.2.1 19 = s.2.2.1 19 ∧ u.1 17 = s.1 17 ∧ zHg s u := by
            intro x hx x1 x2 x3 x4
            have xf : x.fn = v.fn := by show (x.p.dv 1).now = _; rw [x1]
            have xd : x.dn = v.dn := by show (x.p.dv 0).now = _; rw [x1]
            have xl : x.landed = v.landed := by show n32 (x.dn 1 1) = n32 (v.dn 1 1); rw [xd]
            have hg3 : zHg s (sR s2 16 (iN (max v.opn (e + 1)))) := ⟨b3.1, fun r r1 _ => by rw [sR_ne r1, b3.2.1], b3.2.2.1, b3.2.2.2⟩
            obtain ⟨u, a1, a2, a3, a4, a5, a6⟩ := ih (k + 1) f (sR s2 16 (iN (max v.opn (e + 1)))) x (x3.trans hn) (by rw [x1]; exact zCw_g hcw hg3) hx (by rw [hg3.2.1 13 (by omega) (by omega)]; exact h13) (by rw [hg3.2.1 14 (by omega) (by omega), x2]; exact h14) (by rw [sR_self, x4]) (by rw [hg3.2.1 20 (by omega) (by omega)]; exact h20) (by rw [x2]; exact hg) (by rw [x2]; exact hg2) (by rw [x4]; omega) (by rw [xd, xl]; exact hL) (by rw [xl]; exact hl) (fun k' hk' => by unfold zRq; rw [xf, xl, x2]; exact hrk k' hk') (by omega) (by omega)
            refine ⟨u, a1, a2, a3, a4.trans b4, a5.trans ?_, zHg_trans hg3 a6⟩
            rw [sR_ne (by omega), b3.2.1]
          obtain ⟨u, a1, a2⟩ := key _ b2 z2 z3 (zFr_n z1) z5
          refine ⟨u, ?_, a2⟩
          obtain ⟨zz, y1, y2⟩ : wp (l_V_openFlash_13_23 K N (f + 1) (iN k) s t) (fun z => z = .inl (71, [], u, t)) := by
            rw [hE] at w1 g2
            unfold l_V_openFlash_13_23
            rw [ev, e3]
            exact wp_ifn h24 (wp_let (wp_bi w1 (wp_bi w0 (wp_ifn (fun hx => hx (by rw [h14]; exact hgen.mpr c1)) (wp_bi hlan (wp_ifn (by rw [iN_le (by omega) (by omega)]; omega) (wp_bi g2 (wp_ifn (by decide) (wp_bv b1 (wp_bi hmax (wp_let ⟨_, a1, rfl⟩)))))))))))
          rw [y1, y2]
      · refine skip (fun hx => c2 hx.2.1) (fun u hu => ?_)
        unfold l_V_openFlash_13_23
        rw [ev, e3]
        exact wp_ifn h24 (wp_let (wp_bi w1 (wp_bi w0 (wp_ifn (fun hx => hx (by rw [h14]; exact hgen.mpr c1)) (wp_bi hlan (wp_if (by rw [n32_le (by omega)]; omega) ⟨_, hu, rfl⟩))))))
    · refine skip (fun hx => c1 hx.1) (fun u hu => ?_)
      unfold l_V_openFlash_13_23
      rw [ev, e3]
      exact wp_ifn h24 (wp_let (wp_bi w1 (wp_bi w0 (wp_if (fun hx => c1 (hgen.mp (by rw [← h14]; exact hx))) ⟨_, hu, rfl⟩))))
