/-! THE CLASS: records; the change of halves -/
/-- the frame of records: both devices, the row, the next place -/
def zHp (s u : px_S) : Prop := (∀ c, 13 ≤ c → c ≠ 20 → u.2.2.1 c = s.2.2.1 c) ∧ (∀ r, (r = 0 ∨ r = 1 ∨ r = 6 ∨ (10 < r ∧ r ≠ 15)) → u.1 r = s.1 r) ∧ (∀ r, 0 < r → u.2.1 r = s.2.1 r) ∧ u.2.2.2 = s.2.2.2
theorem zHp_refl (s : px_S) : zHp s s := ⟨fun _ _ _ => rfl, fun _ _ => rfl, fun _ _ => rfl, rfl⟩
theorem zHp_trans {s u v : px_S} (h1 : zHp s u) (h2 : zHp u v) : zHp s v := ⟨fun c a b => (h2.1 c a b).trans (h1.1 c a b), fun r hr => (h2.2.1 r hr).trans (h1.2.1 r hr), fun r hr => (h2.2.2.1 r hr).trans (h1.2.2.1 r hr), h2.2.2.2.trans h1.2.2.2⟩
theorem zHd_p {s u : px_S} (h : zHd s u) : zHp s u := ⟨fun c hc _ => h.1 c hc, fun r hr => h.2.1 r (by omega), h.2.2.1, h.2.2.2⟩
theorem zHp_20 {s : px_S} {g : Nat → Int32} : zHp s (sF s 20 g) := ⟨fun c _ h => sF_arr_ne h, fun _ _ => rfl, fun _ _ => rfl, rfl⟩
theorem zHp_15 {s : px_S} {x : Int32} : zHp s (sR s 15 x) := ⟨fun _ _ _ => rfl, fun r hr => sR_ne (by omega), fun _ _ => rfl, rfl⟩
theorem zHp_v {s u : px_S} (h : zHp s u) : zHv s u := ⟨fun c hc => h.1 c (by omega) (by omega), fun r hr => h.2.1 r (by omega), h.2.2.1, h.2.2.2⟩
theorem zHp_x {s u : px_S} (h : zHp s u) : zHx s u := zHv_x (zHp_v h)
theorem zCw_p {n : Nat} {s : px_S} {p : ZPw} (h : zCw n s p) (x : Int32) : zCw n (sR s 15 x) p := zCw_of h (fun r _ _ => sR_ne (by omega)) (fun _ _ _ => rfl) rfl
theorem c_pairs (K : px_K) (N n sets : Nat) (hK : zKc K n sets) (t : px_W) (s : px_S) (sb : Nat → Nat) (l : List Nat) (hl : l.length ≤ 16) (hin : ∀ i ∈ l, i < n) (hla : zLa (s.2.2.1 21) l) (hb : ∀ i, i < n → s.2.2.1 16 i = iN (sb i - 1)) (a c : Nat) (hc : c ≤ 6) (hac : a + c ≤ l.length) : ∀ (d j f : Nat) (g : Nat → Int32), j + d = c → d < f → ∃ g', l_V_setRecord_13_44 K N f (iN a) (iN c) (iN j) (sF s 20 g) t = some (.inl (78, [], sF s 20 g', t)) ∧ (∀ w, w < 4 + 2 * j → g' w = g w) ∧ (∀ q, j ≤ q → q < c → g' (4 + 2 * q) = iN (l.getD (a + q) 0) ∧ g' (5 + 2 * q) = iN (sb (l.getD (a + q) 0) - 1)) ∧ (∀ w, 4 + 2 * c ≤ w → g' w = g w) := by
  have hn64 : n ≤ 64 := hK.2.2.2.2.2.2.2.2.2.2.2.2.2.2.2.2.2.2.2.2
  have k21 : K.2.2 21 = 16 := hK.2.2.2.2.2.2.2.2.2.2.2.2.2.2.1
  have k20 : K.2.2 20 = 16 := hK.2.2.2.2.2.2.2.2.2.2.2.2.2.1
  have k16 : K.2.2 16 = n := hK.2.2.2.2.2.2.2.2.2.1
  intro d
  induction d with
  | zero =>
    intro j f g hj hf
    obtain ⟨f, rfl⟩ : ∃ f', f = f' + 1 := ⟨f - 1, by omega⟩
    refine ⟨g, ?_, fun _ _ => rfl, fun q h1 h2 => by omega, fun _ _ => rfl⟩
    unfold l_V_setRecord_13_44
    rw [if_pos (by rw [iN_le (by omega) (by omega)]; omega)]
  | succ d ih =>
    intro j f g hj hf
    obtain ⟨f, rfl⟩ : ∃ f', f = f' + 1 := ⟨f - 1, by omega⟩
    have hjl : a + j < l.length := by omega
    obtain ⟨i, hi⟩ : ∃ i, i = l.getD (a + j) 0 := ⟨_, rfl⟩
    have exg : l[a + j]'hjl = i := by rw [hi, List.getD_eq_getElem?_getD, List.getElem?_eq_getElem hjl]; rfl
    have him : i < n := hin i (by rw [← exg]; exact List.getElem_mem _)
    have hlj := hla (a + j) hjl
    rw [← hi] at hlj
    obtain ⟨g', q1, q2, q3, q4⟩ := ih (j + 1) f (upd (upd g (4 + 2 * j) (iN i)) (5 + 2 * j) (iN (sb i - 1))) (by omega) (by omega)
    refine ⟨g', ?_, ?_, ?_, ?_⟩
    · have a4 : (4 : Int32) + (2 : Int32) * iN j = iN (4 + 2 * j) := by
        show iN 4 + iN 2 * iN j = _
        rw [iN_mul, iN_add]
      have a5 : (5 : Int32) + (2 : Int32) * iN j = iN (5 + 2 * j) := by
        show iN 5 + iN 2 * iN j = _
        rw [iN_mul, iN_add]
      have hdr : l_V_setRecord_13_44 K N (f + 1) (iN a) (iN c) (iN j) (sF s 20 g) t = l_V_setRecord_13_44 K N f (iN a) (iN c) (iN (j + 1)) (sF s 20 (upd (upd g (4 + 2 * j) (iN i)) (5 + 2 * j) (iN (sb i - 1)))) t := by
        conv => lhs; unfold l_V_setRecord_13_44
        rw [if_neg (by rw [iN_le (by omega) (by omega)]; omega), a4, a5, iN_add, iN_nat (a := a + j) (by omega), iN_nat (a := 4 + 2 * j) (by omega), iN_nat (a := 5 + 2 * j) (by omega), show (sF s 20 g).2.2.1 21 = s.2.2.1 21 from sF_arr_ne (by omega), hlj, px_gd_of (by rw [k21]; exact iN_in (by omega) (by omega))]
        show px_gd _ _ = _
        rw [px_gd_of (by rw [k20]; exact iN_in (by omega) (by omega))]
        show px_gd _ _ = _
        rw [px_gd_of (by rw [k16]; exact iN_in (by omega) (by omega)), px_gd_of (by rw [k20]; exact iN_in (by omega) (by omega)), iN_nat (a := i) (by omega), sA_sF, show (sF s 20 (upd g (4 + 2 * j) (iN i))).2.2.1 16 = s.2.2.1 16 from sF_arr_ne (by omega), hb i him, sA_sF, iL1, iN_add]
        rfl
      rw [hdr, q1]
    · intro w hw
      rw [q2 w (by omega), upd_ne (by omega), upd_ne (by omega)]
    · intro q h1 h2
      by_cases hqj : q = j
      · rw [hqj, q2 (4 + 2 * j) (by omega), q2 (5 + 2 * j) (by omega), upd_self, upd_ne (by omega), upd_self, ← hi]; exact ⟨rfl, rfl⟩
      · exact q3 q (by omega) h2
    · intro w hw
      rw [q4 w hw, upd_ne (by omega), upd_ne (by omega)]
theorem c_setRecord (K : px_K) (N n sets : Nat) (hN : 2000 ≤ N) (hK : zKc K n sets) (t : px_W) (s : px_S) (sb : Nat → Nat) (l : List Nat) (hl : l.length ≤ 16) (hin : ∀ i ∈ l, i < n) (hla : zLa (s.2.2.1 21) l) (hb : ∀ i, i < n → s.2.2.1 16 i = iN (sb i - 1)) (gn e r : Nat) (hg : s.1 14 = iN gn) (hr : 6 * r < l.length) : ∃ g, f_V_setRecord_13 K N (iN e) (iN l.length) (iN r) s t = some (.inl none, sF s 20 g, t) ∧ ∀ w, w < 16 → g w = zRec gn e (decide ((l.drop (6 * r)).length ≤ 6)) ((l.drop (6 * r)).take 6) sb w := by
  have k20 : K.2.2 20 = 16 := hK.2.2.2.2.2.2.2.2.2.2.2.2.2.1
  obtain ⟨c, hc⟩ : ∃ c, c = min 6 (l.length - 6 * r) := ⟨_, rfl⟩
  have hc6 : c ≤ 6 := by omega
  have ar : iN r * (6 : Int32) = iN (6 * r) := by
    show iN r * iN 6 = _
    rw [iN_mul, Nat.mul_comm]
  have amin : f_Math_min K N (6 : Int32) (iN l.length - iN r * (6 : Int32)) s t = some (.inl (some (.int (iN c))), s, t) := by
    unfold f_Math_min
    rw [ar, iN_sub (by omega)]
    have e6 : (6 : Int32) = iN 6 := rfl
    rw [e6]
    by_cases hx : l.length - 6 * r < 6
    · rw [if_pos (by rw [iN_lt (by omega) (by omega)]; exact hx), show c = l.length - 6 * r by omega]
    · rw [if_neg (by rw [iN_lt (by omega) (by omega)]; exact hx), show c = 6 by omega]
  have hf := c_fill_20 K N hN t 0 s 16 k20 (by omega)
  obtain ⟨g0, hg0⟩ : ∃ g0 : Nat → Int32, g0 = fun j => if j < 16 then (0 : Int32) else s.2.2.1 20 j := ⟨_, rfl⟩
  rw [← hg0] at hf
  obtain ⟨lw, hlw⟩ : ∃ lw : Int32, lw = if decide ((l.drop (6 * r)).length ≤ 6) = true then 1 else 0 := ⟨_, rfl⟩
  have elw : (if (iN r * (6 : Int32)) + (6 : Int32) < iN l.length then (0 : Int32) else (1 : Int32)) = lw := by
    rw [ar, show (6 : Int32) = iN 6 from rfl, iN_add, hlw, List.length_drop]
    by_cases hx : l.length - 6 * r ≤ 6
    · rw [if_neg (by rw [iN_lt (by omega) (by omega)]; omega), decide_eq_true hx, if_pos rfl]
    · rw [if_pos (by rw [iN_lt (by omega) (by omega)]; omega), decide_eq_false hx, if_neg Bool.noConfusion]
  obtain ⟨g', q1, q2, q3, q4⟩ := c_pairs K N n sets hK t s sb l hl hin hla hb (6 * r) c hc6 (by omega) c 0 N (upd (upd (upd (upd g0 0 (iN gn)) 1 (iN e)) 2 lw) 3 (iN c)) (by omega) (by omega)
  refine ⟨g', ?_, ?_⟩
  · obtain ⟨z, e1, e2⟩ : wp (f_V_setRecord_13 K N (iN e) (iN l.length) (iN r) s t) (fun z => z = (.inl none, sF s 20 g', t)) := by
      unfold f_V_setRecord_13
      rw [elw]
      refine wp_bi amin (wp_bv hf ?_)
      rw [k20, show (sF s 20 g0).1 14 = iN gn from hg, ar]
      refine wp_gd (iN_in (a := 0) (n := 16) (by omega) (by omega)) (wp_let (wp_gd (iN_in (a := 1) (n := 16) (by omega) (by omega)) (wp_let (wp_gd (iN_in (a := 2) (n := 16) (by omega) (by omega)) (wp_let (wp_gd (iN_in (a := 3) (n := 16) (by omega) (by omega)) (wp_let ?_)))))))
      rw [sA_sF, sA_sF, sA_sF, sA_sF]
      exact wp_lp q1 (wp_if rfl (wp_v0 (wp_some rfl)))
    rw [e1, e2]
  · intro w hw
    have hcl : ((l.drop (6 * r)).take 6).length = c := by rw [List.length_take, List.length_drop, hc]
    unfold zRec
    by_cases h0 : w = 0
    · rw [h0, if_pos rfl, q2 0 (by omega), upd_ne (by omega), upd_ne (by omega), upd_ne (by omega), upd_self]
    rw [if_neg h0]
    by_cases h1 : w = 1
    · rw [h1, if_pos rfl, q2 1 (by omega), upd_ne (by omega), upd_ne (by omega), upd_self]
    rw [if_neg h1]
    by_cases h2 : w = 2
    · rw [h2, if_pos rfl, q2 2 (by omega), upd_ne (by omega), upd_self, hlw]
    rw [if_neg h2]
    by_cases h3 : w = 3
    · rw [h3, if_pos rfl, q2 3 (by omega), upd_self, hcl]
    rw [if_neg h3]
    by_cases hq : (w - 4) / 2 < c
    · obtain ⟨b1, b2⟩ := q3 ((w - 4) / 2) (by omega) hq
      have hget : ((l.drop (6 * r)).take 6)[(w - 4) / 2]? = some (l.getD (6 * r + (w - 4) / 2) 0) := by
        rw [List.getElem?_take_of_lt (by omega), List.getElem?_drop, List.getD_eq_getElem?_getD, List.getElem?_eq_getElem (by omega)]; rfl
      rw [hget]
      show _ = if w % 2 = 0 then iN (l.getD (6 * r + (w - 4) / 2) 0) else iN (sb (l.getD (6 * r + (w - 4) / 2) 0) - 1)
      by_cases hm : w % 2 = 0
      · rw [if_pos hm, ← b1]; congr 1; omega
      · rw [if_neg hm, ← b2]; congr 1; omega
    · rw [List.getElem?_eq_none (by rw [hcl]; omega), q4 w (by omega), upd_ne h3, upd_ne h2, upd_ne h1, upd_ne h0, hg0]
      exact if_pos hw
theorem zrecs_step (e : Nat) (k : Nat) (l : List Nat) (v : ZVs) (hl : l ≠ []) : ZVs.recs e false (k + 1) l v = ZVs.recs e false k (l.drop 6) (ZVs.s_plc (v.wr 1 (25 * v.half + 1 + v.plc) (zRec v.gen e (decide (l.length ≤ 6)) (l.take 6) v.sb)) (v.plc + 1)) := by
  show (if l = [] then v else ZVs.recs e false k (l.drop 6) (ZVs.s_plc (if (decide (l.length ≤ 6) && false) = true then _ else _) (v.plc + 1))) = _
  rw [if_neg hl, Bool.and_false, if_neg Bool.noConfusion, if_neg Bool.noConfusion]
theorem zrecs_nil (e : Nat) (cl : Bool) (k : Nat) (v : ZVs) : ZVs.recs e cl k [] v = v := by
  cases k with
  | zero => rfl
  | succ k => exact if_pos rfl
theorem c_recs (K : px_K) (N n sets : Nat) (hN : 2000 ≤ N) (hK : zKc K n sets) (t : px_W) (l : List Nat) (hl : l.length ≤ 16) (hin : ∀ i ∈ l, i < n) (e : Nat) : ∀ (k r f : Nat) (s : px_S) (v : ZVs), v.n = n → l.length ≤ 6 * (r + k) → 6 * r ≤ l.length + 5 → k < f → zLa (s.2.2.1 21) l → (∀ i, i < n → s.2.2.1 16 i = iN (v.sb i - 1)) → s.1 13 = iN v.half → s.1 14 = iN v.gen → s.1 15 = iN v.plc → v.half < 2 → v.plc + (l.length + 5 - 6 * r) / 6 ≤ 24 → zCw n s v.p → v.p.up = true → (ZVs.recs e false k (l.drop (6 * r)) v).p.na < 2305843009213693952 → wp (l_V_changeHalves_13_33 K N f (iN e) (iN l.length) (iN r) s t) (zOl n 70 [] t s (ZVs.recs e false k (l.drop (6 * r)) v).p (fun u => zCw n u (ZVs.recs e false k (l.drop (6 * r)) v).p ∧ u.1 15 = iN (ZVs.recs e false k (l.drop (6 * r)) v).plc ∧ (ZVs.recs e false k (l.drop (6 * r)) v).plc ≤ v.plc + (l.length + 5 - 6 * r) / 6 ∧ zHp s u)) := by
  have hn64 : n ≤ 64 := hK.2.2.2.2.2.2.2.2.2.2.2.2.2.2.2.2.2.2.2.2
  have k20 : K.2.2 20 = 16 := hK.2.2.2.2.2.2.2.2.2.2.2.2.2.1
  intro k
  induction k with
  | zero =>
    intro r f s v hn hr hr3 hf hla hb h13 h14 h15 hh hp h hu hna
    obtain ⟨f, rfl⟩ : ∃ f', f = f' + 1 := ⟨f - 1, by omega⟩
    unfold l_V_changeHalves_13_33
    have ar : iN r * (6 : Int32) = iN (6 * r) := by
      show iN r * iN 6 = _
      rw [iN_mul, Nat.mul_comm]
    rw [ar]
    exact wp_if (by rw [iN_le (by omega) (by omega)]; omega) (wp_rOl hu ⟨h, h15, by show v.plc ≤ _; omega, zHp_refl s⟩)
  | succ k ih =>
    intro r f s v hn hr hr3 hf hla hb h13 h14 h15 hh hp h hu hna
    obtain ⟨f, rfl⟩ : ∃ f', f = f' + 1 := ⟨f - 1, by omega⟩
    have ar : iN r * (6 : Int32) = iN (6 * r) := by
      show iN r * iN 6 = _
      rw [iN_mul, Nat.mul_comm]
    unfold l_V_changeHalves_13_33
    by_cases hlt : 6 * r < l.length
    · have hne : l.drop (6 * r) ≠ [] := by
        intro hx
        have := congrArg List.length hx
        rw [List.length_drop] at this
        have : l.length - 6 * r = 0 := this
        omega
      rw [zrecs_step e k _ v hne, List.drop_drop, show 6 * r + 6 = 6 * (r + 1) by omega] at hna ⊢
      obtain ⟨x, hx⟩ : ∃ x, x = zRec v.gen e (decide ((l.drop (6 * r)).length ≤ 6)) ((l.drop (6 * r)).take 6) v.sb := ⟨_, rfl⟩
      rw [← hx] at hna ⊢
      obtain ⟨g, q1, q2⟩ := c_setRecord K N n sets hN hK t s v.sb l hl hin hla hb v.gen e r h14 hlt
      rw [← hx] at q2
      rw [ar, h15]
      refine wp_ifn (by rw [iN_le (by omega) (by omega)]; omega) (wp_ifn (by show ¬ iN 24 ≤ iN v.plc; rw [iN_le (by omega) (by omega)]; omega) (wp_bv q1 ?_))
      have ei : ((sF s 20 g).1 13 * (25 : Int32) + (1 : Int32)) + (sF s 20 g).1 15 = iN (25 * v.half + 1 + v.plc) := by
        show s.1 13 * iN 25 + iN 1 + s.1 15 = _
        rw [h13, h15, iN_mul, iN_add, iN_add, Nat.mul_comm]
      rw [ei]
      have c1 : zCw n (sF s 20 g) v.p := zCw_w h (zHw_sF (Or.inl rfl))
      have hfr := (zfr_recs_plc e false k (l.drop (6 * (r + 1))) (v.plc + 1) (v.wr 1 (25 * v.half + 1 + v.plc) x))
      refine wp_cvl (c_put_8_20 K N n sets hK t (sF s 20 g) v.p c1 hu (25 * v.half + 1 + v.plc) 0 x (by omega) (fun w hw => by rw [sF_arr, Nat.zero_add]; exact q2 w hw) (by rw [k20]; omega) (Nat.lt_of_le_of_lt hfr.n1 hna)) (zHp_x zHp_20) hfr.dn (fun u hu2 hR => wp_let ?_)
      have hp1 : zHp s u := zHp_trans zHp_20 (zHd_p hR.2)
      have e15 : u.1 15 + 1 = iN (v.plc + 1) := by
        rw [hR.2.2.1 15 (by omega)]
        show s.1 15 + iN 1 = _
        rw [h15, iN_add]
      rw [e15, iL1, iN_add]
      refine wp_Ol (ih (r + 1) f (sR u 15 (iN (v.plc + 1))) (ZVs.s_plc (v.wr 1 (25 * v.half + 1 + v.plc) x) (v.plc + 1)) hn (by omega) (by omega) (by omega) ?_ ?_ ?_ ?_ (sR_self _ _ _) hh (by show v.plc + 1 + _ ≤ 24; omega) (zCw_p hR.1 _) hu2 hna) (zHp_x (zHp_trans hp1 zHp_15)) (fun w _ hw => ⟨hw.1, hw.2.1, Nat.le_trans hw.2.2.1 (by show v.plc + 1 + _ ≤ _; omega), zHp_trans (zHp_trans hp1 zHp_15) hw.2.2.2⟩)
      · show zLa (u.2.2.1 21) l
        rw [hp1.1 21 (by omega) (by omega)]; exact hla
      · intro i hi
        show u.2.2.1 16 i = _
        rw [hp1.1 16 (by omega) (by omega)]; exact hb i hi
      · rw [sR_ne (by omega), hp1.2.1 13 (by omega)]; exact h13
      · rw [sR_ne (by omega), hp1.2.1 14 (by omega)]; exact h14
    · have e0 : l.drop (6 * r) = [] := List.drop_eq_nil_of_le (by omega)
      rw [e0, zrecs_nil, ar]
      exact wp_if (by rw [iN_le (by omega) (by omega)]; omega) (wp_rOl hu ⟨h, h15, by omega, zHp_refl s⟩)

/-! THE CLASS: the change of halves -/
def zHq (s u : px_S) : Prop := (∀ c, 13 ≤ c → c ≠ 20 → c ≠ 21 → u.2.2.1 c = s.2.2.1 c) ∧ (∀ r, (r = 0 ∨ r = 1 ∨ r = 6 ∨ (10 < r ∧ r ≠ 15)) → u.1 r = s.1 r) ∧ (∀ r, 0 < r → u.2.1 r = s.2.1 r) ∧ u.2.2.2 = s.2.2.2
theorem zHq_refl (s : px_S) : zHq s s := ⟨fun _ _ _ _ => rfl, fun _ _ => rfl, fun _ _ => rfl, rfl⟩
theorem zHq_trans {s u v : px_S} (h1 : zHq s u) (h2 : zHq u v) : zHq s v := ⟨fun c a b d => (h2.1 c a b d).trans (h1.1 c a b d), fun r hr => (h2.2.1 r hr).trans (h1.2.1 r hr), fun r hr => (h2.2.2.1 r hr).trans (h1.2.2.1 r hr), h2.2.2.2.trans h1.2.2.2⟩
theorem zHp_q {s u : px_S} (h : zHp s u) : zHq s u := ⟨fun c a b _ => h.1 c a b, h.2.1, h.2.2.1, h.2.2.2⟩
theorem zHe_q {s u : px_S} (h : zHe s u) : zHq s u := ⟨h.1, fun r hr => h.2.1 r (by omega), h.2.2.1, h.2.2.2⟩
theorem zHq_v {s u : px_S} (h : zHq s u) : zHv s u := ⟨fun c hc => h.1 c (by omega) (by omega) (by omega), fun r hr => h.2.1 r (by omega), h.2.2.1, h.2.2.2⟩
theorem zHq_x {s u : px_S} (h : zHq s u) : zHx s u := zHv_x (zHq_v h)
theorem c_recsTo (K : px_K) (N n sets : Nat) (hN : 2000 ≤ N) (hK : zKc K n sets) (t : px_W) : ∀ (k e f : Nat) (s : px_S) (v : ZVs), v.n = n → zCk s v → zCz s v → zSw v → e + k = v.opn → 0 < e → (∀ e', e ≤ e' → e' < v.opn → v.dirty e' ≤ 16) → s.1 13 = iN v.half → s.1 14 = iN v.gen → s.1 15 = iN v.plc → s.1 16 = iN v.opn → v.half < 2 → v.plc + 3 * k ≤ 24 → zCw n s v.p → v.p.up = true → (ZVs.recsTo k e v).p.na < 2305843009213693952 → k < f → wp (l_V_changeHalves_13_20 K N f (iN e) s t) (zOl n 72 [] t s (ZVs.recsTo k e v).p (fun u => zCw n u (ZVs.recsTo k e v).p ∧ u.1 15 = iN (ZVs.recsTo k e v).plc ∧ zHq s u)) := by
  have hn64 : n ≤ 64 := hK.2.2.2.2.2.2.2.2.2.2.2.2.2.2.2.2.2.2.2.2
  intro k
  induction k with
  | zero =>
    intro e f s v hn hck hcz hsw he he0 hd h13 h14 h15 h16 hh hp h hu hna hf
    obtain ⟨f, rfl⟩ : ∃ f', f = f' + 1 := ⟨f - 1, by omega⟩
    have ho := hsw.2.1
    unfold l_V_changeHalves_13_20
    rw [h16]
    exact wp_if (by rw [iN_le (by omega) (by omega)]; omega) (wp_rOl hu ⟨h, h15, zHq_refl s⟩)
  | succ k ih =>
    intro e f s v hn hck hcz hsw he he0 hd h13 h14 h15 h16 hh hp h hu hna hf
    obtain ⟨f, rfl⟩ : ∃ f', f = f' + 1 := ⟨f - 1, by omega⟩
    have ho := hsw.2.1
    have hde := hd e (Nat.le_refl _) (by omega)
    have hdl : (v.dl e).length ≤ 16 := hde
    have ers : ZVs.recsTo (k + 1) e v = ZVs.recsTo k (e + 1) (ZVs.recsAll e false v) := rfl
    rw [ers] at hna ⊢
    obtain ⟨f1, f2, f3, f4⟩ := zfr_recsAll e false v
    have fr := (zfr_recsTo k (e + 1) (ZVs.recsAll e false v)).1
    obtain ⟨A, ga1, ga2⟩ := c_gather K N n sets hN hK t s v hn hck hcz hsw e he0 (by omega) hde
    have hblk : ∀ i, i < n → s.2.2.1 16 i = iN (v.sb i - 1) := fun i hi => (hck i (by omega)).2.1
    have hloop := c_recs K N n sets hN hK t (v.dl e) hdl (fun i hi => by have := (mem_zDl.mp hi).1; omega) e 11 0 N (sF s 21 A) v hn (by omega) (by omega) (by omega) (by rw [sF_arr]; exact ga2) (fun i hi => by rw [sF_arr_ne (by omega)]; exact hblk i hi) h13 h14 h15 hh (by omega) (zCw_w h (zHw_sF (Or.inr rfl))) hu (by
      show (ZVs.recsAll e false v).p.na < _
      exact Nat.lt_of_le_of_lt fr.n1 hna)
    rw [show ZVs.recs e false 11 ((v.dl e).drop (6 * 0)) v = ZVs.recsAll e false v from rfl] at hloop
    obtain ⟨w, hw⟩ : ∃ w, w = ZVs.recsAll e false v := ⟨_, rfl⟩
    rw [← hw] at hloop hna f1 f2 f3 f4 fr
    rw [← hw]
    unfold l_V_changeHalves_13_20
    rw [h16]
    refine wp_ifn (by rw [iN_le (by omega) (by omega)]; omega) (wp_bi ga1 ?_)
    refine wp_cll hloop (zHw_x (zHw_sF (Or.inr rfl))) fr.dn (fun u hu2 hR => wp_if rfl (wp_v0 ?_))
    have hq1 : zHq s u := zHq_trans (zHe_q (zHw_e (zHw_sF (Or.inr rfl)))) (zHp_q hR.2.2.2)
    have nw : w.n = v.n := zFr_n f1
    have ow : w.opn = v.opn := f2.2.2.2.2
    rw [iL1, iN_add]
    refine wp_Ol (ih (e + 1) f u w (by rw [nw, hn]) ?_ ?_ (zSw_v hsw f2 f1.s f1.w f1.e) (by rw [ow]; omega) (by omega) ?_ ?_ ?_ hR.2.1 ?_ (by rw [f4]; exact hh) (by have := hR.2.2.1; omega) hR.1 hu2 hna (by omega)) (zHq_x hq1) (fun x _ hx => ⟨hx.1, hx.2.1, zHq_trans hq1 hx.2.2⟩)
    · exact zCk_v (zCk_of hck (fun a h1 h2 => hq1.1 a (by omega) (by omega) (by omega))) nw (fun i _ => by rw [f2.1, f2.2.1, f2.2.2.1]; exact ⟨rfl, rfl, rfl⟩)
    · exact zCz_v (zCz_of hcz (fun r hr => hq1.2.1 r (by omega))) f1.s f1.w f1.e f1.wf
    · intro e' h1 h2
      rw [ow] at h2
      show (zDl w.se e' w.n).length ≤ 16
      rw [f2.2.1, nw]
      exact hd e' (by omega) h2
    · rw [hq1.2.1 13 (by omega), f4]; exact h13
    · rw [hq1.2.1 14 (by omega), f3]; exact h14
    · rw [hq1.2.1 16 (by omega), ow]; exact h16
theorem c_changeHalves {P : Nat → ZSt → Prop} (K : px_K) (N n sets pl : Nat) (hN : 2000 ≤ N) (hK : zKc K n sets) (t : px_W) (s : px_S) (v : ZVs) (hn : v.n = n) (hR : ZRm P pl v) (hcw : zCw n s v.p) (hcz : zCz s v) (h13 : s.1 13 = iN v.half) (h14 : s.1 14 = iN v.gen) (h16 : s.1 16 = iN v.opn) (h17 : s.1 17 = iN (v.dirty v.opn)) (hck : zCk s v) (hcy : zCy s v) (hb : v.p.na + 1000 < 2147483648) : wp (f_V_changeHalves_13 K N s t) (zO n none t s v.changeHalves.p (fun u => zCv u v.changeHalves ∧ zHv s u)) := by
  have hn64 : n ≤ 64 := hK.2.2.2.2.2.2.2.2.2.2.2.2.2.2.2.2.2.2.2.2
  have k20 : K.2.2 20 = 16 := hK.2.2.2.2.2.2.2.2.2.2.2.2.2.1
  have hsw := zSw_of hR (by omega)
  have hLw : v.dn 1 1 = iN v.landed := hR.hd.hL
  have hid : v.dn 0 0 = iN (n32 (v.dn 0 0)) := hR.hd.hid
  have hLo := hR.fl.hLo
  have hE := hR.fl.hE
  have hH := hR.fl.hH
  have hon := hR.n2
  have e8 := hR.sz.e8
  have hu := hR.up
  have hpd := hR.pd0
  have hfall := (zfr_changeHalves v).1
  have hfsm := (zfr_changeHalves v).2
  have hhalf := (zch_half v).1
  -- the start
  obtain ⟨v0, hv0⟩ : ∃ v0, v0 = ZVs.mk (ZVs.p v) (ZVs.sets v) (ZVs.ways v) (ZVs.eps v) (ZVs.wf v) (ZVs.sb v) (ZVs.se v) (ZVs.mrk v) (ZVs.hd v) (ZVs.opn v) (1 - v.half) (v.gen + 1) 0 := ⟨_, rfl⟩
  have hch : v.changeHalves = (((ZVs.recsTo (min 8 (v.opn - (v.landed + 1))) (v.landed + 1) v0).fl 1).wr 1 (25 * ((ZVs.recsTo (min 8 (v.opn - (v.landed + 1))) (v.landed + 1) v0).fl 1).half) (zThree ((ZVs.recsTo (min 8 (v.opn - (v.landed + 1))) (v.landed + 1) v0).fl 1).gen (n32 (((ZVs.recsTo (min 8 (v.opn - (v.landed + 1))) (v.landed + 1) v0).fl 1).dn 0 0)) 0)).fl 1 := by rw [hv0]; rfl
  rw [show min 8 (v.opn - (v.landed + 1)) = v.opn - (v.landed + 1) by omega] at hch
  obtain ⟨k, hk⟩ : ∃ k, k = v.opn - (v.landed + 1) := ⟨_, rfl⟩
  rw [← hk] at hch
  obtain ⟨g1, g2, g3, g4⟩ := zfr_recsTo k (v.landed + 1) v0
  have hK0 := zK0_recsTo k (v.landed + 1) v0
  obtain ⟨v1, hv1⟩ : ∃ v1, v1 = ZVs.recsTo k (v.landed + 1) v0 := ⟨_, rfl⟩
  rw [← hv1] at hch g1 g2 g3 g4 hK0
  obtain ⟨v2, hv2⟩ : ∃ v2, v2 = v1.fl 1 := ⟨_, rfl⟩
  rw [← hv2] at hch
  have hK2 : zK0 v0 v2 := by rw [hv2]; exact zK0_trans hK0 (zK0_fl v1)
  have hdn2 : v2.dn = v.dn := by
    have := (hK2 (by rw [hv0]; exact hpd)).2
    rw [this, hv0]; rfl
  obtain ⟨v3, hv3⟩ : ∃ v3, v3 = v2.wr 1 (25 * v2.half) (zThree v2.gen (n32 (v2.dn 0 0)) 0) := ⟨_, rfl⟩
  rw [← hv3] at hch
  obtain ⟨vf, hvf⟩ : ∃ vf, vf = v3.fl 1 := ⟨_, rfl⟩
  rw [← hvf] at hch
  rw [hch] at hfall hfsm hhalf
  rw [hch]
  have F3 : ZFr 1 v3 vf := by rw [hvf]; exact zfr_fl v3 1
  have F2 : ZFr (1 + 1) v2 vf := ZFr.trans (by rw [hv3]; exact zfr_wr v2 1 _ _) F3
  have F1 : ZFr (1 + (1 + 1)) v1 vf := ZFr.trans (by rw [hv2]; exact zfr_fl v1 1) F2
  have hnaf : vf.p.na < 2305843009213693952 := by have := hfall.n2; omega
  have h2half : v2.half = 1 - v.half := by rw [hv2]; show v1.half = _; rw [g4, hv0]; rfl
  have h2gen : v2.gen = v.gen + 1 := by rw [hv2]; show v1.gen = _; rw [g3, hv0]; rfl
  unfold f_V_changeHalves_13
  refine wp_let (wp_let (wp_let ?_))
  obtain ⟨s5, hs5⟩ : ∃ s5, s5 = sR (sR (sR s 14 (s.1 14 + 1)) 13 (1 - (sR s 14 (s.1 14 + 1)).1 13)) 15 0 := ⟨_, rfl⟩
  rw [← hs5]
  have i13 : s5.1 13 = iN v0.half := by
    rw [hs5, sR_ne (by omega), sR_self, sR_ne (by omega), h13, iL1, iN_sub (by omega), hv0]; rfl
  have i14 : s5.1 14 = iN v0.gen := by
    rw [hs5, sR_ne (by omega), sR_ne (by omega), sR_self, h14, iL1, iN_add, hv0]; rfl
  have i15 : s5.1 15 = iN v0.plc := by
    rw [hs5, sR_self, hv0]; rfl
  have ir : ∀ r, r ≠ 13 → r ≠ 14 → r ≠ 15 → s5.1 r = s.1 r := by
    intro r a b c
    rw [hs5, sR_ne c, sR_ne a, sR_ne b]
  have ia : s5.2.2.1 = s.2.2.1 := by rw [hs5]; rfl
  have iq : s5.2.1 = s.2.1 := by rw [hs5]; rfl
  have io : s5.2.2.2 = s.2.2.2 := by rw [hs5]; rfl
  have hHv5 : zHv s s5 := ⟨fun c _ => by rw [ia], fun r hr => ir r (by omega) (by omega) (by omega), fun r _ => by rw [iq], io⟩
  have hcw5 : zCw n s5 v0.p := by
    have : v0.p = v.p := by rw [hv0]; rfl
    rw [this]
    exact zCw_of hcw (fun r _ _ => ir r (by omega) (by omega) (by omega)) (fun a _ _ => by rw [ia]) iq
  have hn0 : v0.n = n := by rw [hv0]; exact hn
  have hsm0 : ZSm v v0 := by rw [hv0]; exact ⟨rfl, rfl, rfl, rfl, rfl⟩
  have hsw0 : zSw v0 := zSw_v hsw hsm0 (by rw [hv0]; rfl) (by rw [hv0]; rfl) (by rw [hv0]; rfl)
  have hck5 : zCk s5 v0 := zCk_v (zCk_of hck (fun a _ _ => by rw [ia])) (by rw [hv0]; rfl) (fun i _ => by rw [hv0]; exact ⟨rfl, rfl, rfl⟩)
  have hcz5 : zCz s5 v0 := zCz_v (zCz_of hcz (fun r hr => ir r (by omega) (by omega) (by omega))) (by rw [hv0]; rfl) (by rw [hv0]; rfl) (by rw [hv0]; rfl) (by rw [hv0]; rfl)
  have ho0 : v0.opn = v.opn := by rw [hv0]; rfl
  have hlan := c_landed K N n sets hK t s5 (v0.p.dv 0) hcw5.1
  rw [show (v0.p.dv 0).now 1 1 = iN v.landed by rw [hv0]; exact hLw] at hlan
  refine wp_bi hlan (wp_let ?_)
  rw [iL1, iN_add]
  have hloop := c_recsTo K N n sets hN hK t k (v.landed + 1) N s5 v0 hn0 hck5 hcz5 hsw0 (by rw [ho0]; omega) (by omega) (fun e' h1 h2 => by
    rw [hv0]
    exact hR.fl.tc e' (by omega) (by rw [ho0] at h2; exact h2)) i13 i14 i15 (by rw [ir 16 (by omega) (by omega) (by omega), ho0]; exact h16) (by rw [hv0]; show 1 - v.half < 2; omega) (by rw [hv0]; show 0 + 3 * k ≤ 24; omega) hcw5 (by rw [hv0]; exact hu) (by rw [← hv1]; exact Nat.lt_of_le_of_lt F1.n1 hnaf) (by omega)
  rw [← hv1] at hloop
  refine wp_cl hloop (zHv_x hHv5) F1.dn (fun u1 up1 hu1 => wp_if rfl (wp_v0 ?_))
  have hH1 : zHq s5 u1 := hu1.2.2
  have fl1 := c_flush_8 K N n sets hN hK t u1 v1.p hu1.1 up1 (by
    show (v1.fl 1).p.na < _
    rw [← hv2]; exact Nat.lt_of_le_of_lt F2.n1 hnaf)
  rw [show v1.p.fl 1 = v2.p by rw [hv2]; rfl] at fl1
  refine wp_cv fl1 (zHx_trans (zHv_x hHv5) (zHq_x hH1)) F2.dn (fun u2 up2 hu2 => ?_)
  have hH2 : zHq s5 u2 := zHq_trans hH1 (zHe_q (zHd_e hu2.2))
  have hat := c_at_3 K N n sets hK t u2 (v2.p.dv 0) hu2.1.1 0 0 (by omega) (by omega)
  have hat : f_D_at_3 K N (0 : Int32) (0 : Int32) u2 t = some (.inl (some (.int (v2.dn 0 0))), u2, t) := hat
  refine wp_bi hat ?_
  have u14 : u2.1 14 = iN v2.gen := by rw [hH2.2.1 14 (by omega), i14, h2gen, hv0]; rfl
  have u13 : u2.1 13 = iN v2.half := by rw [hH2.2.1 13 (by omega), i13, h2half, hv0]; rfl
  have u15 : u2.1 15 = iN v1.plc := by rw [hu2.2.2.1 15 (by omega)]; exact hu1.2.1
  obtain ⟨g, r1, r2⟩ := c_setRow K N n sets hN hK t u2 v2.gen (n32 (v2.dn 0 0)) 0 (u2.1 14) (v2.dn 0 0) 0 u14 (by rw [hdn2]; exact hid) rfl
  refine wp_bv r1 ?_
  have ei : (sF u2 20 g).1 13 * (25 : Int32) = iN (25 * v2.half) := by
    show u2.1 13 * iN 25 = _
    rw [u13, iN_mul, Nat.mul_comm]
  rw [ei]
  have hHq3 : zHq s5 (sF u2 20 g) := zHq_trans hH2 (zHp_q zHp_20)
  have wr3 := c_put_8_20 K N n sets hK t (sF u2 20 g) v2.p (zCw_w hu2.1 (zHw_sF (Or.inl rfl))) up2 (25 * v2.half) 0 (zThree v2.gen (n32 (v2.dn 0 0)) 0) (by rw [h2half]; omega) (fun w hw => by rw [sF_arr, Nat.zero_add]; exact r2 w hw) (by rw [k20]; omega) (by
    show (v2.wr 1 (25 * v2.half) (zThree v2.gen (n32 (v2.dn 0 0)) 0)).p.na < _
    rw [← hv3]; exact Nat.lt_of_le_of_lt F3.n1 hnaf)
  rw [show v2.p.wr 1 (25 * v2.half) (zThree v2.gen (n32 (v2.dn 0 0)) 0) = v3.p by rw [hv3]; rfl] at wr3
  refine wp_cv wr3 (zHx_trans (zHv_x hHv5) (zHq_x hHq3)) F3.dn (fun u3 up3 hu3 => ?_)
  have hH3 : zHq s5 u3 := zHq_trans hHq3 (zHe_q (zHd_e hu3.2))
  have fl3 := c_flush_8 K N n sets hN hK t u3 v3.p hu3.1 up3 (by
    show (v3.fl 1).p.na < _
    rw [← hvf]; exact hnaf)
  rw [show v3.p.fl 1 = vf.p by rw [hvf]; rfl] at fl3
  refine wp_cv fl3 (zHx_trans (zHv_x hHv5) (zHq_x hH3)) (fun _ => rfl) (fun u4 up4 hu4 => wp_rO up4 ?_)
  have hH4 : zHq s5 u4 := zHq_trans hH3 (zHe_q (zHd_e hu4.2))
  have nf : vf.n = v.n := zFr_n hfall
  have hfg : vf.gen = v.gen + 1 := by rw [hvf, hv3]; exact h2gen
  have hfp : vf.plc = v1.plc := by rw [hvf, hv3, hv2]; rfl
  refine ⟨⟨by rw [nf, hn]; exact hu4.1, zCz_v (zCz_of hcz5 (fun r hr => hH4.2.1 r (by omega))) (hfall.s.trans (by rw [hv0]; rfl)) (hfall.w.trans (by rw [hv0]; rfl)) (hfall.e.trans (by rw [hv0]; rfl)) (hfall.wf.trans (by rw [hv0]; rfl)), fun _ => ⟨?_, ?_, ?_, ?_, ?_, ?_, ?_⟩⟩, zHv_trans hHv5 (zHq_v hH4)⟩
  · rw [hH4.2.1 13 (by omega), i13, hhalf, hv0]; rfl
  · rw [hH4.2.1 14 (by omega), i14, hfg, hv0]; rfl
  · rw [hu4.2.2.1 15 (by omega), hu3.2.2.1 15 (by omega)]
    show u2.1 15 = _
    rw [u15, hfp]
  · rw [hH4.2.1 16 (by omega), ir 16 (by omega) (by omega) (by omega), h16, hfsm.2.2.2.2]
  · rw [hH4.2.1 17 (by omega), ir 17 (by omega) (by omega) (by omega), h17]
    congr 1
    show (zDl v.se v.opn v.n).length = (zDl vf.se vf.opn vf.n).length
    rw [hfsm.2.1, hfsm.2.2.2.2, nf]
  · exact zCk_v (zCk_of hck (fun a h1 h2 => by rw [hH4.1 a (by omega) (by omega) (by omega), ia])) nf (fun i _ => by rw [hfsm.1, hfsm.2.1, hfsm.2.2.1]; exact ⟨rfl, rfl, rfl⟩)
  · intro q hq
    rw [hfall.s] at hq
    rw [hH4.1 19 (by omega) (by omega) (by omega), ia, hfsm.2.2.2.1]
    exact hcy q hq

/-! THE CLASS: an epoch is closed -/
/-- the records of the closing, without the last flush -/
def zRc (e : Nat) : Nat → List Nat → ZVs → ZVs
  | 0, _, v => v
  | k + 1, l, v =>
    if l = [] then v else
    zRc e k (l.drop 6) (ZVs.s_plc ((if l.length ≤ 6 then v.fl 1 else v).wr 1 (25 * v.half + 1 + v.plc) (zRec v.gen e (decide (l.length ≤ 6)) (l.take 6) v.sb)) (v.plc + 1))
theorem zRc_step (e k : Nat) (l : List Nat) (v : ZVs) (hl : l ≠ []) : zRc e (k + 1) l v = zRc e k (l.drop 6) (ZVs.s_plc ((if l.length ≤ 6 then v.fl 1 else v).wr 1 (25 * v.half + 1 + v.plc) (zRec v.gen e (decide (l.length ≤ 6)) (l.take 6) v.sb)) (v.plc + 1)) := if_neg hl
theorem zRc_nil (e k : Nat) (v : ZVs) : zRc e k [] v = v := by
  cases k with
  | zero => rfl
  | succ k => exact if_pos rfl
theorem zRc_recs (e : Nat) : ∀ (k : Nat) (l : List Nat) (v : ZVs), l ≠ [] → l.length ≤ 6 * k → ZVs.recs e true k l v = (zRc e k l v).fl 1 := by
  intro k
  induction k with
  | zero =>
    intro l v hl hk
    have : l.length = 0 := by omega
    exact absurd (List.length_eq_zero_iff.mp this) hl
  | succ k ih =>
    intro l v hl hk
    rw [zRc_step e k l v hl]
    show (if l = [] then v else ZVs.recs e true k (l.drop 6) (ZVs.s_plc (if (decide (l.length ≤ 6) && true) = true then ((if (decide (l.length ≤ 6) && true) = true then v.fl 1 else v).wr 1 (25 * v.half + 1 + v.plc) (zRec v.gen e (decide (l.length ≤ 6)) (l.take 6) v.sb)).fl 1 else (if (decide (l.length ≤ 6) && true) = true then v.fl 1 else v).wr 1 (25 * v.half + 1 + v.plc) (zRec v.gen e (decide (l.length ≤ 6)) (l.take 6) v.sb)) (v.plc + 1))) = _
    rw [if_neg hl, Bool.and_true]
    by_cases h6 : l.length ≤ 6
    · have e0 : l.drop 6 = [] := List.drop_eq_nil_of_le h6
      rw [e0, zRc_nil, decide_eq_true h6, if_pos rfl, if_pos rfl, if_pos h6, zrecs_nil]; rfl
    · have hne : l.drop 6 ≠ [] := by
        intro hx
        have := congrArg List.length hx
        rw [List.length_drop] at this
        have : l.length - 6 = 0 := this
        omega
      rw [decide_eq_false h6, if_neg Bool.noConfusion, if_neg Bool.noConfusion, if_neg h6, ih _ _ hne (by rw [List.length_drop]; omega)]
theorem zfr_zRc (e : Nat) : ∀ (k : Nat) (l : List Nat) (v : ZVs), ZFr (2 * k) v (zRc e k l v) ∧ ZSm v (zRc e k l v) ∧ (zRc e k l v).gen = v.gen ∧ (zRc e k l v).half = v.half := by
  intro k
  induction k with
  | zero => intro l v; exact ⟨ZFr.refl v, ⟨rfl, rfl, rfl, rfl, rfl⟩, rfl, rfl⟩
  | succ k ih =>
    intro l v
    by_cases hl : l = []
    · rw [hl, zRc_nil]; exact ⟨(ZFr.refl v).mono (by omega), ⟨rfl, rfl, rfl, rfl, rfl⟩, rfl, rfl⟩
    · rw [zRc_step e k l v hl]
      obtain ⟨x, hx⟩ : ∃ x, x = zRec v.gen e (decide (l.length ≤ 6)) (l.take 6) v.sb := ⟨_, rfl⟩
      rw [← hx]
      have key : ∀ w : ZVs, ZFr 1 v w → ZSm v w → w.gen = v.gen → w.half = v.half → ZFr (2 * (k + 1)) v (zRc e k (l.drop 6) (ZVs.s_plc (w.wr 1 (25 * v.half + 1 + v.plc) x) (v.plc + 1))) ∧ ZSm v (zRc e k (l.drop 6) (ZVs.s_plc (w.wr 1 (25 * v.half + 1 + v.plc) x) (v.plc + 1))) ∧ (zRc e k (l.drop 6) (ZVs.s_plc (w.wr 1 (25 * v.half + 1 + v.plc) x) (v.plc + 1))).gen = v.gen ∧ (zRc e k (l.drop 6) (ZVs.s_plc (w.wr 1 (25 * v.half + 1 + v.plc) x) (v.plc + 1))).half = v.half := by
        intro w h1 h2 h3 h4
        obtain ⟨a1, a2, a3, a4⟩ := ih (l.drop 6) (ZVs.s_plc (w.wr 1 (25 * v.half + 1 + v.plc) x) (v.plc + 1))
        have hw := zfr_wr w 1 (25 * v.half + 1 + v.plc) x
        have hs : ZFr 0 (w.wr 1 (25 * v.half + 1 + v.plc) x) (ZVs.s_plc (w.wr 1 (25 * v.half + 1 + v.plc) x) (v.plc + 1)) := ZFr.of_p rfl rfl rfl rfl rfl
        refine ⟨(((h1.trans hw).trans hs).trans a1).mono (by omega), ?_, a3.trans h3, a4.trans h4⟩
        obtain ⟨b1, b2, b3, b4, b5⟩ := a2
        obtain ⟨c1, c2, c3, c4, c5⟩ := h2
        exact ⟨b1.trans c1, b2.trans c2, b3.trans c3, b4.trans c4, b5.trans c5⟩
      by_cases h6 : l.length ≤ 6
      · rw [if_pos h6]; exact key _ (zfr_fl v 1) ⟨rfl, rfl, rfl, rfl, rfl⟩ rfl rfl
      · rw [if_neg h6]; exact key v ((ZFr.refl v).mono (by omega)) ⟨rfl, rfl, rfl, rfl, rfl⟩ rfl rfl
theorem zfr_zRc_plc (e k : Nat) (l : List Nat) (m : Nat) (u : ZVs) : ZFr (2 * k) u (zRc e k l (ZVs.s_plc u m)) := by
  have h1 : ZFr 0 u (ZVs.s_plc u m) := ZFr.of_p rfl rfl rfl rfl rfl
  exact (h1.trans (zfr_zRc e k l (ZVs.s_plc u m)).1).mono (by omega)
theorem c_recsC (K : px_K) (N n sets : Nat) (hN : 2000 ≤ N) (hK : zKc K n sets) (t : px_W) (l : List Nat) (hl : l.length ≤ 16) (hin : ∀ i ∈ l, i < n) (e : Nat) : ∀ (k r f : Nat) (s : px_S) (v : ZVs), v.n = n → l.length ≤ 6 * (r + k) → 6 * r ≤ l.length + 5 → k < f → zLa (s.2.2.1 21) l → (∀ i, i < n → s.2.2.1 16 i = iN (v.sb i - 1)) → s.1 13 = iN v.half → s.1 14 = iN v.gen → s.1 15 = iN v.plc → s.1 16 = iN e → v.half < 2 → v.plc + (l.length + 5 - 6 * r) / 6 ≤ 24 → zCw n s v.p → v.p.up = true → (zRc e k (l.drop (6 * r)) v).p.na < 2305843009213693952 → wp (l_V_close_13_51 K N f (iN ((l.length + 5) / 6)) (iN l.length) (iN r) s t) (zOl n 91 [] t s (zRc e k (l.drop (6 * r)) v).p (fun u => zCw n u (zRc e k (l.drop (6 * r)) v).p ∧ u.1 15 = iN (zRc e k (l.drop (6 * r)) v).plc ∧ zHp s u)) := by
  have hn64 : n ≤ 64 := hK.2.2.2.2.2.2.2.2.2.2.2.2.2.2.2.2.2.2.2.2
  have k20 : K.2.2 20 = 16 := hK.2.2.2.2.2.2.2.2.2.2.2.2.2.1
  intro k
  induction k with
  | zero =>
    intro r f s v hn hr hr3 hf hla hb h13 h14 h15 h16 hh hp h hu hna
    obtain ⟨f, rfl⟩ : ∃ f', f = f' + 1 := ⟨f - 1, by omega⟩
    unfold l_V_close_13_51
    exact wp_if (by rw [iN_le (by omega) (by omega)]; omega) (wp_rOl hu ⟨h, h15, zHp_refl s⟩)
  | succ k ih =>
    intro r f s v hn hr hr3 hf hla hb h13 h14 h15 h16 hh hp h hu hna
    obtain ⟨f, rfl⟩ : ∃ f', f = f' + 1 := ⟨f - 1, by omega⟩
    unfold l_V_close_13_51
    by_cases hlt : 6 * r < l.length
    · have hne : l.drop (6 * r) ≠ [] := by
        intro hx
        have := congrArg List.length hx
        rw [List.length_drop] at this
        have : l.length - 6 * r = 0 := this
        omega
      rw [zRc_step e k _ v hne, List.drop_drop, show 6 * r + 6 = 6 * (r + 1) by omega, List.length_drop] at hna ⊢
      obtain ⟨x, hx⟩ : ∃ x, x = zRec v.gen e (decide (l.length - 6 * r ≤ 6)) ((l.drop (6 * r)).take 6) v.sb := ⟨_, rfl⟩
      rw [← hx] at hna ⊢
      refine wp_ifn (by rw [iN_le (by omega) (by omega)]; omega) ?_
      -- one record, from any power
      have one : ∀ (s1 : px_S) (w : ZVs), zHd s s1 → w.n = n → w.sb = v.sb → w.half = v.half → w.gen = v.gen → zCw n s1 w.p → w.p.up = true → (zRc e k (l.drop (6 * (r + 1))) (ZVs.s_plc (w.wr 1 (25 * v.half + 1 + v.plc) x) (v.plc + 1))).p.na < 2305843009213693952 → wp (α := px_LO) (px_bv (f_V_setRecord_13 K N (s1.1 16) (iN l.length) (iN r) s1 t) (fun s3 t4 => (px_bv (f_D_put_8_20 K N ((((s3.1 13) * (25 : Int32)) + (1 : Int32)) + (s3.1 15)) (0 : Int32) s3 t4) (fun s8 t9 => (px_let (sR s8 15 ((s8.1 15) + (1 : Int32))) (fun s13 => (l_V_close_13_51 K N f (iN ((l.length + 5) / 6)) (iN l.length) (iN r + (1 : Int32)) s13 t9)))) (fun x12 s8 t9 => (some (.inr (.inr x12, s8, t9)))))) (fun x7 s3 t4 => none)) (zOl n 91 [] t s (zRc e k (l.drop (6 * (r + 1))) (ZVs.s_plc (w.wr 1 (25 * v.half + 1 + v.plc) x) (v.plc + 1))).p (fun u => zCw n u (zRc e k (l.drop (6 * (r + 1))) (ZVs.s_plc (w.wr 1 (25 * v.half + 1 + v.plc) x) (v.plc + 1))).p ∧ u.1 15 = iN (zRc e k (l.drop (6 * (r + 1))) (ZVs.s_plc (w.wr 1 (25 * v.half + 1 + v.plc) x) (v.plc + 1))).plc ∧ zHp s u)) := by
        intro s1 w hd1 hwn hwsb hwh hwg hw1 hwu hwna
        have hla1 : zLa (s1.2.2.1 21) l := by rw [hd1.1 21 (by omega)]; exact hla
        have hb1 : ∀ i, i < n → s1.2.2.1 16 i = iN (v.sb i - 1) := by rw [hd1.1 16 (by omega)]; exact hb
        have i13 : s1.1 13 = iN v.half := by rw [hd1.2.1 13 (by omega)]; exact h13
        have i14 : s1.1 14 = iN v.gen := by rw [hd1.2.1 14 (by omega)]; exact h14
        have i15 : s1.1 15 = iN v.plc := by rw [hd1.2.1 15 (by omega)]; exact h15
        have i16 : s1.1 16 = iN e := by rw [hd1.2.1 16 (by omega)]; exact h16
        obtain ⟨g, q1, q2⟩ := c_setRecord K N n sets hN hK t s1 v.sb l hl hin hla1 hb1 v.gen e r i14 hlt
        rw [List.length_drop, ← hx] at q2
        rw [i16]
        refine wp_bv q1 ?_
        have ei : ((sF s1 20 g).1 13 * (25 : Int32) + (1 : Int32)) + (sF s1 20 g).1 15 = iN (25 * v.half + 1 + v.plc) := by
          show s1.1 13 * iN 25 + iN 1 + s1.1 15 = _
          rw [i13, i15, iN_mul, iN_add, iN_add, Nat.mul_comm]
        rw [ei]
        have c1 : zCw n (sF s1 20 g) w.p := zCw_w hw1 (zHw_sF (Or.inl rfl))
        have hfr := zfr_zRc_plc e k (l.drop (6 * (r + 1))) (v.plc + 1) (w.wr 1 (25 * v.half + 1 + v.plc) x)
        refine wp_cvl (c_put_8_20 K N n sets hK t (sF s1 20 g) w.p c1 hwu (25 * v.half + 1 + v.plc) 0 x (by omega) (fun w hw => by rw [sF_arr, Nat.zero_add]; exact q2 w hw) (by rw [k20]; omega) (Nat.lt_of_le_of_lt hfr.n1 hwna)) (zHx_trans (zHd_x hd1) (zHp_x zHp_20)) hfr.dn (fun u hu2 hR => wp_let ?_)
        have hp1 : zHp s u := zHp_trans (zHp_trans (zHd_p hd1) zHp_20) (zHd_p hR.2)
        have e15 : u.1 15 + 1 = iN (v.plc + 1) := by
          rw [hR.2.2.1 15 (by omega)]
          show s1.1 15 + iN 1 = _
          rw [i15, iN_add]
        rw [e15, iL1, iN_add]
        refine wp_Ol (ih (r + 1) f (sR u 15 (iN (v.plc + 1))) (ZVs.s_plc (w.wr 1 (25 * v.half + 1 + v.plc) x) (v.plc + 1)) hwn (by omega) (by omega) (by omega) ?_ ?_ ?_ ?_ (sR_self _ _ _) ?_ (by show w.half < 2; omega) (by show v.plc + 1 + _ ≤ 24; omega) (zCw_p hR.1 _) hu2 hwna) (zHp_x (zHp_trans hp1 zHp_15)) (fun w _ hw => ⟨hw.1, hw.2.1, zHp_trans (zHp_trans hp1 zHp_15) hw.2.2⟩)
        · show zLa (u.2.2.1 21) l
          rw [hp1.1 21 (by omega) (by omega)]; exact hla
        · intro i hi
          show u.2.2.1 16 i = iN (w.sb i - 1)
          rw [hp1.1 16 (by omega) (by omega), hwsb]; exact hb i hi
        · show (sR u 15 _).1 13 = iN w.half
          rw [sR_ne (by omega), hp1.2.1 13 (by omega), hwh]; exact h13
        · show (sR u 15 _).1 14 = iN w.gen
          rw [sR_ne (by omega), hp1.2.1 14 (by omega), hwg]; exact h14
        · rw [sR_ne (by omega), hp1.2.1 16 (by omega)]; exact h16
      have em : iN ((l.length + 5) / 6) - (1 : Int32) = iN ((l.length + 5) / 6 - 1) := iN_sub (b := 1) (by omega)
      rw [em]
      by_cases h6 : l.length - 6 * r ≤ 6
      · rw [if_pos h6] at hna ⊢
        refine wp_ifn (fun hy => hy (by rw [iN_eq (by omega) (by omega)]; omega)) ?_
        have hfr := ZFr.trans (zfr_wr (v.fl 1) 1 (25 * v.half + 1 + v.plc) x) (zfr_zRc_plc e k (l.drop (6 * (r + 1))) (v.plc + 1) ((v.fl 1).wr 1 (25 * v.half + 1 + v.plc) x))
        refine wp_cvl (c_flush_8 K N n sets hN hK t s v.p h hu (Nat.lt_of_le_of_lt hfr.n1 hna)) (zHx_refl s) hfr.dn (fun u hu2 hR => ?_)
        exact one u (v.fl 1) hR.2 hn rfl rfl rfl hR.1 hu2 hna
      · rw [if_neg h6] at hna ⊢
        refine wp_if (fun hy => h6 (by have := (iN_eq (by omega) (by omega)).mp hy; omega)) ?_
        exact one s v (zHd_refl s) hn rfl rfl rfl h hu hna
    · have e0 : l.drop (6 * r) = [] := List.drop_eq_nil_of_le (by omega)
      rw [e0, zRc_nil]
      exact wp_if (by rw [iN_le (by omega) (by omega)]; omega) (wp_rOl hu ⟨h, h15, zHp_refl s⟩)
/-- the landing that a closing may need -/
theorem c_close_loop {P : Nat → ZSt → Prop} (hP : ∀ m m' V, m ≤ m' → P m V → P m' V) (K : px_K) (N n sets : Nat) (hN : 2000 ≤ N) (hK : zKc K n sets) (t : px_W) (s : px_S) (v : ZVs) (hn : v.n = n) (h : zCv s v) (hu : v.p.up = true) (hR : ZRf P v) (hb : v.p.na + 1000 < 2147483648) : wp (l_V_close_13_6 K N N (0 : Int32) s t) (zOl n 24 [] t s v.landIf.p (fun u => zCv u v.landIf ∧ zHv s u ∧ ZRf P v.landIf ∧ v.landIf.opn - 1 - v.landIf.landed < v.landIf.eps)) := by
  obtain ⟨M, rfl⟩ : ∃ M, N = M + 2 := ⟨N - 2, by omega⟩
  -- the test at a state that runs
  have test : ∀ (s : px_S) (v : ZVs), v.n = n → zCv s v → ZRf P v → v.p.na + 1 < 2147483648 → f_V_landed_13 K (M + 2) s t = some (.inl (some (.int (iN v.landed))), s, t) ∧ ((((s.1 16) - (1 : Int32)) - iN v.landed) < (s.1 11) ↔ v.opn - 1 - v.landed < v.eps) := by
    intro s v hn h hR hb
    have hlan := c_landed K (M + 2) n sets hK t s (v.p.dv 0) (by have := h.1; rw [hn] at this; exact this.1)
    have hLw : v.dn 1 1 = iN v.landed := hR.toZRm.hd.hL
    rw [show (v.p.dv 0).now 1 1 = iN v.landed from hLw] at hlan
    have hcf := h.2.2 hR.toZRm.wf
    have hLo := hR.toZRm.fl.hLo
    have hon := hR.toZRm.n2
    have e8 := hR.toZRm.sz.e8
    refine ⟨hlan, ?_⟩
    rw [hcf.2.2.2.1, h.2.1.1, iL1, iN_sub (by omega), iN_sub (by omega), iN_lt (by omega) (by omega)]
  have hz := hR.toZRm.sz
  obtain ⟨t1, t2⟩ := test s v hn h hR (by omega)
  unfold l_V_close_13_6
  refine wp_ifn (by decide) (wp_bi t1 ?_)
  by_cases hc : v.opn - 1 - v.landed < v.eps
  · have e : v.landIf = v := by unfold ZVs.landIf; rw [if_neg (by omega)]
    rw [e]
    exact wp_if (t2.mpr hc) (wp_rOl hu ⟨h, zHv_refl s, hR, hc⟩)
  · have e : v.landIf = v.land1.2 := by unfold ZVs.landIf; rw [if_pos ⟨hu, by omega⟩]
    rw [e]
    have hLo := hR.toZRm.fl.hLo
    have e1 := hz.e1
    have hE := hR.toZRm.fl.hE
    have hlt : v.landed + 1 < v.opn := by omega
    have el : v.land1 = (v.landed + 1, ZVs.landOf (v.landed + 1) v) := by unfold ZVs.land1; rw [if_pos hlt]
    have hfr := (zfr_land1 v hz).1
    have hok := hR.landOf hP hlt (by omega)
    have hl := c_land1 K (M + 2) n sets hN hK t s v hn h hu hR hb
    refine wp_ifn (fun hx => hc (t2.mp hx)) (wp_cil hl (zHx_refl s) (fun _ => rfl) (fun u hu2 hu3 => ?_))
    rw [show ZVs.landOf (v.landed + 1) v = v.land1.2 by rw [el]] at hok
    rcases hok with ⟨_, hok⟩ | hok
    · obtain ⟨q1, q2, q3, q4, q5⟩ := hok
      have hn2 : v.land1.2.n = n := (zFr_n hfr).trans hn
      obtain ⟨t3, t4⟩ := test u v.land1.2 hn2 hu3.1 q1 (by have := hfr.n2; omega)
      have hfin : v.land1.2.opn - 1 - v.land1.2.landed < v.land1.2.eps := by rw [q3, q4, hfr.e]; omega
      unfold l_V_close_13_6
      exact wp_ifn (by decide) (wp_bi t3 (wp_if (t4.mpr hfin) (wp_rOl hu2 ⟨hu3.1, hu3.2, q1, hfin⟩)))
    · have := hok.up; rw [hu2] at this; cases this

/-! THE CLASS: closing -/
theorem zDl_none {se : Nat → Nat} {e n : Nat} (h : ∀ i, i < n → se i < e) : zDl se e n = [] := by
  cases hx : zDl se e n with
  | nil => rfl
  | cons a l =>
    have ha : a ∈ zDl se e n := by rw [hx]; exact List.mem_cons_self
    obtain ⟨h1, h2⟩ := mem_zDl.mp ha
    have := h a h1
    omega
theorem c_closeTail {P : Nat → ZSt → Prop} (K : px_K) (N n sets : Nat) (hN : 2000 ≤ N) (hK : zKc K n sets) (t : px_W) (s : px_S) (v : ZVs) (hn : v.n = n) (h : zCv s v) (hu : v.p.up = true) (hR : ZRf P v) (hb : v.p.na + 500 < 2147483648) (d : Nat) (hd : v.dirty v.opn = d) (hd0 : d ≠ 0) (hpl : v.plc + (d + 5) / 6 ≤ 24) : wp (px_bi (f_S_gather_14_21 K N (s.1 16) s t) (fun v15 s12 t13 => (px_lp (l_V_close_13_51 K N N (iN ((d + 5) / 6)) v15 (0 : Int32) s12 t13) (fun i17 vs18 s19 t20 => (if i17 = 91 then (px_v0 vs18 (px_bv (f_D_flush_8 K N s19 t20) (fun s24 t25 => (px_let (sR s24 16 ((s24.1 16) + (1 : Int32))) (fun s29 => (px_let (sR s29 17 (0 : Int32)) (fun s31 => (some (.inl none, s31, t25))))))) (fun x28 s24 t25 => (some (.inr x28, s24, t25))))) else none)) (fun z22 => some z22))) (fun x16 s12 t13 => none)) (zO n none t s (ZVs.s_opn (ZVs.recsAll v.opn true v) ((ZVs.recsAll v.opn true v).opn + 1)).p (fun u => zCv u (ZVs.s_opn (ZVs.recsAll v.opn true v) ((ZVs.recsAll v.opn true v).opn + 1)) ∧ zHv s u)) := by
  have hn64 : n ≤ 64 := hK.2.2.2.2.2.2.2.2.2.2.2.2.2.2.2.2.2.2.2.2
  have hsw := zSw_of hR.toZRm (by omega)
  have hwf := hR.toZRm.wf
  have hH := hR.toZRm.fl.hH
  have ho1 := hR.toZRm.opn1
  have h16 : v.dirty v.opn ≤ 16 := hR.toZRm.t5
  obtain ⟨hcw, hcz, hcf⟩ := h
  have hcf := hcf hwf
  rw [hn] at hcw
  have e16 : s.1 16 = iN v.opn := hcf.2.2.2.1
  obtain ⟨A, ga1, ga2⟩ := c_gather K N n sets hN hK t s v hn hcf.2.2.2.2.2.1 hcz hsw v.opn (by omega) hsw.2.1 h16
  have hlen : (v.dl v.opn).length = d := hd
  have hne : v.dl v.opn ≠ [] := fun hx => by rw [hx] at hlen; exact hd0 hlen.symm
  have erec : ZVs.recsAll v.opn true v = (zRc v.opn 11 (v.dl v.opn) v).fl 1 := zRc_recs v.opn 11 (v.dl v.opn) v hne (by omega)
  rw [erec]
  obtain ⟨f1, f2, f3, f4⟩ := zfr_zRc v.opn 11 (v.dl v.opn) v
  have hblk : ∀ i, i < n → s.2.2.1 16 i = iN (v.sb i - 1) := fun i hi => (hcf.2.2.2.2.2.1 i (by omega)).2.1
  obtain ⟨w, hw⟩ : ∃ w, w = zRc v.opn 11 (v.dl v.opn) v := ⟨_, rfl⟩
  have hfl := zfr_fl w 1
  have hloop := c_recsC K N n sets hN hK t (v.dl v.opn) (by rw [hlen]; omega) (fun i hi => by have := (mem_zDl.mp hi).1; omega) v.opn 11 0 N (sF s 21 A) v hn (by omega) (by omega) (by omega) (by rw [sF_arr]; exact ga2) (fun i hi => by rw [sF_arr_ne (by omega)]; exact hblk i hi) hcf.1 hcf.2.1 hcf.2.2.1 e16 hH (by rw [hlen]; omega) (zCw_w hcw (zHw_sF (Or.inr rfl))) hu (by
    show (zRc v.opn 11 (v.dl v.opn) v).p.na < _
    have := f1.n2; omega)
  rw [show zRc v.opn 11 ((v.dl v.opn).drop (6 * 0)) v = w from hw.symm, hlen] at hloop
  rw [← hw] at f1 f2 f3 f4
  rw [← hw]
  have hop : (w.fl 1).opn = v.opn := f2.2.2.2.2
  rw [hop]
  have hloop : wp (l_V_close_13_51 K N N (iN ((d + 5) / 6)) (iN d) (0 : Int32) (sF s 21 A) t) _ := hloop
  rw [e16]
  refine wp_bi ga1 ?_
  rw [hlen]
  refine wp_cl hloop (zHw_x (zHw_sF (Or.inr rfl))) (fun hx => hfl.dn hx) (fun u hu2 hR2 => wp_if rfl (wp_v0 ?_))
  have hq1 : zHq s u := zHq_trans (zHe_q (zHw_e (zHw_sF (Or.inr rfl)))) (zHp_q hR2.2.2)
  refine wp_cv (c_flush_8 K N n sets hN hK t u w.p hR2.1 hu2 (by
    show (w.fl 1).p.na < _
    have := f1.n2; have := hfl.n2; omega)) (zHq_x hq1) (fun _ => rfl) (fun u3 hu3 hR3 => wp_let (wp_let (wp_rO hu3 ?_)))
  have hq3 : zHq s u3 := zHq_trans hq1 (zHe_q (zHd_e hR3.2))
  have e163 : u3.1 16 + 1 = iN (v.opn + 1) := by
    rw [hq3.2.1 16 (by omega), e16, iL1, iN_add]
  rw [e163]
  have nw : w.n = v.n := zFr_n f1
  have rr : ∀ r, r ≠ 16 → r ≠ 17 → (sR (sR u3 16 (iN (v.opn + 1))) 17 (0 : Int32)).1 r = u3.1 r := fun r a b => by rw [sR_ne b, sR_ne a]
  refine ⟨⟨?_, ?_, fun _ => ⟨?_, ?_, ?_, ?_, ?_, ?_, ?_⟩⟩, zHv_trans (zHq_v hq3) ⟨fun _ _ => rfl, fun r hr => rr r (by omega) (by omega), fun _ _ => rfl, rfl⟩⟩
  · show zCw w.n _ (w.p.fl 1)
    rw [nw, hn]
    exact zCw_of hR3.1 (fun r _ _ => rr r (by omega) (by omega)) (fun _ _ _ => rfl) rfl
  · refine zCz_v (v := v) (zCz_of hcz (fun r hr => ?_)) f1.s f1.w f1.e f1.wf
    rw [rr r (by omega) (by omega), hq3.2.1 r (by omega)]
  · rw [rr 13 (by omega) (by omega), hq3.2.1 13 (by omega)]
    show s.1 13 = iN w.half
    rw [f4]; exact hcf.1
  · rw [rr 14 (by omega) (by omega), hq3.2.1 14 (by omega)]
    show s.1 14 = iN w.gen
    rw [f3]; exact hcf.2.1
  · rw [rr 15 (by omega) (by omega), hR3.2.2.1 15 (by omega)]
    exact hR2.2.1
  · rw [sR_ne (by omega), sR_self]; rfl
  · rw [sR_self]
    show (0 : Int32) = iN (zDl w.se (v.opn + 1) w.n).length
    rw [zDl_none (fun i hi => by rw [f2.2.1]; have := hsw.2.2.2.1 i (by rw [← nw]; exact hi); omega)]; rfl
  · refine zCk_v (v := v) (zCk_of hcf.2.2.2.2.2.1 (fun a h1 h2 => ?_)) nw (fun i _ => ?_)
    · show u3.2.2.1 a = _
      exact hq3.1 a (by omega) (by omega) (by omega)
    · show w.sb i = _ ∧ w.se i = _ ∧ w.mrk i = _
      rw [f2.1, f2.2.1, f2.2.2.1]; exact ⟨rfl, rfl, rfl⟩
  · intro q hq
    show u3.2.2.1 19 q = iN (w.hd q)
    have hq : q < w.sets := hq
    rw [hq3.1 19 (by omega) (by omega) (by omega), f2.2.2.2.1]
    exact hcf.2.2.2.2.2.2 q (by rw [f1.s] at hq; exact hq)
theorem c_close {P : Nat → ZSt → Prop} (hP : ∀ m m' V, m ≤ m' → P m V → P m' V) (K : px_K) (N n sets : Nat) (hN : 2000 ≤ N) (hK : zKc K n sets) (t : px_W) (s : px_S) (v : ZVs) (hn : v.n = n) (h : zCv s v) (hu : v.p.up = true) (hR : ZRf P v) (hb : v.p.na + 2000 < 2147483648) : wp (f_V_close_13 K N s t) (zO n none t s v.close.p (fun u => zCv u v.close ∧ zHv s u)) := by
  have hz := hR.toZRm.sz
  have hcf := h.2.2 hR.toZRm.wf
  have h16 : v.dirty v.opn ≤ 16 := hR.toZRm.t5
  unfold f_V_close_13
  rw [hcf.2.2.2.2.1]
  by_cases hd0 : v.dirty v.opn = 0
  · have e : v.close = v := by unfold ZVs.close; rw [if_pos hd0]
    rw [e, hd0]
    exact wp_ifn (fun hx => hx rfl) (wp_rO hu ⟨h, zHv_refl s⟩)
  · have e : v.close = (let v1 := v.landIf
      if v1.p.up = false then v1 else
      let v2 := if 24 - v1.plc < (v.dirty v.opn + 5) / 6 then v1.changeHalves else v1
      let v3 := ZVs.recsAll v2.opn true v2
      (ZVs.s_opn v3 (v3.opn + 1))) := by unfold ZVs.close; rw [if_neg hd0]
    have hloop := c_close_loop hP K N n sets hN hK t s v hn h hu hR (by omega)
    obtain ⟨hf1, hf2, hf3, hf4, hf5, hf6⟩ := zfr_landIf v hz
    -- what is open stays so
    have hdl : v.landIf.p.up = true → v.landIf.dirty v.landIf.opn = v.dirty v.opn := by
      intro hx
      by_cases hc : v.p.up = true ∧ v.eps ≤ v.opn - 1 - v.landed
      · have e1 : v.landIf = v.land1.2 := by unfold ZVs.landIf; rw [if_pos hc]
        have e1s := hz.e1
        have hLo := hR.toZRm.fl.hLo
        have hlt : v.landed + 1 < v.opn := by omega
        have el : v.land1.2 = ZVs.landOf (v.landed + 1) v := by unfold ZVs.land1; rw [if_pos hlt]
        rw [e1, el] at hx hf1 hf2
        rw [e1, el]
        rcases hR.landOf hP hlt (by omega) with ⟨_, hok⟩ | hok
        · obtain ⟨_, _, _, q4, _, _, _, q8, _⟩ := hok
          show (zDl _ _ _).length = (zDl _ _ _).length
          rw [q4, zFr_n hf1]
          congr 1
          refine zDl_congr (fun i hi => ?_)
          rw [q8 i hi]
          unfold zOff
          by_cases hc : v.se i = v.landed + 1
          · rw [if_pos hc]; omega
          · rw [if_neg hc]
        · have := hok.up; rw [hx] at this; cases this
      · have e1 : v.landIf = v := by unfold ZVs.landIf; rw [if_neg hc]
        rw [e1]
    rw [e]
    obtain ⟨v1, hv1⟩ : ∃ v1, v1 = v.landIf := ⟨_, rfl⟩
    rw [← hv1] at hloop hf1 hf2 hf3 hf4 hf5 hf6 hdl
    rw [← hv1]
    obtain ⟨d, hdd⟩ : ∃ d, d = v.dirty v.opn := ⟨_, rfl⟩
    rw [← hdd] at hd0 h16 hdl
    rw [← hdd]
    show wp _ (zO n none t s ((if v1.p.up = false then v1 else ZVs.s_opn (ZVs.recsAll (if 24 - v1.plc < (d + 5) / 6 then v1.changeHalves else v1).opn true (if 24 - v1.plc < (d + 5) / 6 then v1.changeHalves else v1)) ((ZVs.recsAll (if 24 - v1.plc < (d + 5) / 6 then v1.changeHalves else v1).opn true (if 24 - v1.plc < (d + 5) / 6 then v1.changeHalves else v1)).opn + 1) : ZVs)).p (fun u => zCv u (if v1.p.up = false then v1 else ZVs.s_opn (ZVs.recsAll (if 24 - v1.plc < (d + 5) / 6 then v1.changeHalves else v1).opn true (if 24 - v1.plc < (d + 5) / 6 then v1.changeHalves else v1)) ((ZVs.recsAll (if 24 - v1.plc < (d + 5) / 6 then v1.changeHalves else v1).opn true (if 24 - v1.plc < (d + 5) / 6 then v1.changeHalves else v1)).opn + 1) : ZVs) ∧ zHv s u))
    refine wp_if (by rw [iL0, iN_eq (by omega) (by omega)]; exact hd0) (wp_cl hloop (zHx_refl s) (fun hx => by rw [if_pos hx]) (fun u1 up1 hu1 => wp_if rfl (wp_v0 (wp_let ?_))))
    rw [if_neg (c := v1.p.up = false) (by rw [up1]; exact Bool.noConfusion)]
    obtain ⟨hu1v, hu1h, hR1, hE1⟩ := hu1
    have hdl := hdl up1
    have n1 : v1.n = n := (zFr_n hf1).trans hn
    have hcf1 := hu1v.2.2 hR1.toZRm.wf
    have hpl := hR1.toZRm.fl.hpl
    have hna1 := hf1.n2
    have e8 := hR1.toZRm.sz.e8
    have ev9 : ((u1.1 17 + (6 : Int32)) - (1 : Int32)) / (6 : Int32) = iN ((d + 5) / 6) := by
      rw [hcf1.2.2.2.2.1, hdl]
      show (iN d + iN 6 - iN 1) / iN 6 = _
      rw [iN_add, iN_sub (by omega), iN_div (by omega) (by omega) (by omega)]; rfl
    have e24 : (24 : Int32) - u1.1 15 = iN (24 - v1.plc) := by
      rw [hcf1.2.2.1]
      exact iN_sub (a := 24) (by omega)
    rw [ev9, e24]
    by_cases hc : 24 - v1.plc < (d + 5) / 6
    · rw [if_pos (c := 24 - v1.plc < (d + 5) / 6) hc]
      refine wp_ifn (by rw [iN_le (by omega) (by omega)]; omega) ?_
      have hch := c_changeHalves K N n sets v1.plc hN hK t u1 v1 n1 hR1.toZRm (by have := hu1v.1; rw [n1] at this; exact this) hu1v.2.1 hcf1.1 hcf1.2.1 hcf1.2.2.2.1 hcf1.2.2.2.2.1 hcf1.2.2.2.2.2.1 hcf1.2.2.2.2.2.2 (by omega)
      have hfc := zfr_changeHalves v1
      have hokc := hR1.toZRm.changeHalves hP (by omega)
      obtain ⟨v2, hv2⟩ : ∃ v2, v2 = v1.changeHalves := ⟨_, rfl⟩
      rw [← hv2] at hch hfc hokc
      rw [← hv2]
      have hdn : v2.p.up = false → (ZVs.s_opn (ZVs.recsAll v2.opn true v2) ((ZVs.recsAll v2.opn true v2).opn + 1)).p = v2.p := by
        intro hx
        show (ZVs.recsAll v2.opn true v2).p = v2.p
        exact (zfr_recsAll v2.opn true v2).1.dn hx
      refine wp_cv hch (zHv_x hu1h) hdn (fun u2 up2 hu2 => ?_)
      rcases hokc with ⟨_, hokc⟩ | hokc
      · obtain ⟨q1, q2, q3, q4, q5, q6⟩ := hokc
        have n2 : v2.n = n := (zFr_n hfc.1).trans n1
        have hna2 := hfc.1.n2
        have hLo1 := hR1.toZRm.fl.hLo
        have hd2 : v2.dirty v2.opn = d := by
          rw [← hdl]
          show (zDl _ _ _).length = (zDl _ _ _).length
          rw [q3.2.1, q3.2.2.2.2, zFr_n hfc.1]
        exact wp_O (c_closeTail K N n sets hN hK t u2 v2 n2 hu2.1 up2 q1 (by omega) d hd2 hd0 (by omega)) (zHx_trans (zHv_x hu1h) (zHv_x hu2.2)) (fun w _ hw => ⟨hw.1, zHv_trans (zHv_trans hu1h hu2.2) hw.2⟩)
      · have := hokc.up; rw [up2] at this; cases this
    · rw [if_neg (c := 24 - v1.plc < (d + 5) / 6) hc]
      refine wp_if (by rw [iN_le (by omega) (by omega)]; omega) ?_
      exact wp_O (c_closeTail K N n sets hN hK t u1 v1 n1 hu1v up1 hR1 (by omega) d hdl hd0 (by omega)) (zHv_x hu1h) (fun w _ hw => ⟨hw.1, zHv_trans hu1h hw.2⟩)

