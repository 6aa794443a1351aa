/-! READ (the class) -/
theorem wp_ifc {α : Type} {c : Prop} {x y : Option α} {Q : α → Prop} (h : c) (k : wp x Q) : wp (@ite _ c (Classical.propDecidable _) x y) Q := by rw [if_pos h]; exact k
theorem wp_ifcn {α : Type} {c : Prop} {x y : Option α} {Q : α → Prop} (h : ¬ c) (k : wp y Q) : wp (@ite _ c (Classical.propDecidable _) x y) Q := by rw [if_neg h]; exact k
theorem px_isx_no {t : px_W} {c d : Nat} (h : c ≠ d) : ¬ px_isx (t ++ [px_exc c]) (t.length + 47) d := by
  rintro ⟨j, hj, e⟩
  have hj : j = t.length := by omega
  subst hj
  rw [List.getElem?_append_right (Nat.le_refl _), Nat.sub_self] at e
  have e : some (px_exc c) = some (px_exc d) := e
  have e := Option.some.inj e
  unfold px_exc at e
  injection e with e
  exact h (Prod.mk.inj e).1
/-- what a reading leaves alone -/
def zHl (s u : px_S) : Prop := (∀ c, 28 ≤ c → u.2.2.1 c = s.2.2.1 c) ∧ (∀ r, (25 ≤ r ∨ r = 1 ∨ r = 6 ∨ r = 11 ∨ r = 18 ∨ r = 19 ∨ r = 20) → u.1 r = s.1 r) ∧ (∀ r, 3 ≤ r → u.2.1 r = s.2.1 r)
theorem zHx_l {s u : px_S} (h : zHx s u) : zHl s u := ⟨h.1, h.2.1, h.2.2.1⟩
theorem c_isLoaded (K : px_K) (N n sets : Nat) (hN : 2000 ≤ N) (hK : zKc K n sets) (t : px_W) (s : px_S) (T : ZTs) (hn : T.tv.n = n) (hsets : T.tv.sets = sets) (h : zCt s T) (hi : ZTi ZW T) (hna : T.tv.p.na + 20000 < 2147483648) (b : Nat) (h42 : 42 ≤ b) (h106 : b < 106) : ((xFetch T b).tv.p.up = true → ∃ u, f_E_isLoaded_1 K N (iN b) s t = some (.inl (some (.int 1)), u, t) ∧ zCt u (xFetch T b) ∧ zHt s u) ∧ ((xFetch T b).tv.p.up = false → ∃ u, f_E_isLoaded_1 K N (iN b) s t = some (.inl (some (.int 0)), u, t ++ [px_exc 7]) ∧ zHx s u ∧ zEd u (xFetch T b).tv) := by
  have F := zfr_fetch T b
  obtain ⟨r, e, hl⟩ := c_load K N n sets hN hK t s T hn hsets h hi hna b h42 h106
  rcases hl with ⟨hu, u, rfl, hR⟩ | ⟨hu, u, rfl, hz, hx⟩
  · refine ⟨fun _ => ⟨u, ?_, hR.1, hR.2⟩, fun hd => (by rw [hu] at hd; cases hd)⟩
    unfold f_E_isLoaded_1
    rw [e]; rfl
  · refine ⟨fun hd => (by rw [hu] at hd; cases hd), fun _ => ?_⟩
    obtain ⟨⟨dv, d1, d2, d3⟩, hna', hl⟩ := hz
    obtain ⟨u', a1, a2, a3, a4⟩ := c_goDown K N n sets hN hK (t ++ [px_exc 7]) u (xFetch T b).tv.p dv (u.2.1 2) d1 d2 d3 hna' hl
    refine ⟨u', ?_, zHx_trans hx a4, ?_, zCs_x (zCs_x (zCs_v (zCt_s h) F.s F.w F.e) hx) a4, a3⟩
    · obtain ⟨z, z1, z2⟩ : wp (f_E_isLoaded_1 K N (iN b) s t) (fun z => z = (.inl (some (.int 0)), u', t ++ [px_exc 7])) := by
        unfold f_E_isLoaded_1
        exact wp_bvx e (wp_gd (px_isx_end t 7) (wp_bi a1 (wp_some rfl)))
      rw [z1, z2]
    · rw [zFr_n F, hn]; exact a2
theorem c_readCall (K : px_K) (N n sets : Nat) (hN : 2000 ≤ N) (hK : zKc K n sets) (hK46 : K.2.2 46 = 1) (t : px_W) (s : px_S) (T : ZTs) (hn : T.tv.n = n) (hsets : T.tv.sets = sets) (h : zCt s T) (h0 : s.1 0 = 1) (hi : ZTi ZW T) (hna : T.tv.p.na + 20000 < 2147483648) (f p : Int32) : wp (f_L_read_1_46 K N f p s t) (fun r => ∃ u t', r = (.inl (some (.int (iN (xRead T f p).1))), u, t') ∧ zTt t t' ∧ zHl s u ∧ ((xRead T f p).1 = 0 → u.2.2.2 0 = (xRead T f p).2.1.toInt64) ∧ (((xRead T f p).2.2.tv.p.up = true ∧ zCt u (xRead T f p).2.2 ∧ u.1 0 = 1) ∨ ((xRead T f p).2.2.tv.p.up = false ∧ zEd u (xRead T f p).2.2.tv))) := by
  have hx := zCt_x h
  have hw : ZW T.wd := hi.ww
  have hup := hi.iv.up
  have e0 : ¬ s.1 0 = 0 := by rw [h0]; decide
  -- no such file, or place
  have none8 : f_E_read_1 K N f p s t = some (.inr (t.length + 47), s, t ++ [px_exc 8]) → xRead T f p = (2, 0, T) → wp (f_L_read_1_46 K N f p s t) (fun r => ∃ u t', r = (.inl (some (.int (iN (xRead T f p).1))), u, t') ∧ zTt t t' ∧ zHl s u ∧ ((xRead T f p).1 = 0 → u.2.2.2 0 = (xRead T f p).2.1.toInt64) ∧ (((xRead T f p).2.2.tv.p.up = true ∧ zCt u (xRead T f p).2.2 ∧ u.1 0 = 1) ∨ ((xRead T f p).2.2.tv.p.up = false ∧ zEd u (xRead T f p).2.2.tv))) := by
    intro e hxr
    rw [hxr]
    unfold f_L_read_1_46
    exact wp_bix e (wp_ifcn (px_isx_no (by omega)) (wp_gd (px_isx_end t 8) (wp_some ⟨s, t ++ [px_exc 8], rfl, zTt_1 t 8, zHx_l (zHx_refl s), fun hx => (by cases hx), Or.inl ⟨hup, h, h0⟩⟩)))
  -- an answer
  have some0 : ∀ (u : px_S) (a : Int32) (U : ZTs), f_E_read_1 K N f p s t = some (.inl (some (.int a)), u, t) → xRead T f p = (0, a, U) → U.tv.p.up = true → zCt u U → zHt s u → wp (f_L_read_1_46 K N f p s t) (fun r => ∃ u t', r = (.inl (some (.int (iN (xRead T f p).1))), u, t') ∧ zTt t t' ∧ zHl s u ∧ ((xRead T f p).1 = 0 → u.2.2.2 0 = (xRead T f p).2.1.toInt64) ∧ (((xRead T f p).2.2.tv.p.up = true ∧ zCt u (xRead T f p).2.2 ∧ u.1 0 = 1) ∨ ((xRead T f p).2.2.tv.p.up = false ∧ zEd u (xRead T f p).2.2.tv))) := by
    intro u a U e hxr hU hct hht
    rw [hxr]
    unfold f_L_read_1_46
    refine wp_bi e (wp_gd (by rw [hK46]; exact iN_in (a := 0) (by omega) (by omega)) (wp_let (wp_some ⟨sO u 0 a.toInt64, t, rfl, zTt_refl t, ?_, fun _ => ?_, Or.inl ⟨hU, ?_, ?_⟩⟩)))
    · exact ⟨fun c hc => hht.1 c hc, fun r hr => hht.2.1 r (by omega), fun r hr => hht.2.2.1 r (by omega)⟩
    · show vp_updL u.2.2.2 0 a.toInt64 0 = a.toInt64
      unfold vp_updL
      rw [if_pos rfl]
    · exact hct
    · show u.1 0 = 1
      rw [hht.2.1 0 (by omega)]; exact h0
  have hfile := c_isFile K N n sets hK t hx f
  cases hkb : zKb T.wd f 2 with
  | false =>
    rw [hkb] at hfile
    refine none8 ?_ (if_neg (fun hx => by rw [hkb] at hx; cases hx.1))
    obtain ⟨z, z1, z2⟩ : wp (f_E_read_1 K N f p s t) (fun z => z = (.inr (t.length + 47), s, t ++ [px_exc 8])) := by
      unfold f_E_read_1
      exact wp_if e0 (wp_bi hfile (wp_if rfl (wp_some rfl)))
    rw [z1, z2]
  | true =>
    rw [hkb] at hfile
    obtain ⟨k1, k2, k3⟩ := zKd_of hkb
    by_cases c1 : p < 0
    · refine none8 ?_ (if_neg (fun hx => absurd hx.2.1 (Int32.not_le.mpr c1)))
      obtain ⟨z, z1, z2⟩ : wp (f_E_read_1 K N f p s t) (fun z => z = (.inr (t.length + 47), s, t ++ [px_exc 8])) := by
        unfold f_E_read_1
        exact wp_if e0 (wp_bi hfile (wp_ifn (by decide) (wp_if c1 (wp_some rfl))))
      rw [z1, z2]
    by_cases c2 : p < 320
    · obtain ⟨p1, p2⟩ := i32_320 (Int32.not_lt.mp c1) c2
      obtain ⟨i, hi'⟩ : ∃ i, i = n32 f := ⟨_, rfl⟩
      obtain ⟨q, hq'⟩ : ∃ q, q = n32 p := ⟨_, rfl⟩
      have hxm : xRead T f p = (if tB T.wd i (q / 16) = 0 then (0, 0, T)
        else (if (xFetch T (tB T.wd i (q / 16))).tv.p.up = true then (0, T.wd (tB T.wd i (q / 16)) (q % 16), xFetch T (tB T.wd i (q / 16))) else (1, 0, xFetch T (tB T.wd i (q / 16))))) := by
        rw [hi', hq']; exact if_pos ⟨hkb, Int32.not_lt.mp c1, c2⟩
      rw [← hi'] at k1 k2 k3
      rw [← hq'] at p1 p2
      obtain ⟨z1, z2⟩ := zfile_size hw.a k2 k3
      have hr := (hw.a.pv i (q / 16) k2 (by omega)).2
      have hb := c_blockOf K N n sets hK t hx hw.a.pv i (q / 16) k2 (by omega)
      have ed : p / (16 : Int32) = iN (q / 16) := by rw [p1, iL16, iN_div (by omega) (by omega) (by omega)]
      have em : p - p / (16 : Int32) * (16 : Int32) = iN (q % 16) := by rw [p1, iL16, iN_rem (by omega) (by omega) (by omega)]
      rw [← k1, ← ed] at hb
      by_cases hz : tB T.wd i (q / 16) = 0
      · rw [if_pos hz] at hxm
        refine some0 s 0 T ?_ hxm hup h (zHt_refl s)
        obtain ⟨z, z1, z2⟩ : wp (f_E_read_1 K N f p s t) (fun z => z = (.inl (some (.int 0)), s, t)) := by
          unfold f_E_read_1
          exact wp_if e0 (wp_bi hfile (wp_ifn (by decide) (wp_ifn c1 (wp_if c2 (wp_bi hb (wp_ifn (fun hx => hx (by rw [hz]; rfl)) (wp_some rfl)))))))
        rw [z1, z2]
      · rw [if_neg hz] at hxm
        have hne : ¬ iN (tB T.wd i (q / 16)) = 0 := by rw [iL0, iN_eq (by omega) (by omega)]; exact hz
        obtain ⟨l1, l2⟩ := c_isLoaded K N n sets hN hK t s T hn hsets h hi hna (tB T.wd i (q / 16)) (by omega) (by omega)
        obtain ⟨x1, x2, x3, x4, x5, x6⟩ := xFetch_same T (tB T.wd i (q / 16))
        cases hup2 : (xFetch T (tB T.wd i (q / 16))).tv.p.up with
        | true =>
          rw [if_pos hup2] at hxm
          obtain ⟨u, a1, a2, a3⟩ := l1 hup2
          have hxu : zCx u T.wd := by have := zCt_x a2; rw [x1] at this; exact this
          have hsz : f_T_inodeWord_22 K N (iN i) (1 : Int32) u t = _ := c_inodeWord K N n sets hK t hxu i 1 k2 (by omega)
          rw [z1, ← k1] at hsz
          have hat := c_Tat K N n sets hK t u (tB T.wd i (q / 16)) (q % 16) (by omega) (by omega)
          rw [hxu _ _ (by omega) (by omega) (by omega), ← em] at hat
          refine some0 u _ _ ?_ hxm hup2 a2 a3
          obtain ⟨z, y1, y2⟩ : wp (f_E_read_1 K N f p s t) (fun z => z = (.inl (some (.int (T.wd (tB T.wd i (q / 16)) (q % 16)))), u, t)) := by
            unfold f_E_read_1
            refine wp_if e0 (wp_bi hfile (wp_ifn (by decide) (wp_ifn c1 (wp_if c2 (wp_bi hb (wp_if hne (wp_bi a1 (wp_if (by decide) (wp_bi hsz ?_)))))))))
            by_cases hle : tS T.wd i ≤ q
            · have hz0 := hw.c i (q / 16) (q % 16) k2 k3 (by omega) (by omega) (by omega) hz
              rw [hz0]
              exact wp_if (by rw [p1, iN_le (by omega) (by omega)]; exact hle) (wp_some rfl)
            · exact wp_ifn (by rw [p1, iN_le (by omega) (by omega)]; exact hle) (wp_bi hat (wp_some rfl))
          rw [y1, y2]
        | false =>
          rw [if_neg (by rw [hup2]; exact Bool.noConfusion)] at hxm
          obtain ⟨u, a1, a2, a3⟩ := l2 hup2
          have e : f_E_read_1 K N f p s t = some (.inr ((t ++ [px_exc 7]).length + 47), u, (t ++ [px_exc 7]) ++ [px_exc 7]) := by
            obtain ⟨z, y1, y2⟩ : wp (f_E_read_1 K N f p s t) (fun z => z = (.inr ((t ++ [px_exc 7]).length + 47), u, (t ++ [px_exc 7]) ++ [px_exc 7])) := by
              unfold f_E_read_1
              exact wp_if e0 (wp_bi hfile (wp_ifn (by decide) (wp_ifn c1 (wp_if c2 (wp_bi hb (wp_if hne (wp_bi a1 (wp_ifn (fun hx => hx rfl) (wp_some rfl)))))))))
            rw [y1, y2]
          rw [hxm]
          unfold f_L_read_1_46
          exact wp_bix e (wp_ifc (px_isx_end (t ++ [px_exc 7]) 7) (wp_some ⟨u, (t ++ [px_exc 7]) ++ [px_exc 7], rfl, zTt_2 t 7 7, zHx_l a2, fun hx => (by cases hx), Or.inr ⟨hup2, a3⟩⟩))
    · refine none8 ?_ (if_neg (fun hx => c2 hx.2.2))
      obtain ⟨z, z1, z2⟩ : wp (f_E_read_1 K N f p s t) (fun z => z = (.inr (t.length + 47), s, t ++ [px_exc 8])) := by
        unfold f_E_read_1
        exact wp_if e0 (wp_bi hfile (wp_ifn (by decide) (wp_ifn c1 (wp_ifn c2 (wp_some rfl)))))
      rw [z1, z2]
/-! a call of one that is down -/
theorem c_readDn (K : px_K) (N : Nat) (t : px_W) (s : px_S) (h0 : s.1 0 = 0) (f p : Int32) : f_L_read_1_46 K N f p s t = some (.inl (some (.int 1)), s, t ++ [px_exc 7]) := by
  have e : f_E_read_1 K N f p s t = some (.inr (t.length + 47), s, t ++ [px_exc 7]) := by
    unfold f_E_read_1
    rw [if_neg (fun hx => hx h0)]
  obtain ⟨z, z1, z2⟩ : wp (f_L_read_1_46 K N f p s t) (fun z => z = (.inl (some (.int 1)), s, t ++ [px_exc 7])) := by
    unfold f_L_read_1_46
    exact wp_bix e (wp_ifc (px_isx_end t 7) (wp_some rfl))
  rw [z1, z2]
theorem c_down (K : px_K) (N : Nat) (t : px_W) (s : px_S) (h : s.1 0 = 0) : (∀ a b c, f_E_make_1 K N a b c s t = some (.inl (some (.int (-9))), s, t)) ∧ (∀ a b, f_E_find_1 K N a b s t = some (.inl (some (.int (-9))), s, t)) ∧ (∀ a b c, f_E_write_1 K N a b c s t = some (.inl (some (.int (-9))), s, t)) ∧ (∀ a b, f_E_cut_1 K N a b s t = some (.inl (some (.int (-9))), s, t)) ∧ (∀ a b, f_E_remove_1 K N a b s t = some (.inl (some (.int (-9))), s, t)) ∧ (∀ a b c d, f_E_move_1 K N a b c d s t = some (.inl (some (.int (-9))), s, t)) ∧ (∀ a b, f_E_inode_1 K N a b s t = some (.inl (some (.int (-1))), s, t)) ∧ (∀ a b c, f_E_entry_1 K N a b c s t = some (.inl (some (.int (-1))), s, t)) ∧ f_E_sync_1 K N s t = some (.inl (some (.int (-9))), s, t) ∧ f_E_land_1 K N s t = some (.inl (some (.int (-9))), s, t) ∧ f_E_home_1 K N s t = some (.inl (some (.int (-9))), s, t) ∧ f_E_attach_1 K N s t = some (.inl (some (.int (-9))), s, t) ∧ (∀ a b, f_E_slot_1 K N a b s t = some (.inl (some (.int (-1))), s, t)) ∧ (∀ a b, f_E_limit_1 K N a b s t = some (.inl (some (.int 0)), s, t)) ∧ (∀ a, f_E_crash_1 K N a s t = some (.inl (some (.int 0)), s, t)) := by
  have up : ∀ (A B : Option px_Res), (if ¬ s.1 0 = 0 then A else B) = B := fun A B => if_neg (fun hx => hx h)
  have dn : ∀ (A B : Option px_Res), (if s.1 0 = 0 then A else B) = A := fun A B => if_pos h
  exact ⟨fun a b c => up _ _, fun a b => up _ _, fun a b c => up _ _, fun a b => up _ _, fun a b => up _ _, fun a b c d => up _ _, fun a b => dn _ _, fun a b c => dn _ _, up _ _, up _ _, up _ _, up _ _, fun a b => dn _ _, fun a b => dn _ _, fun a => up _ _⟩
