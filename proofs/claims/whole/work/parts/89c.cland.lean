/-! THE CLASS: the volume, and a landing -/
def zCf (s : px_S) (v : ZVs) : Prop := s.1 13 = iN v.half ∧ s.1 14 = iN v.gen ∧ s.1 15 = iN v.plc ∧ s.1 16 = iN v.opn ∧ s.1 17 = iN (v.dirty v.opn) ∧ zCk s v ∧ zCy s v
def zCv (s : px_S) (v : ZVs) : Prop := zCw v.n s v.p ∧ zCz s v ∧ (v.wf = true → zCf s v)
/-- what the volume's methods leave alone -/
def zHv (s u : px_S) : Prop := (∀ c, 22 ≤ c → u.2.2.1 c = s.2.2.1 c) ∧ (∀ r, (r = 0 ∨ r = 1 ∨ r = 6 ∨ r = 11 ∨ r = 12 ∨ 17 < r) → u.1 r = s.1 r) ∧ (∀ r, 0 < r → u.2.1 r = s.2.1 r) ∧ u.2.2.2 = s.2.2.2
theorem zHv_refl (s : px_S) : zHv s s := ⟨fun _ _ => rfl, fun _ _ => rfl, fun _ _ => rfl, rfl⟩
theorem zHv_trans {s u v : px_S} (h1 : zHv s u) (h2 : zHv u v) : zHv s v := ⟨fun c hc => (h2.1 c hc).trans (h1.1 c hc), fun r hr => (h2.2.1 r hr).trans (h1.2.1 r hr), fun r hr => (h2.2.2.1 r hr).trans (h1.2.2.1 r hr), h2.2.2.2.trans h1.2.2.2⟩
theorem zHv_x {s u : px_S} (h : zHv s u) : zHx s u := ⟨fun c hc => h.1 c (by omega), fun r hr => h.2.1 r (by omega), fun r hr => h.2.2.1 r (by omega), h.2.2.2⟩
theorem zHd_v {s u : px_S} (h : zHd s u) : zHv s u := ⟨fun c hc => h.1 c (by omega), fun r hr => h.2.1 r (by omega), h.2.2.1, h.2.2.2⟩
theorem zHs_v {s u : px_S} (h : zHs s u) : zHv s u := ⟨fun c hc => h.1 c (by omega), fun r _ => by rw [h.2.1], fun r _ => by rw [h.2.2.1], h.2.2.2⟩
theorem zHw_v {s u : px_S} (h : zHw s u) : zHv s u := ⟨fun c hc => h.1 c (by omega) (by omega), fun r _ => by rw [h.2.1], fun r _ => by rw [h.2.2.1], h.2.2.2⟩
theorem zCw_of {n : Nat} {s u : px_S} {p : ZPw} (h : zCw n s p) (hr : ∀ r, 1 ≤ r → r ≤ 10 → u.1 r = s.1 r) (ha : ∀ a, 4 ≤ a → a ≤ 12 → u.2.2.1 a = s.2.2.1 a) (hl : u.2.1 = s.2.1) : zCw n u p := by
  obtain ⟨h1, h2, h3⟩ := h
  refine ⟨zCd_of h1 (fun r a b => hr r (by omega) (by omega)) (fun r a b => ha r (by omega) (by omega)), zCd_of h2 (fun r a b => hr r (by omega) (by omega)) (fun r a b => ha r (by omega) (by omega)), ?_⟩
  rw [hl]; exact h3
theorem zCw_s {n : Nat} {s u : px_S} {p : ZPw} (h : zCw n s p) (hs : zHs s u) : zCw n u p := zCw_of h (fun r _ _ => by rw [hs.2.1]) (fun a _ _ => hs.1 a (by omega)) hs.2.2.1
theorem zCw_w {n : Nat} {s u : px_S} {p : ZPw} (h : zCw n s p) (hs : zHw s u) : zCw n u p := zCw_of h (fun r _ _ => by rw [hs.2.1]) (fun a _ _ => hs.1 a (by omega) (by omega)) hs.2.2.1
theorem zCk_of {s u : px_S} {v : ZVs} (h : zCk s v) (ha : ∀ a, 15 ≤ a → a ≤ 18 → u.2.2.1 a = s.2.2.1 a) : zCk u v := by
  intro i hi
  unfold zC1
  rw [ha 15 (by omega) (by omega), ha 16 (by omega) (by omega), ha 17 (by omega) (by omega), ha 18 (by omega) (by omega)]
  exact h i hi
theorem zCk_v {s : px_S} {v u : ZVs} (h : zCk s v) (hn : u.n = v.n) (he : ∀ i, i < v.n → u.sb i = v.sb i ∧ u.se i = v.se i ∧ u.mrk i = v.mrk i) : zCk s u := by
  intro i hi
  rw [hn] at hi
  unfold zC1
  obtain ⟨e1, e2, e3⟩ := he i hi
  rw [e1, e2, e3]; exact h i hi
theorem zCz_of {s u : px_S} {v : ZVs} (h : zCz s v) (hr : ∀ r, (r = 11 ∨ r = 12 ∨ r = 18 ∨ r = 19 ∨ r = 20) → u.1 r = s.1 r) : zCz u v := by
  unfold zCz
  rw [hr 11 (by omega), hr 12 (by omega), hr 18 (by omega), hr 19 (by omega), hr 20 (by omega)]; exact h
theorem zCz_v {s : px_S} {v u : ZVs} (h : zCz s v) (h1 : u.sets = v.sets) (h2 : u.ways = v.ways) (h3 : u.eps = v.eps) (h4 : u.wf = v.wf) : zCz s u := by
  unfold zCz
  have hn : u.n = v.n := by show u.sets * u.ways = _; rw [h1, h2]
  rw [h1, h2, h3, h4, hn]; exact h
theorem zFr_n {c : Nat} {v u : ZVs} (h : ZFr c v u) : u.n = v.n := by show u.sets * u.ways = _; rw [h.s, h.w]
/-- the copies: chosen slots go to the disc, one behind the other -/
theorem c_copies (K : px_K) (N n sets : Nat) (hK : zKc K n sets) (t : px_W) (l : List Nat) (hl : l.length ≤ 16) (hin : ∀ i ∈ l, i < n) (u1 : Int32) : ∀ (d j f : Nat) (s : px_S) (v : ZVs), v.n = n → j + d = l.length → d < f → zLa (s.2.2.1 21) l → zCw n s v.p → v.p.up = true → (ZVs.wrCopies (l.drop j) j v).p.na < 2305843009213693952 → wp (l_V_landOldest_13_26 K N f u1 (iN l.length) (iN j) s t) (zOl n 48 [] t s (ZVs.wrCopies (l.drop j) j v).p (fun u => zCw n u (ZVs.wrCopies (l.drop j) j v).p ∧ zHd s u)) := by
  have hn64 : n ≤ 64 := hK.2.2.2.2.2.2.2.2.2.2.2.2.2.2.2.2.2.2.2.2
  have k21 : K.2.2 21 = 16 := hK.2.2.2.2.2.2.2.2.2.2.2.2.2.2.1
  have k11 : K.2.2 11 = 16 * (50 + n) := hK.2.2.2.2.2.2.1
  intro d
  induction d with
  | zero =>
    intro j f s v hn hj hf hla h hu hna
    obtain ⟨f, rfl⟩ : ∃ f', f = f' + 1 := ⟨f - 1, by omega⟩
    have e : l.drop j = [] := List.drop_eq_nil_of_le (by omega)
    rw [e]
    unfold l_V_landOldest_13_26
    exact wp_if (by rw [iN_le (by omega) (by omega)]; omega) (wp_rOl hu ⟨h, zHd_refl s⟩)
  | succ d ih =>
    intro j f s v hn hj hf hla h hu hna
    obtain ⟨f, rfl⟩ : ∃ f', f = f' + 1 := ⟨f - 1, by omega⟩
    have hjl : j < l.length := by omega
    obtain ⟨i, hi⟩ : ∃ i, i = l.getD j 0 := ⟨_, rfl⟩
    have exg : l[j]'hjl = i := by rw [hi, List.getD_eq_getElem?_getD, List.getElem?_eq_getElem hjl]; rfl
    have him : i < n := hin i (by rw [← exg]; exact List.getElem_mem _)
    have e : l.drop j = i :: l.drop (j + 1) := by rw [List.drop_eq_getElem_cons hjl, exg]
    have hlj := hla j hjl
    rw [← hi] at hlj
    rw [e] at hna ⊢
    have ew : ZVs.wrCopies (i :: l.drop (j + 1)) j v = ZVs.wrCopies (l.drop (j + 1)) (j + 1) (v.wr 0 (3 + j) (v.fn (50 + i))) := rfl
    rw [ew] at hna ⊢
    have hfr := (zfr_wrCopies (l.drop (j + 1)) (j + 1) (v.wr 0 (3 + j) (v.fn (50 + i)))).1
    unfold l_V_landOldest_13_26
    have a1 : ((50 : Int32) + iN i) * (16 : Int32) = iN (16 * (50 + i)) := by
      show (iN 50 + iN i) * _ = _
      rw [iN_add, iN_16]
    have a2 : (3 : Int32) + iN j = iN (3 + j) := iN_add 3 j
    rw [iN_nat (a := j) (by omega), hlj, a1, a2, iL1, iN_add]
    refine wp_ifn (by rw [iN_le (by omega) (by omega)]; omega) (wp_gd (by rw [k21]; exact iN_in (by omega) (by omega)) ?_)
    refine wp_cvl (c_put_3_11 K N n sets hK t s v.p h hu (3 + j) (16 * (50 + i)) (v.fn (50 + i)) (by omega) (fun w hw => h.2.1.2.2.2.2.2.2.2 (50 + i) w (by omega) hw) (by rw [k11]; omega) (Nat.lt_of_le_of_lt hfr.n1 hna)) (zHx_refl s) hfr.dn (fun u hu2 hR => ?_)
    refine wp_Ol (ih (j + 1) f u (v.wr 0 (3 + j) (v.fn (50 + i))) hn (by omega) (by omega) (by rw [hR.2.1 21 (by omega)]; exact hla) hR.1 hu2 hna) (zHd_x hR.2) (fun w _ hw => ⟨hw.1, zHd_trans hR.2 hw.2⟩)
/-- the list of the blocks -/
theorem c_list (K : px_K) (N n sets : Nat) (hK : zKc K n sets) (t : px_W) (l : List Nat) (hl : l.length ≤ 16) (v : ZVs) (hin : ∀ i ∈ l, i < n) (u1 : Int32) (s : px_S) (hla : zLa (s.2.2.1 21) l) (hb : ∀ i, i < n → s.2.2.1 16 i = iN (v.sb i - 1)) : ∀ (d j f : Nat) (g : Nat → Int32), j + d = l.length → d < f → (∀ w, w < 16 → g w = zList (l.take j) v.sb w) → ∃ g', l_V_landOldest_13_54 K N f u1 (iN l.length) (iN j) (sF s 20 g) t = some (.inl (71, [], sF s 20 g', t)) ∧ ∀ w, w < 16 → g' w = zList l v.sb w := by
  have hn64 : n ≤ 64 := hK.2.2.2.2.2.2.2.2.2.2.2.2.2.2.2.2.2.2.2.2
  have k21 : K.2.2 21 = 16 := hK.2.2.2.2.2.2.2.2.2.2.2.2.2.2.1
  have k20 : K.2.2 20 = 16 := hK.2.2.2.2.2.2.2.2.2.2.2.2.2.1
  have k16 : K.2.2 16 = n := hK.2.2.2.2.2.2.2.2.2.1
  intro d
  induction d with
  | zero =>
    intro j f g hj hf hg
    obtain ⟨f, rfl⟩ : ∃ f', f = f' + 1 := ⟨f - 1, by omega⟩
    refine ⟨g, ?_, ?_⟩
    · unfold l_V_landOldest_13_54
      rw [if_pos (by rw [iN_le (by omega) (by omega)]; omega)]
    · rw [List.take_of_length_le (by omega)] at hg; exact hg
  | succ d ih =>
    intro j f g hj hf hg
    obtain ⟨f, rfl⟩ : ∃ f', f = f' + 1 := ⟨f - 1, by omega⟩
    have hjl : j < l.length := by omega
    obtain ⟨i, hi⟩ : ∃ i, i = l.getD j 0 := ⟨_, rfl⟩
    have exg : l[j]'hjl = i := by rw [hi, List.getD_eq_getElem?_getD, List.getElem?_eq_getElem hjl]; rfl
    have him : i < n := hin i (by rw [← exg]; exact List.getElem_mem _)
    have hlj := hla j hjl
    rw [← hi] at hlj
    obtain ⟨g', q1, q2⟩ := ih (j + 1) f (upd g j (iN (v.sb i - 1))) (by omega) (by omega) (by
      intro w hw
      unfold zList
      rw [List.take_add_one, List.getElem?_eq_getElem hjl, exg]
      by_cases hwj : w = j
      · rw [hwj, upd_self, List.getElem?_append_right (by rw [List.length_take]; omega), List.length_take, Nat.min_eq_left (by omega), Nat.sub_self]; rfl
      · rw [upd_ne hwj, hg w hw]
        unfold zList
        by_cases hlt : w < j
        · rw [List.getElem?_append_left (by rw [List.length_take]; omega)]
        · rw [List.getElem?_eq_none (by rw [List.length_take]; omega), List.getElem?_eq_none (by rw [List.length_append, List.length_take]; show _ + 1 ≤ _; omega)])
    refine ⟨g', ?_, q2⟩
    have hdr : l_V_landOldest_13_54 K N (f + 1) u1 (iN l.length) (iN j) (sF s 20 g) t = l_V_landOldest_13_54 K N f u1 (iN l.length) (iN (j + 1)) (sF s 20 (upd g j (iN (v.sb i - 1)))) t := by
      conv => lhs; unfold l_V_landOldest_13_54
      rw [if_neg (by rw [iN_le (by omega) (by omega)]; omega), show (sF s 20 g).2.2.1 21 = s.2.2.1 21 from sF_arr_ne (by omega), show (sF s 20 g).2.2.1 16 = s.2.2.1 16 from sF_arr_ne (by omega), iN_nat (a := j) (by omega), hlj, iN_nat (a := i) (by omega), hb i him, px_gd_of ⟨by rw [k21]; exact iN_in (by omega) (by omega), by rw [k16]; exact iN_in (by omega) (by omega), by rw [k20]; exact iN_in (by omega) (by omega)⟩, sA_sF, iL1, iN_add]
      rfl
    rw [hdr, q1]
/-- chosen slots go home -/
theorem c_homes (K : px_K) (N n sets : Nat) (hK : zKc K n sets) (t : px_W) (l : List Nat) (hl : l.length ≤ 16) (u1 : Int32) : ∀ (d j f : Nat) (s : px_S) (v : ZVs), v.n = n → (∀ i ∈ l, i < n ∧ v.sb i - 1 < 106) → j + d = l.length → d < f → zLa (s.2.2.1 21) l → (∀ i, i < n → s.2.2.1 16 i = iN (v.sb i - 1)) → zCw n s v.p → v.p.up = true → (ZVs.wrHomes (l.drop j) v).p.na < 2305843009213693952 → wp (l_V_landOldest_13_98 K N f u1 (iN l.length) (iN j) s t) (zOl n 127 [] t s (ZVs.wrHomes (l.drop j) v).p (fun u => zCw n u (ZVs.wrHomes (l.drop j) v).p ∧ zHd s u)) := by
  have hn64 : n ≤ 64 := hK.2.2.2.2.2.2.2.2.2.2.2.2.2.2.2.2.2.2.2.2
  have k21 : K.2.2 21 = 16 := hK.2.2.2.2.2.2.2.2.2.2.2.2.2.2.1
  have k16 : K.2.2 16 = n := hK.2.2.2.2.2.2.2.2.2.1
  have k11 : K.2.2 11 = 16 * (50 + n) := hK.2.2.2.2.2.2.1
  intro d
  induction d with
  | zero =>
    intro j f s v hn hin hj hf hla hb h hu hna
    obtain ⟨f, rfl⟩ : ∃ f', f = f' + 1 := ⟨f - 1, by omega⟩
    have e : l.drop j = [] := List.drop_eq_nil_of_le (by omega)
    rw [e]
    unfold l_V_landOldest_13_98
    exact wp_if (by rw [iN_le (by omega) (by omega)]; omega) (wp_rOl hu ⟨h, zHd_refl s⟩)
  | succ d ih =>
    intro j f s v hn hin hj hf hla hb h hu hna
    obtain ⟨f, rfl⟩ : ∃ f', f = f' + 1 := ⟨f - 1, by omega⟩
    have hjl : j < l.length := by omega
    obtain ⟨i, hi⟩ : ∃ i, i = l.getD j 0 := ⟨_, rfl⟩
    have exg : l[j]'hjl = i := by rw [hi, List.getD_eq_getElem?_getD, List.getElem?_eq_getElem hjl]; rfl
    obtain ⟨him, hib⟩ := hin i (by rw [← exg]; exact List.getElem_mem _)
    have e : l.drop j = i :: l.drop (j + 1) := by rw [List.drop_eq_getElem_cons hjl, exg]
    have hlj := hla j hjl
    rw [← hi] at hlj
    rw [e] at hna ⊢
    have ew : ZVs.wrHomes (i :: l.drop (j + 1)) v = ZVs.wrHomes (l.drop (j + 1)) (v.wr 0 (19 + (v.sb i - 1)) (v.fn (50 + i))) := rfl
    rw [ew] at hna ⊢
    have hfr := (zfr_wrHomes (l.drop (j + 1)) (v.wr 0 (19 + (v.sb i - 1)) (v.fn (50 + i)))).1
    unfold l_V_landOldest_13_98
    have a1 : ((50 : Int32) + iN i) * (16 : Int32) = iN (16 * (50 + i)) := by
      show (iN 50 + iN i) * _ = _
      rw [iN_add, iN_16]
    have a2 : (19 : Int32) + iN (v.sb i - 1) = iN (19 + (v.sb i - 1)) := iN_add 19 _
    rw [iN_nat (a := j) (by omega), hlj, a1, iN_nat (a := i) (by omega), hb i him, a2, iL1, iN_add]
    refine wp_ifn (by rw [iN_le (by omega) (by omega)]; omega) (wp_gd ⟨by rw [k21]; exact iN_in (by omega) (by omega), by rw [k16]; exact iN_in (by omega) (by omega)⟩ (wp_gd (by rw [k21]; exact iN_in (by omega) (by omega)) ?_))
    refine wp_cvl (c_put_3_11 K N n sets hK t s v.p h hu (19 + (v.sb i - 1)) (16 * (50 + i)) (v.fn (50 + i)) (by omega) (fun w hw => h.2.1.2.2.2.2.2.2.2 (50 + i) w (by omega) hw) (by rw [k11]; omega) (Nat.lt_of_le_of_lt hfr.n1 hna)) (zHx_refl s) hfr.dn (fun u hu2 hR => ?_)
    refine wp_Ol (ih (j + 1) f u (v.wr 0 (19 + (v.sb i - 1)) (v.fn (50 + i))) hn hin (by omega) (by omega) (by rw [hR.2.1 21 (by omega)]; exact hla) (by rw [hR.2.1 16 (by omega)]; exact hb) hR.1 hu2 hna) (zHd_x hR.2) (fun w _ hw => ⟨hw.1, zHd_trans hR.2 hw.2⟩)
/-- chosen slots have landed -/
theorem c_setAll (K : px_K) (N n sets : Nat) (hN : 2000 ≤ N) (hK : zKc K n sets) (t : px_W) (v : ZVs) (hn : v.n = n) (hs : zSw v) (e : Nat) (he : 0 < e) (l : List Nat) (hl : l.length ≤ 16) (hnd : l.Nodup) (hL : ∀ i ∈ l, i < v.n ∧ v.se i = e) (u1 : Int32) : ∀ (d j f : Nat) (s : px_S), j + d = l.length → d < f → zLa (s.2.2.1 21) l → zCz s v → zCk s (zLst v (l.take j).reverse) → ∃ u, l_V_landOldest_13_147 K N f u1 (iN l.length) (iN j) s t = some (.inl (159, [], u, t)) ∧ zCk u (zLst v l.reverse) ∧ zHs s u ∧ u.2.2.1 19 = s.2.2.1 19 := by
  have hn64 : n ≤ 64 := hK.2.2.2.2.2.2.2.2.2.2.2.2.2.2.2.2.2.2.2.2
  have k21 : K.2.2 21 = 16 := hK.2.2.2.2.2.2.2.2.2.2.2.2.2.2.1
  intro d
  induction d with
  | zero =>
    intro j f s hj hf hla hz h
    obtain ⟨f, rfl⟩ : ∃ f', f = f' + 1 := ⟨f - 1, by omega⟩
    refine ⟨s, ?_, ?_, zHs_refl s, rfl⟩
    · unfold l_V_landOldest_13_147
      rw [if_pos (by rw [iN_le (by omega) (by omega)]; omega)]
    · rw [List.take_of_length_le (by omega)] at h; exact h
  | succ d ih =>
    intro j f s hj hf hla hz h
    obtain ⟨f, rfl⟩ : ∃ f', f = f' + 1 := ⟨f - 1, by omega⟩
    have hjl : j < l.length := by omega
    obtain ⟨i, hi⟩ : ∃ i, i = l.getD j 0 := ⟨_, rfl⟩
    have exg : l[j]'hjl = i := by rw [hi, List.getD_eq_getElem?_getD, List.getElem?_eq_getElem hjl]; rfl
    have him : i ∈ l := by rw [← exg]; exact List.getElem_mem _
    have hlj := hla j hjl
    rw [← hi] at hlj
    have hni : i ∉ (l.take j).reverse := by
      rw [List.mem_reverse]
      intro hx
      obtain ⟨q, hq, e2⟩ := List.getElem_of_mem hx
      rw [List.length_take] at hq
      rw [List.getElem_take] at e2
      have := (List.getElem_inj hnd).mp (e2.trans exg.symm)
      omega
    obtain ⟨u, q1, q2, q3, q4⟩ := c_setLanded K N n sets hN hK t s v hn hz hs e he (l.take j).reverse (fun q hq => hL q (List.mem_of_mem_take (List.mem_reverse.mp hq))) i (hL i him).1 (hL i him).2 hni h
    have etk : (l.take (j + 1)).reverse = i :: (l.take j).reverse := by
      rw [List.take_add_one, List.getElem?_eq_getElem hjl, exg]; simp
    obtain ⟨u2, r1, r2, r3, r4⟩ := ih (j + 1) f u (by omega) (by omega) (by rw [q3.1 21 (by omega)]; exact hla) (zCz_of hz (fun r _ => by rw [q3.2.1])) (by rw [etk]; exact q2)
    refine ⟨u2, ?_, r2, zHs_trans q3 r3, r4.trans q4⟩
    have hin : i < v.n := (hL i him).1
    have hdr : l_V_landOldest_13_147 K N (f + 1) u1 (iN l.length) (iN j) s t = l_V_landOldest_13_147 K N f u1 (iN l.length) (iN (j + 1)) u t := by
      conv => lhs; unfold l_V_landOldest_13_147
      rw [if_neg (by rw [iN_le (by omega) (by omega)]; omega), iN_nat (a := j) (by omega), hlj, px_gd_of (by rw [k21]; exact iN_in (by omega) (by omega)), q1, iL1, iN_add]
      rfl
    rw [hdr, r1]

/-! THE CLASS: a landing -/
def zHe (s u : px_S) : Prop := (∀ c, 13 ≤ c → c ≠ 20 → c ≠ 21 → u.2.2.1 c = s.2.2.1 c) ∧ (∀ r, (r = 0 ∨ r = 1 ∨ r = 6 ∨ 10 < r) → u.1 r = s.1 r) ∧ (∀ r, 0 < r → u.2.1 r = s.2.1 r) ∧ u.2.2.2 = s.2.2.2
theorem zHe_refl (s : px_S) : zHe s s := ⟨fun _ _ _ _ => rfl, fun _ _ => rfl, fun _ _ => rfl, rfl⟩
theorem zHe_trans {s u v : px_S} (h1 : zHe s u) (h2 : zHe u v) : zHe s v := ⟨fun c a b d => (h2.1 c a b d).trans (h1.1 c a b d), fun r hr => (h2.2.1 r hr).trans (h1.2.1 r hr), fun r hr => (h2.2.2.1 r hr).trans (h1.2.2.1 r hr), h2.2.2.2.trans h1.2.2.2⟩
theorem zHd_e {s u : px_S} (h : zHd s u) : zHe s u := ⟨fun c hc _ _ => h.1 c hc, h.2.1, h.2.2.1, h.2.2.2⟩
theorem zHw_e {s u : px_S} (h : zHw s u) : zHe s u := ⟨fun c _ h1 h2 => h.1 c h1 h2, fun r _ => by rw [h.2.1], fun r _ => by rw [h.2.2.1], h.2.2.2⟩
theorem zHe_v {s u : px_S} (h : zHe s u) : zHv s u := ⟨fun c hc => h.1 c (by omega) (by omega) (by omega), fun r hr => h.2.1 r (by omega), h.2.2.1, h.2.2.2⟩
theorem zHe_x {s u : px_S} (h : zHe s u) : zHx s u := zHv_x (zHe_v h)
/-- a volume whose power alone has changed -/
theorem zCf_e {s u : px_S} {v w : ZVs} (h : zCf s v) (he : zHe s u) (hm : ZSm v w) (hn : w.n = v.n) (hs : w.sets = v.sets) (h1 : w.half = v.half) (h2 : w.gen = v.gen) (h3 : w.plc = v.plc) : zCf u w := by
  obtain ⟨g1, g2, g3, g4, g5, g6, g7⟩ := h
  obtain ⟨m1, m2, m3, m4, m5⟩ := hm
  have ed : w.dirty w.opn = v.dirty v.opn := by
    show (zDl w.se w.opn w.n).length = (zDl v.se v.opn v.n).length
    rw [m2, m5, hn]
  refine ⟨by rw [he.2.1 13 (by omega), h1]; exact g1, by rw [he.2.1 14 (by omega), h2]; exact g2, by rw [he.2.1 15 (by omega), h3]; exact g3, by rw [he.2.1 16 (by omega), m5]; exact g4, by rw [he.2.1 17 (by omega), ed]; exact g5, ?_, ?_⟩
  · exact zCk_v (zCk_of g6 (fun a h1 h2 => he.1 a (by omega) (by omega) (by omega))) hn (fun i _ => by rw [m1, m2, m3]; exact ⟨rfl, rfl, rfl⟩)
  · intro k hk
    rw [he.1 19 (by omega) (by omega) (by omega), m4]
    exact g7 k (by rw [← hs]; exact hk)
theorem zSw_v {v w : ZVs} (h : zSw v) (hm : ZSm v w) (h1 : w.sets = v.sets) (h2 : w.ways = v.ways) (h3 : w.eps = v.eps) : zSw w := by
  obtain ⟨m1, m2, m3, m4, m5⟩ := hm
  refine zSw_p h h1 h2 h3 m5 m2 (fun i _ => Or.inl (by rw [m1])) (fun set => ?_)
  rw [m4]; exact h.2.2.2.2.2.2 set
theorem c_land1 {P : Nat → ZSt → Prop} (K : px_K) (N n sets : Nat) (hN : 2000 ≤ N) (hK : zKc K n sets) (t : px_W) (s : px_S) (v : ZVs) (hn : v.n = n) (h : zCv s v) (hu : v.p.up = true) (hR : ZRf P v) (hb : v.p.na + 1000 < 2147483648) : wp (f_V_landOldest_13 K N s t) (zO n (some (.int (iN v.land1.1))) t s v.land1.2.p (fun u => zCv u v.land1.2 ∧ zHv s u)) := by
  have hn64 : n ≤ 64 := hK.2.2.2.2.2.2.2.2.2.2.2.2.2.2.2.2.2.2.2.2
  have k20 : K.2.2 20 = 16 := hK.2.2.2.2.2.2.2.2.2.2.2.2.2.1
  have hz := hR.toZRm.sz
  have hsw := zSw_of hR.toZRm (by omega)
  have hwf := hR.toZRm.wf
  have hLw : v.dn 1 1 = iN v.landed := hR.toZRm.hd.hL
  have hLo := hR.toZRm.fl.hLo
  have hon := hR.toZRm.n2
  obtain ⟨hcw, hcz, hcf⟩ := h
  have hcf := hcf hwf
  rw [hn] at hcw
  have hlan := c_landed K N n sets hK t s (v.p.dv 0) hcw.1
  rw [show (v.p.dv 0).now 1 1 = iN v.landed from hLw] at hlan
  have e16 : s.1 16 = iN v.opn := hcf.2.2.2.1
  unfold f_V_landOldest_13
  refine wp_bi hlan ?_
  rw [iL1, iN_add, e16]
  by_cases hlt : v.landed + 1 < v.opn
  · have el : v.land1 = (v.landed + 1, ZVs.landOf (v.landed + 1) v) := by unfold ZVs.land1; rw [if_pos hlt]
    rw [el]
    show wp _ (zO n (some (.int (iN (v.landed + 1)))) t s (ZVs.landOf (v.landed + 1) v).p (fun u => zCv u (ZVs.landOf (v.landed + 1) v) ∧ zHv s u))
    obtain ⟨e, he⟩ : ∃ e, e = v.landed + 1 := ⟨_, rfl⟩
    rw [← he]
    rw [← he] at hlt
    have he0 : 0 < e := by omega
    have heb : e < 2147483648 := by omega
    have h16 : v.dirty e ≤ 16 := hR.toZRm.fl.tc e he0 hlt
    refine wp_if (by rw [iN_lt (by omega) (by omega)]; exact hlt) ?_
    obtain ⟨A, ga1, ga2⟩ := c_gather K N n sets hN hK t s v hn hcf.2.2.2.2.2.1 hcz hsw e he0 heb h16
    refine wp_bi ga1 ?_
    have hmem : ∀ i, i ∈ v.dl e ↔ i < v.n ∧ v.se i = e := fun i => mem_zDl
    have hnd : (v.dl e).Nodup := zDl_nodup _ _ _
    have hsb1 : ∀ i, i < v.n → v.se i = e → 1 ≤ v.sb i ∧ v.sb i ≤ 106 := by
      intro i hi hie
      have h1 : v.sb i ≠ 0 := fun hx => by have := hsw.2.2.1 i hi hx; omega
      have := (hsw.2.2.2.2.1 i hi h1).1
      omega
    have hinj : ∀ x ∈ v.dl e, ∀ y ∈ v.dl e, v.sb x = v.sb y → x = y := by
      intro x hx y hy hxy
      obtain ⟨x1, x2⟩ := (hmem x).mp hx
      obtain ⟨y1, y2⟩ := (hmem y).mp hy
      exact hsw.2.2.2.2.2.1 x y x1 y1 (by have := hsb1 x x1 x2; omega) hxy (Or.inl (by rw [x2, y2]))
    have hblk : ∀ i, i < n → s.2.2.1 16 i = iN (v.sb i - 1) := fun i hi => (hcf.2.2.2.2.2.1 i (by omega)).2.1
    obtain ⟨B, gb1, gb2⟩ := c_sort K N n sets hN hK t (sF s 21 A) v.sb (v.dl e) h16 hnd hinj (fun i hi => by
      obtain ⟨i1, i2⟩ := (hmem i).mp hi
      rw [sF_arr_ne (by omega)]
      exact ⟨by omega, hblk i (by omega), hsb1 i i1 i2⟩) (by rw [sF_arr]; exact ga2)
    rw [sF_sF] at gb1
    refine wp_bv gb1 ?_
    have hlen : (v.dl e).length = (zSort v.sb (v.dl e)).length := (zSort_len _ _).symm
    have hmemL : ∀ i, i ∈ zSort v.sb (v.dl e) ↔ i < v.n ∧ v.se i = e := fun i => by rw [mem_zSort, hmem]
    have hsort := zSort_sorted hnd hinj
    have hLof : ZVs.landOf e v = ZVs.setLanded e ((((ZVs.wrHomes (zSort v.sb (v.dl e)) ((((((ZVs.wrCopies (zSort v.sb (v.dl e)) 0 v).wr 0 2 (zList (zSort v.sb (v.dl e)) v.sb)).fl 0).wr 0 1 (zThree 1 e (zSort v.sb (v.dl e)).length)).fl 0))).fl 0).wr 0 1 (zThree 0 e 0)).fl 0).n ((((ZVs.wrHomes (zSort v.sb (v.dl e)) ((((((ZVs.wrCopies (zSort v.sb (v.dl e)) 0 v).wr 0 2 (zList (zSort v.sb (v.dl e)) v.sb)).fl 0).wr 0 1 (zThree 1 e (zSort v.sb (v.dl e)).length)).fl 0))).fl 0).wr 0 1 (zThree 0 e 0)).fl 0) := rfl
    have hfall := zfr_landOf e v hz
    rw [hlen]
    obtain ⟨L, hL⟩ : ∃ L, L = zSort v.sb (v.dl e) := ⟨_, rfl⟩
    rw [← hL] at hLof hmemL hsort gb2 hlen
    rw [← hL]
    have hL16 : L.length ≤ 16 := by rw [← hlen]; exact h16
    have hndL : L.Nodup := hsort.imp (fun {a b} hab hx => by rw [hx] at hab; omega)
    -- the steps
    obtain ⟨v1, hv1⟩ : ∃ v1, v1 = ZVs.wrCopies L 0 v := ⟨_, rfl⟩
    rw [← hv1] at hLof
    obtain ⟨v2a, hv2a⟩ : ∃ v2a, v2a = v1.wr 0 2 (zList L v.sb) := ⟨_, rfl⟩
    rw [← hv2a] at hLof
    obtain ⟨v2, hv2⟩ : ∃ v2, v2 = v2a.fl 0 := ⟨_, rfl⟩
    rw [← hv2] at hLof
    obtain ⟨v3a, hv3a⟩ : ∃ v3a, v3a = v2.wr 0 1 (zThree 1 e L.length) := ⟨_, rfl⟩
    rw [← hv3a] at hLof
    obtain ⟨v3, hv3⟩ : ∃ v3, v3 = v3a.fl 0 := ⟨_, rfl⟩
    rw [← hv3] at hLof
    obtain ⟨v4a, hv4a⟩ : ∃ v4a, v4a = ZVs.wrHomes L v3 := ⟨_, rfl⟩
    rw [← hv4a] at hLof
    obtain ⟨v4, hv4⟩ : ∃ v4, v4 = v4a.fl 0 := ⟨_, rfl⟩
    rw [← hv4] at hLof
    obtain ⟨v5a, hv5a⟩ : ∃ v5a, v5a = v4.wr 0 1 (zThree 0 e 0) := ⟨_, rfl⟩
    rw [← hv5a] at hLof
    obtain ⟨v5, hv5⟩ : ∃ v5, v5 = v5a.fl 0 := ⟨_, rfl⟩
    rw [← hv5] at hLof
    rw [hLof] at hfall
    rw [hLof]
    obtain ⟨vf, hvf⟩ : ∃ vf, vf = ZVs.setLanded e v5.n v5 := ⟨_, rfl⟩
    rw [← hvf] at hfall
    rw [← hvf]
    have hvfp : vf.p = v5.p := by rw [hvf]; exact (zfr_setLanded e v5.n v5).2.1
    -- frames of the spec
    have F5 : ZFr 0 v5 vf := by rw [hvf]; exact (zfr_setLanded e v5.n v5).1
    have F5a : ZFr (1 + 0) v5a vf := ZFr.trans (by rw [hv5]; exact zfr_fl v5a 0) F5
    have F4 : ZFr (1 + (1 + 0)) v4 vf := ZFr.trans (by rw [hv5a]; exact zfr_wr v4 0 1 _) F5a
    have F4a : ZFr (1 + (1 + (1 + 0))) v4a vf := ZFr.trans (by rw [hv4]; exact zfr_fl v4a 0) F4
    have F3 : ZFr (L.length + (1 + (1 + (1 + 0)))) v3 vf := ZFr.trans (by rw [hv4a]; exact (zfr_wrHomes L v3).1) F4a
    have F3a : ZFr (1 + (L.length + (1 + (1 + (1 + 0))))) v3a vf := ZFr.trans (by rw [hv3]; exact zfr_fl v3a 0) F3
    have F2 : ZFr (1 + (1 + (L.length + (1 + (1 + (1 + 0)))))) v2 vf := ZFr.trans (by rw [hv3a]; exact zfr_wr v2 0 1 _) F3a
    have F2a : ZFr (1 + (1 + (1 + (L.length + (1 + (1 + (1 + 0))))))) v2a vf := ZFr.trans (by rw [hv2]; exact zfr_fl v2a 0) F2
    have F1 : ZFr (1 + (1 + (1 + (1 + (L.length + (1 + (1 + (1 + 0)))))))) v1 vf := ZFr.trans (by rw [hv2a]; exact zfr_wr v1 0 2 _) F2a
    have hnaf : vf.p.na < 2305843009213693952 := by have := hfall.1.n2; omega
    have hS1 : ZSame v v1 := by rw [hv1]; exact (zfr_wrCopies L 0 v).2
    have hS3 : ZSame v v3 := by rw [hv3, hv3a, hv2, hv2a]; exact hS1
    have hS4a : ZSame v3 v4a := by rw [hv4a]; exact (zfr_wrHomes L v3).2
    have hS5' : ZSame v3 v5 := by rw [hv5, hv5a, hv4]; exact hS4a
    have hS5 : ZSm v v5 := ⟨hS5'.1.1.trans hS3.1.1, hS5'.1.2.1.trans hS3.1.2.1, hS5'.1.2.2.1.trans hS3.1.2.2.1, hS5'.1.2.2.2.1.trans hS3.1.2.2.2.1, hS5'.1.2.2.2.2.trans hS3.1.2.2.2.2⟩
    have n5 : v5.n = v.n := (zFr_n F5).symm.trans (zFr_n hfall.1)
    have n3 : v3.n = v.n := (zFr_n F3).symm.trans (zFr_n hfall.1)
    -- copies
    have hcw1 : zCw n (sF s 21 B) v.p := zCw_w hcw (zHw_sF (Or.inr rfl))
    have hd0 := c_copies K N n sets hK t L hL16 (fun i hi => by have := ((hmemL i).mp hi).1; omega) (iN e) L.length 0 N (sF s 21 B) v hn (by omega) (by omega) (by rw [sF_arr]; exact gb2) hcw1 hu (by
      show (ZVs.wrCopies L 0 v).p.na < _
      rw [← hv1]; exact Nat.lt_of_le_of_lt F1.n1 hnaf)
    rw [show ZVs.wrCopies (L.drop 0) 0 v = v1 from hv1.symm] at hd0
    refine wp_cl hd0 (zHx_trans (zHw_x (zHw_sF (Or.inr rfl))) (zHx_refl _)) F1.dn (fun u1 up1 hu1 => wp_if rfl (wp_v0 ?_))
    have hE1 : zHe s u1 := zHe_trans (zHw_e (zHw_sF (Or.inr rfl))) (zHd_e hu1.2)
    have la1 : zLa (u1.2.2.1 21) L := by rw [hu1.2.1 21 (by omega), sF_arr]; exact gb2
    -- the list
    refine wp_bv (c_fill_20 K N hN t 0 u1 16 k20 (by omega)) ?_
    obtain ⟨g, gl1, gl2⟩ := c_list K N n sets hK t L hL16 v (fun i hi => by have := ((hmemL i).mp hi).1; omega) (iN e) u1 la1 (fun i hi => by rw [hE1.1 16 (by omega) (by omega) (by omega)]; exact hblk i hi) L.length 0 N (fun j => if j < 16 then 0 else u1.2.2.1 20 j) (by omega) (by omega) (fun w hw => by
      show (if w < 16 then (0 : Int32) else _) = zList [] v.sb w
      rw [if_pos hw]; rfl)
    refine wp_lp gl1 (wp_if rfl (wp_v0 ?_))
    have hE1b : zHe s (sF u1 20 g) := zHe_trans hE1 (zHw_e (zHw_sF (Or.inl rfl)))
    have c1 : zCw n (sF u1 20 g) v1.p := zCw_w hu1.1 (zHw_sF (Or.inl rfl))
    have up2 := c_put_3_20 K N n sets hK t (sF u1 20 g) v1.p c1 up1 2 0 (zList L v.sb) (by omega) (fun w hw => by rw [sF_arr, Nat.zero_add]; exact gl2 w hw) (by rw [k20]; omega) (by
      show (v1.wr 0 2 (zList L v.sb)).p.na < _
      rw [← hv2a]; exact Nat.lt_of_le_of_lt F2a.n1 hnaf)
    rw [show v1.p.wr 0 2 (zList L v.sb) = v2a.p by rw [hv2a]; rfl] at up2
    refine wp_cv up2 (zHe_x hE1b) F2a.dn (fun u2 up2 hu2 => ?_)
    have hE2 := zHe_trans hE1b (zHd_e hu2.2)
    have la2 : zLa (u2.2.2.1 21) L := by rw [hu2.2.1 21 (by omega), sF_arr_ne (by omega)]; exact la1
    have fl2 := c_flush_3 K N n sets hN hK t u2 v2a.p hu2.1 up2 (by
      show (v2a.fl 0).p.na < _
      rw [← hv2]; exact Nat.lt_of_le_of_lt F2.n1 hnaf)
    rw [show v2a.p.fl 0 = v2.p by rw [hv2]; rfl] at fl2
    refine wp_cv fl2 (zHe_x hE2) F2.dn (fun u3 up3 hu3 => ?_)
    have hE3 := zHe_trans hE2 (zHd_e hu3.2)
    have la3 : zLa (u3.2.2.1 21) L := by rw [hu3.2.1 21 (by omega)]; exact la2
    -- the head
    obtain ⟨g2, r1, r2⟩ := c_setRow K N n sets hN hK t u3 1 e L.length 1 (iN e) (iN L.length) rfl rfl rfl
    refine wp_bv r1 ?_
    have hE3b : zHe s (sF u3 20 g2) := zHe_trans hE3 (zHw_e (zHw_sF (Or.inl rfl)))
    have c3 : zCw n (sF u3 20 g2) v2.p := zCw_w hu3.1 (zHw_sF (Or.inl rfl))
    have w3 := c_put_3_20 K N n sets hK t (sF u3 20 g2) v2.p c3 up3 1 0 (zThree 1 e L.length) (by omega) (fun w hw => by rw [sF_arr, Nat.zero_add]; exact r2 w hw) (by rw [k20]; omega) (by
      show (v2.wr 0 1 (zThree 1 e L.length)).p.na < _
      rw [← hv3a]; exact Nat.lt_of_le_of_lt F3a.n1 hnaf)
    rw [show v2.p.wr 0 1 (zThree 1 e L.length) = v3a.p by rw [hv3a]; rfl] at w3
    refine wp_cv w3 (zHe_x hE3b) F3a.dn (fun u4 up4 hu4 => ?_)
    have hE4 := zHe_trans hE3b (zHd_e hu4.2)
    have la4 : zLa (u4.2.2.1 21) L := by rw [hu4.2.1 21 (by omega), sF_arr_ne (by omega)]; exact la3
    have fl4 := c_flush_3 K N n sets hN hK t u4 v3a.p hu4.1 up4 (by
      show (v3a.fl 0).p.na < _
      rw [← hv3]; exact Nat.lt_of_le_of_lt F3.n1 hnaf)
    rw [show v3a.p.fl 0 = v3.p by rw [hv3]; rfl] at fl4
    refine wp_cv fl4 (zHe_x hE4) F3.dn (fun u5 up5 hu5 => ?_)
    have hE5 := zHe_trans hE4 (zHd_e hu5.2)
    have la5 : zLa (u5.2.2.1 21) L := by rw [hu5.2.1 21 (by omega)]; exact la4
    -- home
    have hh := c_homes K N n sets hK t L hL16 (iN e) L.length 0 N u5 v3 (by rw [n3, hn]) (fun i hi => by
      obtain ⟨i1, i2⟩ := (hmemL i).mp hi
      rw [hS3.1.1]
      have := hsb1 i i1 i2
      omega) (by omega) (by omega) la5 (fun i hi => by rw [hE5.1 16 (by omega) (by omega) (by omega), hS3.1.1]; exact hblk i hi) hu5.1 up5 (by
      show (ZVs.wrHomes L v3).p.na < _
      rw [← hv4a]; exact Nat.lt_of_le_of_lt F4a.n1 hnaf)
    rw [show ZVs.wrHomes (L.drop 0) v3 = v4a from hv4a.symm] at hh
    refine wp_cl hh (zHe_x hE5) F4a.dn (fun u6 up6 hu6 => wp_if rfl (wp_v0 ?_))
    have hE6 := zHe_trans hE5 (zHd_e hu6.2)
    have la6 : zLa (u6.2.2.1 21) L := by rw [hu6.2.1 21 (by omega)]; exact la5
    have fl6 := c_flush_3 K N n sets hN hK t u6 v4a.p hu6.1 up6 (by
      show (v4a.fl 0).p.na < _
      rw [← hv4]; exact Nat.lt_of_le_of_lt F4.n1 hnaf)
    rw [show v4a.p.fl 0 = v4.p by rw [hv4]; rfl] at fl6
    refine wp_cv fl6 (zHe_x hE6) F4.dn (fun u7 up7 hu7 => ?_)
    have hE7 := zHe_trans hE6 (zHd_e hu7.2)
    have la7 : zLa (u7.2.2.1 21) L := by rw [hu7.2.1 21 (by omega)]; exact la6
    obtain ⟨g3, r3, r4⟩ := c_setRow K N n sets hN hK t u7 0 e 0 0 (iN e) 0 rfl rfl rfl
    refine wp_bv r3 ?_
    have hE7b : zHe s (sF u7 20 g3) := zHe_trans hE7 (zHw_e (zHw_sF (Or.inl rfl)))
    have c7 : zCw n (sF u7 20 g3) v4.p := zCw_w hu7.1 (zHw_sF (Or.inl rfl))
    have w7 := c_put_3_20 K N n sets hK t (sF u7 20 g3) v4.p c7 up7 1 0 (zThree 0 e 0) (by omega) (fun w hw => by rw [sF_arr, Nat.zero_add]; exact r4 w hw) (by rw [k20]; omega) (by
      show (v4.wr 0 1 (zThree 0 e 0)).p.na < _
      rw [← hv5a]; exact Nat.lt_of_le_of_lt F5a.n1 hnaf)
    rw [show v4.p.wr 0 1 (zThree 0 e 0) = v5a.p by rw [hv5a]; rfl] at w7
    refine wp_cv w7 (zHe_x hE7b) F5a.dn (fun u8 up8 hu8 => ?_)
    have hE8 := zHe_trans hE7b (zHd_e hu8.2)
    have la8 : zLa (u8.2.2.1 21) L := by rw [hu8.2.1 21 (by omega), sF_arr_ne (by omega)]; exact la7
    have fl8 := c_flush_3 K N n sets hN hK t u8 v5a.p hu8.1 up8 (by
      show (v5a.fl 0).p.na < _
      rw [← hv5]; exact Nat.lt_of_le_of_lt F5.n1 hnaf)
    rw [show v5a.p.fl 0 = v5.p by rw [hv5]; rfl] at fl8
    refine wp_cv fl8 (zHe_x hE8) F5.dn (fun u9 up9 hu9 => ?_)
    have hE9 := zHe_trans hE8 (zHd_e hu9.2)
    have la9 : zLa (u9.2.2.1 21) L := by rw [hu9.2.1 21 (by omega)]; exact la8
    -- landed
    have z5 : v5.sets = v.sets ∧ v5.ways = v.ways ∧ v5.eps = v.eps ∧ v5.wf = v.wf := ⟨F5.s.symm.trans hfall.1.s, F5.w.symm.trans hfall.1.w, F5.e.symm.trans hfall.1.e, F5.wf.symm.trans hfall.1.wf⟩
    have hsw5 : zSw v5 := zSw_v hsw hS5 z5.1 z5.2.1 z5.2.2.1
    have hcf9 : zCf u9 v5 := zCf_e hcf hE9 hS5 n5 z5.1 (hS5'.2.2.1.trans hS3.2.2.1) (hS5'.2.1.trans hS3.2.1) (hS5'.2.2.2.trans hS3.2.2.2)
    have hcz9 : zCz u9 v5 := zCz_v (zCz_of hcz (fun r hr => hE9.2.1 r (by omega))) z5.1 z5.2.1 z5.2.2.1 z5.2.2.2
    have hmem5 : ∀ i, i ∈ L ↔ i < v5.n ∧ v5.se i = e := fun i => by rw [n5, hS5.2.1]; exact hmemL i
    have hl0 : zLst v5 (L.take 0).reverse = zLst v5 [] := rfl
    obtain ⟨u10, q1, q2, q3, q4⟩ := c_setAll K N n sets hN hK t v5 (by rw [n5, hn]) hsw5 e he0 L hL16 hndL (fun i hi => (hmem5 i).mp hi) (iN e) L.length 0 N u9 (by omega) (by omega) la9 hcz9 (by
      refine zCk_v hcf9.2.2.2.2.2.1 rfl (fun i _ => ⟨?_, ?_, ?_⟩)
      · exact if_neg (fun hx => absurd hx.1 List.not_mem_nil)
      · show (if i ∈ ([] : List Nat) then 0 else v5.se i) = v5.se i
        exact if_neg List.not_mem_nil
      · exact if_neg (fun hx => absurd hx.1 List.not_mem_nil))
    refine wp_lp q1 (wp_if rfl (wp_v0 (wp_rO (by rw [hvfp]; exact up9) ?_)))
    have hnf : vf.n = v5.n := zFr_n F5
    obtain ⟨s1, s2, s3, s4, s5, s6, s7⟩ := zfr_setLanded e v5.n v5
    rw [← hvf] at s1 s2 s3 s4 s5 s6 s7
    refine ⟨⟨?_, ?_, fun _ => ⟨?_, ?_, ?_, ?_, ?_, ?_, ?_⟩⟩, zHv_trans (zHe_v hE9) (zHs_v q3)⟩
    · rw [hnf, n5, hn, hvfp]; exact zCw_s hu9.1 q3
    · exact zCz_v (zCz_of hcz9 (fun r _ => by rw [q3.2.1])) s1.s s1.w s1.e s1.wf
    · rw [q3.2.1, s5]; exact hcf9.1
    · rw [q3.2.1, s4]; exact hcf9.2.1
    · rw [q3.2.1, s6]; exact hcf9.2.2.1
    · rw [q3.2.1, s3]; exact hcf9.2.2.2.1
    · rw [q3.2.1, hcf9.2.2.2.2.1]
      congr 1
      show (zDl v5.se v5.opn v5.n).length = (zDl vf.se vf.opn vf.n).length
      rw [s3, hnf]
      congr 1
      refine zDl_congr (fun i hi => ?_)
      have hspec := (setLanded_spec he0 hsw5.2.2.1 hsw5.2.2.2.2.2.1 v5.n (Nat.le_refl _) i).1
      rw [← hvf, if_pos hi] at hspec
      rw [hspec]
      have ho5 : v5.opn = v.opn := hS5.2.2.2.2
      rw [ho5]
      unfold zOff
      by_cases hc : v5.se i = e
      · rw [if_pos hc]; omega
      · rw [if_neg hc]
    · refine zCk_v q2 hnf (fun i hi => ?_)
      have hi : i < v5.n := hi
      obtain ⟨a1, a2, a3⟩ := zLst_done hsw5 he0 L.reverse (fun j => by rw [List.mem_reverse]; exact hmem5 j) i hi
      rw [hvf]; exact ⟨a1, a2, a3⟩
    · intro k hk
      rw [q4, s7]
      exact hcf9.2.2.2.2.2.2 k (by rw [s1.s] at hk; exact hk)
  · have el : v.land1 = (0, v) := by unfold ZVs.land1; rw [if_neg hlt]
    rw [el]
    refine wp_ifn (by rw [iN_lt (by omega) (by omega)]; exact hlt) (wp_rO hu ⟨⟨by rw [hn]; exact hcw, hcz, fun _ => hcf⟩, zHv_refl s⟩)

