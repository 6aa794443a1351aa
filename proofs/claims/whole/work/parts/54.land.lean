theorem n32_1 : n32 1 = 1 := rfl
theorem zov_cp_out {d f : ZSt} {l : List Nat} {b : Nat} (hl : l.length ≤ 16) (h : b < 3 ∨ 18 < b) : zov d (zCp f l 0) b = d b := by
  refine zov_notin (fun e he hh => ?_)
  have := zCp_key he
  omega
theorem zPairs_eq {d : ZSt} {f : ZSt} {sb : Nat → Nat} {l : List Nat} (h2 : ∀ j (hj : j < l.length), d 2 j = iN (sb l[j] - 1)) (h3 : ∀ j (hj : j < l.length), d (3 + j) = f (50 + l[j])) (hb : ∀ s ∈ l, sb s ≤ 106) : zPairs d l.length = l.map fun s => (sb s - 1, f (50 + s)) := by
  unfold zPairs
  apply List.ext_getElem
  · simp
  · intro i h1 _
    have hi : i < l.length := by simpa using h1
    simp only [List.getElem_map, List.getElem_range]
    rw [h2 i hi, h3 i hi, n32_iN]
    have := hb l[i] (List.getElem_mem hi)
    omega
section
theorem ZRf.landOf {P : Nat → ZSt → Prop} (hP : ∀ m m' V, m ≤ m' → P m V → P m' V) {v : ZVs} (h : ZRf P v) (hL : v.landed + 1 < v.opn) (hb : v.p.na + 1 < 2147483648) : ZOk P (fun u => ZRf P u ∧ u.cur = v.cur ∧ u.landed = v.landed + 1 ∧ u.opn = v.opn ∧ u.plc = v.plc ∧ u.gen = v.gen ∧ u.half = v.half ∧ (∀ s, s < v.n → u.se s = zOff v.se (v.landed + 1) s) ∧ (∀ s, s < v.n → v.se s ≠ v.landed + 1 → u.sb s = v.sb s) ∧ u.p.dv 1 = v.p.dv 1) (ZVs.landOf (v.landed + 1) v) := by
  have hn2 := h.n2
  have hE : v.landed + 1 < 2147483648 := by omega
  unfold ZVs.landOf
  dsimp only
  have hmem : ∀ s, s ∈ zSort v.sb (v.dl (v.landed + 1)) ↔ s < v.n ∧ v.se s = v.landed + 1 := fun s => by rw [mem_zSort]; exact mem_zDl
  have hlen : (zSort v.sb (v.dl (v.landed + 1))).length ≤ 16 := by rw [zSort_len]; exact h.fl.tc _ (by omega) hL
  generalize zSort v.sb (v.dl (v.landed + 1)) = l at *
  generalize he : v.landed + 1 = e at *
  have hl16 : n32 (iN l.length) = l.length := n32_iN (by omega)
  have hblk : ∀ s ∈ l, 1 ≤ v.sb s ∧ v.sb s ≤ 106 := by
    intro s hs
    have := (hmem s).mp hs
    have q := h.fl.tb s this.1 (by omega) (by omega)
    exact ⟨q.2.1, q.2.2.1⟩
  have hz0 : zDisc v.dn = zHome v.dn := zDisc_0 h.h0
  have hV1 : zov (zHome v.dn) (l.map fun s => (v.sb s - 1, v.fn (50 + s))) = zVol (zDisc v.dn) v.fn v.sb v.se v.n e := by
    funext b
    unfold zVol
    by_cases hex : ∃ s, s ∈ l ∧ v.sb s = b + 1
    · obtain ⟨s, hs1, hs2⟩ := hex
      have hsm := (hmem s).mp hs1
      have hN : zNew (zUp v.sb v.se e) v.se b v.n = some s := by
        refine zNew_eq (fun i hi hui hse => ?_) hsm.1 (zUp_eq.mpr ⟨by omega, by omega, hs2⟩) (fun i hi hui => ?_)
        · obtain ⟨p1, p2, p3⟩ := zUp_eq.mp hui
          exact h.fl.tu i s hi hsm.1 p1 (by omega) hse (by omega)
        · obtain ⟨p1, p2, p3⟩ := zUp_eq.mp hui; omega
      rw [hN]
      refine zov_all (fun e' he' hb' => ?_) (Or.inr ⟨(v.sb s - 1, v.fn (50 + s)), List.mem_map.mpr ⟨s, hs1, rfl⟩, by dsimp only; omega⟩)
      obtain ⟨t, ht, rfl⟩ := List.mem_map.mp he'
      dsimp only at hb' ⊢
      have htm := (hmem t).mp ht
      have := hblk t ht
      have hts : t = s := h.fl.tu t s htm.1 hsm.1 (by omega) (by omega) (by omega) (by omega)
      rw [hts]
    · have hN : zNew (zUp v.sb v.se e) v.se b v.n = none := by
        refine zNew_none.mpr (fun s hs hu => ?_)
        obtain ⟨p1, p2, p3⟩ := zUp_eq.mp hu
        have := (h.fl.tb s hs p1 (by omega)).1
        exact hex ⟨s, (hmem s).mpr ⟨hs, by omega⟩, p3⟩
      rw [hN, hz0]
      dsimp only
      refine zov_notin (fun e' he' hb' => ?_)
      obtain ⟨t, ht, rfl⟩ := List.mem_map.mp he'
      dsimp only at hb'
      have := hblk t ht
      exact hex ⟨t, ht, by omega⟩
  -- phase A: copies and list
  let QA : Nat → ZSt → Prop := fun k => if k = 0 then fun sd => ∀ b, b < 2 ∨ 18 < b → sd b = v.dn b else ZQf v
  have okA : ∀ sd sf, (∀ b, b < 2 ∨ 18 < b → sd b = v.dn b) → ZQf v sf → zOK P v.sets v.ways v.eps (v.p.na + 1) sd sf := by
    intro sd sf h1 h2
    refine h.ok_of ⟨by rw [h1 0 (by omega)]; exact h.hd.hid, h.hd.hid1, by rw [h1 1 (by omega)]; exact h.hd.hL, fun hx => ?_⟩ ?_ h2
    · rw [h1 1 (by omega)] at hx; exact absurd hx h.h0
    · rw [hz0, zDisc_0 (by rw [h1 1 (by omega)]; exact h.h0)]
      funext b; exact h1 (19 + b) (by omega)
  have pA : ZPh P (v.p.na + 1) QA v := by
    refine ⟨h.up, h.sz, Nat.le_refl _, fun s hs b _ => ?_, fun s hs => h.notin hs, fun sd sf h1 h2 => okA sd sf h1 h2⟩
    rw [ZDv.out_nil h.pd0 hs, ← ZDv.now_nil h.pd0]
  have s1 := ZPh.copies hP (m := v.p.na + 1) (Q := QA) (fun s b x hb1 hb2 hs b' hb' => by rw [zu_ne _ _ (by omega)]; exact hs b' hb') l 0 v pA (by omega)
  generalize ZVs.wrCopies l 0 v = u1 at *
  have s2 : ZOk P (fun u => ZPh P (v.p.na + 1) QA u ∧ ZKeep v u ∧ u.dn = zu (zov v.dn (zCp v.fn l 0)) 2 (zList l v.sb) ∧ u.p.dv 1 = v.p.dv 1 ∧ v.p.na ≤ u.p.na) (u1.wr 0 2 (zList l v.sb)) := by
    refine s1.bind (f := fun u => u.wr 0 2 (zList l v.sb)) (zfr_wr _ _ _ _) (fun _ q => ?_)
    obtain ⟨q1, q2, q3, q4, q5⟩ := q
    refine (q1.wr0 hP (fun s hs b' hb' => by rw [zu_ne _ _ (by omega)]; exact hs b' hb')).imp (fun _ r => ?_)
    obtain ⟨r1, r2, r3, r4, r5⟩ := r
    exact ⟨r1, q2.trans r2, by rw [r3, q3], r4.trans q4, by omega⟩
  clear s1
  generalize u1.wr 0 2 (zList l v.sb) = u2 at *
  -- what the disc has then
  obtain ⟨d1, hd1⟩ : ∃ d1, d1 = zu (zov v.dn (zCp v.fn l 0)) 2 (zList l v.sb) := ⟨_, rfl⟩
  have d1out : ∀ b, b < 2 ∨ 18 < b → d1 b = v.dn b := by
    intro b hb; rw [hd1, zu_ne _ _ (by omega)]; exact zov_cp_out hlen (by omega)
  have d1list : ∀ j (hj : j < l.length), d1 2 j = iN (v.sb l[j] - 1) := by
    intro j hj; rw [hd1, zu_self]; unfold zList; rw [List.getElem?_eq_getElem hj]
  have d1copy : ∀ j (hj : j < l.length), d1 (3 + j) = v.fn (50 + l[j]) := by
    intro j hj; rw [hd1, zu_ne _ _ (by omega)]
    exact zCp_at (j := 0) hj
  rw [← hd1] at s2
  let QB : Nat → ZSt → Prop := fun k => if k = 0 then fun sd => sd = d1 ∨ sd = zu d1 1 (zThree 1 e l.length) else ZQf v
  -- a disc that has the list, under a set head
  have okL : ∀ sd sf, (∀ b, b < 19 → sd b = zu d1 1 (zThree 1 e l.length) b) → (∀ b, (∀ s ∈ l, b ≠ 19 + (v.sb s - 1)) → sd b = zu d1 1 (zThree 1 e l.length) b) → ZQf v sf → zDisc sd = zVol (zDisc v.dn) v.fn v.sb v.se v.n e ∧ zOK P v.sets v.ways v.eps (v.p.na + 1) sd sf := by
    intro sd sf h1 h2 h3
    have e0 : sd 0 = v.dn 0 := by rw [h1 0 (by omega), zu_ne _ _ (by omega)]; exact d1out 0 (by omega)
    have e1 : sd 1 = zThree 1 e l.length := by rw [h1 1 (by omega), zu_self]
    have e2 : sd 2 = d1 2 := by rw [h1 2 (by omega), zu_ne _ _ (by omega)]
    have e3 : ∀ j, j < l.length → sd (3 + j) = d1 (3 + j) := fun j hj => by rw [h1 (3 + j) (by omega), zu_ne _ _ (by omega)]
    have hzd : zDisc sd = zVol (zDisc v.dn) v.fn v.sb v.se v.n e := by
      rw [← hV1]
      unfold zDisc
      rw [if_pos (by rw [e1]; rfl), e1, zThree_2, hl16, zPairs_eq (f := v.fn) (sb := v.sb) (l := l) (fun j hj => by rw [e2]; exact d1list j hj) (fun j hj => by rw [e3 j hj]; exact d1copy j hj) (fun s hs => (hblk s hs).2)]
      funext b
      refine zov_agree (fun hn => ?_)
      show sd (19 + b) = v.dn (19 + b)
      rw [h2 (19 + b) ?_, zu_ne _ _ (by omega)]
      · exact d1out _ (by omega)
      · intro s hs hh
        exact hn (v.sb s - 1, v.fn (50 + s)) (List.mem_map.mpr ⟨s, hs, rfl⟩) (by dsimp only; omega)
    refine ⟨hzd, ?_⟩
    subst he
    refine h.ok_land hL ⟨by rw [e0]; exact h.hd.hid, h.hd.hid1, by rw [e1]; rfl, fun _ => ?_⟩ hzd h3
    rw [e1, zThree_2, hl16]
    refine ⟨hlen, fun j hj => ⟨v.sb l[j] - 1, by rw [e2]; exact d1list j hj, ?_⟩⟩
    have := hblk l[j] (List.getElem_mem hj); omega
  have s3 : ZOk P (fun u => ZPh P (v.p.na + 1) QB u ∧ ZKeep v u ∧ u.dn = d1 ∧ u.p.dv 1 = v.p.dv 1 ∧ v.p.na ≤ u.p.na) (u2.fl 0) := by
    refine s2.bind (f := fun u => u.fl 0) (zfr_fl _ _) (fun _ q => ?_)
    obtain ⟨q1, q2, q3, q4, q5⟩ := q
    refine (q1.fl0 hP).imp (fun _ r => ?_)
    obtain ⟨r1, r2, r3, r4, r5, r6⟩ := r
    have k := q2.trans r2
    refine ⟨r1.re r1.na (fun s hs => Or.inl (by have : s = u2.dn := hs; rw [this, q3])) (fun s hs => hs) (fun sd sf h1 h2 => ?_), k, by rw [r3, q3], r5.trans q4, by omega⟩
    rw [k.sets, k.ways, k.eps]
    rcases h1 with h1 | h1
    · rw [h1]; exact okA d1 sf d1out h2
    · rw [h1]; exact (okL _ sf (fun b _ => rfl) (fun b _ => rfl) h2).2
  clear s2
  generalize u2.fl 0 = u3 at *
  have s4 : ZOk P (fun u => ZPh P (v.p.na + 1) QB u ∧ ZKeep v u ∧ u.dn = zu d1 1 (zThree 1 e l.length) ∧ u.p.dv 1 = v.p.dv 1 ∧ v.p.na ≤ u.p.na) (u3.wr 0 1 (zThree 1 e l.length)) := by
    refine s3.bind (f := fun u => u.wr 0 1 (zThree 1 e l.length)) (zfr_wr _ _ _ _) (fun _ q => ?_)
    obtain ⟨q1, q2, q3, q4, q5⟩ := q
    refine (q1.wr0 hP (fun s hs => ?_)).imp (fun _ r => ?_)
    · rcases hs with hs | hs
      · right; rw [hs]
      · right; rw [hs, zu_zu]
    · obtain ⟨r1, r2, r3, r4, r5⟩ := r
      exact ⟨r1, q2.trans r2, by rw [r3, q3], r4.trans q4, by omega⟩
  clear s3
  generalize u3.wr 0 1 (zThree 1 e l.length) = u4 at *
  obtain ⟨d2, hd2⟩ : ∃ d2, d2 = zu d1 1 (zThree 1 e l.length) := ⟨_, rfl⟩
  rw [← hd2] at s4 okL
  let QC : Nat → ZSt → Prop := fun k => if k = 0 then fun sd => ∀ b, (∀ s ∈ l, b ≠ 19 + (v.sb s - 1)) → sd b = d2 b else ZQf v
  have s5 : ZOk P (fun u => ZPh P (v.p.na + 1) QC u ∧ ZKeep v u ∧ u.dn = d2 ∧ u.p.dv 1 = v.p.dv 1 ∧ v.p.na ≤ u.p.na) (u4.fl 0) := by
    refine s4.bind (f := fun u => u.fl 0) (zfr_fl _ _) (fun _ q => ?_)
    obtain ⟨q1, q2, q3, q4, q5⟩ := q
    refine (q1.fl0 hP).imp (fun _ r => ?_)
    obtain ⟨r1, r2, r3, r4, r5, r6⟩ := r
    have k := q2.trans r2
    refine ⟨r1.re r1.na (fun s hs b _ => by have : s = u4.dn := hs; rw [this, q3]) (fun s hs => hs) (fun sd sf h1 h2 => ?_), k, by rw [r3, q3], r5.trans q4, by omega⟩
    rw [k.sets, k.ways, k.eps]
    exact (okL sd sf (fun b hb' => h1 b (fun s hs => by omega)) h1 h2).2
  clear s4
  generalize u4.fl 0 = u5 at *
  have s6 : ZOk P (fun u => ZPh P (v.p.na + 1) QC u ∧ ZKeep v u ∧ u.dn = zov d2 (zHm v.fn v.sb l) ∧ u.p.dv 1 = v.p.dv 1 ∧ v.p.na ≤ u.p.na) (ZVs.wrHomes l u5) := by
    refine s5.bind (f := ZVs.wrHomes l) (zfr_wrHomes _ _).1 (fun _ q => ?_)
    obtain ⟨q1, q2, q3, q4, q5⟩ := q
    refine (ZPh.homes hP l u5 q1 (fun s hs d x hd b hb' => ?_)).imp (fun _ r => ?_)
    · rw [q2.sb]
      rw [zu_ne _ _ (hb' s hs)]; exact hd b hb'
    · obtain ⟨r1, r2, r3, r4, r5⟩ := r
      have hfn : u5.fn = v.fn := by show (u5.p.dv 1).now = _; rw [q4]
      exact ⟨r1, q2.trans r2, by rw [r3, q3, hfn, q2.sb], r4.trans q4, by omega⟩
  clear s5
  generalize ZVs.wrHomes l u5 = u6 at *
  obtain ⟨d3, hd3⟩ : ∃ d3, d3 = zov d2 (zHm v.fn v.sb l) := ⟨_, rfl⟩
  rw [← hd3] at s6
  have hm3 : zHm v.fn v.sb l = (l.map fun s => (v.sb s - 1, v.fn (50 + s))).map fun e => (19 + e.1, e.2) := by unfold zHm; rw [List.map_map]; rfl
  have hh3 : zHome d3 = zVol (zDisc v.dn) v.fn v.sb v.se v.n e := by
    rw [← hV1]
    funext b
    show d3 (19 + b) = _
    rw [hd3, hm3]
    refine zov_home (fun b' => ?_)
    show v.dn (19 + b') = d2 (19 + b')
    rw [hd2, zu_ne _ _ (by omega), d1out _ (by omega)]
  have d3lo : ∀ b, b < 19 → d3 b = d2 b := by
    intro b hb'
    rw [hd3]
    refine zov_notin (fun e' he' hx => ?_)
    obtain ⟨t, ht, rfl⟩ := List.mem_map.mp he'
    dsimp only at hx; omega
  obtain ⟨d4, hd4⟩ : ∃ d4, d4 = zu d3 1 (zThree 0 e 0) := ⟨_, rfl⟩
  have d4h : zHome d4 = zHome d3 := by funext b; show d4 (19 + b) = _; rw [hd4, zu_ne _ _ (by omega)]; rfl
  have d40 : d4 0 = v.dn 0 := by rw [hd4, zu_ne _ _ (by omega), d3lo 0 (by omega), hd2, zu_ne _ _ (by omega)]; exact d1out 0 (by omega)
  have d41 : d4 1 = zThree 0 e 0 := by rw [hd4, zu_self]
  have d4n : d4 1 0 ≠ 1 := by rw [d41]; show iN 0 ≠ 1; decide
  have d4z : zDisc d4 = zVol (zDisc v.dn) v.fn v.sb v.se v.n e := by rw [zDisc_0 d4n, d4h, hh3]
  have d4H : ZHead d4 (n32 (v.dn 0 0)) e := ⟨by rw [d40]; exact h.hd.hid, h.hd.hid1, by rw [d41]; rfl, fun hx => absurd hx d4n⟩
  let QD : Nat → ZSt → Prop := fun k => if k = 0 then fun sd => sd = d3 ∨ sd = d4 else ZQf v
  have okC : ∀ sf, ZQf v sf → zOK P v.sets v.ways v.eps (v.p.na + 1) d3 sf := by
    intro sf h2
    refine (okL d3 sf d3lo (fun b hb' => ?_) h2).2
    rw [hd3]
    refine zov_notin (fun e' he' hx => ?_)
    obtain ⟨t, ht, rfl⟩ := List.mem_map.mp he'
    exact hb' t ht hx.symm
  have s7 : ZOk P (fun u => ZPh P (v.p.na + 1) QD u ∧ ZKeep v u ∧ u.dn = d3 ∧ u.p.dv 1 = v.p.dv 1 ∧ v.p.na ≤ u.p.na) (u6.fl 0) := by
    refine s6.bind (f := fun u => u.fl 0) (zfr_fl _ _) (fun _ q => ?_)
    obtain ⟨q1, q2, q3, q4, q5⟩ := q
    refine (q1.fl0 hP).imp (fun _ r => ?_)
    obtain ⟨r1, r2, r3, r4, r5, r6⟩ := r
    have k := q2.trans r2
    refine ⟨r1.re r1.na (fun s hs => Or.inl (by have : s = u6.dn := hs; rw [this, q3])) (fun s hs => hs) (fun sd sf h1 h2 => ?_), k, by rw [r3, q3], r5.trans q4, by omega⟩
    rw [k.sets, k.ways, k.eps]
    rcases h1 with h1 | h1
    · rw [h1]; exact okC sf h2
    · rw [h1]; subst he; exact h.ok_land hL d4H d4z h2
  clear s6
  generalize u6.fl 0 = u7 at *
  have s8 : ZOk P (fun u => ZPh P (v.p.na + 1) QD u ∧ ZKeep v u ∧ u.dn = d4 ∧ u.p.dv 1 = v.p.dv 1 ∧ v.p.na ≤ u.p.na) (u7.wr 0 1 (zThree 0 e 0)) := by
    refine s7.bind (f := fun u => u.wr 0 1 (zThree 0 e 0)) (zfr_wr _ _ _ _) (fun _ q => ?_)
    obtain ⟨q1, q2, q3, q4, q5⟩ := q
    refine (q1.wr0 hP (fun s hs => ?_)).imp (fun _ r => ?_)
    · rcases hs with hs | hs
      · right; rw [hs, hd4]
      · right; rw [hs, hd4, zu_zu]
    · obtain ⟨r1, r2, r3, r4, r5⟩ := r
      exact ⟨r1, q2.trans r2, by rw [r3, q3, hd4], r4.trans q4, by omega⟩
  clear s7
  generalize u7.wr 0 1 (zThree 0 e 0) = u8 at *
  have s9 : ZOk P (fun u => ZKeep v u ∧ u.dn = d4 ∧ (u.p.dv 0).pd = [] ∧ u.p.dv 1 = v.p.dv 1 ∧ v.p.na ≤ u.p.na) (u8.fl 0) := by
    refine s8.bind (f := fun u => u.fl 0) (zfr_fl _ _) (fun _ q => ?_)
    obtain ⟨q1, q2, q3, q4, q5⟩ := q
    refine (q1.fl0 hP).imp (fun _ r => ?_)
    obtain ⟨r1, r2, r3, r4, r5, r6⟩ := r
    exact ⟨q2.trans r2, by rw [r3, q3], r4, r5.trans q4, by omega⟩
  clear s8
  generalize u8.fl 0 = u9 at *
  refine s9.bind (f := fun u => ZVs.setLanded e u.n u) (zfr_setLanded e _ _).1 (fun hup q => ?_)
  obtain ⟨k, k1, k2, k3, k4⟩ := q
  have hfr := zfr_setLanded e u9.n u9
  have hn9 : u9.n = v.n := by show u9.sets * u9.ways = _; rw [k.sets, k.ways]
  have hsp := setLanded_spec (e := e) (v := u9) (by omega) (by rw [hn9, k.sb, k.se]; exact h.t0) (by rw [hn9, k.sb, k.se]; exact h.t3) u9.n (Nat.le_refl _)
  rw [hn9, k.sb, k.se] at hsp
  generalize hw : ZVs.setLanded e u9.n u9 = w at *
  rw [show ZVs.setLanded e v.n u9 = w from by rw [← hw, hn9]] at hsp
  obtain ⟨f1, f2, f3, f4, f5, f6, f7⟩ := hfr
  have wse : ∀ s, s < v.n → w.se s = zOff v.se e s := fun s hs => by rw [(hsp s).1, if_pos hs]
  have wsb : ∀ s, s < v.n → w.sb s = zLsb v.sb v.se v.n e s := fun s hs => by rw [(hsp s).2, if_pos hs]
  have wdn : w.dn = d4 := by show (w.p.dv 0).now = _; rw [f2]; exact k1
  have wfn : w.fn = v.fn := by show (w.p.dv 1).now = _; rw [f2, k3]
  have wL : w.landed = e := by unfold ZVs.landed; rw [wdn, d41, zThree_1]; exact n32_iN hE
  have wn : w.n = v.n := by show w.sets * w.ways = _; rw [f1.s, f1.w]; exact hn9
  have ws : w.sets = v.sets := f1.s.trans k.sets
  have ww : w.ways = v.ways := f1.w.trans k.ways
  have weps : w.eps = v.eps := f1.e.trans k.eps
  have wopn : w.opn = v.opn := f3.trans k.opn
  have wgen : w.gen = v.gen := f4.trans k.gen
  have whalf : w.half = v.half := f5.trans k.half
  have wplc : w.plc = v.plc := f6.trans k.plc
  have whd : w.hd = v.hd := f7.trans k.hd
  have wna : v.p.na ≤ w.p.na := by rw [f2]; exact k4
  have zo : ∀ s, zOff v.se e s = if v.se s = e then 0 else v.se s := fun s => rfl
  have zl1 : ∀ s, v.se s ≠ e → zLsb v.sb v.se v.n e s = v.sb s := fun s hs => by unfold zLsb; rw [if_neg (fun hx => hs hx.1)]
  have zl2 : ∀ s, zLsb v.sb v.se v.n e s ≠ 0 → zLsb v.sb v.se v.n e s = v.sb s := by
    intro s hs; unfold zLsb at *; split
    · rename_i hx; rw [if_pos hx] at hs; exact absurd rfl hs
    · rfl
  have hflL := h.fl.land (sd' := d4) h.ot (by omega) (by rw [he]; exact d4z)
  rw [he] at hflL
  have hm : ZRm P w.plc w := by
    refine ⟨by rw [f2]; exact hup, by rw [f1.wf, k.wf]; exact h.wf, by rw [ws, ww, weps]; exact h.sz, by rw [f2]; exact k2, ?_, by rw [wdn]; exact d4n, ?_, ?_, ?_, ?_, ?_, ?_, ?_, ?_, by rw [whd, ww]; exact h.hh, ?_, by rw [wopn]; omega, ?_⟩
    · rw [wdn, wL, d40]; exact d4H
    · rw [ws, ww, weps, wdn, wfn, wL, wopn, whalf, wgen, wplc, d40]
      refine hflL.congr (fun V q => hP _ _ V (by omega) q) (Nat.le_refl _) h.fl.hpl rfl (fun b _ => rfl) (fun s hs s1 s2 => ⟨wse s hs, ?_, rfl⟩) (fun s hs s1 s2 => wse s hs)
      rw [wsb s hs, zl1]
      intro hx; rw [zo s, if_pos hx] at s1; omega
    · rw [f2, k3, wn, wopn]
      intro e' he'
      obtain ⟨s, q1, q2, q3⟩ := h.pdf e' he'
      refine ⟨s, q1, q2, ?_⟩
      rw [wse s q1, zo s]
      split
      · omega
      · exact q3
    · rw [wn]
      intro s hs hx
      rw [wse s hs, zo s]
      split
      · rfl
      · rename_i hne
        rw [wsb s hs, zl1 s hne] at hx
        exact h.t0 s hs hx
    · rw [wn, wopn]
      intro s hs
      rw [wse s hs, zo s]
      split
      · omega
      · exact h.t1 s hs
    · rw [wn, ww, ws]
      intro s hs hx
      rw [wsb s hs] at hx ⊢
      have hq := zl2 s hx
      rw [hq] at hx ⊢
      exact h.t2 s hs hx
    · rw [wn]
      intro s s' hs hs' hx hxx hd
      rw [wsb s hs] at hx hxx
      rw [wsb s' hs'] at hxx
      have hx' : zLsb v.sb v.se v.n e s' ≠ 0 := by rw [← hxx]; exact hx
      have c1 : ∀ t, zLsb v.sb v.se v.n e t ≠ 0 → v.se t = e → ∀ j, j < v.n → v.sb j = v.sb t → j = t := by
        intro t ht hte j hj hjt
        by_cases hjj : j = t
        · exact hjj
        · exfalso; apply ht; unfold zLsb; rw [if_pos ⟨hte, j, hj, hjj, hjt⟩]
      have hx2 := zl2 s hx
      have hx2' := zl2 s' hx'
      have hsb : v.sb s = v.sb s' := by omega
      by_cases c2 : v.se s = e
      · exact (c1 s hx c2 s' hs' hsb.symm).symm
      · by_cases c3 : v.se s' = e
        · exact c1 s' hx' c3 s hs hsb
        · rw [wse s hs, wse s' hs', zo s, zo s', if_neg c2, if_neg c3] at hd
          exact h.t3 s s' hs hs' (by omega) hsb hd
    · rw [wn, wfn, wdn]
      intro s hs hx hd
      rw [wsb s hs] at hx ⊢
      have hx2 := zl2 s hx
      rw [hx2]
      have hb1 : d4 (19 + (v.sb s - 1)) = zov (zHome v.dn) (l.map fun s => (v.sb s - 1, v.fn (50 + s))) (v.sb s - 1) := by
        rw [hV1, ← hh3, ← d4h]; rfl
      rw [hb1]
      rw [wse s hs, zo s] at hd
      by_cases c2 : v.se s = e
      · refine (zov_all (fun e' he' hb' => ?_) (Or.inr ⟨(v.sb s - 1, v.fn (50 + s)), List.mem_map.mpr ⟨s, (hmem s).mpr ⟨hs, c2⟩, rfl⟩, rfl⟩)).symm
        obtain ⟨t, ht, rfl⟩ := List.mem_map.mp he'
        dsimp only at hb' ⊢
        have htm := (hmem t).mp ht
        have := hblk t ht
        have hts : t = s := h.fl.tu t s htm.1 hs (by omega) (by omega) (by omega) (by omega)
        rw [hts]
      · rw [if_neg c2] at hd
        rw [h.t4 s hs (by omega) hd]
        show zHome v.dn (v.sb s - 1) = _
        refine (zov_notin (fun e' he' hb' => ?_)).symm
        obtain ⟨t, ht, rfl⟩ := List.mem_map.mp he'
        dsimp only at hb'
        have htm := (hmem t).mp ht
        have := hblk t ht
        have hts : s = t := h.t3 s t hs htm.1 (by omega) (by omega) (Or.inr hd)
        subst hts
        omega
    · unfold ZVs.dirty ZVs.dl
      rw [wn, wopn]
      have : zDl w.se v.opn v.n = zDl v.se v.opn v.n := by
        refine zDl_congr (fun s hs => ?_)
        rw [wse s hs, zo s]
        split
        · rename_i hx; constructor <;> intro hy <;> omega
        · exact Iff.rfl
      rw [this]; exact h.t5
    · rw [wdn, d40]; have := h.n1; omega
    · rw [wgen]; have := h.n3; omega
  refine Or.inl ⟨by rw [f2]; exact hup, ⟨hm, by rw [wfn, whalf, wgen]; exact h.ot, by rw [wfn, whalf, wgen, wopn]; exact h.oa⟩, ?_, wL, wopn, wplc, wgen, whalf, wse, fun s hs hne => by rw [wsb s hs, zl1 s hne], by rw [f2]; exact k3⟩
  funext b
  rcases h.cur_cases b with ⟨s, q1, q2, q3, q4, q5⟩ | ⟨q1, q2, q3⟩
  · rw [q5]
    have hsb : w.sb s = b + 1 := by
      rw [wsb s q1]
      by_cases c2 : v.se s = e
      · unfold zLsb; rw [if_neg ?_]
        · exact q2
        · rintro ⟨_, j, hj, hjs, hjb⟩
          have r1 := q3 j hj (by omega)
          by_cases c4 : v.se j = 0
          · exact hjs (h.t3 j s hj q1 (by omega) hjb (Or.inr c4))
          · have := (h.fl.tb j hj (by omega) (by omega)).1
            exact hjs (h.t3 j s hj q1 (by omega) hjb (Or.inl (by omega)))
      · rw [zl1 s c2]; exact q2
    rw [(hm.cur_of (by rw [wn]; exact q1) hsb ?_).2, wfn]
    intro i hi hib
    rw [wn] at hi
    rw [wse i hi, wse s q1, zo i, zo s]
    have hib' : v.sb i = b + 1 := by
      rw [wsb i hi] at hib
      rw [← zl2 i (by omega)]; exact hib
    have r1 := q3 i hi hib'
    by_cases c2 : v.se s = e
    · by_cases c3 : v.se i = e
      · rw [if_pos c3]; omega
      · -- i is older than the oldest, so it is clean
        have : v.se i = 0 := by
          by_cases c5 : v.se i = 0
          · exact c5
          · have := (h.fl.tb i hi (by omega) (by omega)).1; omega
        rw [if_neg c3, this]; omega
    · rw [if_neg c2]
      split
      · omega
      · exact r1
  · rw [q3, (hm.cur_no (b := b) ?_).2, wdn]
    · show d4 (19 + b) = v.dn (19 + b)
      have : d4 (19 + b) = zov (zHome v.dn) (l.map fun s => (v.sb s - 1, v.fn (50 + s))) b := by
        rw [hV1, ← hh3, ← d4h]; rfl
      rw [this]
      refine zov_notin (fun e' he' hb' => ?_)
      obtain ⟨t, ht, rfl⟩ := List.mem_map.mp he'
      dsimp only at hb'
      have := hblk t ht
      exact q1 t ((hmem t).mp ht).1 (by omega)
    · intro i hi hib
      rw [wn] at hi
      rw [wsb i hi] at hib
      exact q1 i hi (by rw [← zl2 i (by omega)]; exact hib)
end
/-! RECORDS -/
section
variable {g e : Nat} {last : Bool} {c : List Nat} {sb : Nat → Nat}
theorem zRec_0 : zRec g e last c sb 0 = iN g := rfl
theorem zRec_1 : zRec g e last c sb 1 = iN e := rfl
theorem zRec_2 : zRec g e last c sb 2 = (if last then 1 else 0) := rfl
theorem zRec_3 : zRec g e last c sb 3 = iN c.length := rfl
theorem zRec_slot {j : Nat} (hj : j < c.length) : zRec g e last c sb (4 + 2 * j) = iN c[j] := by
  unfold zRec
  rw [if_neg (by omega), if_neg (by omega), if_neg (by omega), if_neg (by omega)]
  have : (4 + 2 * j - 4) / 2 = j := by omega
  rw [this, List.getElem?_eq_getElem hj]
  dsimp only
  rw [if_pos (by omega)]
theorem zRec_blk {j : Nat} (hj : j < c.length) : zRec g e last c sb (5 + 2 * j) = iN (sb c[j] - 1) := by
  unfold zRec
  rw [if_neg (by omega), if_neg (by omega), if_neg (by omega), if_neg (by omega)]
  have : (5 + 2 * j - 4) / 2 = j := by omega
  rw [this, List.getElem?_eq_getElem hj]
  dsimp only
  rw [if_neg (by omega)]
theorem zRec_true {n : Nat} {se : Nat → Nat} (he : e < 2147483648) (hc : c.length ≤ 6) (h : ∀ s ∈ c, s < n ∧ se s = e ∧ 1 ≤ sb s ∧ sb s ≤ 106) : zTrue n sb se (zRec g e last c sb) := by
  have h3 : n32 (zRec g e last c sb 3) = c.length := by rw [zRec_3]; exact n32_iN (by omega)
  refine ⟨by rw [h3]; exact hc, fun j hj => ?_⟩
  rw [h3] at hj
  obtain ⟨q1, q2, q3, q4⟩ := h c[j] (List.getElem_mem hj)
  exact ⟨c[j], sb c[j] - 1, zRec_slot hj, zRec_blk hj, q1, by omega, by rw [zRec_1, n32_iN he]; exact q2, by omega⟩
end
/-- all but the devices and the next place -/
abbrev ZKp (v u : ZVs) : Prop := ZSm v u ∧ (u.gen = v.gen) ∧ (u.half = v.half) ∧ (u.sets = v.sets) ∧ (u.ways = v.ways) ∧ (u.eps = v.eps) ∧ (u.wf = v.wf)
theorem ZKp.toZSm {v u : ZVs} (h : ZKp v u) : ZSm v u := h.1
theorem ZKp.gen {v u : ZVs} (h : ZKp v u) : u.gen = v.gen := h.2.1
theorem ZKp.half {v u : ZVs} (h : ZKp v u) : u.half = v.half := h.2.2.1
theorem ZKp.sets {v u : ZVs} (h : ZKp v u) : u.sets = v.sets := h.2.2.2.1
theorem ZKp.ways {v u : ZVs} (h : ZKp v u) : u.ways = v.ways := h.2.2.2.2.1
theorem ZKp.eps {v u : ZVs} (h : ZKp v u) : u.eps = v.eps := h.2.2.2.2.2.1
theorem ZKp.wf {v u : ZVs} (h : ZKp v u) : u.wf = v.wf := h.2.2.2.2.2.2
theorem ZKp.sb {v u : ZVs} (h : ZKp v u) : u.sb = v.sb := h.1.sb
theorem ZKp.se {v u : ZVs} (h : ZKp v u) : u.se = v.se := h.1.se
theorem ZKp.mrk {v u : ZVs} (h : ZKp v u) : u.mrk = v.mrk := h.1.mrk
theorem ZKp.hd {v u : ZVs} (h : ZKp v u) : u.hd = v.hd := h.1.hd
theorem ZKp.opn {v u : ZVs} (h : ZKp v u) : u.opn = v.opn := h.1.opn
theorem ZKp.refl (v : ZVs) : ZKp v v := ⟨ZSm.refl v, rfl, rfl, rfl, rfl, rfl, rfl⟩
theorem ZKp.trans {v u w : ZVs} (h1 : ZKp v u) (h2 : ZKp u w) : ZKp v w := ⟨h1.toZSm.trans h2.toZSm, h2.gen.trans h1.gen, h2.half.trans h1.half, h2.sets.trans h1.sets, h2.ways.trans h1.ways, h2.eps.trans h1.eps, h2.wf.trans h1.wf⟩
theorem ZKeep.kp {v u : ZVs} (h : ZKeep v u) : ZKp v u := ⟨h.toZSm, h.gen, h.half, h.sets, h.ways, h.eps, h.wf⟩
theorem zfr_recs_plc (e : Nat) (cl : Bool) (k : Nat) (l : List Nat) (n : Nat) (u : ZVs) : ZFr (3 * k) u (ZVs.recs e cl k l (ZVs.s_plc u n)) := by
  have z := (zfr_recs e cl k l (ZVs.s_plc u n)).1
  exact ⟨z.s, z.w, z.e, z.wf, z.dn, z.n1, z.n2⟩
/-- an epoch's records lie between two places -/
def zThere (f : ZSt) (base a b g e : Nat) (l : List Nat) : Prop := ∀ s ∈ l, ∃ k, a ≤ k ∧ k < b ∧ n32 (f (base + k) 0) = g ∧ n32 (f (base + k) 1) = e ∧ ∃ j, j < n32 (f (base + k) 3) ∧ f (base + k) (4 + 2 * j) = iN s
def zLastThere (f : ZSt) (base a b g e : Nat) : Prop := ∃ k, a ≤ k ∧ k < b ∧ n32 (f (base + k) 0) = g ∧ n32 (f (base + k) 1) = e ∧ f (base + k) 2 = 1
theorem zThere.mono {f f' : ZSt} {base a b a' b' g e : Nat} {l : List Nat} (h : zThere f base a b g e l) (ha : a' ≤ a) (hb : b ≤ b') (hf : ∀ k, a ≤ k → k < b → f' (base + k) = f (base + k)) : zThere f' base a' b' g e l := by
  intro s hs
  obtain ⟨k, q1, q2, q3⟩ := h s hs
  exact ⟨k, by omega, by omega, by rw [hf k q1 q2]; exact q3⟩
theorem zLastThere.mono {f f' : ZSt} {base a b a' b' g e : Nat} (h : zLastThere f base a b g e) (ha : a' ≤ a) (hb : b ≤ b') (hf : ∀ k, a ≤ k → k < b → f' (base + k) = f (base + k)) : zLastThere f' base a' b' g e := by
  obtain ⟨k, q1, q2, q3⟩ := h
  exact ⟨k, by omega, by omega, by rw [hf k q1 q2]; exact q3⟩
section
/-- records that close nothing -/
theorem ZPh.recs {P : Nat → ZSt → Prop} (hP : ∀ m m' V, m ≤ m' → P m V → P m' V) {m e : Nat} {Q : Nat → ZSt → Prop} (he : e < 2147483648) : ∀ (k : Nat) (l : List Nat) (v : ZVs), ZPh P m Q v → v.gen < 2147483648 → l.length ≤ 6 * k → (∀ s ∈ l, s < v.n ∧ v.se s = e ∧ 1 ≤ v.sb s ∧ v.sb s ≤ 106) → v.plc + (l.length + 5) / 6 ≤ 24 → (∀ s p r, v.plc ≤ p → p < 24 → n32 (r 0) = v.gen → n32 (r 1) = e → zTrue v.n v.sb v.se r → Q 1 s → Q 1 (zu s (25 * v.half + 1 + p) r)) →
    ZOk P (fun u => ZPh P m Q u ∧ ZKp v u ∧ u.plc = v.plc + (l.length + 5) / 6 ∧ (∀ b, b < 25 * v.half + 1 + v.plc ∨ 25 * v.half + 1 + u.plc ≤ b → u.fn b = v.fn b) ∧ zThere u.fn (25 * v.half + 1) v.plc u.plc v.gen e l ∧ (l ≠ [] → zLastThere u.fn (25 * v.half + 1) v.plc u.plc v.gen e) ∧ (∀ p, v.plc ≤ p → p < u.plc → n32 (u.fn (25 * v.half + 1 + p) 0) = v.gen ∧ n32 (u.fn (25 * v.half + 1 + p) 1) = e ∧ zTrue v.n v.sb v.se (u.fn (25 * v.half + 1 + p))) ∧ u.p.dv 0 = v.p.dv 0 ∧ v.p.na ≤ u.p.na) (ZVs.recs e false k l v) := by
  intro k
  induction k with
  | zero =>
    intro l v h hg hl _ _ _
    have : l = [] := List.length_eq_zero_iff.mp (by omega)
    subst this
    exact Or.inl ⟨h.up, h, ZKp.refl v, rfl, fun _ _ => rfl, fun s hs => (by cases hs), fun hx => absurd rfl hx, fun p (h1 : v.plc ≤ p) (h2 : p < v.plc) => (by omega), rfl, Nat.le_refl _⟩
  | succ k ih =>
    intro l v h hg hl hm hp hq
    unfold ZVs.recs
    split
    · rename_i hl0
      subst hl0
      exact Or.inl ⟨h.up, h, ZKp.refl v, rfl, fun _ _ => rfl, fun s hs => (by cases hs), fun hx => absurd rfl hx, fun p (h1 : v.plc ≤ p) (h2 : p < v.plc) => (by omega), rfl, Nat.le_refl _⟩
    · rename_i hl0
      have hlen : 0 < l.length := List.length_pos_iff.mpr hl0
      dsimp only
      simp only [Bool.and_false, Bool.false_eq_true, if_false]
      have htk : (l.take 6).length ≤ 6 := by simp; omega
      have htrue : zTrue v.n v.sb v.se (zRec v.gen e (decide (l.length ≤ 6)) (l.take 6) v.sb) := zRec_true he htk (fun s hs => hm s (List.mem_of_mem_take hs))
      have hr0 : n32 (zRec v.gen e (decide (l.length ≤ 6)) (l.take 6) v.sb 0) = v.gen := by rw [zRec_0]; exact n32_iN hg
      have hr1 : n32 (zRec v.gen e (decide (l.length ≤ 6)) (l.take 6) v.sb 1) = e := by rw [zRec_1]; exact n32_iN he
      have h1 := h.wr1 hP (b := 25 * v.half + 1 + v.plc) (x := zRec v.gen e (decide (l.length ≤ 6)) (l.take 6) v.sb) (fun s hs => hq s v.plc _ (Nat.le_refl _) (by omega) hr0 hr1 htrue hs)
      have key : ∀ u1 : ZVs, ZPh P m Q u1 → ZKeep v u1 → u1.fn = zu v.fn (25 * v.half + 1 + v.plc) (zRec v.gen e (decide (l.length ≤ 6)) (l.take 6) v.sb) → u1.p.dv 0 = v.p.dv 0 → v.p.na ≤ u1.p.na → ZOk P (fun u => ZPh P m Q u ∧ ZKp v u ∧ u.plc = v.plc + (l.length + 5) / 6 ∧ (∀ b, b < 25 * v.half + 1 + v.plc ∨ 25 * v.half + 1 + u.plc ≤ b → u.fn b = v.fn b) ∧ zThere u.fn (25 * v.half + 1) v.plc u.plc v.gen e l ∧ (l ≠ [] → zLastThere u.fn (25 * v.half + 1) v.plc u.plc v.gen e) ∧ (∀ p, v.plc ≤ p → p < u.plc → n32 (u.fn (25 * v.half + 1 + p) 0) = v.gen ∧ n32 (u.fn (25 * v.half + 1 + p) 1) = e ∧ zTrue v.n v.sb v.se (u.fn (25 * v.half + 1 + p))) ∧ u.p.dv 0 = v.p.dv 0 ∧ v.p.na ≤ u.p.na) (ZVs.recs e false k (l.drop 6) (ZVs.s_plc u1 (v.plc + 1))) := by
        intro u1 q1 q2 q3 q4 q5
        have hn : u1.n = v.n := by show u1.sets * u1.ways = _; rw [q2.sets, q2.ways]
        have hdl : (l.drop 6).length = l.length - 6 := by simp
        have hph : ZPh P m Q (ZVs.s_plc u1 (v.plc + 1)) := ⟨q1.up, q1.sz, q1.na, q1.q0, q1.q1, q1.ok⟩
        have hih := ih (l.drop 6) (ZVs.s_plc u1 (v.plc + 1)) hph (by show u1.gen < _; rw [q2.gen]; exact hg) (by omega) (fun s hs => by
          show s < u1.n ∧ u1.se s = e ∧ 1 ≤ u1.sb s ∧ u1.sb s ≤ 106
          rw [hn, q2.se, q2.sb]; exact hm s (List.mem_of_mem_drop hs)) (by show v.plc + 1 + _ ≤ 24; omega) (fun s p r hp1 hp2 hr0 hr1 hr2 hs => by
          have hr0 : n32 (r 0) = u1.gen := hr0
          have hr2 : zTrue u1.n u1.sb u1.se r := hr2
          rw [hn, q2.sb, q2.se] at hr2
          rw [q2.gen] at hr0
          show Q 1 (zu s (25 * u1.half + 1 + p) r)
          rw [q2.half]
          exact hq s p r (by have : v.plc + 1 ≤ p := hp1; omega) hp2 hr0 hr1 hr2 hs)
        refine hih.imp (fun _ r => ?_)
        obtain ⟨r1, r2, r3, r4, r5, r6, r7, r8, r9⟩ := r
        generalize ZVs.recs e false k (l.drop 6) (ZVs.s_plc u1 (v.plc + 1)) = w at *
        have r3 : w.plc = v.plc + 1 + ((l.drop 6).length + 5) / 6 := r3
        have r4 : ∀ b, b < 25 * u1.half + 1 + (v.plc + 1) ∨ 25 * u1.half + 1 + w.plc ≤ b → w.fn b = u1.fn b := r4
        have r5 : zThere w.fn (25 * u1.half + 1) (v.plc + 1) w.plc u1.gen e (l.drop 6) := r5
        have r6 : l.drop 6 ≠ [] → zLastThere w.fn (25 * u1.half + 1) (v.plc + 1) w.plc u1.gen e := r6
        have r7 : ∀ p, v.plc + 1 ≤ p → p < w.plc → n32 (w.fn (25 * u1.half + 1 + p) 0) = u1.gen ∧ n32 (w.fn (25 * u1.half + 1 + p) 1) = e ∧ zTrue u1.n u1.sb u1.se (w.fn (25 * u1.half + 1 + p)) := r7
        rw [q2.half] at r4 r5 r6 r7
        rw [q2.gen] at r5 r6 r7
        rw [hn, q2.sb, q2.se] at r7
        have hwp : w.plc = v.plc + (l.length + 5) / 6 := by omega
        have hat : w.fn (25 * v.half + 1 + v.plc) = zRec v.gen e (decide (l.length ≤ 6)) (l.take 6) v.sb := by
          rw [r4 _ (by omega), q3, zu_self]
        refine ⟨r1, ⟨⟨r2.sb.trans q2.sb, r2.se.trans q2.se, r2.mrk.trans q2.mrk, r2.hd.trans q2.hd, r2.opn.trans q2.opn⟩, r2.gen.trans q2.gen, r2.half.trans q2.half, r2.sets.trans q2.sets, r2.ways.trans q2.ways, r2.eps.trans q2.eps, r2.wf.trans q2.wf⟩, hwp, ?_, ?_, ?_, ?_, r8.trans q4, Nat.le_trans q5 r9⟩
        · intro b hb
          rw [r4 b (by omega), q3, zu_ne _ _ (by omega)]
        · intro s hs
          rw [← List.take_append_drop 6 l] at hs
          rcases List.mem_append.mp hs with hs | hs
          · obtain ⟨j, hj1, hj2⟩ := List.getElem_of_mem hs
            refine ⟨v.plc, Nat.le_refl _, by omega, ?_⟩
            rw [hat]
            refine ⟨hr0, hr1, j, ?_, ?_⟩
            · rw [zRec_3, n32_iN (by omega)]; exact hj1
            · rw [zRec_slot hj1, hj2]
          · obtain ⟨k', p1, p2, p3⟩ := r5 s hs
            exact ⟨k', by omega, p2, p3⟩
        · intro _
          by_cases h6 : l.length ≤ 6
          · refine ⟨v.plc, Nat.le_refl _, by omega, ?_⟩
            rw [hat]
            refine ⟨hr0, hr1, ?_⟩
            rw [zRec_2, decide_eq_true h6]; rfl
          · obtain ⟨k', p1, p2, p3⟩ := r6 (fun hx => by have := congrArg List.length hx; simp at this; omega)
            exact ⟨k', by omega, p2, p3⟩
        · intro p hp1 hp2
          by_cases hpp : p = v.plc
          · rw [hpp, hat]; exact ⟨hr0, hr1, htrue⟩
          · exact r7 p (by omega) hp2
      exact h1.bind (f := fun u => ZVs.recs e false k (l.drop 6) (ZVs.s_plc u (v.plc + 1))) (c := 3 * k) (zfr_recs_plc _ _ _ _ _ _) (fun hup q => key _ q.1 q.2.1 q.2.2.1 q.2.2.2.1 q.2.2.2.2)
theorem ZPh.recsAll {P : Nat → ZSt → Prop} (hP : ∀ m m' V, m ≤ m' → P m V → P m' V) {m e : Nat} {Q : Nat → ZSt → Prop} (he : e < 2147483648) {v : ZVs} (h : ZPh P m Q v) (hg : v.gen < 2147483648) (hl : (v.dl e).length ≤ 16) (hm : ∀ s, s < v.n → v.se s = e → 1 ≤ v.sb s ∧ v.sb s ≤ 106) (hp : v.plc + 3 ≤ 24) (hq : ∀ s p r, v.plc ≤ p → p < 24 → n32 (r 0) = v.gen → n32 (r 1) = e → zTrue v.n v.sb v.se r → Q 1 s → Q 1 (zu s (25 * v.half + 1 + p) r)) :
    ZOk P (fun u => ZPh P m Q u ∧ ZKp v u ∧ v.plc ≤ u.plc ∧ u.plc ≤ v.plc + 3 ∧ (∀ b, b < 25 * v.half + 1 + v.plc ∨ 25 * v.half + 1 + u.plc ≤ b → u.fn b = v.fn b) ∧ zThere u.fn (25 * v.half + 1) v.plc u.plc v.gen e (v.dl e) ∧ (v.dl e ≠ [] → zLastThere u.fn (25 * v.half + 1) v.plc u.plc v.gen e) ∧ (∀ p, v.plc ≤ p → p < u.plc → n32 (u.fn (25 * v.half + 1 + p) 0) = v.gen ∧ n32 (u.fn (25 * v.half + 1 + p) 1) = e ∧ zTrue v.n v.sb v.se (u.fn (25 * v.half + 1 + p))) ∧ u.p.dv 0 = v.p.dv 0 ∧ v.p.na ≤ u.p.na) (ZVs.recsAll e false v) := by
  refine (ZPh.recs hP he 11 (v.dl e) v h hg (by omega) (fun s hs => ?_) (by omega) hq).imp (fun _ q => ?_)
  · have := mem_zDl.mp hs
    exact ⟨this.1, this.2, hm s this.1 this.2⟩
  · obtain ⟨q1, q2, q3, q4⟩ := q
    exact ⟨q1, q2, by show _ ≤ (ZVs.recs e false 11 (v.dl e) v).plc; omega, by show (ZVs.recs e false 11 (v.dl e) v).plc ≤ _; omega, q4⟩
theorem ZPh.recsTo {P : Nat → ZSt → Prop} (hP : ∀ m m' V, m ≤ m' → P m V → P m' V) {m : Nat} {Q : Nat → ZSt → Prop} : ∀ (k e : Nat) (v : ZVs), ZPh P m Q v → e + k < 2147483648 → v.gen < 2147483648 → (∀ e', e ≤ e' → e' < e + k → (v.dl e').length ≤ 16 ∧ v.dl e' ≠ [] ∧ ∀ s, s < v.n → v.se s = e' → 1 ≤ v.sb s ∧ v.sb s ≤ 106) → v.plc + 3 * k ≤ 24 → (∀ s p r, p < 24 → n32 (r 0) = v.gen → e ≤ n32 (r 1) → n32 (r 1) < e + k → zTrue v.n v.sb v.se r → Q 1 s → Q 1 (zu s (25 * v.half + 1 + p) r)) →
    ZOk P (fun u => ZPh P m Q u ∧ ZKp v u ∧ v.plc ≤ u.plc ∧ u.plc ≤ v.plc + 3 * k ∧ (∀ b, b < 25 * v.half + 1 + v.plc ∨ 25 * v.half + 1 + u.plc ≤ b → u.fn b = v.fn b) ∧ (∀ e', e ≤ e' → e' < e + k → zThere u.fn (25 * v.half + 1) v.plc u.plc v.gen e' (v.dl e') ∧ zLastThere u.fn (25 * v.half + 1) v.plc u.plc v.gen e') ∧ (∀ p, v.plc ≤ p → p < u.plc → n32 (u.fn (25 * v.half + 1 + p) 0) = v.gen ∧ e ≤ n32 (u.fn (25 * v.half + 1 + p) 1) ∧ n32 (u.fn (25 * v.half + 1 + p) 1) < e + k ∧ zTrue v.n v.sb v.se (u.fn (25 * v.half + 1 + p))) ∧ u.p.dv 0 = v.p.dv 0 ∧ v.p.na ≤ u.p.na) (ZVs.recsTo k e v) := by
  intro k
  induction k with
  | zero =>
    intro e v h _ _ _ _ _
    exact Or.inl ⟨h.up, h, ZKp.refl v, Nat.le_refl _, by show v.plc ≤ _; omega, fun _ _ => rfl, fun e' h1 h2 => by omega, fun p (h1 : v.plc ≤ p) (h2 : p < v.plc) => by omega, rfl, Nat.le_refl _⟩
  | succ k ih =>
    intro e v h he hg hE hp hq
    unfold ZVs.recsTo
    obtain ⟨c1, c2, c3⟩ := hE e (Nat.le_refl _) (by omega)
    have h1 := ZPh.recsAll hP (e := e) (by omega) h hg c1 c3 (by omega) (fun s p r p1 p2 p3 p4 p5 p6 => hq s p r p2 p3 (by omega) (by omega) p5 p6)
    refine h1.bind (f := ZVs.recsTo k (e + 1)) (zfr_recsTo k (e + 1) _).1 (fun _ q => ?_)
    generalize ZVs.recsAll e false v = u1 at *
    obtain ⟨q1, q2, q3, q4, q5, q6, q7, q8, q9, q10⟩ := q
    have hn : u1.n = v.n := by show u1.sets * u1.ways = _; rw [q2.sets, q2.ways]
    have hdl : ∀ e', u1.dl e' = v.dl e' := fun e' => by unfold ZVs.dl; rw [q2.se, hn]
    have h2 := ih (e + 1) u1 q1 (by omega) (by rw [q2.gen]; exact hg) (fun e' he1 he2 => by rw [hdl, hn, q2.se, q2.sb]; exact hE e' (by omega) (by omega)) (by omega) (fun s p r p1 p2 p3 p4 p5 p6 => by
      rw [hn, q2.sb, q2.se] at p5
      rw [q2.gen] at p2
      rw [q2.half]
      exact hq s p r p1 p2 (by omega) (by omega) p5 p6)
    refine h2.imp (fun _ r => ?_)
    generalize ZVs.recsTo k (e + 1) u1 = w at *
    obtain ⟨r1, r2, r3, r4, r5, r6, r7, r8, r9⟩ := r
    rw [q2.half] at r5 r6 r7
    rw [q2.gen] at r6 r7
    rw [hn, q2.sb, q2.se] at r7
    refine ⟨r1, q2.trans r2, by omega, by omega, ?_, ?_, ?_, r8.trans q9, by omega⟩
    · intro b hb
      rw [r5 b (by omega), q5 b (by omega)]
    · intro e' he1 he2
      by_cases hee : e' = e
      · rw [hee]
        refine ⟨q6.mono (Nat.le_refl _) (by omega) (fun k' k1 k2 => r5 _ (by omega)), (q7 c2).mono (Nat.le_refl _) (by omega) (fun k' k1 k2 => r5 _ (by omega))⟩
      · obtain ⟨t1, t2⟩ := r6 e' (by omega) (by omega)
        rw [hdl] at t1
        exact ⟨t1.mono (by omega) (Nat.le_refl _) (fun _ _ _ => rfl), t2.mono (by omega) (Nat.le_refl _) (fun _ _ _ => rfl)⟩
    · intro p p1 p2
      by_cases hpp : p < u1.plc
      · have := q8 p p1 hpp
        rw [r5 _ (by omega)]
        exact ⟨this.1, by omega, by omega, this.2.2⟩
      · have := r7 p (by omega) p2
        exact ⟨this.1, by omega, by omega, this.2.2.2⟩
end
