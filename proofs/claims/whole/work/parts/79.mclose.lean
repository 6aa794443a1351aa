/-! HALVES CHANGE (the reference), with what stays -/
theorem m_half (K : px_K) (N : Nat) (hN : 2000 ≤ N) (hK : zKm K) (t : px_W) (s : px_S) (v : ZVs) (h : zRv s v) (hs : zSf v) (hh : v.half < 2) (hd : (v.p.dv 0).pd = []) (hid : v.dn 0 0 = iN (n32 (v.dn 0 0))) (hL : v.dn 1 1 = iN v.landed) (h8 : v.opn - (v.landed + 1) ≤ 8) (hb : ∀ q, q < v.n → 0 < v.se q → 1 ≤ v.sb q) (hl31 : v.landed + 1 < 2147483648) : ∃ s', f_M_changeHalves_28 K N s t = some (.inl none, s', t) ∧ zRv s' v.changeHalves ∧ zFv s s' := by
  apply wp_B
  obtain ⟨v1, hv1⟩ : ∃ v1, v1 = ZVs.mk v.p v.sets v.ways v.eps v.wf v.sb v.se v.mrk v.hd v.opn (1 - v.half) (v.gen + 1) 0 := ⟨_, rfl⟩
  have eg : s.1 34 + (1 : Int32) = iN (v.gen + 1) := by rw [h.2.2.2.2.2.2.2.1, iL1, iN_add]
  have eh : (1 : Int32) - s.1 33 = iN (1 - v.half) := by rw [h.2.2.2.2.2.2.1, iL1, iN_sub (by omega)]
  have h5 : zRv (sR (sR (sR s 34 (iN (v.gen + 1))) 33 (iN (1 - v.half))) 35 (iN 0)) v1 := by
    rw [hv1]
    exact ⟨zRw_int (zRw_int (zRw_int h.1 (by omega)) (by omega)) (by omega), zRs_half h.2 _ _ _⟩
  have f5 : zFv s (sR (sR (sR s 34 (iN (v.gen + 1))) 33 (iN (1 - v.half))) 35 (iN 0)) := zFv_trans (zFv_trans (zFv_sR (by omega)) (zFv_sR (by omega))) (zFv_sR (by omega))
  have hs1 : zSf v1 := by rw [hv1]; exact hs
  have hk : min 8 (v.opn - (v.landed + 1)) = v.opn - (v.landed + 1) := by omega
  have hlan := m_landed K N (by omega) hK t _ v1.p.dv h5.1.1
  have hdn1 : v1.p.dv 0 = v.p.dv 0 := by rw [hv1]; rfl
  obtain ⟨s6, a1, a2, a3⟩ := m_recsTo K N hN hK t (v.opn - (v.landed + 1)) (v.landed + 1) N _ v1 h5 hs1 (by rw [hv1]; show 1 - v.half < 2; omega) (by rw [hv1]; show 0 + 11 * _ ≤ 88; omega) (by omega) (by rw [hv1]; exact hb) (by rw [hv1]; show v.landed + 1 + _ = v.opn ∨ (_ = 0 ∧ v.opn ≤ v.landed + 1); omega) hl31 (by omega)
  have hk2 := zK0_recsTo (v.opn - (v.landed + 1)) (v.landed + 1) v1 (by rw [hdn1]; exact hd)
  have hspec : v.changeHalves = (((ZVs.recsTo (v.opn - (v.landed + 1)) (v.landed + 1) v1).fl 1).wr 1 (25 * ((ZVs.recsTo (v.opn - (v.landed + 1)) (v.landed + 1) v1).fl 1).half) (zThree ((ZVs.recsTo (v.opn - (v.landed + 1)) (v.landed + 1) v1).fl 1).gen (n32 (((ZVs.recsTo (v.opn - (v.landed + 1)) (v.landed + 1) v1).fl 1).dn 0 0)) 0)).fl 1 := by
    unfold ZVs.changeHalves; rw [hk, hv1]
  obtain ⟨z1, z2, z3, z4⟩ := zfr_recsTo (v.opn - (v.landed + 1)) (v.landed + 1) v1
  rw [hspec]
  have hv1dn : v1.dn = v.dn := by show (v1.p.dv 0).now = _; rw [hdn1]
  have hhalf : (ZVs.recsTo (v.opn - (v.landed + 1)) (v.landed + 1) v1).half = 1 - v.half := by rw [z4, hv1]; rfl
  rw [hv1dn] at hk2
  have key : ∀ v2 : ZVs, zRv s6 v2 → (v2.p.dv 0).pd = [] ∧ v2.dn = v.dn → v2.half = 1 - v.half → wp (f_M_changeHalves_28 K N s t) (zB t (fun s' => zRv s' (((v2.fl 1).wr 1 (25 * (v2.fl 1).half) (zThree (v2.fl 1).gen (n32 ((v2.fl 1).dn 0 0)) 0)).fl 1) ∧ zFv s s')) := by
    intro v2 h6 hk2 hh2
    unfold f_M_changeHalves_28
    rw [eg]
    refine wp_let ?_
    rw [show (sR s 34 (iN (v.gen + 1))).1 33 = s.1 33 from rfl, eh]
    refine wp_let (wp_let ?_)
    rw [show (v1.p.dv 0).now 1 1 = iN v.landed by rw [hdn1]; exact hL] at hlan
    refine wp_bi hlan (wp_let ?_)
    have x2 : iN v.landed + (1 : Int32) = iN (v.landed + 1) := by rw [iL1, iN_add]
    rw [x2]
    refine wp_lp a1 (wp_if rfl ?_)
    show wp (px_bv _ _ _) _
    obtain ⟨s7, b1, b2, b3⟩ := m_fl_act K N hN hK t s6 v2 h6 1 (by omega)
    refine wp_bv b1 ?_
    have hk3 := zK0_fl v2 hk2.1
    have hrd := m_read K N (by omega) hK t s7 (v2.fl 1).p.dv b2.1.1 0 0 0 (by omega) (by show 0 < 125; omega) (by omega)
    have hval : ((v2.fl 1).p.dv 0).now 0 0 = iN (n32 ((v2.fl 1).dn 0 0)) := by
      have e : (v2.fl 1).dn = v.dn := hk3.2.trans hk2.2
      show (v2.fl 1).dn 0 0 = _
      rw [e]; exact hid
    rw [hval] at hrd
    refine wp_bi hrd ?_
    rw [b2.2.2.2.2.2.2.2.1]
    obtain ⟨s8, c1, c2, ⟨g, c3⟩, c4⟩ := m_th43 K N hN hK t b2 (v2.fl 1).gen (n32 ((v2.fl 1).dn 0 0)) 0
    refine wp_bv c1 ?_
    have eb : (25 : Int32) * s8.1 33 = iN (25 * (v2.fl 1).half) := by
      have h25 : (25 : Int32) = iN 25 := rfl
      rw [c2.2.2.2.2.2.2.1, h25, iN_mul]
    rw [eb]
    refine m_head K N hN hK t c2 1 (25 * (v2.fl 1).half) _ (by omega) (by show 25 * v2.half < 114; omega) c4 ?_
    intro s9 h9 k9
    refine wp_rB ⟨h9, ?_⟩
    exact zFv_trans f5 (zFv_trans (zFv_fr1 a3) (zFv_trans (zFv_fm b3) (zFv_trans (by rw [c3]; exact zFv_sF (Or.inl rfl)) k9)))
  exact key _ a2 hk2 hhalf
theorem zplc_recsTo : ∀ (k e : Nat) (v : ZVs), (ZVs.recsTo k e v).plc ≤ v.plc + 11 * k := by
  intro k
  induction k with
  | zero => intro e v; exact Nat.le_refl _
  | succ k ih =>
    intro e v
    have h1 : (ZVs.recsAll e false v).plc ≤ v.plc + 11 := zplc_recs e false 11 _ v
    have h2 := ih (e + 1) (ZVs.recsAll e false v)
    show (ZVs.recsTo k (e + 1) (ZVs.recsAll e false v)).plc ≤ _
    omega
theorem zch_half (v : ZVs) : v.changeHalves.half = 1 - v.half ∧ v.changeHalves.plc ≤ 11 * (v.opn - (v.landed + 1)) := by
  unfold ZVs.changeHalves
  obtain ⟨z1, z2, z3, z4⟩ := zfr_recsTo (min 8 (v.opn - (v.landed + 1))) (v.landed + 1) (ZVs.mk v.p v.sets v.ways v.eps v.wf v.sb v.se v.mrk v.hd v.opn (1 - v.half) (v.gen + 1) 0)
  have h2 := zplc_recsTo (min 8 (v.opn - (v.landed + 1))) (v.landed + 1) (ZVs.mk v.p v.sets v.ways v.eps v.wf v.sb v.se v.mrk v.hd v.opn (1 - v.half) (v.gen + 1) 0)
  refine ⟨z4, Nat.le_trans h2 ?_⟩
  show 0 + 11 * min 8 (v.opn - (v.landed + 1)) ≤ _
  omega
/-! WHAT KEEPS THE REFERENCE WITHIN ITS ROWS while the power is up or gone -/
def zMm (v : ZVs) : Prop := zSf v ∧ (∀ i, i < v.n → 0 < v.se i → 1 ≤ v.sb i ∧ v.sb i ≤ 106) ∧ (∀ e, 0 < e → e < v.opn → (∀ i j, i < v.n → j < v.n → v.se i = e → v.se j = e → v.sb i = v.sb j → i = j) ∧ v.dirty e ≤ 16) ∧ (∀ set, v.hd set < v.ways)
theorem zMm.ep {v : ZVs} (h : zMm v) {e : Nat} (h0 : 0 < e) (he : e < v.opn) : zEp v e := ⟨fun i hi hse => h.2.1 i hi (by omega), (h.2.2.1 e h0 he).1, (h.2.2.1 e h0 he).2⟩
theorem zMm_sm {v u : ZVs} (h : zMm v) (hs : u.sets = v.sets) (hw : u.ways = v.ways) (he : u.eps = v.eps) (h1 : u.sb = v.sb) (h2 : u.se = v.se) (h3 : u.hd = v.hd) (h4 : u.opn = v.opn) : zMm u := by
  have hn : u.n = v.n := by show u.sets * u.ways = v.sets * v.ways; rw [hs, hw]
  refine ⟨zSf_of h.1 hs hw he h4 (fun q => ⟨Or.inl (by rw [h1]), Or.inl (by rw [h2])⟩), by rw [hn, h1, h2]; exact h.2.1, ?_, by rw [h3, hw]; exact h.2.2.2⟩
  intro e e0 e1
  rw [h4] at e1
  refine ⟨by rw [hn, h1, h2]; exact (h.2.2.1 e e0 e1).1, ?_⟩
  show (zDl u.se e u.n).length ≤ 16
  rw [hn, h2]; exact (h.2.2.1 e e0 e1).2
/-- some dirty slots are no longer dirty -/
theorem zDl_sub {se se' : Nat → Nat} {e n : Nat} (h : ∀ i, i < n → se' i = e → se i = e) : (zDl se' e n).length ≤ (zDl se e n).length := by
  unfold zDl
  rw [← List.countP_eq_length_filter, ← List.countP_eq_length_filter]
  refine List.countP_mono_left (fun i hi hx => ?_)
  rw [beq_iff_eq] at hx ⊢
  exact h i (List.mem_range.mp hi) hx
theorem zMm_less {v u : ZVs} (h : zMm v) (hs : u.sets = v.sets) (hw : u.ways = v.ways) (he : u.eps = v.eps) (h1 : ∀ i, (u.se i = v.se i ∧ u.sb i = v.sb i) ∨ (u.se i = 0 ∧ (u.sb i = v.sb i ∨ u.sb i = 0))) (h3 : ∀ set, u.hd set < u.ways) (h4 : u.opn = v.opn) : zMm u := by
  have hn : u.n = v.n := by show u.sets * u.ways = v.sets * v.ways; rw [hs, hw]
  refine ⟨zSf_of h.1 hs hw he h4 (fun q => ?_), fun i hi h0 => ?_, fun e e0 e1 => ?_, h3⟩
  · rcases h1 q with ⟨a, b⟩ | ⟨a, b⟩
    · exact ⟨Or.inl b, Or.inl a⟩
    · exact ⟨b, Or.inr a⟩
  · rcases h1 i with ⟨a, b⟩ | ⟨a, b⟩
    · rw [b]; exact h.2.1 i (by omega) (by omega)
    · omega
  · rw [h4] at e1
    refine ⟨fun i j hi hj x1 x2 x3 => ?_, ?_⟩
    · rcases h1 i with ⟨a, b⟩ | ⟨a, b⟩
      · rcases h1 j with ⟨a', b'⟩ | ⟨a', b'⟩
        · exact (h.2.2.1 e e0 e1).1 i j (by omega) (by omega) (by omega) (by omega) (by rw [← b, ← b']; exact x3)
        · omega
      · omega
    · show (zDl u.se e u.n).length ≤ 16
      rw [hn]
      refine Nat.le_trans (zDl_sub (fun i hi hx => ?_)) (h.2.2.1 e e0 e1).2
      rcases h1 i with ⟨a, b⟩ | ⟨a, b⟩
      · rw [← a]; exact hx
      · omega
theorem setLanded_less (e : Nat) : ∀ (i : Nat) (v : ZVs) (s : Nat), ((ZVs.setLanded e i v).se s = v.se s ∧ (ZVs.setLanded e i v).sb s = v.sb s) ∨ ((ZVs.setLanded e i v).se s = 0 ∧ ((ZVs.setLanded e i v).sb s = v.sb s ∨ (ZVs.setLanded e i v).sb s = 0)) := by
  intro i
  induction i with
  | zero => intro v s; exact Or.inl ⟨rfl, rfl⟩
  | succ i ih =>
    intro v s
    have key : ∀ u : ZVs, ((u.se s = v.se s ∧ u.sb s = v.sb s) ∨ (u.se s = 0 ∧ (u.sb s = v.sb s ∨ u.sb s = 0))) → ∀ x : ZVs, (x.sb = u.sb ∨ x.sb = zu u.sb i 0) → x.se = zu u.se i 0 → ((x.se s = v.se s ∧ x.sb s = v.sb s) ∨ (x.se s = 0 ∧ (x.sb s = v.sb s ∨ x.sb s = 0))) := by
      intro u hu x x1 x2
      by_cases hsi : s = i
      · right
        refine ⟨by rw [x2, hsi, zu_self], ?_⟩
        rcases x1 with x1 | x1
        · rw [x1]; rcases hu with hu | hu
          · exact Or.inl hu.2
          · exact hu.2
        · right; rw [x1, hsi, zu_self]
      · have a : x.se s = u.se s := by rw [x2, zu_ne _ _ hsi]
        have b : x.sb s = u.sb s := by
          rcases x1 with x1 | x1
          · rw [x1]
          · rw [x1, zu_ne _ _ hsi]
        rw [a, b]; exact hu
    have hk := key _ (ih v s)
    rw [setLanded_step]
    split
    · split
      · exact hk _ (Or.inl rfl) rfl
      · split
        · exact hk _ (Or.inr rfl) rfl
        · exact hk _ (Or.inl rfl) rfl
    · exact ih v s
theorem zMm_landOf {v : ZVs} (h : zMm v) (e : Nat) : zMm (ZVs.landOf e v) := by
  obtain ⟨z1, z2, z3, z4, z5, z6⟩ := zfr_landOf e v h.1.1
  refine zMm_less h z1.s z1.w z1.e (fun i => ?_) (by rw [z6, z1.w]; exact h.2.2.2) z2
  have key : ∀ x : ZVs, x.sb = v.sb → x.se = v.se → (((ZVs.setLanded e x.n x).se i = v.se i ∧ (ZVs.setLanded e x.n x).sb i = v.sb i) ∨ ((ZVs.setLanded e x.n x).se i = 0 ∧ ((ZVs.setLanded e x.n x).sb i = v.sb i ∨ (ZVs.setLanded e x.n x).sb i = 0))) := by
    intro x x1 x2
    have := setLanded_less e x.n x i
    rw [x1, x2] at this
    exact this
  obtain ⟨l, hl⟩ : ∃ l, l = zSort v.sb (v.dl e) := ⟨_, rfl⟩
  obtain ⟨v1, hv1⟩ : ∃ v1, v1 = ZVs.wrCopies l 0 v := ⟨_, rfl⟩
  obtain ⟨v2, hv2⟩ : ∃ v2, v2 = (v1.wr 0 2 (zList l v.sb)).fl 0 := ⟨_, rfl⟩
  obtain ⟨v3, hv3⟩ : ∃ v3, v3 = (v2.wr 0 1 (zThree 1 e l.length)).fl 0 := ⟨_, rfl⟩
  obtain ⟨v4, hv4⟩ : ∃ v4, v4 = ZVs.wrHomes l v3 := ⟨_, rfl⟩
  obtain ⟨v5, hv5⟩ : ∃ v5, v5 = (((v4.fl 0).wr 0 1 (zThree 0 e 0)).fl 0) := ⟨_, rfl⟩
  have hspec : ZVs.landOf e v = ZVs.setLanded e v5.n v5 := by
    rw [hv5, hv4, hv3, hv2, hv1, hl]; rfl
  rw [hspec]
  obtain ⟨_, y2⟩ := zfr_wrCopies l 0 v
  rw [← hv1] at y2
  obtain ⟨_, y4⟩ := zfr_wrHomes l v3
  rw [← hv4] at y4
  have b1 : v3.sb = v.sb ∧ v3.se = v.se := by rw [hv3, hv2]; exact ⟨y2.sb, y2.se⟩
  have b2 : v5.sb = v.sb ∧ v5.se = v.se := by rw [hv5]; exact ⟨y4.sb.trans b1.1, y4.se.trans b1.2⟩
  exact key v5 b2.1 b2.2
theorem zMm_land1 {v : ZVs} (h : zMm v) : zMm v.land1.2 := by
  unfold ZVs.land1
  split
  · exact zMm_landOf h _
  · exact h
theorem zMm_rf {P : Nat → ZSt → Prop} {v : ZVs} (h : ZRf P v) (hb : v.p.na + 1 < 2147483648) (hi : ∀ i, v.n ≤ i → v.sb i = 0 ∧ v.se i = 0) : zMm v := by
  have hr := h.toZRm
  have n2 := hr.n2
  have hrange : ∀ i, v.sb i ≤ 106 ∧ v.se i ≤ v.opn := by
    intro i
    by_cases hn : i < v.n
    · refine ⟨?_, hr.t1 i hn⟩
      by_cases h0 : v.sb i = 0
      · omega
      · exact (hr.t2 i hn h0).1
    · have := hi i (by omega); omega
  refine ⟨⟨hr.sz, fun i _ => ?_, by omega⟩, fun i hn h0 => ?_, fun e e0 e1 => ⟨fun i j hi hj x1 x2 x3 => ?_, hr.fl.tc e e0 e1⟩, hr.hh⟩
  · have := hrange i; omega
  · have h1 : v.sb i ≠ 0 := fun hx => by have := hr.t0 i hn hx; omega
    exact ⟨by omega, (hrange i).1⟩
  · exact hr.fl.tu i j hi hj (by omega) (by omega) (by omega) x3
/-! CLOSING AN EPOCH (the reference) -/
/-- up and in order, or down and mountable -/
def zAl (P : Nat → ZSt → Prop) (v : ZVs) : Prop := (v.p.up = true ∧ ZRf P v ∧ P (v.p.na + 1) v.cur) ∨ ZDn P v
theorem zAl_ok {P : Nat → ZSt → Prop} {A : ZVs → Prop} {v : ZVs} (h : ZOk P A v) (hi : v.p.up = true → A v → ZRf P v ∧ P (v.p.na + 1) v.cur) : zAl P v := by
  rcases h with ⟨h1, h2⟩ | h
  · exact Or.inl ⟨h1, hi h1 h2⟩
  · exact Or.inr h
theorem zAl_L {P : Nat → ZSt → Prop} {v : ZVs} (h : zAl P v) (hb : v.p.na + 2 < 2147483648) : v.dn 1 1 = iN v.landed ∧ v.landed + 1 < 2147483648 ∧ v.dn 0 0 = iN (n32 (v.dn 0 0)) := by
  rcases h with ⟨_, h, _⟩ | h
  · have h1 := h.toZRm.hd
    have h2 := h.toZRm.fl.hLo
    have h3 := h.toZRm.n2
    exact ⟨h1.hL, by omega, h1.hid⟩
  · obtain ⟨id, L, h1, h2, h3, _⟩ := h.ok
    have e : v.dn = (v.p.dv 0).st := ZDv.now_nil (h.pd 0 (by omega))
    have hl : v.landed = L := by
      show n32 (v.dn 1 1) = L
      rw [e, h1.hL]; exact n32_iN (by omega)
    refine ⟨?_, by omega, ?_⟩
    · rw [hl, e]; exact h1.hL
    · rw [e, h1.hid, n32_iN (by omega)]
theorem zAl_sz {P : Nat → ZSt → Prop} {v : ZVs} (h : zAl P v) : ZSz v.sets v.ways v.eps := by
  rcases h with ⟨_, h, _⟩ | h
  · exact h.toZRm.sz
  · exact h.sz
theorem zAl_fr {P : Nat → ZSt → Prop} {v u : ZVs} {c : Nat} (hf : ZFr c v u) (h : v.p.up = false) (ha : zAl P v) : zAl P u := by
  rcases ha with ⟨h1, _⟩ | ha
  · rw [h] at h1; cases h1
  · exact Or.inr (hf.dnn ha)
theorem zAl_land1 {P : Nat → ZSt → Prop} (hP : ∀ m m' V, m ≤ m' → P m V → P m' V) {v : ZVs} (h : zAl P v) (hb : v.p.na + 300 < 2147483648) : zAl P v.land1.2 := by
  have hf := zfr_land1 v (zAl_sz h)
  cases hu : v.p.up with
  | false => exact zAl_fr hf.1 hu h
  | true =>
    rcases h with ⟨h1, h2, h3⟩ | h
    · by_cases hl : v.landed + 1 < v.opn
      · have e : v.land1.2 = ZVs.landOf (v.landed + 1) v := by unfold ZVs.land1; rw [if_pos hl]
        have hn := hf.1.n1
        rw [e] at hn ⊢
        refine zAl_ok (h2.landOf hP hl (by omega)) (fun _ q => ⟨q.1, ?_⟩)
        rw [q.2.1]; exact hP _ _ _ (by omega) h3
      · have e : v.land1.2 = v := by unfold ZVs.land1; rw [if_neg hl]
        rw [e]; exact Or.inl ⟨h1, h2, h3⟩
    · rw [h.up] at hu; cases hu
theorem zAl_close {P : Nat → ZSt → Prop} (hP : ∀ m m' V, m ≤ m' → P m V → P m' V) {v : ZVs} (h : zAl P v) (hb : v.p.na + 1000 < 2147483648) : zAl P v.close := by
  have hf := zfr_close v (zAl_sz h)
  cases hu : v.p.up with
  | false => exact zAl_fr hf hu h
  | true =>
    rcases h with ⟨h1, h2, h3⟩ | h
    · have hn := hf.n1
      refine zAl_ok (h2.close hP h3 hb) (fun _ q => ⟨q.1, ?_⟩)
      rw [q.2.1]; exact hP _ _ _ (by omega) h3
    · rw [h.up] at hu; cases hu
theorem zRw_up {s : px_S} {p : ZPw} (h : zRw s p) : s.1 29 = 0 ↔ p.up = false := by
  rw [h.2.1]
  cases p.up
  · exact ⟨fun _ => rfl, fun _ => rfl⟩
  · exact ⟨fun hx => absurd hx (by decide), fun hx => by cases hx⟩
/-- the landing that a closing may need -/
theorem m_close_loop {P : Nat → ZSt → Prop} (hP : ∀ m m' V, m ≤ m' → P m V → P m' V) (K : px_K) (N : Nat) (hN : 2000 ≤ N) (hK : zKm K) (t : px_W) (u1 : Int32) (n : Nat) (s : px_S) (v : ZVs) (h : zRv s v) (hm : zMm v) (ha : zAl P v) (hb : v.p.na + 1000 < 2147483648) : wp (l_M_close_28_8 K N (n + 2) u1 s t) (zC 25 [] t (fun s' => zRv s' v.landIf ∧ zMm v.landIf ∧ zFv s s' ∧ (v.landIf.p.up = true → ZRf P v.landIf ∧ P (v.landIf.p.na + 1) v.landIf.cur ∧ v.landIf.opn - 1 - v.landIf.landed < v.landIf.eps ∧ v.landIf.opn = v.opn ∧ v.landIf.plc = v.plc ∧ v.landIf.dirty v.opn = v.dirty v.opn))) := by
  obtain ⟨L1, L2, L3⟩ := zAl_L ha (by omega)
  have hlan := m_landed K N (by omega) hK t s v.p.dv h.1.1
  rw [show (v.p.dv 0).now 1 1 = iN v.landed from L1] at hlan
  unfold l_M_close_28_8
  cases hu : v.p.up with
  | false =>
    have e : v.landIf = v := by unfold ZVs.landIf; rw [if_neg (by rw [hu]; exact fun hx => by cases hx.1)]
    rw [e]
    refine wp_if ((zRw_up h.1).mpr hu) (wp_rC ⟨h, hm, zFv_refl s, fun hx => by rw [hu] at hx; cases hx⟩)
  | true =>
    have hup : ¬ s.1 29 = 0 := fun hx => by have := (zRw_up h.1).mp hx; rw [hu] at this; cases this
    refine wp_ifn hup (wp_bi hlan ?_)
    rcases ha with ⟨h1, h2, h3⟩ | ha
    · have hz := h2.toZRm.sz
      have hLo := h2.toZRm.fl.hLo
      have hE := h2.toZRm.fl.hE
      have n2 := h2.toZRm.n2
      have he8 := hz.e8
      have ed : s.1 32 - (1 : Int32) - iN v.landed = iN (v.opn - 1 - v.landed) := by
        rw [h.2.2.2.2.2.1, iL1, iN_sub (by omega), iN_sub (by omega)]
      rw [ed, h.2.2.2.1]
      by_cases hc : v.opn - 1 - v.landed < v.eps
      · have e : v.landIf = v := by unfold ZVs.landIf; rw [if_neg (by omega)]
        rw [e]
        refine wp_if ((iN_lt (by omega) (by omega)).mpr hc) (wp_rC ⟨h, hm, zFv_refl s, fun hx => ⟨h2, h3, hc, rfl, rfl, rfl⟩⟩)
      · have hl : v.landed + 1 < v.opn := by have := hz.e1; omega
        have e : v.landIf = v.land1.2 := by unfold ZVs.landIf; rw [if_pos ⟨hu, by omega⟩]
        have e2 : v.land1.2 = ZVs.landOf (v.landed + 1) v := by unfold ZVs.land1; rw [if_pos hl]
        have hk := h2.landOf hP hl (by omega)
        have hfr := (zfr_land1 v hz).1
        refine wp_ifn (fun hx => hc ((iN_lt (by omega) (by omega)).mp hx)) ?_
        obtain ⟨s2, b1, b2, b3⟩ := m_land1 K N hN hK t s v h hm.1 L1 L2 (fun hx => hm.ep (by omega) hx)
        have hm2 := zMm_land1 hm
        refine wp_bi b1 ?_
        rw [e]
        rw [e2] at b2 hm2 hfr ⊢
        have key : ∀ u : ZVs, zRv s2 u → zMm u → ZFr 135 v u → ZOk P (fun u => ZRf P u ∧ u.cur = v.cur ∧ u.landed = v.landed + 1 ∧ u.opn = v.opn ∧ u.plc = v.plc ∧ u.gen = v.gen ∧ u.half = v.half ∧ (∀ s, s < v.n → u.se s = zOff v.se (v.landed + 1) s) ∧ (∀ s, s < v.n → v.se s ≠ v.landed + 1 → u.sb s = v.sb s) ∧ u.p.dv 1 = v.p.dv 1) u → wp (l_M_close_28_8 K N (n + 1) u1 s2 t) (zC 25 [] t (fun s' => zRv s' u ∧ zMm u ∧ zFv s s' ∧ (u.p.up = true → ZRf P u ∧ P (u.p.na + 1) u.cur ∧ u.opn - 1 - u.landed < u.eps ∧ u.opn = v.opn ∧ u.plc = v.plc ∧ u.dirty v.opn = v.dirty v.opn))) := by
          intro u hu1 hu2 hu3 hu4
          unfold l_M_close_28_8
          rcases hu4 with ⟨w0, w1, w2, w3, w4, w5, w6, w7, w8, w9, w10⟩ | hdn
          · have hup2 : ¬ s2.1 29 = 0 := fun hx => by have := (zRw_up hu1.1).mp hx; rw [w0] at this; cases this
            have hL2 : u.dn 1 1 = iN u.landed := w1.toZRm.hd.hL
            have hlan2 := m_landed K N (by omega) hK t s2 u.p.dv hu1.1.1
            rw [show (u.p.dv 0).now 1 1 = iN u.landed from hL2] at hlan2
            have ueps : u.eps = v.eps := hu3.e
            refine wp_ifn hup2 (wp_bi hlan2 ?_)
            have ed2 : s2.1 32 - (1 : Int32) - iN u.landed = iN (u.opn - 1 - u.landed) := by
              rw [hu1.2.2.2.2.2.1, iL1, iN_sub (by omega), iN_sub (by omega)]
            rw [ed2, hu1.2.2.2.1]
            refine wp_if ((iN_lt (by omega) (by omega)).mpr (by omega)) (wp_rC ⟨hu1, hu2, b3, fun _ => ⟨w1, ?_, by omega, w4, w5, ?_⟩⟩)
            · rw [w2]; exact hP _ _ _ (by have := hu3.n1; omega) h3
            · show (zDl u.se v.opn u.n).length = (zDl v.se v.opn v.n).length
              have un : u.n = v.n := by show u.sets * u.ways = _; rw [hu3.s, hu3.w]
              rw [un]
              congr 1
              refine zDl_congr (fun s hs => ?_)
              rw [w8 s hs]
              unfold zOff
              by_cases hx : v.se s = v.landed + 1
              · rw [if_pos hx]; omega
              · rw [if_neg hx]
          · refine wp_if ((zRw_up hu1.1).mpr hdn.up) (wp_rC ⟨hu1, hu2, b3, fun hx => by rw [hdn.up] at hx; cases hx⟩)
        exact key _ b2 hm2 hfr hk
    · rw [ha.up] at hu; cases hu
theorem zMm_opn {v : ZVs} (h : zMm v) (hb : v.opn + 1 < 2147483648) (hu : ∀ i j, i < v.n → j < v.n → v.se i = v.opn → v.se j = v.opn → v.sb i = v.sb j → i = j) (hd : v.dirty v.opn ≤ 16) : zMm (v.s_opn (v.opn + 1)) := by
  refine ⟨⟨h.1.1, h.1.2.1, hb⟩, h.2.1, fun e e0 e1 => ?_, h.2.2.2⟩
  by_cases he : e = v.opn
  · rw [he]; exact ⟨hu, hd⟩
  · exact h.2.2.1 e e0 (by have e1 : e < v.opn + 1 := e1; omega)
theorem m_close {P : Nat → ZSt → Prop} (hP : ∀ m m' V, m ≤ m' → P m V → P m' V) (K : px_K) (N : Nat) (hN : 2000 ≤ N) (hK : zKm K) (t : px_W) (s : px_S) (v : ZVs) (h : zRv s v) (hm : zMm v) (ha : zAl P v) (hb : v.p.na + 1000 < 2147483648) : ∃ s', f_M_close_28 K N s t = some (.inl none, s', t) ∧ zRv s' v.close ∧ zMm v.close ∧ zFv s s' := by
  apply wp_B
  unfold f_M_close_28
  rw [h.2.2.2.2.2.1]
  refine wp_bi (m_dirty K N (by omega) hK t s v h.2 hm.1 v.opn hm.1.2.2) ?_
  have hdl : v.dirty v.opn ≤ 64 := Nat.le_trans (zDl_len _ _ _) hm.1.1.n64
  by_cases hd : v.dirty v.opn = 0
  · have e : v.close = v := by unfold ZVs.close; rw [if_pos hd]
    rw [e]
    exact wp_ifn (by rw [hd]; exact fun hx => hx rfl) (wp_rB ⟨h, hm, zFv_refl s⟩)
  refine wp_if (by rw [iL0, iN_eq (by omega) (by omega)]; exact hd) ?_
  obtain ⟨M, rfl⟩ : ∃ M, N = M + 2 := ⟨N - 2, by omega⟩
  obtain ⟨s1, a1, a2, a3, a4, a5⟩ := wp_C (m_close_loop hP K (M + 2) hN hK t (iN (v.dirty v.opn)) M s v h hm ha hb)
  refine wp_lp a1 (wp_if rfl ?_)
  show wp (ite _ _ _) _
  have e : v.close = (if v.landIf.p.up = false then v.landIf else (ZVs.recsAll (if 24 - v.landIf.plc < (v.dirty v.opn + 5) / 6 then v.landIf.changeHalves else v.landIf).opn true (if 24 - v.landIf.plc < (v.dirty v.opn + 5) / 6 then v.landIf.changeHalves else v.landIf)).s_opn ((ZVs.recsAll (if 24 - v.landIf.plc < (v.dirty v.opn + 5) / 6 then v.landIf.changeHalves else v.landIf).opn true (if 24 - v.landIf.plc < (v.dirty v.opn + 5) / 6 then v.landIf.changeHalves else v.landIf)).opn + 1)) := by
    unfold ZVs.close; rw [if_neg hd]
  rw [e]
  obtain ⟨v1, hv1⟩ : ∃ v1, v1 = v.landIf := ⟨_, rfl⟩
  have hfr := (zfr_landIf v hm.1.1).1
  rw [← hv1] at a2 a3 a5 hfr ⊢
  cases hu : v1.p.up with
  | false =>
    rw [if_pos rfl]
    exact wp_ifn (fun hx => hx ((zRw_up a2.1).mpr hu)) (wp_rB ⟨a2, a3, a4⟩)
  | true =>
    rw [if_neg (c := true = false) Bool.noConfusion]
    refine wp_if (fun hx => by have := (zRw_up a2.1).mp hx; rw [hu] at this; cases this) ?_
    obtain ⟨b1, b2, b3, b4, b5, b6⟩ := a5 hu
    have hr := b1.toZRm
    have hpl : v1.plc ≤ 24 := hr.fl.hpl
    have hd16 : v.dirty v.opn ≤ 16 := by rw [← b6, ← b4]; exact hr.t5
    have hn2 := hr.n2
    have hna := hfr.n2
    have e24 : (24 : Int32) - s1.1 35 = iN (24 - v1.plc) := by
      have : (24 : Int32) = iN 24 := rfl
      rw [a2.2.2.2.2.2.2.2.2.1, this, iN_sub hpl]
    have e6 : (iN (v.dirty v.opn) + (5 : Int32)) / (6 : Int32) = iN ((v.dirty v.opn + 5) / 6) := by
      have h5 : (5 : Int32) = iN 5 := rfl
      have h6 : (6 : Int32) = iN 6 := rfl
      rw [h5, h6, iN_add, iN_div (by omega) (by omega) (by omega)]
    rw [e24, e6]
    -- the records, once there is room
    have recd : ∀ (u : px_S) (x : ZVs), zRv u x → zFv s u → zMm x → x.half < 2 → x.plc + 11 ≤ 88 → x.opn = v.opn → x.se = v1.se → x.sb = v1.sb → x.n = v1.n → ∃ s', f_M_records_28 K (M + 2) (u.1 32) (1 : Int32) u t = some (.inl none, s', t) ∧ zRv (sR s' 32 (s'.1 32 + (1 : Int32))) ((ZVs.recsAll x.opn true x).s_opn ((ZVs.recsAll x.opn true x).opn + 1)) ∧ zMm ((ZVs.recsAll x.opn true x).s_opn ((ZVs.recsAll x.opn true x).opn + 1)) ∧ zFv s (sR s' 32 (s'.1 32 + (1 : Int32))) := by
      intro u x hx hfx hmx hhx hpx hox hsex hsbx hnx
      obtain ⟨s', c1, c2, c3⟩ := m_records K (M + 2) hN hK t x.opn hmx.1.2.2 true u x hx hmx.1 hhx hpx (fun q hq hse => (hmx.2.1 q hq (by have := b1.opn1; omega)).1)
      obtain ⟨z1, z2, z3, z4⟩ := zfr_recsAll x.opn true x
      refine ⟨s', by rw [hx.2.2.2.2.2.1]; exact c1, ?_, ?_, zFv_trans hfx (zFv_trans (zFv_fr1 c3) (zFv_sR (by omega)))⟩
      · have e32 : s'.1 32 + (1 : Int32) = iN ((ZVs.recsAll x.opn true x).opn + 1) := by rw [c2.2.2.2.2.2.1, iL1, iN_add]
        rw [e32]
        exact ⟨zRw_int c2.1 (by omega), zRs_opn c2.2 _⟩
      · have hmr : zMm (ZVs.recsAll x.opn true x) := zMm_sm hmx z1.s z1.w z1.e z2.sb z2.se z2.hd z2.opn
        have hnr : (ZVs.recsAll x.opn true x).n = v1.n := by
          rw [← hnx]; show (ZVs.recsAll x.opn true x).sets * (ZVs.recsAll x.opn true x).ways = x.sets * x.ways; rw [z1.s, z1.w]
        refine zMm_opn hmr (by rw [z2.opn]; omega) ?_ ?_
        · rw [z2.opn, z2.se, z2.sb, hnr, hsex, hsbx, hox, ← b4]
          intro i j hi hj x1 x2 x3
          have hop := b1.opn1
          have h0 : v1.sb i ≠ 0 := fun hx => by have := hr.t0 i hi hx; omega
          exact hr.t3 i j hi hj h0 x3 (Or.inl (by omega))
        · show (zDl (ZVs.recsAll x.opn true x).se (ZVs.recsAll x.opn true x).opn (ZVs.recsAll x.opn true x).n).length ≤ 16
          rw [z2.opn, z2.se, hnr, hsex, hox, ← b4]; exact hr.t5
    by_cases hroom : 24 - v1.plc < (v.dirty v.opn + 5) / 6
    · rw [if_pos hroom]
      refine wp_ifn (by rw [iN_le (by omega) (by omega)]; omega) ?_
      have hE := hr.fl.hE
      have he8 := hr.sz.e8
      have hLo := hr.fl.hLo
      obtain ⟨s2, c1, c2, c3⟩ := m_half K (M + 2) hN hK t s1 v1 a2 a3.1 hr.fl.hH hr.pd0 hr.hd.hid hr.hd.hL (by omega) (fun q hq h0 => (a3.2.1 q hq h0).1) (by omega)
      refine wp_bv c1 ?_
      obtain ⟨z1, z2⟩ := zfr_changeHalves v1
      obtain ⟨y1, y2⟩ := zch_half v1
      obtain ⟨v2, hv2⟩ : ∃ v2, v2 = v1.changeHalves := ⟨_, rfl⟩
      rw [← hv2] at c2 z1 z2 y1 y2 ⊢
      obtain ⟨s3, d1, d2, d3, d4⟩ := recd s2 v2 c2 (zFv_trans a4 c3) (zMm_sm a3 z1.s z1.w z1.e z2.sb z2.se z2.hd z2.opn) (by omega) (by omega) (by rw [z2.opn, b4]) z2.se z2.sb (by show v2.sets * v2.ways = _; rw [z1.s, z1.w])
      refine wp_bv d1 (wp_let (wp_rB ⟨d2, d3, d4⟩))
    · rw [if_neg hroom]
      refine wp_if (by rw [iN_le (by omega) (by omega)]; omega) ?_
      obtain ⟨s3, d1, d2, d3, d4⟩ := recd s1 v1 a2 a4 a3 hr.fl.hH (by omega) b4 rfl rfl rfl
      refine wp_bv d1 (wp_let (wp_rB ⟨d2, d3, d4⟩))
