/-! A DISC WITHOUT PENDING WRITES stays as it is while the flash acts -/
def zK0 (v u : ZVs) : Prop := (v.p.dv 0).pd = [] → (u.p.dv 0).pd = [] ∧ u.dn = v.dn
theorem zK0_refl (v : ZVs) : zK0 v v := fun h => ⟨h, rfl⟩
theorem zK0_trans {v u w : ZVs} (h1 : zK0 v u) (h2 : zK0 u w) : zK0 v w := fun h => ⟨(h2 (h1 h).1).1, (h2 (h1 h).1).2.trans (h1 h).2⟩
theorem zgo_now {d : ZDv} (h : d.pd = []) (m : Int64) : (d.go m).now = d.now := by
  have e : (d.go m).now = zlost m 0 d.st d.pd := rfl
  rw [e, h, ZDv.now_nil h]; rfl
theorem zK0_wr (v : ZVs) (b : Nat) (x : ZBk) : zK0 v (v.wr 1 b x) := by
  intro h
  cases hu : v.p.up with
  | false =>
    have e : (v.wr 1 b x).p = v.p := ZPw.wr_down hu 1 b x
    refine ⟨by rw [e]; exact h, ?_⟩
    show ((v.wr 1 b x).p.dv 0).now = _
    rw [e]
  | true =>
    rcases ZPw.wr_cases hu 1 b x with ⟨_, h2⟩ | ⟨_, h2⟩
    · have e : (v.wr 1 b x).p.dv 0 = (v.p.dv 0).go v.p.msk := by
        show (v.p.wr 1 b x).dv 0 = _
        rw [h2]; rfl
      refine ⟨by rw [e]; rfl, ?_⟩
      show ((v.wr 1 b x).p.dv 0).now = _
      rw [e]; exact zgo_now h _
    · have e : (v.wr 1 b x).p.dv 0 = v.p.dv 0 := by
        show (v.p.wr 1 b x).dv 0 = _
        rw [h2]
        show zu v.p.dv 1 ((v.p.dv 1).add b x) 0 = _
        rw [zu_ne _ _ (by omega)]
      refine ⟨by rw [e]; exact h, ?_⟩
      show ((v.wr 1 b x).p.dv 0).now = _
      rw [e]
theorem zK0_fl (v : ZVs) : zK0 v (v.fl 1) := by
  intro h
  cases hu : v.p.up with
  | false =>
    have e : (v.fl 1).p = v.p := ZPw.fl_down hu 1
    refine ⟨by rw [e]; exact h, ?_⟩
    show ((v.fl 1).p.dv 0).now = _
    rw [e]
  | true =>
    rcases ZPw.fl_cases hu 1 with ⟨_, h2⟩ | ⟨_, h2⟩
    · have e : (v.fl 1).p.dv 0 = (v.p.dv 0).go v.p.msk := by
        show (v.p.fl 1).dv 0 = _
        rw [h2]; rfl
      refine ⟨by rw [e]; rfl, ?_⟩
      show ((v.fl 1).p.dv 0).now = _
      rw [e]; exact zgo_now h _
    · have e : (v.fl 1).p.dv 0 = v.p.dv 0 := by
        show (v.p.fl 1).dv 0 = _
        rw [h2]
        show zu v.p.dv 1 ((v.p.dv 1).flush) 0 = _
        rw [zu_ne _ _ (by omega)]
      refine ⟨by rw [e]; exact h, ?_⟩
      show ((v.fl 1).p.dv 0).now = _
      rw [e]
theorem zK0_recs (e : Nat) (cl : Bool) : ∀ (k : Nat) (l : List Nat) (v : ZVs), zK0 v (ZVs.recs e cl k l v) := by
  intro k
  induction k with
  | zero => intro l v; exact zK0_refl v
  | succ k ih =>
    intro l v
    unfold ZVs.recs
    split
    · exact zK0_refl v
    · dsimp only
      have key : ∀ x : ZVs, zK0 v x → zK0 v (ZVs.recs e cl k (l.drop 6) (x.s_plc (v.plc + 1))) := by
        intro x hx
        have h2 : zK0 x (x.s_plc (v.plc + 1)) := fun h => ⟨h, rfl⟩
        exact zK0_trans (zK0_trans hx h2) (ih _ _)
      refine key _ ?_
      cases hc : (decide (l.length ≤ 6) && cl) with
      | true =>
        rw [if_pos rfl, if_pos rfl]
        exact zK0_trans (zK0_trans (zK0_fl v) (zK0_wr _ _ _)) (zK0_fl _)
      | false =>
        rw [if_neg Bool.noConfusion, if_neg Bool.noConfusion]
        exact zK0_wr v _ _
theorem zK0_recsTo : ∀ (k e : Nat) (v : ZVs), zK0 v (ZVs.recsTo k e v) := by
  intro k
  induction k with
  | zero => intro e v; exact zK0_refl v
  | succ k ih =>
    intro e v
    unfold ZVs.recsTo
    exact zK0_trans (zK0_recs e false 11 _ v) (ih _ _)
theorem zRs_half {s : px_S} {v : ZVs} (h : zRs s v) (g q p : Nat) : zRs (sR (sR (sR s 34 (iN g)) 33 (iN q)) 35 (iN p)) (ZVs.mk v.p v.sets v.ways v.eps v.wf v.sb v.se v.mrk v.hd v.opn q g p) := by
  obtain ⟨r1, r2, r3, r4, r5, r6, r7, r8, r9, r10⟩ := h
  exact ⟨r1, r2, r3, r4, r5, rfl, rfl, rfl, r9, r10⟩
theorem m_changeHalves (K : px_K) (N : Nat) (hN : 2000 ≤ N) (hK : zKm K) (t : px_W) (s : px_S) (v : ZVs) (h : zRv s v) (hs : zSf v) (hh : v.half < 2) (hd : (v.p.dv 0).pd = []) (hid : v.dn 0 0 = iN (n32 (v.dn 0 0))) (hL : v.dn 1 1 = iN v.landed) (h8 : v.opn - (v.landed + 1) ≤ 8) (hb : ∀ q, q < v.n → 0 < v.se q → 1 ≤ v.sb q) (hl31 : v.landed + 1 < 2147483648) : ∃ s', f_M_changeHalves_28 K N s t = some (.inl none, s', t) ∧ zRv s' v.changeHalves := by
  obtain ⟨v1, hv1⟩ : ∃ v1, v1 = ZVs.mk v.p v.sets v.ways v.eps v.wf v.sb v.se v.mrk v.hd v.opn (1 - v.half) (v.gen + 1) 0 := ⟨_, rfl⟩
  have eg : s.1 34 + (1 : Int32) = iN (v.gen + 1) := by rw [h.2.2.2.2.2.2.2.1, iL1, iN_add]
  have eh : (1 : Int32) - s.1 33 = iN (1 - v.half) := by rw [h.2.2.2.2.2.2.1, iL1, iN_sub (by omega)]
  have h5 : zRv (sR (sR (sR s 34 (iN (v.gen + 1))) 33 (iN (1 - v.half))) 35 (iN 0)) v1 := by
    rw [hv1]
    exact ⟨zRw_int (zRw_int (zRw_int h.1 (by omega)) (by omega)) (by omega), zRs_half h.2 _ _ _⟩
  have hs1 : zSf v1 := by rw [hv1]; exact hs
  have hk : min 8 (v.opn - (v.landed + 1)) = v.opn - (v.landed + 1) := by omega
  have hlan := m_landed K N (by omega) hK t _ v1.p.dv h5.1.1
  have hdn1 : v1.p.dv 0 = v.p.dv 0 := by rw [hv1]; rfl
  obtain ⟨s6, a1, a2, a3⟩ := m_recsTo K N hN hK t (v.opn - (v.landed + 1)) (v.landed + 1) N _ v1 h5 hs1 (by rw [hv1]; show 1 - v.half < 2; omega) (by rw [hv1]; show 0 + 11 * _ ≤ 88; omega) (by omega) (by rw [hv1]; exact hb) (by rw [hv1]; show v.landed + 1 + _ = v.opn ∨ (_ = 0 ∧ v.opn ≤ v.landed + 1); omega) hl31 (by omega)
  have hk2 := zK0_recsTo (v.opn - (v.landed + 1)) (v.landed + 1) v1 (by rw [hdn1]; exact hd)
  have hspec : v.changeHalves = (((ZVs.recsTo (v.opn - (v.landed + 1)) (v.landed + 1) v1).fl 1).wr 1 (25 * ((ZVs.recsTo (v.opn - (v.landed + 1)) (v.landed + 1) v1).fl 1).half) (zThree ((ZVs.recsTo (v.opn - (v.landed + 1)) (v.landed + 1) v1).fl 1).gen (n32 (((ZVs.recsTo (v.opn - (v.landed + 1)) (v.landed + 1) v1).fl 1).dn 0 0)) 0)).fl 1 := by
    unfold ZVs.changeHalves; rw [hk, hv1]
  obtain ⟨z1, z2, z3, z4⟩ := zfr_recsTo (v.opn - (v.landed + 1)) (v.landed + 1) v1
  rw [hspec]
  have hv1dn : v1.dn = v.dn := by show (v1.p.dv 0).now = _; rw [hdn1]
  have hhalf : (ZVs.recsTo (v.opn - (v.landed + 1)) (v.landed + 1) v1).half = 1 - v.half := by rw [z4, hv1]; rfl
  rw [hv1dn] at hk2
  have key : ∀ v2 : ZVs, zRv s6 v2 → (v2.p.dv 0).pd = [] ∧ v2.dn = v.dn → v2.half = 1 - v.half → ∃ s', f_M_changeHalves_28 K N s t = some (.inl none, s', t) ∧ zRv s' (((v2.fl 1).wr 1 (25 * (v2.fl 1).half) (zThree (v2.fl 1).gen (n32 ((v2.fl 1).dn 0 0)) 0)).fl 1) := by
    intro v2 h6 hk2 hh2
    obtain ⟨s7, b1, b2, b3⟩ := m_fl_act K N hN hK t s6 v2 h6 1 (by omega)
    have b1 : f_M_flush_28 K N (1 : Int32) s6 t = some (.inl none, s7, t) := b1
    have hk3 := zK0_fl v2 hk2.1
    have hrd := m_read K N (by omega) hK t s7 (v2.fl 1).p.dv b2.1.1 0 0 0 (by omega) (by show 0 < 125; omega) (by omega)
    have hval : ((v2.fl 1).p.dv 0).now 0 0 = iN (n32 ((v2.fl 1).dn 0 0)) := by
      have e : (v2.fl 1).dn = v.dn := hk3.2.trans hk2.2
      show (v2.fl 1).dn 0 0 = _
      rw [e]; exact hid
    rw [hval] at hrd
    obtain ⟨g, c1, c2⟩ := m_three_43 K N (by omega) (hK.2.2.2.2.2.2.2.2.2.2.2.2.2.2.1) (v2.fl 1).gen (n32 ((v2.fl 1).dn 0 0)) 0 s7 t
    have h8' : zRv (sF s7 43 g) (v2.fl 1) := ⟨zRw_row b2.1 (by omega), zRs_row b2.2 (by omega)⟩
    have eb : (25 : Int32) * (sF s7 43 g).1 33 = iN (25 * (v2.fl 1).half) := by
      have h25 : (25 : Int32) = iN 25 := rfl
      rw [h8'.2.2.2.2.2.2.1, h25, iN_mul]
    have hX : K.2.2 43 = 16 := hK.2.2.2.2.2.2.2.2.2.2.2.2.2.2.1
    obtain ⟨s9, d1, d2, d3⟩ := m_write_43 K N hN hK t (sF s7 43 g) (v2.fl 1).p h8'.1 1 (25 * (v2.fl 1).half) 0 (zThree (v2.fl 1).gen (n32 ((v2.fl 1).dn 0 0)) 0) (by omega) (by show 25 * v2.half < 114; omega) (by omega) (by omega) (fun w hw => by rw [Nat.zero_add, sF_arr]; exact c2 w hw)
    have d1 : f_M_write_28_43 K N (1 : Int32) (iN (25 * (v2.fl 1).half)) (0 : Int32) (sF s7 43 g) t = some (.inl none, s9, t) := d1
    have h9 : zRv s9 ((v2.fl 1).wr 1 (25 * (v2.fl 1).half) (zThree (v2.fl 1).gen (n32 ((v2.fl 1).dn 0 0)) 0)) := ⟨d2, zRs_fm h8'.2 d3 _⟩
    obtain ⟨s10, e1, e2, e3⟩ := m_fl_act K N hN hK t s9 _ h9 1 (by omega)
    have e1 : f_M_flush_28 K N (1 : Int32) s9 t = some (.inl none, s10, t) := e1
    refine ⟨s10, ?_, e2⟩
    unfold f_M_changeHalves_28 px_let
    dsimp only
    have x1 : (sR s 34 (s.1 34 + (1 : Int32))).1 33 = s.1 33 := rfl
    rw [x1, eg, eh]
    have hl' : f_M_landed_28 K N (sR (sR (sR s 34 (iN (v.gen + 1))) 33 (iN (1 - v.half))) 35 (0 : Int32)) t = some (.inl (some (.int (iN v.landed))), sR (sR (sR s 34 (iN (v.gen + 1))) 33 (iN (1 - v.half))) 35 (0 : Int32), t) := by
      have := hlan
      rw [show (v1.p.dv 0).now 1 1 = iN v.landed by rw [hdn1]; exact hL] at this
      exact this
    rw [hl']
    unfold px_bi
    dsimp only
    have x2 : iN v.landed + (1 : Int32) = iN (v.landed + 1) := by rw [iL1, iN_add]
    have a1 : l_M_changeHalves_28_20 K N N (iN (v.landed + 1)) (sR (sR (sR s 34 (iN (v.gen + 1))) 33 (iN (1 - v.half))) 35 (0 : Int32)) t = some (.inl (30, [], s6, t)) := a1
    rw [x2, a1]
    unfold px_lp
    dsimp only
    rw [if_pos rfl]
    unfold px_v0
    dsimp only
    rw [b1]
    unfold px_bv
    dsimp only
    have hrd : f_M_read_28 K N (0 : Int32) (0 : Int32) (0 : Int32) s7 t = some (.inl (some (.int (iN (n32 ((v2.fl 1).dn 0 0))))), s7, t) := hrd
    rw [hrd]
    dsimp only
    have x3 : s7.1 34 = iN (v2.fl 1).gen := b2.2.2.2.2.2.2.2.1
    have c1 : f_M_three_28_43 K N (iN (v2.fl 1).gen) (iN (n32 ((v2.fl 1).dn 0 0))) (0 : Int32) s7 t = some (.inl none, sF s7 43 g, t) := c1
    rw [x3, c1]
    dsimp only
    rw [eb, d1]
    dsimp only
    rw [e1]
  exact key _ a2 hk2 hhalf
