/-! A DISC WITHOUT PENDING WRITES stays as it is while the flash acts -/
def zK0 (v u : ZVs) : Prop := (v.p.dv 0).pd = [] → (u.p.dv 0).pd = [] ∧ u.dn = v.dn
theorem zK0_refl (v : ZVs) : zK0 v v := fun h => ⟨h, rfl⟩
theorem zK0_trans {v u w : ZVs} (h1 : zK0 v u) (h2 : zK0 u w) : zK0 v w := fun h => ⟨(h2 (h1 h).1).1, (h2 (h1 h).1).2.trans (h1 h).2⟩
theorem zgo_now {d : ZDv} (h : d.pd = []) (m : Int64) : (d.go m).now = d.now := by
  have e : (d.go m).now = zlost m 0 d.st d.pd := rfl
  rw [e, h, ZDv.now_nil h]; rfl
theorem zK0_wr (v : ZVs) (b : Nat) (x : ZBk) : zK0 v (v.wr 1 b x) := by
  intro h
  cases hu : v.p.up with
  | false =>
    have e : (v.wr 1 b x).p = v.p := ZPw.wr_down hu 1 b x
    refine ⟨by rw [e]; exact h, ?_⟩
    show ((v.wr 1 b x).p.dv 0).now = _
    rw [e]
  | true =>
    rcases ZPw.wr_cases hu 1 b x with ⟨_, h2⟩ | ⟨_, h2⟩
    · have e : (v.wr 1 b x).p.dv 0 = (v.p.dv 0).go v.p.msk := by
        show (v.p.wr 1 b x).dv 0 = _
        rw [h2]; rfl
      refine ⟨by rw [e]; rfl, ?_⟩
      show ((v.wr 1 b x).p.dv 0).now = _
      rw [e]; exact zgo_now h _
    · have e : (v.wr 1 b x).p.dv 0 = v.p.dv 0 := by
        show (v.p.wr 1 b x).dv 0 = _
        rw [h2]
        show zu v.p.dv 1 ((v.p.dv 1).add b x) 0 = _
        rw [zu_ne _ _ (by omega)]
      refine ⟨by rw [e]; exact h, ?_⟩
      show ((v.wr 1 b x).p.dv 0).now = _
      rw [e]
theorem zK0_fl (v : ZVs) : zK0 v (v.fl 1) := by
  intro h
  cases hu : v.p.up with
  | false =>
    have e : (v.fl 1).p = v.p := ZPw.fl_down hu 1
    refine ⟨by rw [e]; exact h, ?_⟩
    show ((v.fl 1).p.dv 0).now = _
    rw [e]
  | true =>
    rcases ZPw.fl_cases hu 1 with ⟨_, h2⟩ | ⟨_, h2⟩
    · have e : (v.fl 1).p.dv 0 = (v.p.dv 0).go v.p.msk := by
        show (v.p.fl 1).dv 0 = _
        rw [h2]; rfl
      refine ⟨by rw [e]; rfl, ?_⟩
      show ((v.fl 1).p.dv 0).now = _
      rw [e]; exact zgo_now h _
    · have e : (v.fl 1).p.dv 0 = v.p.dv 0 := by
        show (v.p.fl 1).dv 0 = _
        rw [h2]
        show zu v.p.dv 1 ((v.p.dv 1).flush) 0 = _
        rw [zu_ne _ _ (by omega)]
      refine ⟨by rw [e]; exact h, ?_⟩
      show ((v.fl 1).p.dv 0).now = _
      rw [e]
theorem zK0_recs (e : Nat) (cl : Bool) : ∀ (k : Nat) (l : List Nat) (v : ZVs), zK0 v (ZVs.recs e cl k l v) := by
  intro k
  induction k with
  | zero => intro l v; exact zK0_refl v
  | succ k ih =>
    intro l v
    unfold ZVs.recs
    split
    · exact zK0_refl v
    · dsimp only
      have key : ∀ x : ZVs, zK0 v x → zK0 v (ZVs.recs e cl k (l.drop 6) (x.s_plc (v.plc + 1))) := by
        intro x hx
        have h2 : zK0 x (x.s_plc (v.plc + 1)) := fun h => ⟨h, rfl⟩
        exact zK0_trans (zK0_trans hx h2) (ih _ _)
      refine key _ ?_
      cases hc : (decide (l.length ≤ 6) && cl) with
      | true =>
        rw [if_pos rfl, if_pos rfl]
        exact zK0_trans (zK0_trans (zK0_fl v) (zK0_wr _ _ _)) (zK0_fl _)
      | false =>
        rw [if_neg Bool.noConfusion, if_neg Bool.noConfusion]
        exact zK0_wr v _ _
theorem zK0_recsTo : ∀ (k e : Nat) (v : ZVs), zK0 v (ZVs.recsTo k e v) := by
  intro k
  induction k with
  | zero => intro e v; exact zK0_refl v
  | succ k ih =>
    intro e v
    unfold ZVs.recsTo
    exact zK0_trans (zK0_recs e false 11 _ v) (ih _ _)
