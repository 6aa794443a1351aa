/-! THE FIRST STATE -/
def z0d : ZSt := fun b w => if w = 0 ∧ (b = 0 ∨ b = 19 ∨ b = 49) then 1 else 0
def z0f : ZSt := fun b w => if b = 0 ∧ (w = 0 ∨ w = 1) then 1 else 0
def z0c : ZSt := fun b => z0d (19 + b)
def z0D (k : Nat) : ZDv := ZDv.mk (if k = 0 then z0d else z0f) [] 0 0
def z0p : ZPw := ZPw.mk z0D true 0 0 0
def z0v (n0 n1 n2 : Nat) : ZVs := ZVs.mk z0p n0 n1 n2 true (fun _ => 0) (fun _ => 0) (fun _ => false) (fun _ => 0) 1 0 1 0
def z0T (n0 n1 n2 : Nat) : ZTs := ZTs.mk (z0v n0 n1 n2) z0c (fun _ _ => 0) (fun _ => false) (fun _ => false) 1 1
theorem z0d_dn (n0 n1 n2 : Nat) : (z0v n0 n1 n2).dn = z0d := ZDv.now_nil rfl
theorem z0d_fn (n0 n1 n2 : Nat) : (z0v n0 n1 n2).fn = z0f := ZDv.now_nil rfl
theorem z0c_v (b w : Nat) : z0c b w = if w = 0 ∧ (b = 0 ∨ b = 30) then 1 else 0 := by
  show (if w = 0 ∧ (19 + b = 0 ∨ 19 + b = 19 ∨ 19 + b = 49) then (1 : Int32) else 0) = _
  by_cases h : w = 0 ∧ (b = 0 ∨ b = 30)
  · rw [if_pos h, if_pos ⟨h.1, by omega⟩]
  · rw [if_neg h, if_neg (by omega)]
theorem z0I (i w : Nat) : tI z0c i w = if i = 0 ∧ w = 0 then 1 else 0 := by
  unfold tI
  rw [z0c_v]
  by_cases h : i = 0 ∧ w = 0
  · obtain ⟨rfl, rfl⟩ := h
    rfl
  · rw [if_neg h, if_neg (by omega)]
theorem z0I0 {i w : Nat} (h : ¬ (i = 0 ∧ w = 0)) : tI z0c i w = 0 := by rw [z0I, if_neg h]
theorem z0P (i k : Nat) : tP z0c i k = 0 := by
  unfold tP
  split
  · exact z0I0 (by omega)
  · split
    · exact z0I0 (by omega)
    · have : tF z0c i = 0 := by
        unfold tF
        rw [z0I0 (by omega)]; rfl
      rw [if_pos this]
theorem z0B (i k : Nat) : tB z0c i k = 0 := by
  unfold tB
  rw [z0P]; rfl
theorem z0S (i : Nat) : tS z0c i = 0 := by
  unfold tS
  rw [z0I0 (by omega)]; rfl
theorem z0k (i : Nat) (x : Int32) (h : tI z0c i 0 = x) (hx : x ≠ 0) : i = 0 ∧ x = 1 := by
  by_cases hi : i = 0
  · subst hi
    rw [z0I, if_pos ⟨rfl, rfl⟩] at h
    exact ⟨rfl, h.symm⟩
  · rw [z0I0 (fun q => hi q.1)] at h
    exact absurd h.symm hx
theorem z0W : ZW z0c := by
  refine ⟨⟨fun i _ => ?_, ?_, fun i _ hk w _ => ?_, fun i _ _ => ⟨0, by omega, by rw [z0I0 (by omega)]; rfl, fun k hk => by omega⟩, fun i _ hk => ?_, fun i k _ _ => ⟨by rw [z0P, z0B]; rfl, Or.inl (z0B i k)⟩, fun i k j l _ _ _ _ hn => absurd (z0B i k) hn, fun i k _ _ hn => absurd (z0B i k) hn⟩, ⟨fun d p _ _ hp => ?_, fun d p q _ _ hp => ?_, fun d p e q i hp => ?_, ⟨fun _ => 0, fun d p i hp => ?_⟩⟩, fun i k w _ _ _ _ _ hn => absurd (z0B i k) hn⟩
  · rw [z0I]
    split
    · exact Or.inr (Or.inl rfl)
    · exact Or.inl rfl
  · rw [z0I, if_pos ⟨rfl, rfl⟩]
  · refine z0I0 fun q => ?_
    obtain ⟨rfl, rfl⟩ := q
    rw [z0I, if_pos ⟨rfl, rfl⟩] at hk
    exact absurd hk (by decide)
  · exact absurd (z0k i 2 hk (by decide)).2 (by decide)
  · rw [z0S] at hp; omega
  · rw [z0S] at hp; omega
  · have := hp.2.2.1
    rw [z0S] at this; omega
  · have := hp.2.2.1
    rw [z0S] at this; omega
theorem z0nt : zNT z0c 1 := by
  intro k h1 h2 h3
  rw [z0c_v] at h3
  by_cases h : 0 = 0 ∧ (k = 0 ∨ k = 30)
  · omega
  · rw [if_neg h] at h3
    exact absurd h3 (by decide)
theorem z0g : zGood ZW 1 z0c := ⟨1, [], rfl, by omega, by show 1 + 0 ≤ 1; omega, trivial, z0nt, z0W⟩
theorem z0cur (n0 n1 n2 : Nat) : (z0v n0 n1 n2).cur = z0c := by
  funext b
  unfold ZVs.cur
  have hno : (z0v n0 n1 n2).newest b = none := zNew_none.mpr (fun i _ hx => by have hx : 0 = b + 1 := hx; omega)
  rw [hno]
  show (if true = true then (z0v n0 n1 n2).dn (19 + b) else _) = _
  rw [if_pos rfl, z0d_dn]
  rfl
theorem z0dl (e n : Nat) (he : 0 < e) : zDl (fun _ => 0) e n = [] := by
  rw [List.eq_nil_iff_forall_not_mem]
  intro s hs
  have := mem_zDl.mp hs
  omega
theorem z0fq : zFq z0f 1 := by
  refine ⟨rfl, rfl, rfl, fun k hk => ⟨?_, ?_⟩⟩
  · show (if 1 + k = 0 ∧ (0 = 0 ∨ 0 = 1) then (1 : Int32) else 0) = 0
    rw [if_neg (by omega)]
  · show (if 26 + k = 0 ∧ (0 = 0 ∨ 0 = 1) then (1 : Int32) else 0) = 0
    rw [if_neg (by omega)]
theorem z0d10 : z0d 1 0 = 0 := rfl
theorem z0disc : zDisc z0d = z0c := zDisc_0 (by rw [z0d10]; decide)
theorem z0land (n0 n1 n2 : Nat) : (z0v n0 n1 n2).landed = 0 := by
  unfold ZVs.landed
  rw [z0d_dn]
  rfl
theorem z0id (n0 n1 n2 : Nat) : n32 ((z0v n0 n1 n2).dn 0 0) = 1 := by
  rw [z0d_dn]
  rfl
theorem z0rf (n0 n1 n2 : Nat) (hz : ZSz n0 n1 n2) : ZRf (zGood ZW) (z0v n0 n1 n2) := by
  refine ⟨⟨rfl, rfl, hz, rfl, ?_, ?_, ?_, ?_, fun _ _ _ => rfl, fun _ _ => Nat.zero_le _, fun s _ hx => absurd rfl hx, fun s s' _ _ hx => absurd rfl hx, fun s _ hx => absurd rfl hx, ?_, ?_, ?_, ?_, ?_⟩, ?_, ?_⟩
  · rw [z0id, z0land, z0d_dn]
    exact ⟨rfl, by omega, rfl, fun hx => absurd hx (by rw [z0d10]; decide)⟩
  · rw [z0d_dn, z0d10]; decide
  · show ZFl (zGood ZW (0 + 1)) n0 n1 n2 (z0v n0 n1 n2).dn (z0v n0 n1 n2).fn (n32 ((z0v n0 n1 n2).dn 0 0)) (z0v n0 n1 n2).landed (0 + 1) 0 1 0 (fun _ => 0) (fun _ => 0)
    rw [z0id, z0land, z0d_dn, z0d_fn]
    exact zFq_fl z0fq (by omega) (by omega) (by rw [z0disc]; exact z0g)
  · intro e he; cases he
  · show (zDl (fun _ => 0) 1 _).length ≤ 16
    rw [z0dl 1 _ (by omega)]; simp
  · intro set
    show 0 < n1
    exact hz.w1
  · rw [z0id]; omega
  · show 1 ≤ 0 + 1; omega
  · show 1 ≤ 0 + 1; omega
  · intro k hk
    show n32 ((z0v n0 n1 n2).fn (25 * (1 - 0) + 1 + k) 0) ≤ 1
    rw [z0d_fn]
    have := (z0fq.2.2.2 k hk).2
    have e : 25 * (1 - 0) + 1 + k = 26 + k := by omega
    have n0 : n32 (0 : Int32) = 0 := rfl
    rw [e, this, n0]; omega
  · intro k hk hx
    exfalso
    have hx : n32 ((z0v n0 n1 n2).fn (25 * 0 + 1 + k) 0) = 1 := hx
    rw [z0d_fn] at hx
    have := (z0fq.2.2.2 k hk).1
    have e : 25 * 0 + 1 + k = 1 + k := by omega
    have n0 : n32 (0 : Int32) = 0 := rfl
    rw [e, this, n0] at hx; omega
theorem z0iv (n0 n1 n2 : Nat) (hz : ZSz n0 n1 n2) : ZIv (zGood ZW) (fun V => V = (z0v n0 n1 n2).cur) (z0v n0 n1 n2) := by
  refine Or.inl ⟨z0rf n0 n1 n2 hz, rfl, fun V hV => ?_⟩
  rw [hV, z0cur]
  exact z0g
theorem z0cl : zCl (fun _ => false) = [] := by
  unfold zCl
  rw [List.eq_nil_iff_forall_not_mem]
  intro x hx
  have := (List.mem_filter.mp hx).2
  cases this
theorem z0tc (n0 n1 n2 : Nat) : zTc (z0T n0 n1 n2) = z0c := by
  funext b
  show (if false = true then _ else (z0v n0 n1 n2).cur b) = z0c b
  rw [if_neg Bool.noConfusion, z0cur]
theorem z0ti (n0 n1 n2 : Nat) (hz : ZSz n0 n1 n2) : ZTi ZW (z0T n0 n1 n2) := by
  refine ⟨z0iv n0 n1 n2 hz, ⟨1, [], ?_, fun b => ⟨fun h => (by cases h), fun h => (by obtain ⟨e, he, _⟩ := h; cases he)⟩, fun b h => (by cases h)⟩, by rw [z0tc]; exact z0W, z0W, fun b _ _ => by rw [z0tc]; rfl, fun b h => (by cases h), ?_, ?_⟩
  · show ZJn (z0v n0 n1 n2).cur 1 1 1 []
    rw [z0cur]
    exact ⟨rfl, by omega, trivial, rfl, rfl, z0nt⟩
  · show (zCl (fun _ => false)).length ≤ 12
    rw [z0cl]; simp
  · show 1 ≤ 0 + 1; omega
theorem z0load (n0 n1 n2 : Nat) : zLoad (z0v n0 n1 n2) = z0T n0 n1 n2 := by
  obtain ⟨r1, r2, r3⟩ := zRep_eq (V := z0c) (cs := []) (fr := 1) (sq := 1) (c := 28) (kt := fun _ => false) (kp := fun _ _ => 0) trivial z0nt (by omega) (by show 0 < 28; omega) (by show 1 + 0 < 2147483648; omega)
  have hs0 : n32 (z0c 0 0) = 1 := rfl
  have hkt : (zRep z0c 28 1 1 (fun _ => false) (fun _ _ => 0)).2.1 = fun _ => false := by
    funext b
    cases hb : (zRep z0c 28 1 1 (fun _ => false) (fun _ _ => 0)).2.1 b with
    | false => rfl
    | true =>
      rcases (r2 b).mp hb with h | ⟨e, he, _⟩
      · cases h
      · cases he
  have hkp : (zRep z0c 28 1 1 (fun _ => false) (fun _ _ => 0)).2.2 = fun _ _ => 0 := r3
  have hsq : (zRep z0c 28 1 1 (fun _ => false) (fun _ _ => 0)).1 = 1 := r1
  unfold zLoad
  rw [z0cur, hs0]
  dsimp only
  rw [hkt, hkp, hsq]
  unfold z0T
  congr 1
theorem z0mm (n0 n1 n2 : Nat) (hz : ZSz n0 n1 n2) : zMm (z0v n0 n1 n2) := by
  have h := zMm_fresh (u := z0v n0 n1 n2) hz (by rw [z0land]; omega)
  have e : zFresh (z0v n0 n1 n2) = z0v n0 n1 n2 := by
    unfold zFresh
    rw [z0land]
    rfl
  rw [e] at h
  exact h
/-! the class as it begins -/
theorem z0e6 (b w : Nat) (hw : w < 16) : ev_A 6 (16 * b + w) = z0d b w := by
  show (if 16 * b + w = 784 then (1 : Int32) else if 16 * b + w = 304 then 1 else if 16 * b + w = 0 then 1 else 0) = (if w = 0 ∧ (b = 0 ∨ b = 19 ∨ b = 49) then 1 else 0)
  repeat' split
  all_goals first | rfl | (exfalso; omega)
theorem z0e7 (b w : Nat) (hw : w < 16) : ev_A 7 (16 * b + w) = z0d b w := z0e6 b w hw
theorem z0e11 (b w : Nat) (hw : w < 16) : ev_A 11 (16 * b + w) = z0f b w := by
  show (if 16 * b + w = 1 then (1 : Int32) else if 16 * b + w = 0 then 1 else 0) = (if b = 0 ∧ (w = 0 ∨ w = 1) then 1 else 0)
  repeat' split
  all_goals first | rfl | (exfalso; omega)
theorem z0e12 (b w : Nat) (hw : w < 16) : ev_A 12 (16 * b + w) = z0f b w := z0e11 b w hw
theorem z0e23 (b w : Nat) (hw : w < 16) (hb : 29 ≤ b) : ev_A 23 (16 * b + w) = z0c b w := by
  rw [z0c_v]
  show (if 16 * b + w = 480 then (1 : Int32) else 0) = (if w = 0 ∧ (b = 0 ∨ b = 30) then 1 else 0)
  repeat' split
  all_goals first | rfl | (exfalso; omega)
theorem z0now (k : Nat) : (z0D k).now = (z0D k).st := ZDv.now_nil rfl
theorem z0ct (n0 n1 n2 : Nat) : zCt (ev_s (iN n0) (iN n1) (iN n2)) (z0T n0 n1 n2) := by
  refine ⟨⟨⟨⟨by show 0 ≤ 64; omega, rfl, rfl, rfl, rfl, ⟨0, by omega, rfl, fun j hj => absurd hj (Nat.not_lt_zero j)⟩, fun b w _ hw => z0e7 b w hw, fun b w _ hw => ?_⟩, ⟨by show 0 ≤ 64; omega, ?_, rfl, rfl, rfl, ⟨0, by omega, rfl, fun j hj => absurd hj (Nat.not_lt_zero j)⟩, fun b w _ hw => z0e12 b w hw, fun b w _ hw => ?_⟩, rfl, fun _ => rfl, fun hx => absurd rfl hx, by show 0 < 2147483648; omega⟩, ⟨rfl, rfl, rfl, rfl, ?_⟩, fun _ => ⟨rfl, rfl, rfl, rfl, ?_, fun i _ => ⟨rfl, rfl, rfl, rfl⟩, fun k _ => rfl⟩⟩, fun b w hb _ hw => z0e23 b w hw hb, fun b w _ _ hx => (by cases hx), fun _ _ => rfl, fun _ _ => rfl, ?_, ?_, rfl, rfl⟩
  · show ev_A 6 (16 * b + w) = (z0D 0).now b w
    rw [z0now]; exact z0e6 b w hw
  · show (50 : Int32) + iN n0 * iN n1 = iN (50 + n0 * n1)
    rw [iN_mul]; exact iN_add 50 (n0 * n1)
  · show ev_A 11 (16 * b + w) = (z0D 1).now b w
    rw [z0now]; exact z0e11 b w hw
  · show iN n0 * iN n1 = iN (n0 * n1)
    exact iN_mul n0 n1
  · show (0 : Int32) = iN (zDl (fun _ => 0) 1 _).length
    rw [z0dl 1 _ (by omega)]; rfl
  · show (0 : Int32) = iN (zCl (fun _ => false)).length
    rw [z0cl]; rfl
  · show (0 : Int32) = iN (zCl (fun _ => false)).length
    rw [z0cl]; rfl
/-! the reference's beginning -/
theorem ev_cl (lo a : Int32) (h : lo < 8) : (if lo ≤ a then (if a ≤ (8 : Int32) then a else (8 : Int32)) else lo) = ev_mx lo (ev_mn 8 a) := by
  have i8 : (8 : Int32).toInt = 8 := by decide
  have hl := Int32.lt_iff_toInt_lt.mp h
  rw [i8] at hl
  unfold ev_mx ev_mn
  by_cases h1 : a < 8
  · have g1 := Int32.lt_iff_toInt_lt.mp h1
    rw [i8] at g1
    have q1 : a ≤ 8 := Int32.le_iff_toInt_le.mpr (by rw [i8]; omega)
    rw [if_pos h1, if_pos q1]
    by_cases h2 : lo < a
    · have g2 := Int32.lt_iff_toInt_lt.mp h2
      rw [if_pos h2, if_pos (Int32.le_iff_toInt_le.mpr (by omega))]
    · rw [if_neg h2]
      by_cases h3 : lo ≤ a
      · have g3 := Int32.le_iff_toInt_le.mp h3
        have g2 : ¬ lo.toInt < a.toInt := fun q => h2 (Int32.lt_iff_toInt_lt.mpr q)
        rw [if_pos h3]
        exact Int32.toInt_inj.mp (by omega)
      · rw [if_neg h3]
  · have g1 : ¬ a.toInt < 8 := fun q => h1 (Int32.lt_iff_toInt_lt.mpr (by rw [i8]; exact q))
    rw [if_neg h1, if_pos h, if_pos (Int32.le_iff_toInt_le.mpr (by omega))]
    by_cases h4 : a ≤ 8
    · have g4 := Int32.le_iff_toInt_le.mp h4
      rw [i8] at g4
      rw [if_pos h4]
      exact Int32.toInt_inj.mp (by rw [i8]; omega)
    · rw [if_neg h4]
def z0s5 (s : px_S) : px_S := sA (sA (sA (sA (sA s 29 (0 : Int32).toNatClampNeg (1 : Int32)) 29 (304 : Int32).toNatClampNeg (1 : Int32)) 29 (784 : Int32).toNatClampNeg (1 : Int32)) 29 (2000 : Int32).toNatClampNeg (1 : Int32)) 29 (2001 : Int32).toNatClampNeg (1 : Int32)
def z0s (s : px_S) (c0 c1 c2 : Int32) : px_S := sR (sR (z0s5 (sR (sR (sR s 26 c0) 27 c1) 28 c2)) 29 (1 : Int32)) 31 (1 : Int32)
theorem zFu_sR (s : px_S) (k : Nat) (x : Int32) (h : 25 ≤ k ∧ k ≤ 37) : zFu s (sR s k x) := ⟨fun _ _ => rfl, fun r hr => sR_ne (by omega), fun _ _ => rfl, rfl⟩
theorem zFu_sA (s : px_S) (c j : Nat) (x : Int32) (h : 29 ≤ c ∧ c ≤ 45) : zFu s (sA s c j x) := ⟨fun a ha => by rw [sA_eq, sF_arr_ne (by omega)], fun _ _ => rfl, fun _ _ => rfl, rfl⟩
theorem zFu_fs {s u : px_S} (h : zFs s u) : zFu s u := ⟨fun c hc => h.1 c (by omega), fun r _ => by rw [h.2.1], fun r _ => by rw [h.2.2.1], h.2.2.2⟩
theorem z0s5_fu (s : px_S) : zFu s (z0s5 s) := zFu_trans (zFu_sA s 29 _ _ (by omega)) (zFu_trans (zFu_sA _ 29 _ _ (by omega)) (zFu_trans (zFu_sA _ 29 _ _ (by omega)) (zFu_trans (zFu_sA _ 29 _ _ (by omega)) (zFu_sA _ 29 _ _ (by omega)))))
theorem z0s_fu (s : px_S) (c0 c1 c2 : Int32) : zFu s (z0s s c0 c1 c2) := zFu_trans (zFu_sR s 26 c0 (by omega)) (zFu_trans (zFu_sR _ 27 c1 (by omega)) (zFu_trans (zFu_sR _ 28 c2 (by omega)) (zFu_trans (z0s5_fu _) (zFu_trans (zFu_sR _ 29 1 (by omega)) (zFu_sR _ 31 1 (by omega))))))
theorem z0s_29 (r0 r1 r2 c0 c1 c2 : Int32) (j : Nat) : (z0s (ev_s r0 r1 r2) c0 c1 c2).2.2.1 29 j = if j = 2001 then 1 else if j = 2000 then 1 else if j = 784 then 1 else if j = 304 then 1 else if j = 0 then 1 else 0 := rfl
theorem z0rw (r0 r1 r2 c0 c1 c2 : Int32) : zRw (z0s (ev_s r0 r1 r2) c0 c1 c2) z0p := by
  refine ⟨fun k hk => ⟨by show 0 ≤ 64; omega, rfl, fun j hj => absurd hj (Nat.not_lt_zero j), fun b w hb hw => ?_, rfl, rfl⟩, rfl, rfl, by show 0 < 2147483648; omega, fun hx => absurd rfl hx⟩
  rw [z0s_29]
  rcases (by omega : k = 0 ∨ k = 1) with rfl | rfl
  · have hb : b < 125 := hb
    show _ = (if w = 0 ∧ (b = 0 ∨ b = 19 ∨ b = 49) then (1 : Int32) else 0)
    repeat' split
    all_goals first | rfl | (exfalso; omega)
  · have hb : b < 114 := hb
    show _ = (if b = 0 ∧ (w = 0 ∨ w = 1) then (1 : Int32) else 0)
    repeat' split
    all_goals first | rfl | (exfalso; omega)
theorem m_init (K : px_K) (N : Nat) (hN : 2000 ≤ N) (hKm : zKm K) (n0 n1 n2 : Nat) (hz : ZSz n0 n1 n2) (a0 a1 a2 : Int32) (e0 : ev_mx 1 (ev_mn 8 a0) = iN n0) (e1 : ev_mx 2 (ev_mn 8 a1) = iN n1) (e2 : ev_mx 1 (ev_mn 8 a2) = iN n2) (r0 r1 r2 : Int32) : ∃ s2, f_M_init K N a0 a1 a2 (ev_s r0 r1 r2) [] = some (.inl none, s2, []) ∧ zRt s2 (z0T n0 n1 n2) ∧ zFu (ev_s r0 r1 r2) s2 := by
  obtain ⟨s26, b1, b2, b3⟩ := m_noSlots K N (by omega) hKm [] (z0s (ev_s r0 r1 r2) (iN n0) (iN n1) (iN n2)) (ZVs.mk z0p n0 n1 n2 true (fun _ => 0) (fun _ => 0) (fun _ => false) (fun _ => 0) 0 0 0 0) ⟨rfl, rfl, rfl, rfl, rfl, rfl, rfl, rfl⟩
  have hw : zRw (sR (sR s26 34 (1 : Int32)) 32 (1 : Int32)) z0p := zRw_int (zRw_int (zRw_fs (z0rw r0 r1 r2 (iN n0) (iN n1) (iN n2)) b1) (by omega)) (by omega)
  obtain ⟨k1, k2, k3, k4, k5, k6, k7, k8, k9, k10⟩ := b3
  have hs : zRv (sR (sR s26 34 (1 : Int32)) 32 (1 : Int32)) (z0v n0 n1 n2) := ⟨hw, k1, k2, k3, k4, rfl, k6, rfl, k8, k9, k10⟩
  obtain ⟨s35, c1, c2, c3⟩ := m_loads (W := ZW) K N hN hKm [] (sR (sR s26 34 (1 : Int32)) 32 (1 : Int32)) (z0v n0 n1 n2) hs (z0mm n0 n1 n2 hz).1 1 (by omega) (by rw [z0cur]; exact z0g)
  rw [z0load] at c2
  have hfu : zFu (ev_s r0 r1 r2) s35 := zFu_trans (z0s_fu _ (iN n0) (iN n1) (iN n2)) (zFu_trans (zFu_fs b1) (zFu_trans (zFu_sR s26 34 1 (by omega)) (zFu_trans (zFu_sR _ 32 1 (by omega)) (zFt_fu c3))))
  refine ⟨s35, ?_, c2, hfu⟩
  have g : ∀ j, j < 3824 → vp_in (iN j) (K.2.2 29) := fun j hj => by rw [hKm.1]; exact iN_in (by omega) hj
  obtain ⟨r, x1, x2⟩ : wp (f_M_init K N a0 a1 a2 (ev_s r0 r1 r2) []) (fun r => r = (.inl none, s35, [])) := by
    unfold f_M_init
    rw [ev_cl 1 a0 (by decide), ev_cl 2 a1 (by decide), ev_cl 1 a2 (by decide), e0, e1, e2]
    exact wp_let (wp_let (wp_let (wp_gd (g 0 (by omega)) (wp_let (wp_gd (g 304 (by omega)) (wp_let (wp_gd (g 784 (by omega)) (wp_let (wp_gd (g 2000 (by omega)) (wp_let (wp_gd (g 2001 (by omega)) (wp_let (wp_let (wp_let (wp_bv b2 (wp_let (wp_let (wp_bv c1 (wp_some rfl)))))))))))))))))))
  rw [x1, x2]
/-- the first state keeps the invariant -/
theorem z0I1 (n0 n1 n2 : Nat) (hz : ZSz n0 n1 n2) {s2 : px_S} (h1 : zRt s2 (z0T n0 n1 n2)) (h2 : zFu (ev_s (iN n0) (iN n1) (iN n2)) s2) : zI (n0 * n1) n0 0 s2 :=
  Or.inl ⟨z0T n0 n1 n2, zCt_fu (z0ct n0 n1 n2) h2, by rw [h2.2.1 0 (by omega)]; rfl, h1, z0mm n0 n1 n2 hz, z0ti n0 n1 n2 hz, rfl, rfl, by show 0 ≤ 0; omega⟩
