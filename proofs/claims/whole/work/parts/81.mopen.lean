/-! READING AND FLUSHING the volume (the reference) -/
/-- as zFv, and of the words (row 39) one block is told anew -/
def zFx (b : Nat) (x : ZBk) (s u : px_S) : Prop := zFv (sF s 39 (va_cpy x (s.2.2.1 39) 0 (16 * b) 16)) u
theorem zMm_sb {v : ZVs} (h : zMm v) {i b : Nat} (he : v.se i = 0) (hb : b < 106) : zMm (v.s_sb (zu v.sb i (b + 1))) := by
  refine ⟨⟨h.1.1, fun q hq => ⟨?_, (h.1.2.1 q hq).2⟩, h.1.2.2⟩, fun q hq h0 => ?_, fun e e0 e1 => ⟨fun x y hx hy x1 x2 x3 => ?_, (h.2.2.1 e e0 e1).2⟩, h.2.2.2⟩
  · show zu v.sb i (b + 1) q < 2147483648
    by_cases hqi : q = i
    · rw [hqi, zu_self]; omega
    · rw [zu_ne _ _ hqi]; exact (h.1.2.1 q hq).1
  · show 1 ≤ zu v.sb i (b + 1) q ∧ zu v.sb i (b + 1) q ≤ 106
    have h0 : 0 < v.se q := h0
    have hqi : q ≠ i := fun hx => by rw [hx] at h0; omega
    rw [zu_ne _ _ hqi]; exact h.2.1 q hq h0
  · have x1 : v.se x = e := x1
    have x2 : v.se y = e := x2
    have x3 : zu v.sb i (b + 1) x = zu v.sb i (b + 1) y := x3
    have hxi : x ≠ i := fun hx => by rw [hx] at x1; omega
    have hyi : y ≠ i := fun hx => by rw [hx] at x2; omega
    rw [zu_ne _ _ hxi, zu_ne _ _ hyi] at x3
    exact (h.2.2.1 e e0 e1).1 x y hx hy x1 x2 x3
theorem m_rdv (K : px_K) (N : Nat) (hN : 2000 ≤ N) (hK : zKm K) (t : px_W) (b : Nat) (hb : b < 106) (s : px_S) (v : ZVs) (h : zRv s v) (hm : zMm v) : ∃ s', f_M_readVolume_28 K N (iN b) s t = some (.inl none, s', t) ∧ zRv s' (v.rdv b) ∧ zMm (v.rdv b) ∧ zFx b (v.cur b) s s' := by
  apply wp_B
  have hz := hm.1.1
  have hn64 : v.n ≤ 64 := hz.n64
  have h39 : K.2.2 39 = 1696 := hK.2.2.2.2.2.2.2.2.2.2.1
  have i19 : (19 : Int32) + iN b = iN (19 + b) := by have : (19 : Int32) = iN 19 := rfl
                                                     rw [this, iN_add]
  have i16 : (16 : Int32) * iN b = iN (16 * b) := by rw [iL16, iN_mul]
  unfold f_M_readVolume_28
  rw [i19, i16]
  cases hw : v.wf with
  | false =>
    have e : v.rdv b = v := by unfold ZVs.rdv; rw [if_pos hw]
    have ec : v.cur b = v.dn (19 + b) := by unfold ZVs.cur; rw [if_neg (by rw [hw]; exact Bool.noConfusion)]
    rw [e, ec]
    refine wp_ifn (by rw [h.2.2.2.2.1, hw]; exact fun hx => hx rfl) ?_
    refine wp_bv (m_copy_39 K N (by omega) hK 0 (19 + b) (16 * b) (by omega) (by show _ < 125; omega) (by omega) (by omega) v.p.dv s t h.1.1) ?_
    exact wp_rB ⟨zRv_row h (by omega), hm, zFv_refl _⟩
  | true =>
    have e : v.rdv b = (match v.newest b with
      | some q => v.s_mrk (zu v.mrk q true)
      | none => match ZVs.find (b % v.sets) (2 * v.ways) v with
        | (none, u) => u
        | (some q, u) => (u.wr 1 (50 + q) (v.dn (19 + b))).s_sb (zu u.sb q (b + 1))) := by
      unfold ZVs.rdv; rw [if_neg (by rw [hw]; exact Bool.noConfusion)]; rfl
    rw [e]
    refine wp_if (by rw [h.2.2.2.2.1, hw]; decide) ?_
    refine wp_bi (m_newest K N (by omega) hK t s v h.2 hm.1 b (by omega)) ?_
    cases hnw : v.newest b with
    | some q =>
      obtain ⟨q1, q2, q3⟩ := zNew_some hnw
      have hq64 : q < 64 := by have : q < v.n := q1; omega
      have hoq : oN (some q) = iN q := rfl
      have i50 : (50 : Int32) + iN q = iN (50 + q) := by have : (50 : Int32) = iN 50 := rfl
                                                         rw [this, iN_add]
      rw [hoq, i50, iN_nat (by omega), ZVs.cur_some hw hnw]
      refine wp_ifn (iN_neg (by omega)) (wp_gd (by rw [hK.2.2.2.2.2.2.2.2.1]; exact iN_in (by omega) (by omega)) (wp_let ?_))
      have hR : zRv (sA s 37 q (1 : Int32)) (v.s_mrk (zu v.mrk q true)) := ⟨zRw_row h.1 (by omega), zRs_mrk (m := true) h.2 rfl⟩
      refine wp_bv (m_copy_39 K N (by omega) hK 1 (50 + q) (16 * b) (by omega) (by show _ < 114; omega) (by omega) (by omega) v.p.dv _ t hR.1.1) ?_
      refine wp_rB ⟨zRv_row hR (by omega), zMm_sm hm rfl rfl rfl rfl rfl rfl rfl, ?_⟩
      show zFv _ _
      have ec : (sA s 37 q (1 : Int32)).2.2.1 39 = s.2.2.1 39 := sA_arr_ne (by omega)
      rw [ec]
      refine ⟨fun c hc => ?_, fun _ _ => rfl, rfl, rfl⟩
      by_cases h39 : c = 39
      · subst h39; rw [sF_arr, sF_arr]
      · rw [sF_arr_ne h39, sF_arr_ne h39, sA_arr_ne (by omega)]
    | none =>
      rw [ZVs.cur_none hw hnw]
      refine wp_if (by decide) ?_
      refine wp_bv (m_copy_39 K N (by omega) hK 0 (19 + b) (16 * b) (by omega) (by show _ < 125; omega) (by omega) (by omega) v.p.dv s t h.1.1) ?_
      obtain ⟨s1, hs1⟩ : ∃ s1, s1 = sF s 39 (va_cpy ((v.p.dv 0).now (19 + b)) (s.2.2.1 39) 0 (16 * b) 16) := ⟨_, rfl⟩
      rw [← hs1]
      have h1 : zRv s1 v := by rw [hs1]; exact zRv_row h (by omega)
      have h26 : s1.1 26 = iN v.sets := h1.2.1
      have s18 := hz.s8
      have s11 := hz.s1
      refine wp_gd (by rw [h26, iL0, iN_eq (by omega) (by omega)]; omega) ?_
      rw [h26, iN_rem (by omega) (by omega) (by omega)]
      obtain ⟨s2, a1, a2, a3⟩ := m_find K N (by omega) hK t (b % v.sets) s1 v h1.2 hm.1 (Nat.mod_lt _ hz.s1) (hm.2.2.2 _)
      refine wp_bi a2 ?_
      have hp := (zfr_find (b % v.sets) (2 * v.ways) v)
      have hm2 := zMm_find hm (b % v.sets) (2 * v.ways)
      obtain ⟨f1, f2, f3⟩ := find_spec (b % v.sets) (2 * v.ways) v (hm.2.2.2 _)
      obtain ⟨o, u, hou⟩ : ∃ o u, ZVs.find (b % v.sets) (2 * v.ways) v = (o, u) := ⟨_, _, rfl⟩
      rw [hou] at hp hm2 f3 a3 ⊢
      dsimp only at hp hm2 f3 a3 ⊢
      have h2 : zRv s2 u := ⟨by rw [hp.2.1]; exact zRw_fs h1.1 a1, a3⟩
      cases o with
      | none => exact wp_ifn (by decide) (wp_rB ⟨h2, hm2, by rw [hs1] at a1; exact zFv_fs a1⟩)
      | some q =>
        obtain ⟨⟨w, hw1, hw2⟩, q2, q3⟩ := f3 q rfl
        have hq := (zset_lt (v := v) (Nat.mod_lt b hz.s1) hw1).1
        rw [← hw2] at hq
        have hoq : oN (some q) = iN q := rfl
        have i50 : (50 : Int32) + iN q = iN (50 + q) := by have : (50 : Int32) = iN 50 := rfl
                                                           rw [this, iN_add]
        dsimp only
        rw [hoq, i50, iN_nat (by omega)]
        refine wp_if (by rw [iL0, iN_le (by omega) (by omega)]; omega) ?_
        obtain ⟨s3, b1, b2, b3⟩ := m_write_39 K N hN hK t s2 u.p h2.1 1 (50 + q) (16 * b) (v.dn (19 + b)) (by omega) (by show _ < 114; omega) (by omega) (by omega) (fun w' hw' => by
          rw [a1.1 39 (by omega), hs1, sF_arr]
          unfold va_cpy
          rw [if_pos (by omega)]
          have e : 0 + (16 * b + w' - 16 * b) = w' := by omega
          rw [e])
        refine wp_bv b1 (wp_gd (by rw [hK.2.2.2.2.2.2.1]; exact iN_in (by omega) (by omega)) (wp_let ?_))
        have h3 : zRv s3 (u.wr 1 (50 + q) (v.dn (19 + b))) := ⟨b2, zRs_fm h2.2 b3 _⟩
        refine wp_rB ⟨⟨zRw_row h3.1 (by omega), zRs_sb (a := b + 1) h3.2 (by rw [iN_pred (by omega)]; rfl)⟩, ?_, ?_⟩
        · exact zMm_sb (v := u.wr 1 (50 + q) (v.dn (19 + b))) (zMm_sm hm2 rfl rfl rfl rfl rfl rfl rfl) (by show u.se q = 0; rw [hp.2.2.2.2.2.2]; exact q2) hb
        · rw [hs1] at a1
          exact zFv_trans (zFv_fs a1) (zFv_trans (zFv_fm b3) (zFv_sA (by omega)))
theorem m_flv {P : Nat → ZSt → Prop} (hP : ∀ m m' V, m ≤ m' → P m V → P m' V) (K : px_K) (N : Nat) (hN : 2000 ≤ N) (hK : zKm K) (t : px_W) (s : px_S) (v : ZVs) (h : zRv s v) (hm : zMm v) (ha : v.wf = true → zAl P v) (hb : v.p.na + 1000 < 2147483648) : ∃ s', f_M_flushVolume_28 K N s t = some (.inl none, s', t) ∧ zRv s' v.flv ∧ zMm v.flv ∧ zFv s s' := by
  apply wp_B
  unfold f_M_flushVolume_28
  cases hw : v.wf with
  | false =>
    have e : v.flv = v.fl 0 := by unfold ZVs.flv; rw [if_neg (by rw [hw]; exact Bool.noConfusion)]
    rw [e]
    refine wp_if (by rw [h.2.2.2.2.1, hw]; rfl) ?_
    obtain ⟨s1, a1, a2, a3⟩ := m_fl_act K N hN hK t s v h 0 (by omega)
    exact wp_bv a1 (wp_rB ⟨a2, zMm_sm hm rfl rfl rfl rfl rfl rfl rfl, zFv_fm a3⟩)
  | true =>
    have e : v.flv = v.close := by unfold ZVs.flv; rw [if_pos hw]
    rw [e]
    refine wp_ifn (by rw [h.2.2.2.2.1, hw]; decide) ?_
    obtain ⟨s1, a1, a2, a3, a4⟩ := m_close hP K N hN hK t s v h hm (ha hw) hb
    exact wp_bv a1 (wp_rB ⟨a2, a3, a4⟩)
/-! AFTER A CRASH: the landing is done again (the reference) -/
theorem zlost_notin {m : Int64} : ∀ {pd : List (Nat × ZBk)} {k : Nat} {s : ZSt} {b : Nat}, (∀ e ∈ pd, e.1 ≠ b) → zlost m k s pd b = s b := by
  intro pd
  induction pd with
  | nil => intro k s b _; rfl
  | cons e pd ih =>
    intro k s b h
    unfold zlost
    rw [ih (fun e' he' => h e' (List.mem_cons_of_mem _ he'))]
    split
    · exact zu_ne _ _ (fun hx => h e List.mem_cons_self hx.symm)
    · rfl
/-- nothing is pending on the disc below its homes -/
def zHo (v : ZVs) : Prop := ∀ e ∈ (v.p.dv 0).pd, 19 ≤ e.1
theorem zHo_wr {v : ZVs} (h : zHo v) {b : Nat} (x : ZBk) (hb : 19 ≤ b) : zHo (v.wr 0 b x) ∧ ∀ c, c < 19 → (v.wr 0 b x).dn c = v.dn c := by
  have hst : ∀ c, c < 19 → v.dn c = (v.p.dv 0).st c := fun c hc => zov_notin (fun e he hx => by have := h e he; omega)
  cases hu : v.p.up with
  | false =>
    have e : v.wr 0 b x = v := by show v.s_p (v.p.wr 0 b x) = v; rw [ZPw.wr_down hu]; rfl
    rw [e]; exact ⟨h, fun _ _ => rfl⟩
  | true =>
    rcases ZPw.wr_cases hu 0 b x with ⟨_, h2⟩ | ⟨_, h2⟩
    · have hd : ((v.wr 0 b x).p.dv 0) = (v.p.dv 0).go v.p.msk := by show (v.p.wr 0 b x).dv 0 = _; rw [h2]; rfl
      refine ⟨fun e he => ?_, fun c hc => ?_⟩
      · rw [hd] at he; exact absurd he (List.not_mem_nil)
      · show ((v.wr 0 b x).p.dv 0).now c = _
        rw [hd, hst c hc]
        show zlost v.p.msk 0 (v.p.dv 0).st (v.p.dv 0).pd c = _
        exact zlost_notin (fun e he hx => by have := h e he; omega)
    · have hd : ((v.wr 0 b x).p.dv 0) = (v.p.dv 0).add b x := by
        show (v.p.wr 0 b x).dv 0 = _; rw [h2]; exact zu_self v.p.dv 0 ((v.p.dv 0).add b x)
      refine ⟨fun e he => ?_, fun c hc => ?_⟩
      · rw [hd] at he
        rcases ZDv.mem_add he with he | he
        · exact h e he
        · rw [he]; exact hb
      · show ((v.wr 0 b x).p.dv 0).now c = _
        rw [hd, ZDv.now_add, zu_ne _ _ (by omega)]
theorem zHo_fl {v : ZVs} (h : zHo v) : (∀ c, c < 19 → (v.fl 0).dn c = v.dn c) := by
  have hst : ∀ c, c < 19 → v.dn c = (v.p.dv 0).st c := fun c hc => zov_notin (fun e he hx => by have := h e he; omega)
  cases hu : v.p.up with
  | false =>
    have e : v.fl 0 = v := by show v.s_p (v.p.fl 0) = v; rw [ZPw.fl_down hu]; rfl
    rw [e]; exact fun _ _ => rfl
  | true =>
    rcases ZPw.fl_cases hu 0 with ⟨_, h2⟩ | ⟨_, h2⟩
    · have hd : ((v.fl 0).p.dv 0) = (v.p.dv 0).go v.p.msk := by show (v.p.fl 0).dv 0 = _; rw [h2]; rfl
      intro c hc
      show ((v.fl 0).p.dv 0).now c = _
      rw [hd, hst c hc]
      show zlost v.p.msk 0 (v.p.dv 0).st (v.p.dv 0).pd c = _
      exact zlost_notin (fun e he hx => by have := h e he; omega)
    · have hd : ((v.fl 0).p.dv 0) = (v.p.dv 0).flush := by
        show (v.p.fl 0).dv 0 = _; rw [h2]; exact zu_self v.p.dv 0 (v.p.dv 0).flush
      intro c hc
      show ((v.fl 0).p.dv 0).now c = _
      rw [hd]; rfl
theorem n32_le {x : Int32} {j : Nat} (hj : j < 2147483648) : x ≤ iN j ↔ n32 x ≤ j := by
  rw [Int32.le_iff_toInt_le, iN_toInt hj]
  unfold n32 Int32.toNatClampNeg
  omega
theorem n32_lt' {x : Int32} {j : Nat} (hj : j < 2147483648) : iN j < x ↔ j < n32 x := by
  rw [Int32.lt_iff_toInt_lt, iN_toInt hj]
  unfold n32 Int32.toNatClampNeg
  omega
theorem m_redo_loop (K : px_K) (N : Nat) (hN : 2000 ≤ N) (hK : zKm K) (t : px_W) (u1 u2 : Int32) (c : Nat) (hu2 : n32 u2 = c) (hc : c ≤ 16) (d : ZSt) (hd : ∀ j, j < c → d 2 j = iN (n32 (d 2 j)) ∧ n32 (d 2 j) < 106) : ∀ (k j n : Nat) (s : px_S) (v : ZVs), zRv s v → j + k = c → k < n → zHo v → (∀ b, b < 19 → v.dn b = d b) → wp (l_M_redo_28_19 K N n u1 u2 (iN j) s t) (zC 46 [] t (fun s' => zRv s' (ZVs.wrRedo k j v) ∧ zHo (ZVs.wrRedo k j v) ∧ (∀ b, b < 19 → (ZVs.wrRedo k j v).dn b = d b) ∧ zFv s s')) := by
  intro k
  induction k with
  | zero =>
    intro j n s v h hj hn ho hv
    obtain ⟨n, rfl⟩ : ∃ n', n = n' + 1 := ⟨n - 1, by omega⟩
    unfold l_M_redo_28_19
    exact wp_if ((n32_le (by omega)).mpr (by omega)) (wp_rC ⟨h, ho, hv, zFv_refl s⟩)
  | succ k ih =>
    intro j n s v h hj hn ho hv
    obtain ⟨n, rfl⟩ : ∃ n', n = n' + 1 := ⟨n - 1, by omega⟩
    have i3 : (3 : Int32) + iN j = iN (3 + j) := by have : (3 : Int32) = iN 3 := rfl
                                                    rw [this, iN_add]
    have e3 : iN j + (1 : Int32) = iN (j + 1) := by rw [iL1, iN_add]
    obtain ⟨l1, l2⟩ := hd j (by omega)
    rw [← hv 2 (by omega)] at l1 l2
    unfold l_M_redo_28_19
    rw [i3, e3]
    refine wp_ifn (by rw [n32_le (by omega)]; omega) ?_
    obtain ⟨s1, c1, c2, ⟨g, c3⟩, c4⟩ := m_cp43 K N hN hK t h 0 (3 + j) (by omega) (by show 3 + j < 125; omega)
    refine wp_bv c1 (wp_bi (m_read K N (by omega) hK t s1 v.p.dv c2.1.1 0 2 j (by omega) (by show 2 < 125; omega) (by omega)) ?_)
    have e19 : (19 : Int32) + (v.p.dv 0).now 2 j = iN (19 + n32 (v.dn 2 j)) := by
      have : (19 : Int32) = iN 19 := rfl
      rw [show (v.p.dv 0).now 2 j = iN (n32 (v.dn 2 j)) from l1, this, iN_add]
    rw [e19]
    obtain ⟨s2, d1, d2, d3⟩ := m_wr43 K N hN hK t c2 0 (19 + n32 (v.dn 2 j)) (v.dn (3 + j)) (by omega) (by show _ < 125; omega) c4
    refine wp_bv d1 ?_
    obtain ⟨w1, w2⟩ := zHo_wr ho (b := 19 + n32 (v.dn 2 j)) (v.dn (3 + j)) (by omega)
    refine wp_imp (ih (j + 1) n s2 _ d2 (by omega) (by omega) w1 (fun b hb => (w2 b hb).trans (hv b hb))) ?_
    rintro r ⟨s', h1, h2, h3, h4, h5⟩
    exact ⟨s', h1, h2, h3, h4, zFv_trans (zFv_trans (by rw [c3]; exact zFv_sF (Or.inl rfl)) (zFv_fm d3)) h5⟩
theorem m_redo (K : px_K) (N : Nat) (hN : 2000 ≤ N) (hK : zKm K) (t : px_W) (s : px_S) (v : ZVs) (h : zRv s v) (hp : (v.p.dv 0).pd = []) (hL : v.dn 1 1 = iN v.landed) (hh : v.dn 1 0 = 1 → n32 (v.dn 1 2) ≤ 16 ∧ ∀ j, j < n32 (v.dn 1 2) → ∃ b, v.dn 2 j = iN b ∧ b < 106) : ∃ s', f_M_redo_28 K N s t = some (.inl none, s', t) ∧ zRv s' v.redo ∧ zFv s s' := by
  apply wp_B
  unfold f_M_redo_28
  refine wp_bi (m_read K N (by omega) hK t s v.p.dv h.1.1 0 1 0 (by omega) (by show 1 < 125; omega) (by omega)) ?_
  by_cases h1 : v.dn 1 0 = 1
  · obtain ⟨l1, l2⟩ := hh h1
    refine wp_if h1 ?_
    have hlan := m_landed K N (by omega) hK t s v.p.dv h.1.1
    rw [show (v.p.dv 0).now 1 1 = iN v.landed from hL] at hlan
    refine wp_bi hlan (wp_bi (m_read K N (by omega) hK t s v.p.dv h.1.1 0 1 2 (by omega) (by show 1 < 125; omega) (by omega)) ?_)
    have hd : ∀ j, j < n32 (v.dn 1 2) → v.dn 2 j = iN (n32 (v.dn 2 j)) ∧ n32 (v.dn 2 j) < 106 := fun j hj => by
      obtain ⟨b, b1, b2⟩ := l2 j hj
      rw [b1, n32_iN (by omega)]; exact ⟨rfl, b2⟩
    obtain ⟨s1, a1, a2, a3, a4, a5⟩ := wp_C (m_redo_loop K N hN hK t (iN v.landed) (v.dn 1 2) (n32 (v.dn 1 2)) rfl l1 v.dn hd (n32 (v.dn 1 2)) 0 N s v h (by omega) (by omega) (fun e he => by rw [hp] at he; exact absurd he (List.not_mem_nil)) (fun _ _ => rfl))
    refine wp_lp a1 (wp_if rfl ?_)
    show wp (px_bv _ _ _) _
    obtain ⟨s2, b1, b2, b3⟩ := m_fl_act K N hN hK t s1 _ a2 0 (by omega)
    refine wp_bv b1 ?_
    obtain ⟨s3, f1, f2, ⟨g5, f3⟩, f4⟩ := m_th43 K N hN hK t b2 0 v.landed 0
    refine wp_bv f1 ?_
    refine m_head K N hN hK t f2 0 1 (zThree 0 v.landed 0) (by omega) (by show 1 < 125; omega) f4 ?_
    intro s4 h4 k4
    have e : v.redo = ((((ZVs.wrRedo (n32 (v.dn 1 2)) 0 v).fl 0).wr 0 1 (zThree 0 v.landed 0)).fl 0) := by
      unfold ZVs.redo
      rw [if_neg (fun hx => hx h1)]
      dsimp only
      rw [show min 16 (n32 (v.dn 1 2)) = n32 (v.dn 1 2) by omega]
    rw [e]
    exact wp_rB ⟨h4, zFv_trans a5 (zFv_trans (zFv_fm b3) (zFv_trans (by rw [f3]; exact zFv_sF (Or.inl rfl)) k4))⟩
  · have e : v.redo = v := by unfold ZVs.redo; rw [if_pos h1]
    rw [e]
    exact wp_ifn h1 (wp_rB ⟨h, zFv_refl s⟩)
/-! THE HALF THAT COUNTS (the reference) -/
theorem m_good (K : px_K) (N : Nat) (hN : 2000 ≤ N) (hK : zKm K) (t : px_W) (s : px_S) (v : ZVs) (h : zRp s v.p.dv) : ∃ o : Option Nat, f_M_halfThatCounts_28 K N s t = some (.inl (some (.int (oN o))), s, t) ∧ (∀ i, o = some i → i < 2) ∧ ((v.fn 0 1 = v.dn 0 0 → v.fn 25 1 = v.dn 0 0 → (n32 (v.fn 0 0) < n32 (v.fn 25 0) ↔ v.fn 0 0 < v.fn 25 0)) → v.good = o) := by
  obtain ⟨M, rfl⟩ : ∃ M, N = M + 3 := ⟨N - 3, by omega⟩
  have r1 : ∀ w, w < 16 → f_M_read_28 K (M + 3) (1 : Int32) ((25 : Int32) * (0 : Int32)) (iN w) s t = some (.inl (some (.int (v.fn 0 w))), s, t) := fun w hw => m_read K (M + 3) (by omega) hK t s v.p.dv h 1 0 w (by omega) (by show 0 < 114; omega) hw
  have r2 : ∀ w, w < 16 → f_M_read_28 K (M + 3) (1 : Int32) ((25 : Int32) * ((0 : Int32) + (1 : Int32))) (iN w) s t = some (.inl (some (.int (v.fn 25 w))), s, t) := fun w hw => m_read K (M + 3) (by omega) hK t s v.p.dv h 1 25 w (by omega) (by show 25 < 114; omega) hw
  have r0 : f_M_read_28 K (M + 3) (0 : Int32) (0 : Int32) (0 : Int32) s t = some (.inl (some (.int (v.dn 0 0))), s, t) := m_read K (M + 3) (by omega) hK t s v.p.dv h 0 0 0 (by omega) (by show 0 < 125; omega) (by omega)
  -- the last round
  have fin : ∀ (m : Int32), l_M_halfThatCounts_28_4 K (M + 3) (M + 1) m ((0 : Int32) + (1 : Int32) + (1 : Int32)) s t = some (.inl (47, [m], s, t)) := by
    intro m
    unfold l_M_halfThatCounts_28_4
    rw [if_pos (by decide)]
  have wrap : ∀ o : Option Nat, l_M_halfThatCounts_28_4 K (M + 3) (M + 3) (-1 : Int32) (0 : Int32) s t = some (.inl (47, [oN o], s, t)) → f_M_halfThatCounts_28 K (M + 3) s t = some (.inl (some (.int (oN o))), s, t) := by
    intro o ho
    unfold f_M_halfThatCounts_28
    rw [ho]; rfl
  by_cases h0 : v.fn 0 1 = v.dn 0 0
  · by_cases h1 : v.fn 25 1 = v.dn 0 0
    · by_cases hlt : v.fn 0 0 < v.fn 25 0
      · refine ⟨some 1, wrap _ ?_, fun i hi => (by cases hi; omega), fun hq => ?_⟩
        · obtain ⟨r, e1, e2⟩ : wp (l_M_halfThatCounts_28_4 K (M + 3) (M + 3) (-1 : Int32) (0 : Int32) s t) (fun r => r = .inl (47, [oN (some 1)], s, t)) := by
            unfold l_M_halfThatCounts_28_4
            refine wp_ifn (by decide) (wp_bi (r1 1 (by omega)) (wp_bi r0 (wp_let ?_)))
            rw [if_neg (c := ¬ v.fn 0 1 = v.dn 0 0) (fun hx => hx h0)]
            refine wp_ifn (by decide) (wp_if (by decide) ?_)
            unfold l_M_halfThatCounts_28_4
            refine wp_ifn (by decide) (wp_bi (r2 1 (by omega)) (wp_bi r0 (wp_let ?_)))
            rw [if_neg (c := ¬ v.fn 25 1 = v.dn 0 0) (fun hx => hx h1)]
            refine wp_ifn (by decide) (wp_ifn (by decide) (wp_bi (r2 0 (by omega)) (wp_bi (r1 0 (by omega)) ?_)))
            refine wp_ifn (by rw [Int32.not_le]; exact hlt) ?_
            exact ⟨_, fin _, rfl⟩
          rw [e1, e2]
        · unfold ZVs.good; rw [if_pos h0, if_pos ⟨h1, (hq h0 h1).mpr hlt⟩]
      · refine ⟨some 0, wrap _ ?_, fun i hi => (by cases hi; omega), fun hq => ?_⟩
        · obtain ⟨r, e1, e2⟩ : wp (l_M_halfThatCounts_28_4 K (M + 3) (M + 3) (-1 : Int32) (0 : Int32) s t) (fun r => r = .inl (47, [oN (some 0)], s, t)) := by
            unfold l_M_halfThatCounts_28_4
            refine wp_ifn (by decide) (wp_bi (r1 1 (by omega)) (wp_bi r0 (wp_let ?_)))
            rw [if_neg (c := ¬ v.fn 0 1 = v.dn 0 0) (fun hx => hx h0)]
            refine wp_ifn (by decide) (wp_if (by decide) ?_)
            unfold l_M_halfThatCounts_28_4
            refine wp_ifn (by decide) (wp_bi (r2 1 (by omega)) (wp_bi r0 (wp_let ?_)))
            rw [if_neg (c := ¬ v.fn 25 1 = v.dn 0 0) (fun hx => hx h1)]
            refine wp_ifn (by decide) (wp_ifn (by decide) (wp_bi (r2 0 (by omega)) (wp_bi (r1 0 (by omega)) ?_)))
            refine wp_if (Int32.not_lt.mp hlt) ?_
            exact ⟨_, fin _, rfl⟩
          rw [e1, e2]
        · unfold ZVs.good; rw [if_pos h0, if_neg (fun hx => hlt ((hq h0 h1).mp hx.2))]
    · refine ⟨some 0, wrap _ ?_, fun i hi => (by cases hi; omega), fun hq => ?_⟩
      · obtain ⟨r, e1, e2⟩ : wp (l_M_halfThatCounts_28_4 K (M + 3) (M + 3) (-1 : Int32) (0 : Int32) s t) (fun r => r = .inl (47, [oN (some 0)], s, t)) := by
          unfold l_M_halfThatCounts_28_4
          refine wp_ifn (by decide) (wp_bi (r1 1 (by omega)) (wp_bi r0 (wp_let ?_)))
          rw [if_neg (c := ¬ v.fn 0 1 = v.dn 0 0) (fun hx => hx h0)]
          refine wp_ifn (by decide) (wp_if (by decide) ?_)
          unfold l_M_halfThatCounts_28_4
          refine wp_ifn (by decide) (wp_bi (r2 1 (by omega)) (wp_bi r0 (wp_let ?_)))
          rw [if_pos (c := ¬ v.fn 25 1 = v.dn 0 0) h1]
          refine wp_if (by decide) ?_
          exact ⟨_, fin _, rfl⟩
        rw [e1, e2]
      · unfold ZVs.good; rw [if_pos h0, if_neg (fun hx => h1 hx.1)]
  · by_cases h1 : v.fn 25 1 = v.dn 0 0
    · refine ⟨some 1, wrap _ ?_, fun i hi => (by cases hi; omega), fun hq => ?_⟩
      · obtain ⟨r, e1, e2⟩ : wp (l_M_halfThatCounts_28_4 K (M + 3) (M + 3) (-1 : Int32) (0 : Int32) s t) (fun r => r = .inl (47, [oN (some 1)], s, t)) := by
          unfold l_M_halfThatCounts_28_4
          refine wp_ifn (by decide) (wp_bi (r1 1 (by omega)) (wp_bi r0 (wp_let ?_)))
          rw [if_pos (c := ¬ v.fn 0 1 = v.dn 0 0) h0]
          refine wp_if (by decide) ?_
          unfold l_M_halfThatCounts_28_4
          refine wp_ifn (by decide) (wp_bi (r2 1 (by omega)) (wp_bi r0 (wp_let ?_)))
          rw [if_neg (c := ¬ v.fn 25 1 = v.dn 0 0) (fun hx => hx h1)]
          refine wp_ifn (by decide) (wp_if (by decide) ?_)
          exact ⟨_, fin _, rfl⟩
        rw [e1, e2]
      · unfold ZVs.good; rw [if_neg h0, if_pos h1]
    · refine ⟨none, wrap _ ?_, fun i hi => (by cases hi), fun hq => ?_⟩
      · obtain ⟨r, e1, e2⟩ : wp (l_M_halfThatCounts_28_4 K (M + 3) (M + 3) (-1 : Int32) (0 : Int32) s t) (fun r => r = .inl (47, [oN none], s, t)) := by
          unfold l_M_halfThatCounts_28_4
          refine wp_ifn (by decide) (wp_bi (r1 1 (by omega)) (wp_bi r0 (wp_let ?_)))
          rw [if_pos (c := ¬ v.fn 0 1 = v.dn 0 0) h0]
          refine wp_if (by decide) ?_
          unfold l_M_halfThatCounts_28_4
          refine wp_ifn (by decide) (wp_bi (r2 1 (by omega)) (wp_bi r0 (wp_let ?_)))
          rw [if_pos (c := ¬ v.fn 25 1 = v.dn 0 0) h1]
          refine wp_if (by decide) ?_
          exact ⟨_, fin _, rfl⟩
        rw [e1, e2]
      · unfold ZVs.good; rw [if_neg h0, if_neg h1]
/-! THE RECORDS ARE TAKEN (the reference) -/
theorem m_isRecord (K : px_K) (N : Nat) (hN : 2000 ≤ N) (hK : zKm K) (t : px_W) (s : px_S) (v : ZVs) (h : zRv s v) (hh : v.half < 2) (k : Nat) (hk : k < 24) : f_M_isRecord_28 K N (iN k) s t = some (.inl (some (.int (if ¬ v.fn (25 * v.half + 1 + k) 0 = iN v.gen then 0 else 1))), s, t) := by
  unfold f_M_isRecord_28
  have e : (((25 : Int32) * (s.1 33)) + (1 : Int32)) + iN k = iN (25 * v.half + 1 + k) := by
    have h25 : (25 : Int32) = iN 25 := rfl
    rw [h.2.2.2.2.2.2.1, h25, iN_mul, iL1, iN_add, iN_add]
  have hr : f_M_read_28 K N (1 : Int32) (iN (25 * v.half + 1 + k)) (0 : Int32) s t = some (.inl (some (.int (v.fn (25 * v.half + 1 + k) 0))), s, t) := m_read K N (by omega) hK t s v.p.dv h.1.1 1 (25 * v.half + 1 + k) 0 (by omega) (by show _ < 114; omega) (by omega)
  rw [e, hr]
  show some _ = _
  rw [h.2.2.2.2.2.2.2.1]
theorem m_hasLast_loop (K : px_K) (N : Nat) (hN : 2000 ≤ N) (hK : zKm K) (t : px_W) (s : px_S) (v : ZVs) (h : zRv s v) (hh : v.half < 2) (e : Int32) : ∀ (d i n : Nat) (f : Bool), (f = true ↔ ∃ k, k < i ∧ v.fn (25 * v.half + 1 + k) 0 = iN v.gen ∧ v.fn (25 * v.half + 1 + k) 1 = e ∧ v.fn (25 * v.half + 1 + k) 2 = 1) → i + d = 24 → d < n → ∃ g : Bool, (g = true ↔ ∃ k, k < 24 ∧ v.fn (25 * v.half + 1 + k) 0 = iN v.gen ∧ v.fn (25 * v.half + 1 + k) 1 = e ∧ v.fn (25 * v.half + 1 + k) 2 = 1) ∧ l_M_hasLast_28_4 K N n e (bN f) (iN i) s t = some (.inl (42, [bN g], s, t)) := by
  intro d
  induction d with
  | zero =>
    intro i n f hf hi hn
    obtain ⟨n, rfl⟩ : ∃ n', n = n' + 1 := ⟨n - 1, by omega⟩
    have hi : i = 24 := by omega
    subst hi
    refine ⟨f, hf, ?_⟩
    unfold l_M_hasLast_28_4
    rw [if_pos (by decide)]
  | succ d ih =>
    intro i n f hf hi hn
    obtain ⟨n, rfl⟩ : ∃ n', n = n' + 1 := ⟨n - 1, by omega⟩
    have e3 : iN i + (1 : Int32) = iN (i + 1) := by rw [iL1, iN_add]
    have ev : (((25 : Int32) * (s.1 33)) + (1 : Int32)) + iN i = iN (25 * v.half + 1 + i) := by
      have h25 : (25 : Int32) = iN 25 := rfl
      rw [h.2.2.2.2.2.2.1, h25, iN_mul, iL1, iN_add, iN_add]
    have rd : ∀ w, w < 16 → f_M_read_28 K N (1 : Int32) (iN (25 * v.half + 1 + i)) (iN w) s t = some (.inl (some (.int (v.fn (25 * v.half + 1 + i) w))), s, t) := fun w hw => m_read K N (by omega) hK t s v.p.dv h.1.1 1 (25 * v.half + 1 + i) w (by omega) (by show _ < 114; omega) hw
    have h24 : ¬ (24 : Int32) ≤ iN i := by
      have : (24 : Int32) = iN 24 := rfl
      rw [this, iN_le (by omega) (by omega)]; omega
    have go : ∀ f' : Bool, (f' = true ↔ ∃ k, k < i + 1 ∧ v.fn (25 * v.half + 1 + k) 0 = iN v.gen ∧ v.fn (25 * v.half + 1 + k) 1 = e ∧ v.fn (25 * v.half + 1 + k) 2 = 1) → ∀ x : Int32, x = bN f' → l_M_hasLast_28_4 K N (n + 1) e (bN f) (iN i) s t = l_M_hasLast_28_4 K N n e x (iN (i + 1)) s t → ∃ g : Bool, (g = true ↔ ∃ k, k < 24 ∧ v.fn (25 * v.half + 1 + k) 0 = iN v.gen ∧ v.fn (25 * v.half + 1 + k) 1 = e ∧ v.fn (25 * v.half + 1 + k) 2 = 1) ∧ l_M_hasLast_28_4 K N (n + 1) e (bN f) (iN i) s t = some (.inl (42, [bN g], s, t)) := by
      intro f' hf' x hx heq
      obtain ⟨g, g1, g2⟩ := ih (i + 1) n f' hf' (by omega) (by omega)
      exact ⟨g, g1, by rw [heq, hx]; exact g2⟩
    have ext : ∀ q : Prop, (q ↔ (v.fn (25 * v.half + 1 + i) 0 = iN v.gen ∧ v.fn (25 * v.half + 1 + i) 1 = e ∧ v.fn (25 * v.half + 1 + i) 2 = 1)) → f = false → ((∃ k, k < i + 1 ∧ v.fn (25 * v.half + 1 + k) 0 = iN v.gen ∧ v.fn (25 * v.half + 1 + k) 1 = e ∧ v.fn (25 * v.half + 1 + k) 2 = 1) ↔ q) := by
      intro q hq hf0
      constructor
      · rintro ⟨k, k1, k2⟩
        by_cases hki : k = i
        · subst hki; exact hq.mpr k2
        · have := hf.mpr ⟨k, by omega, k2⟩
          rw [hf0] at this; cases this
      · intro hx; exact ⟨i, by omega, hq.mp hx⟩
    cases f with
    | true =>
      refine go true ⟨fun _ => ?_, fun _ => rfl⟩ 1 rfl ?_
      · obtain ⟨k, k1, k2⟩ := hf.mp rfl
        exact ⟨k, by omega, k2⟩
      · rw [l_M_hasLast_28_4, if_neg h24, e3]
        unfold px_let
        dsimp only
        rw [if_pos (by decide)]
    | false =>
      have hrec := m_isRecord K N hN hK t s v h hh i (by omega)
      by_cases c1 : v.fn (25 * v.half + 1 + i) 0 = iN v.gen
      · rw [if_neg (fun hx => hx c1)] at hrec
        by_cases c2 : v.fn (25 * v.half + 1 + i) 1 = e
        · by_cases c3 : v.fn (25 * v.half + 1 + i) 2 = 1
          · refine go true ⟨fun _ => ⟨i, by omega, c1, c2, c3⟩, fun _ => rfl⟩ 1 rfl ?_
            rw [l_M_hasLast_28_4, if_neg h24, e3]
            unfold px_let
            dsimp only
            rw [if_neg (by decide), hrec]
            unfold px_bi
            dsimp only
            have := rd 1 (by omega)
            have r2 := rd 2 (by omega)
            rw [ev, if_neg (by decide), show (1 : Int32) = iN 1 from rfl] at *
            rw [this]
            dsimp only
            rw [if_neg (fun hx => hx c2), show (2 : Int32) = iN 2 from rfl, r2]
            dsimp only
            rw [if_neg (c := ¬ v.fn (25 * v.half + 1 + i) 2 = iN 1) (fun hx => hx c3)]
          · refine go false ⟨fun hx => (by cases hx), fun hx => ?_⟩ 0 rfl ?_
            · have := (ext False ⟨fun hx => hx.elim, fun hx => c3 hx.2.2⟩ rfl).mp hx
              exact this.elim
            · rw [l_M_hasLast_28_4, if_neg h24, e3]
              unfold px_let
              dsimp only
              rw [if_neg (by decide), hrec]
              unfold px_bi
              dsimp only
              have := rd 1 (by omega)
              have r2 := rd 2 (by omega)
              rw [ev, if_neg (by decide), show (1 : Int32) = iN 1 from rfl] at *
              rw [this]
              dsimp only
              rw [if_neg (fun hx => hx c2), show (2 : Int32) = iN 2 from rfl, r2]
              dsimp only
              rw [if_pos (c := ¬ v.fn (25 * v.half + 1 + i) 2 = iN 1) c3]
        · refine go false ⟨fun hx => (by cases hx), fun hx => ?_⟩ 0 rfl ?_
          · have := (ext False ⟨fun hx => hx.elim, fun hx => c2 hx.2.1⟩ rfl).mp hx
            exact this.elim
          · rw [l_M_hasLast_28_4, if_neg h24, e3]
            unfold px_let
            dsimp only
            rw [if_neg (by decide), hrec]
            unfold px_bi
            dsimp only
            have := rd 1 (by omega)
            rw [ev, if_neg (by decide), show (1 : Int32) = iN 1 from rfl] at *
            rw [this]
            dsimp only
            rw [if_pos c2]
      · rw [if_pos c1] at hrec
        refine go false ⟨fun hx => (by cases hx), fun hx => ?_⟩ 0 rfl ?_
        · have := (ext False ⟨fun hx => hx.elim, fun hx => c1 hx.1⟩ rfl).mp hx
          exact this.elim
        · rw [l_M_hasLast_28_4, if_neg h24, e3]
          unfold px_let
          dsimp only
          rw [if_neg (by decide), hrec]
          unfold px_bi
          dsimp only
          rw [if_pos rfl]
theorem m_hasLast (K : px_K) (N : Nat) (hN : 2000 ≤ N) (hK : zKm K) (t : px_W) (s : px_S) (v : ZVs) (h : zRv s v) (hh : v.half < 2) (e : Int32) : ∃ g : Bool, (g = true ↔ ∃ k, k < 24 ∧ v.fn (25 * v.half + 1 + k) 0 = iN v.gen ∧ v.fn (25 * v.half + 1 + k) 1 = e ∧ v.fn (25 * v.half + 1 + k) 2 = 1) ∧ f_M_hasLast_28 K N e s t = some (.inl (some (.int (bN g))), s, t) := by
  obtain ⟨g, g1, g2⟩ := m_hasLast_loop K N hN hK t s v h hh e 24 0 N false ⟨fun hx => (by cases hx), fun ⟨k, k1, _⟩ => by omega⟩ (by omega) (by omega)
  refine ⟨g, g1, ?_⟩
  have g2 : l_M_hasLast_28_4 K N N e (0 : Int32) (0 : Int32) s t = some (.inl (42, [bN g], s, t)) := g2
  unfold f_M_hasLast_28
  rw [g2]
  show px_gd _ _ = _
  rw [px_gd_of]
  cases g
  · exact Or.inl rfl
  · exact Or.inr rfl
/-- the pairs of a record -/
theorem m_pairs (K : px_K) (N : Nat) (hN : 2000 ≤ N) (hK : zKm K) (t : px_W) (u2 : Int32) (bb : Nat) (hbb : bb < 114) (r : ZBk) (e : Nat) (he : e < 2147483648) (h6 : n32 (r 3) ≤ 6) (hr : ∀ j, j < n32 (r 3) → ∃ q b, r (4 + 2 * j) = iN q ∧ r (5 + 2 * j) = iN b ∧ q < 64 ∧ b < 106) : ∀ (k j n : Nat) (s : px_S) (v : ZVs), zRv s v → v.fn bb = r → j + k = n32 (r 3) → k < n → wp (l_M_takesHalf_28_65 K N n u2 (iN bb) (iN e) (iN j) s t) (zC 102 [] t (fun s' => zRv s' (ZVs.takePairs r e k j v) ∧ zFv s s')) := by
  intro k
  induction k with
  | zero =>
    intro j n s v h hv hj hn
    obtain ⟨n, rfl⟩ : ∃ n', n = n' + 1 := ⟨n - 1, by omega⟩
    unfold l_M_takesHalf_28_65
    refine wp_bi (m_read K N (by omega) hK t s v.p.dv h.1.1 1 bb 3 (by omega) hbb (by omega)) ?_
    rw [show (v.p.dv 1).now bb = r from hv]
    exact wp_if ((n32_le (by omega)).mpr (by omega)) (wp_rC ⟨h, zFv_refl s⟩)
  | succ k ih =>
    intro j n s v h hv hj hn
    obtain ⟨n, rfl⟩ : ∃ n', n = n' + 1 := ⟨n - 1, by omega⟩
    have e3 : iN j + (1 : Int32) = iN (j + 1) := by rw [iL1, iN_add]
    have e4 : (4 : Int32) + (2 : Int32) * iN j = iN (4 + 2 * j) := by
      have : (4 : Int32) = iN 4 := rfl
      rw [this, iL2, iN_mul, iN_add]
    have e5 : (5 : Int32) + (2 : Int32) * iN j = iN (5 + 2 * j) := by
      have : (5 : Int32) = iN 5 := rfl
      rw [this, iL2, iN_mul, iN_add]
    obtain ⟨q, b, q1, q2, q3, q4⟩ := hr j (by omega)
    unfold l_M_takesHalf_28_65
    rw [e3, e4, e5]
    refine wp_bi (m_read K N (by omega) hK t s v.p.dv h.1.1 1 bb 3 (by omega) hbb (by omega)) ?_
    rw [show (v.p.dv 1).now bb = r from hv]
    refine wp_ifn (by rw [n32_le (by omega)]; omega) ?_
    refine wp_bi (m_read K N (by omega) hK t s v.p.dv h.1.1 1 bb (4 + 2 * j) (by omega) hbb (by omega)) ?_
    refine wp_bi (m_read K N (by omega) hK t s v.p.dv h.1.1 1 bb (5 + 2 * j) (by omega) hbb (by omega)) ?_
    rw [show (v.p.dv 1).now bb = r from hv, q1, q2, iN_nat (by omega)]
    refine wp_gd (by rw [hK.2.2.2.2.2.2.1]; exact iN_in (by omega) (by omega)) (wp_let (wp_gd (by rw [hK.2.2.2.2.2.2.2.1]; exact iN_in (by omega) (by omega)) (wp_let ?_)))
    have n1 : n32 (r (4 + 2 * j)) = q := by rw [q1, n32_iN (by omega)]
    have n2 : n32 (r (5 + 2 * j)) = b := by rw [q2, n32_iN (by omega)]
    have hR : zRv (sA (sA s 35 q (iN b)) 36 q (iN e)) ((v.s_sb (zu v.sb q (b + 1))).s_se (zu v.se q e)) := ⟨zRw_row (zRw_row h.1 (by omega)) (by omega), zRs_se (v := v.s_sb (zu v.sb q (b + 1))) (zRs_sb (a := b + 1) h.2 (by rw [iN_pred (by omega)]; rfl))⟩
    refine wp_imp (ih (j + 1) n _ _ hR hv (by omega) (by omega)) ?_
    rintro z ⟨s', h1, h2, h3⟩
    refine ⟨s', h1, ?_, zFv_trans (zFv_trans (zFv_sA (by omega)) (zFv_sA (by omega))) h3⟩
    unfold ZVs.takePairs
    rw [n1, n2]
    exact h2
/-- what a record that counts must be -/
def zRk (v : ZVs) (h k : Nat) : Prop := n32 (v.fn (25 * h + 1 + k) 0) = v.gen → v.landed < n32 (v.fn (25 * h + 1 + k) 1) → ZVs.hasLast v.fn h v.gen (n32 (v.fn (25 * h + 1 + k) 1)) → n32 (v.fn (25 * h + 1 + k) 3) ≤ 6 ∧ ∀ j, j < n32 (v.fn (25 * h + 1 + k) 3) → ∃ q b, v.fn (25 * h + 1 + k) (4 + 2 * j) = iN q ∧ v.fn (25 * h + 1 + k) (5 + 2 * j) = iN b ∧ q < 64 ∧ b < 106
theorem m_takeRecs (K : px_K) (N : Nat) (hN : 2000 ≤ N) (hK : zKm K) (t : px_W) (h0 : Nat) (hh : h0 < 2) : ∀ (c k n : Nat) (s : px_S) (v : ZVs), zRv s v → v.half = h0 → 1 ≤ v.gen → v.gen < 2147483648 → v.opn < 2147483648 → v.dn 1 1 = iN v.landed → v.landed < 2147483647 → (∀ k', k' < 24 → zRk v h0 k') → (∀ k', k' < 24 → n32 (v.fn (25 * h0 + 1 + k') 0) = v.gen → v.landed < n32 (v.fn (25 * h0 + 1 + k') 1) → ZVs.hasLast v.fn h0 v.gen (n32 (v.fn (25 * h0 + 1 + k') 1)) → n32 (v.fn (25 * h0 + 1 + k') 1) < 2147483647) → k + c = 24 → c < n → wp (l_M_takesHalf_28_20 K N n (iN k) s t) (zC 104 [] t (fun s' => zRv s' (ZVs.takeRecs h0 c k v) ∧ zFv s s')) := by
  intro c
  induction c with
  | zero =>
    intro k n s v h hv hg hg2 ho hL hl hrk hb hk hn
    obtain ⟨n, rfl⟩ : ∃ n', n = n' + 1 := ⟨n - 1, by omega⟩
    have hk : k = 24 := by omega
    subst hk
    unfold l_M_takesHalf_28_20
    exact wp_if (by decide) (wp_rC ⟨h, zFv_refl s⟩)
  | succ c ih =>
    intro k n s v h hv hg hg2 ho hL hl hrk hb hk hn
    obtain ⟨n, rfl⟩ : ∃ n', n = n' + 1 := ⟨n - 1, by omega⟩
    have e3 : iN k + (1 : Int32) = iN (k + 1) := by rw [iL1, iN_add]
    have ev : (((25 : Int32) * (s.1 33)) + (1 : Int32)) + iN k = iN (25 * h0 + 1 + k) := by
      have h25 : (25 : Int32) = iN 25 := rfl
      rw [h.2.2.2.2.2.2.1, h25, iN_mul, iL1, iN_add, iN_add, hv]
    have h24 : ¬ (24 : Int32) ≤ iN k := by
      have : (24 : Int32) = iN 24 := rfl
      rw [this, iN_le (by omega) (by omega)]; omega
    have hst : ZVs.takeRecs h0 (c + 1) k v = ZVs.takeRecs h0 c (k + 1) (@ite _ (n32 (v.fn (25 * h0 + 1 + k) 0) = v.gen ∧ v.landed < n32 (v.fn (25 * h0 + 1 + k) 1) ∧ ZVs.hasLast v.fn h0 v.gen (n32 (v.fn (25 * h0 + 1 + k) 1))) (Classical.propDecidable _) (ZVs.takePairs (v.fn (25 * h0 + 1 + k)) (n32 (v.fn (25 * h0 + 1 + k) 1)) (n32 (v.fn (25 * h0 + 1 + k) 3)) 0 (v.s_opn (max v.opn (n32 (v.fn (25 * h0 + 1 + k) 1) + 1)))) v) := rfl
    rw [hst]
    have hrec := m_isRecord K N hN hK t s v h (by omega) k (by omega)
    rw [hv] at hrec
    have hgen : v.fn (25 * h0 + 1 + k) 0 = iN v.gen ↔ n32 (v.fn (25 * h0 + 1 + k) 0) = v.gen := ⟨fun hx => by rw [hx, n32_iN hg2], fun hx => eq_iN hg hx⟩
    have hlan := m_landed K N (by omega) hK t s v.p.dv h.1.1
    rw [show (v.p.dv 0).now 1 1 = iN v.landed from hL] at hlan
    unfold l_M_takesHalf_28_20
    rw [e3, ev]
    refine wp_ifn h24 (wp_let (wp_bi (m_read K N (by omega) hK t s v.p.dv h.1.1 1 (25 * h0 + 1 + k) 1 (by omega) (by show _ < 114; omega) (by omega)) (wp_bi hrec ?_)))
    obtain ⟨e, hee⟩ : ∃ e, e = n32 (v.fn (25 * h0 + 1 + k) 1) := ⟨_, rfl⟩
    -- a record that does not count
    have skip : ¬ (n32 (v.fn (25 * h0 + 1 + k) 0) = v.gen ∧ v.landed < n32 (v.fn (25 * h0 + 1 + k) 1) ∧ ZVs.hasLast v.fn h0 v.gen (n32 (v.fn (25 * h0 + 1 + k) 1))) → wp (l_M_takesHalf_28_20 K N n (iN (k + 1)) s t) (zC 104 [] t (fun s' => zRv s' (ZVs.takeRecs h0 c (k + 1) (@ite _ (n32 (v.fn (25 * h0 + 1 + k) 0) = v.gen ∧ v.landed < n32 (v.fn (25 * h0 + 1 + k) 1) ∧ ZVs.hasLast v.fn h0 v.gen (n32 (v.fn (25 * h0 + 1 + k) 1))) (Classical.propDecidable _) (ZVs.takePairs (v.fn (25 * h0 + 1 + k)) (n32 (v.fn (25 * h0 + 1 + k) 1)) (n32 (v.fn (25 * h0 + 1 + k) 3)) 0 (v.s_opn (max v.opn (n32 (v.fn (25 * h0 + 1 + k) 1) + 1)))) v)) ∧ zFv s s')) := by
      intro hno
      rw [if_neg hno]
      exact ih (k + 1) n s v h hv hg hg2 ho hL hl hrk hb (by omega) (by omega)
    by_cases c1 : n32 (v.fn (25 * h0 + 1 + k) 0) = v.gen
    · rw [if_neg (c := ¬ v.fn (25 * h0 + 1 + k) 0 = iN v.gen) (fun hx => hx (hgen.mpr c1))]
      refine wp_ifn (by decide) (wp_bi hlan ?_)
      by_cases c2 : v.landed < n32 (v.fn (25 * h0 + 1 + k) 1)
      · refine wp_ifn (by rw [n32_le (by omega)]; show ¬ n32 (v.fn (25 * h0 + 1 + k) 1) ≤ _; omega) ?_
        obtain ⟨g, g1, g2⟩ := m_hasLast K N hN hK t s v h (by omega) (v.fn (25 * h0 + 1 + k) 1)
        rw [hv] at g1
        refine wp_bi g2 ?_
        have hE : v.fn (25 * h0 + 1 + k) 1 = iN e := eq_iN (by omega) hee.symm
        have hlast : g = true ↔ ZVs.hasLast v.fn h0 v.gen (n32 (v.fn (25 * h0 + 1 + k) 1)) := by
          rw [g1]
          unfold ZVs.hasLast
          constructor
          · rintro ⟨q, q1, q2, q3, q4⟩
            exact ⟨q, q1, by rw [q2, n32_iN hg2], by rw [q3], q4⟩
          · rintro ⟨q, q1, q2, q3, q4⟩
            exact ⟨q, q1, eq_iN hg q2, by rw [hE]; exact eq_iN (by omega) (by rw [q3, hee]), q4⟩
        cases g with
        | false =>
          refine wp_ifn (fun hx => hx rfl) (skip (fun hx => ?_))
          have := hlast.mpr hx.2.2
          cases this
        | true =>
          have hl3 := hlast.mp rfl
          obtain ⟨k6, kr⟩ := hrk k (by omega) c1 c2 hl3
          have he31 := hb k (by omega) c1 c2 hl3
          refine wp_if (by decide) (wp_let ?_)
          rw [if_pos (c := n32 (v.fn (25 * h0 + 1 + k) 0) = v.gen ∧ v.landed < n32 (v.fn (25 * h0 + 1 + k) 1) ∧ ZVs.hasLast v.fn h0 v.gen (n32 (v.fn (25 * h0 + 1 + k) 1))) ⟨c1, c2, hl3⟩]
          rw [← hee] at he31 ⊢
          have hopn : (if v.fn (25 * h0 + 1 + k) 1 < s.1 32 then s.1 32 else v.fn (25 * h0 + 1 + k) 1 + (1 : Int32)) = iN (max v.opn (e + 1)) := by
            rw [h.2.2.2.2.2.1, hE]
            by_cases hlt : e < v.opn
            · rw [if_pos ((iN_lt (by omega) ho).mpr hlt), Nat.max_eq_left (by omega)]
            · rw [if_neg (fun hx => hlt ((iN_lt (by omega) ho).mp hx)), Nat.max_eq_right (by omega), iL1, iN_add]
          show wp (px_lp (l_M_takesHalf_28_65 K N N (iN k) (iN (25 * h0 + 1 + k)) (v.fn (25 * h0 + 1 + k) 1) (0 : Int32) (sR s 32 (if v.fn (25 * h0 + 1 + k) 1 < s.1 32 then s.1 32 else v.fn (25 * h0 + 1 + k) 1 + (1 : Int32))) t) _ _) _
          rw [hopn, hE]
          have hR : zRv (sR s 32 (iN (max v.opn (e + 1)))) (v.s_opn (max v.opn (e + 1))) := ⟨zRw_int h.1 (by omega), zRs_opn h.2 _⟩
          obtain ⟨s2, a1, a2, a3⟩ := wp_C (m_pairs K N hN hK t (iN k) (25 * h0 + 1 + k) (by omega) (v.fn (25 * h0 + 1 + k)) e (by omega) k6 kr (n32 (v.fn (25 * h0 + 1 + k) 3)) 0 N _ _ hR rfl (by omega) (by omega))
          refine wp_lp a1 (wp_if rfl ?_)
          show wp (l_M_takesHalf_28_20 K N n _ s2 t) _
          obtain ⟨z1, z2, z3, z4, z5, z6⟩ := zfr_takePairs (v.fn (25 * h0 + 1 + k)) e (n32 (v.fn (25 * h0 + 1 + k) 3)) 0 (v.s_opn (max v.opn (e + 1)))
          have key : ∀ x : ZVs, zRv s2 x → x.p = v.p → x.gen = v.gen → x.half = v.half → x.opn = max v.opn (e + 1) → wp (l_M_takesHalf_28_20 K N n (iN (k + 1)) s2 t) (zC 104 [] t (fun s' => zRv s' (ZVs.takeRecs h0 c (k + 1) x) ∧ zFv s s')) := by
            intro x hx x1 x2 x3 x4
            have xf : x.fn = v.fn := by show (x.p.dv 1).now = _; rw [x1]
            have xd : x.dn = v.dn := by show (x.p.dv 0).now = _; rw [x1]
            have xl : x.landed = v.landed := by show n32 (x.dn 1 1) = n32 (v.dn 1 1); rw [xd]
            refine wp_imp (ih (k + 1) n s2 x hx (by omega) (by omega) (by omega) (by rw [x4]; omega) (by rw [xd, xl]; exact hL) (by omega) (fun k' hk' => by unfold zRk; rw [xf, xl, x2]; exact hrk k' hk') (fun k' hk' => by rw [xf, xl, x2]; exact hb k' hk') (by omega) (by omega)) ?_
            rintro r ⟨s', h1, h2, h3⟩
            exact ⟨s', h1, h2, zFv_trans (zFv_sR (by omega)) (zFv_trans a3 h3)⟩
          exact key _ a2 z2 z3 z4 z5
      · refine wp_if (by rw [n32_le (by omega)]; show n32 (v.fn (25 * h0 + 1 + k) 1) ≤ _; omega) (skip (fun hx => c2 hx.2.1))
    · rw [if_pos (c := ¬ v.fn (25 * h0 + 1 + k) 0 = iN v.gen) (fun hx => c1 (hgen.mp hx))]
      exact wp_if rfl (skip (fun hx => c1 hx.1))
theorem zRs_g {s : px_S} {v : ZVs} (h : zRs s v) (g q o : Nat) : zRs (sR (sR (sR s 33 (iN q)) 34 (iN g)) 32 (iN o)) (ZVs.mk v.p v.sets v.ways v.eps v.wf v.sb v.se v.mrk v.hd o q g v.plc) := by
  obtain ⟨r1, r2, r3, r4, r5, r6, r7, r8, r9, r10⟩ := h
  exact ⟨r1, r2, r3, r4, rfl, rfl, rfl, r8, r9, r10⟩
theorem m_takesHalf (K : px_K) (N : Nat) (hN : 2000 ≤ N) (hK : zKm K) (t : px_W) (h0 : Nat) (hh : h0 < 2) (s : px_S) (v : ZVs) (h : zRv s v) (g : Nat) (hg : v.fn (25 * h0) 0 = iN g) (hg1 : 1 ≤ g) (hg2 : g < 2147483648) (hL : v.dn 1 1 = iN v.landed) (hl : v.landed < 2147483647) (hrk : ∀ k, k < 24 → n32 (v.fn (25 * h0 + 1 + k) 0) = g → v.landed < n32 (v.fn (25 * h0 + 1 + k) 1) → ZVs.hasLast v.fn h0 g (n32 (v.fn (25 * h0 + 1 + k) 1)) → (n32 (v.fn (25 * h0 + 1 + k) 3) ≤ 6 ∧ ∀ j, j < n32 (v.fn (25 * h0 + 1 + k) 3) → ∃ q b, v.fn (25 * h0 + 1 + k) (4 + 2 * j) = iN q ∧ v.fn (25 * h0 + 1 + k) (5 + 2 * j) = iN b ∧ q < 64 ∧ b < 106) ∧ n32 (v.fn (25 * h0 + 1 + k) 1) < 2147483647) : ∃ s', f_M_takesHalf_28 K N (iN h0) s t = some (.inl none, s', t) ∧ zRv s' (ZVs.takeHalf h0 v) ∧ zFv s s' := by
  apply wp_B
  unfold f_M_takesHalf_28
  have e25 : (25 : Int32) * iN h0 = iN (25 * h0) := by
    have h25 : (25 : Int32) = iN 25 := rfl
    rw [h25, iN_mul]
  rw [e25]
  refine wp_let ?_
  have h1 : zRw (sR s 33 (iN h0)) v.p := zRw_int h.1 (by omega)
  have hr := m_read K N (by omega) hK t (sR s 33 (iN h0)) v.p.dv h1.1 1 (25 * h0) 0 (by omega) (by show _ < 114; omega) (by omega)
  rw [show (v.p.dv 1).now (25 * h0) 0 = iN g from hg] at hr
  refine wp_bi hr (wp_let ?_)
  have h2 : zRw (sR (sR s 33 (iN h0)) 34 (iN g)) v.p := zRw_int h1 (by omega)
  have hlan := m_landed K N (by omega) hK t _ v.p.dv h2.1
  rw [show (v.p.dv 0).now 1 1 = iN v.landed from hL] at hlan
  refine wp_bi hlan ?_
  have e1 : iN v.landed + (1 : Int32) = iN (v.landed + 1) := by rw [iL1, iN_add]
  rw [e1]
  refine wp_let ?_
  have hgn : n32 (v.fn (25 * h0) 0) = g := by rw [hg, n32_iN hg2]
  have hsp : ZVs.takeHalf h0 v = ZVs.takeRecs h0 24 0 (ZVs.mk v.p v.sets v.ways v.eps v.wf v.sb v.se v.mrk v.hd (v.landed + 1) h0 g v.plc) := by
    unfold ZVs.takeHalf; rw [hgn]
  rw [hsp]
  have h3 : zRv (sR (sR (sR s 33 (iN h0)) 34 (iN g)) 32 (iN (v.landed + 1))) (ZVs.mk v.p v.sets v.ways v.eps v.wf v.sb v.se v.mrk v.hd (v.landed + 1) h0 g v.plc) := ⟨zRw_int h2 (by omega), zRs_g h.2 _ _ _⟩
  obtain ⟨s2, a1, a2, a3⟩ := wp_C (m_takeRecs K N hN hK t h0 hh 24 0 N _ _ h3 rfl hg1 hg2 (by show v.landed + 1 < _; omega) hL hl (fun k hk x1 x2 x3 => (hrk k hk x1 x2 x3).1) (fun k hk x1 x2 x3 => (hrk k hk x1 x2 x3).2) (by omega) (by omega))
  refine wp_lp a1 (wp_if rfl ?_)
  exact wp_rB ⟨a2, zFv_trans (zFv_trans (zFv_trans (zFv_sR (by omega)) (zFv_sR (by omega))) (zFv_sR (by omega))) a3⟩
