/-! THE LAW'S LOOP -/
def zLq (t : px_W) (d : Nat) (r : px_LO) : Prop := ∃ s3 t3, r = .inl (693, [], s3, t3) ∧ t3.length ≤ t.length + 2 * d ∧ px_tot t3 ≤ px_tot t + 100 * d
theorem zLq_s {t t1 : px_W} {d : Nat} {r : px_LO} (ht : zTt t t1) (h : zLq t1 d r) : zLq t (d + 1) r := by
  obtain ⟨s3, t3, e, h1, h2⟩ := h
  obtain ⟨q1, q2⟩ := ht
  exact ⟨s3, t3, e, by omega, by omega⟩
theorem m_thrown (K : px_K) (N : Nat) (s : px_S) (t : px_W) : f_M_thrown_28 K N s t = some (.inl (some (.int (s.1 25))), s, t) := rfl
theorem law_small : ∀ L, L < 5 → (Int32.ofNat L - (5 : Int32)).toInt < 0 := by decide
theorem law_exit {L i : Nat} (hL : L ≤ 4000) (hi : i ≤ 4000) : (Int32.ofNat L - (5 : Int32)) < iN i ↔ L < i + 5 := by
  by_cases h : 5 ≤ L
  · have e : Int32.ofNat L - (5 : Int32) = iN (L - 5) := iN_sub h
    rw [e, iN_lt (by omega) (by omega)]
    omega
  · refine ⟨fun _ => by omega, fun _ => Int32.lt_iff_toInt_lt.mpr ?_⟩
    rw [iN_toInt (show i < 2147483648 by omega)]
    have := law_small L (by omega)
    omega
set_option maxRecDepth 100000 in
theorem law_loop (K : px_K) (N n sets : Nat) (hN : 2000 ≤ N) (hK : zKc K n sets) (hKm : zKm K) (hK46 : K.2.2 46 = 1) (hL : K.1 ≤ 4000) : ∀ (d f i c : Nat) (m4 : Int32) (s : px_S) (t : px_W), m4 = iN i → i + 5 * d ≤ 4000 → K.1 ≤ i + 5 * d + 4 → d < f → c + 2000000 * d + 4000000 < 2000000000 → zI n sets c s → wp (l_L_law_31 K N f m4 s t) (zLq t d) := by
  intro d
  induction d with
  | zero =>
    intro f i c m4 s t hm h1 h2 h3 h4 h
    obtain ⟨f', rfl⟩ : ∃ f', f = f' + 1 := ⟨f - 1, by omega⟩
    unfold l_L_law_31
    exact wp_if (by rw [hm]; exact (law_exit hL (by omega)).mpr (by omega)) (wp_some ⟨s, t, rfl, by omega, by omega⟩)
  | succ d ih =>
    intro f i c m4 s t hm h1 h2 h3 h4 h
    obtain ⟨f', rfl⟩ : ∃ f', f = f' + 1 := ⟨f - 1, by omega⟩
    have hc : c + 4000000 < 2000000000 := by omega
    have fin : ∀ s1 t1, zI n sets (c + 2000000) s1 → zTt t t1 → wp (l_L_law_31 K N f' (m4 + (5 : Int32)) s1 t1) (zLq t (d + 1)) := fun s1 t1 hi ht => wp_imp (ih f' (i + 5) (c + 2000000) (m4 + (5 : Int32)) s1 t1 (by rw [hm]; exact iN_add i 5) (by omega) (by omega) (by omega) (by omega) hi) (fun r hr => zLq_s ht hr)
    by_cases hx : K.1 < i + 5
    · unfold l_L_law_31
      exact wp_if (by rw [hm]; exact (law_exit hL (by omega)).mpr hx) (wp_some ⟨s, t, rfl, by omega, by omega⟩)
    have hx' : ¬ (Int32.ofNat K.1 - (5 : Int32)) < m4 := by rw [hm]; exact fun q => hx ((law_exit hL (by omega)).mp q)
    have g0 : vp_in m4 K.1 := by rw [hm]; exact iN_in (by omega) (by omega)
    have g1 : vp_in (m4 + (1 : Int32)) K.1 := by rw [hm, show iN i + (1 : Int32) = iN (i + 1) from iN_add i 1]; exact iN_in (by omega) (by omega)
    have g2 : vp_in (m4 + (2 : Int32)) K.1 := by rw [hm, show iN i + (2 : Int32) = iN (i + 2) from iN_add i 2]; exact iN_in (by omega) (by omega)
    have g3 : vp_in (m4 + (3 : Int32)) K.1 := by rw [hm, show iN i + (3 : Int32) = iN (i + 3) from iN_add i 3]; exact iN_in (by omega) (by omega)
    have g4 : vp_in (m4 + (4 : Int32)) K.1 := by rw [hm, show iN i + (4 : Int32) = iN (i + 4) from iN_add i 4]; exact iN_in (by omega) (by omega)
    clear ih hm h1 h2 h3 h4
    unfold l_L_law_31
    refine wp_ifn hx' (wp_gd g0 ?_)
    clear hx' g0
    by_cases h0 : ((K.2.1 m4.toNatClampNeg) &&& (31 : Int32)).toInt = 0
    · obtain ⟨a, s1, t1, s2, e1, e2, hi, ht⟩ := st_make K N n sets c hN hK hKm hc t s h (K.2.1 (m4 + (1 : Int32)).toNatClampNeg) (K.2.1 (m4 + (2 : Int32)).toNatClampNeg) (if (K.2.1 (m4 + (3 : Int32)).toNatClampNeg) = 0 then (0 : Int32) else (1 : Int32))
      exact wp_if h0 (wp_gd ⟨g1, g2⟩ (wp_gd g3 (wp_bi e1 (wp_gd ⟨g1, g2⟩ (wp_gd g3 (wp_bi e2 (wp_if rfl (fin s2 t1 hi ht))))))))
    refine wp_ifn h0 ?_
    by_cases h1 : ((K.2.1 m4.toNatClampNeg) &&& (31 : Int32)).toInt = 1
    · obtain ⟨a, s1, t1, s2, e1, e2, hi, ht⟩ := st_find K N n sets c hN hK hKm hc t s h (K.2.1 (m4 + (1 : Int32)).toNatClampNeg) (K.2.1 (m4 + (2 : Int32)).toNatClampNeg)
      exact wp_if h1 (wp_gd ⟨g1, g2⟩ (wp_bi e1 (wp_gd ⟨g1, g2⟩ (wp_bi e2 (wp_if rfl (fin s2 t1 hi ht))))))
    refine wp_ifn h1 ?_
    by_cases h2 : ((K.2.1 m4.toNatClampNeg) &&& (31 : Int32)).toInt = 2
    · obtain ⟨a, s1, t1, s2, e1, e2, hi, ht⟩ := st_write K N n sets c hN hK hKm hc t s h (K.2.1 (m4 + (1 : Int32)).toNatClampNeg) (K.2.1 (m4 + (2 : Int32)).toNatClampNeg) (K.2.1 (m4 + (3 : Int32)).toNatClampNeg)
      exact wp_if h2 (wp_gd ⟨g1, g2⟩ (wp_gd g3 (wp_bi e1 (wp_gd ⟨g1, g2⟩ (wp_gd g3 (wp_bi e2 (wp_if rfl (fin s2 t1 hi ht))))))))
    refine wp_ifn h2 ?_
    by_cases h3 : ((K.2.1 m4.toNatClampNeg) &&& (31 : Int32)).toInt = 3
    · obtain ⟨k, a, s1, t1, s2, e1, e2, e3, e4, hi, ht⟩ := st_read K N n sets c hN hK hKm hc t s h hK46 (K.2.1 (m4 + (1 : Int32)).toNatClampNeg) (K.2.1 (m4 + (2 : Int32)).toNatClampNeg)
      refine wp_if h3 (wp_gd ⟨g1, g2⟩ (wp_bi e1 (wp_gd ⟨g1, g2⟩ (wp_bi e2 (wp_bi (m_thrown K N s2 t1) (wp_if e3 ?_))))))
      by_cases hk : k = 0
      · refine wp_ifn (fun q => q hk) (wp_gd (by rw [hK46]; exact iN_in (a := 0) (by omega) (by omega)) (wp_if ((lg_cmp0 _ _).mpr (e4 hk)) (fin s2 t1 hi ht)))
      · exact wp_if hk (fin s2 t1 hi ht)
    refine wp_ifn h3 ?_
    by_cases h4 : ((K.2.1 m4.toNatClampNeg) &&& (31 : Int32)).toInt = 4
    · obtain ⟨a, s1, t1, s2, e1, e2, hi, ht⟩ := st_cut K N n sets c hN hK hKm hc t s h (K.2.1 (m4 + (1 : Int32)).toNatClampNeg) (K.2.1 (m4 + (2 : Int32)).toNatClampNeg)
      exact wp_if h4 (wp_gd ⟨g1, g2⟩ (wp_bi e1 (wp_gd ⟨g1, g2⟩ (wp_bi e2 (wp_if rfl (fin s2 t1 hi ht))))))
    refine wp_ifn h4 ?_
    by_cases h5 : ((K.2.1 m4.toNatClampNeg) &&& (31 : Int32)).toInt = 5
    · obtain ⟨a, s1, t1, s2, e1, e2, hi, ht⟩ := st_remove K N n sets c hN hK hKm hc t s h (K.2.1 (m4 + (1 : Int32)).toNatClampNeg) (K.2.1 (m4 + (2 : Int32)).toNatClampNeg)
      exact wp_if h5 (wp_gd ⟨g1, g2⟩ (wp_bi e1 (wp_gd ⟨g1, g2⟩ (wp_bi e2 (wp_if rfl (fin s2 t1 hi ht))))))
    refine wp_ifn h5 ?_
    by_cases h6 : ((K.2.1 m4.toNatClampNeg) &&& (31 : Int32)).toInt = 6
    · obtain ⟨a, s1, t1, s2, e1, e2, hi, ht⟩ := st_move K N n sets c hN hK hKm hc t s h (K.2.1 (m4 + (1 : Int32)).toNatClampNeg) (K.2.1 (m4 + (2 : Int32)).toNatClampNeg) (K.2.1 (m4 + (3 : Int32)).toNatClampNeg) (K.2.1 (m4 + (4 : Int32)).toNatClampNeg)
      exact wp_if h6 (wp_gd ⟨g1, g2⟩ (wp_gd ⟨g3, g4⟩ (wp_bi e1 (wp_gd ⟨g1, g2⟩ (wp_gd ⟨g3, g4⟩ (wp_bi e2 (wp_if rfl (fin s2 t1 hi ht))))))))
    refine wp_ifn h6 ?_
    by_cases h7 : ((K.2.1 m4.toNatClampNeg) &&& (31 : Int32)).toInt = 7
    · obtain ⟨a, s1, t1, s2, e1, e2, hi, ht⟩ := st_inode K N n sets c hN hK hKm hc t s h (K.2.1 (m4 + (1 : Int32)).toNatClampNeg) (K.2.1 (m4 + (2 : Int32)).toNatClampNeg)
      exact wp_if h7 (wp_gd ⟨g1, g2⟩ (wp_bi e1 (wp_gd ⟨g1, g2⟩ (wp_bi e2 (wp_if rfl (fin s2 t1 hi ht))))))
    refine wp_ifn h7 ?_
    by_cases h8 : ((K.2.1 m4.toNatClampNeg) &&& (31 : Int32)).toInt = 8
    · obtain ⟨a, s1, t1, s2, e1, e2, hi, ht⟩ := st_entry K N n sets c hN hK hKm hc t s h (K.2.1 (m4 + (1 : Int32)).toNatClampNeg) (K.2.1 (m4 + (2 : Int32)).toNatClampNeg) (K.2.1 (m4 + (3 : Int32)).toNatClampNeg)
      exact wp_if h8 (wp_gd ⟨g1, g2⟩ (wp_gd g3 (wp_bi e1 (wp_gd ⟨g1, g2⟩ (wp_gd g3 (wp_bi e2 (wp_if rfl (fin s2 t1 hi ht))))))))
    refine wp_ifn h8 ?_
    by_cases h9 : ((K.2.1 m4.toNatClampNeg) &&& (31 : Int32)).toInt = 9
    · obtain ⟨a, s1, t1, s2, e1, e2, hi, ht⟩ := st_sync K N n sets c hN hK hKm hc t s h 
      exact wp_if h9 (wp_bi e1 (wp_bi e2 (wp_if rfl (fin s2 t1 hi ht))))
    refine wp_ifn h9 ?_
    by_cases h10 : ((K.2.1 m4.toNatClampNeg) &&& (31 : Int32)).toInt = 10
    · obtain ⟨a, s1, t1, s2, e1, e2, hi, ht⟩ := st_land K N n sets c hN hK hKm hc t s h 
      exact wp_if h10 (wp_bi e1 (wp_bi e2 (wp_if rfl (fin s2 t1 hi ht))))
    refine wp_ifn h10 ?_
    by_cases h11 : ((K.2.1 m4.toNatClampNeg) &&& (31 : Int32)).toInt = 11
    · obtain ⟨a, s1, t1, s2, e1, e2, hi, ht⟩ := st_home K N n sets c hN hK hKm hc t s h 
      exact wp_if h11 (wp_bi e1 (wp_bi e2 (wp_if rfl (fin s2 t1 hi ht))))
    refine wp_ifn h11 ?_
    by_cases h12 : ((K.2.1 m4.toNatClampNeg) &&& (31 : Int32)).toInt = 12
    · obtain ⟨a, s1, t1, s2, e1, e2, hi, ht⟩ := st_limit K N n sets c hN hK hKm hc t s h (K.2.1 (m4 + (1 : Int32)).toNatClampNeg) (((K.2.1 (m4 + (2 : Int32)).toNatClampNeg).toInt64 <<< ((32 : Int32).toInt64 &&& 63)) ||| ((K.2.1 (m4 + (3 : Int32)).toNatClampNeg).toInt64 &&& (4294967295 : Int64)))
      exact wp_if h12 (wp_gd ⟨g1, g2⟩ (wp_gd g3 (wp_bi e1 (wp_gd ⟨g1, g2⟩ (wp_gd g3 (wp_bi e2 (wp_if rfl (fin s2 t1 hi ht))))))))
    refine wp_ifn h12 ?_
    by_cases h13 : ((K.2.1 m4.toNatClampNeg) &&& (31 : Int32)).toInt = 13
    · obtain ⟨a, s1, t1, s2, e1, e2, hi, ht⟩ := st_crash K N n sets c hN hK hKm hc t s h (((K.2.1 (m4 + (1 : Int32)).toNatClampNeg).toInt64 <<< ((32 : Int32).toInt64 &&& 63)) ||| ((K.2.1 (m4 + (2 : Int32)).toNatClampNeg).toInt64 &&& (4294967295 : Int64)))
      exact wp_if h13 (wp_gd g1 (wp_gd g2 (wp_bi e1 (wp_gd g1 (wp_gd g2 (wp_bi e2 (wp_if rfl (fin s2 t1 hi ht))))))))
    refine wp_ifn h13 ?_
    by_cases h14 : ((K.2.1 m4.toNatClampNeg) &&& (31 : Int32)).toInt = 14
    · obtain ⟨a, s1, t1, s2, e1, e2, hi, ht⟩ := st_lose K N n sets c hN hK hKm hc t s h (((K.2.1 (m4 + (1 : Int32)).toNatClampNeg).toInt64 <<< ((32 : Int32).toInt64 &&& 63)) ||| ((K.2.1 (m4 + (2 : Int32)).toNatClampNeg).toInt64 &&& (4294967295 : Int64)))
      exact wp_if h14 (wp_gd g1 (wp_gd g2 (wp_bi e1 (wp_gd g1 (wp_gd g2 (wp_bi e2 (wp_if rfl (fin s2 t1 hi ht))))))))
    refine wp_ifn h14 ?_
    by_cases h15 : ((K.2.1 m4.toNatClampNeg) &&& (31 : Int32)).toInt = 15
    · obtain ⟨a, s1, t1, s2, e1, e2, hi, ht⟩ := st_mount K N n sets c hN hK hKm hc t s h (K.2.1 (m4 + (1 : Int32)).toNatClampNeg) (K.2.1 (m4 + (2 : Int32)).toNatClampNeg) (((K.2.1 (m4 + (3 : Int32)).toNatClampNeg).toInt64 <<< ((32 : Int32).toInt64 &&& 63)) ||| ((K.2.1 (m4 + (4 : Int32)).toNatClampNeg).toInt64 &&& (4294967295 : Int64)))
      exact wp_if h15 (wp_gd g1 (wp_gd ⟨g2, g3⟩ (wp_gd g4 (wp_bi e1 (wp_gd g1 (wp_gd ⟨g2, g3⟩ (wp_gd g4 (wp_bi e2 (wp_if rfl (fin s2 t1 hi ht))))))))))
    refine wp_ifn h15 ?_
    by_cases h16 : ((K.2.1 m4.toNatClampNeg) &&& (31 : Int32)).toInt = 16
    · obtain ⟨a, s1, t1, s2, e1, e2, hi, ht⟩ := st_attach K N n sets c hN hK hKm hc t s h 
      exact wp_if h16 (wp_bi e1 (wp_bi e2 (wp_if rfl (fin s2 t1 hi ht))))
    refine wp_ifn h16 ?_
    by_cases h17 : ((K.2.1 m4.toNatClampNeg) &&& (31 : Int32)).toInt = 17
    · obtain ⟨a, s1, t1, s2, e1, e2, hi, ht⟩ := st_slot K N n sets c hN hK hKm hc t s h (K.2.1 (m4 + (1 : Int32)).toNatClampNeg) (K.2.1 (m4 + (2 : Int32)).toNatClampNeg)
      exact wp_if h17 (wp_gd ⟨g1, g2⟩ (wp_bi e1 (wp_gd ⟨g1, g2⟩ (wp_bi e2 (wp_if rfl (fin s2 t1 hi ht))))))
    refine wp_ifn h17 ?_
    by_cases h18 : ((K.2.1 m4.toNatClampNeg) &&& (31 : Int32)).toInt = 18
    · obtain ⟨a, s1, t1, s2, e1, e2, hi, ht⟩ := st_word K N n sets c hN hK hKm hc t s h (K.2.1 (m4 + (1 : Int32)).toNatClampNeg) (K.2.1 (m4 + (2 : Int32)).toNatClampNeg) (K.2.1 (m4 + (3 : Int32)).toNatClampNeg) (K.2.1 (m4 + (4 : Int32)).toNatClampNeg)
      exact wp_if h18 (wp_gd ⟨g1, g2⟩ (wp_gd ⟨g3, g4⟩ (wp_bi e1 (wp_gd ⟨g1, g2⟩ (wp_gd ⟨g3, g4⟩ (wp_bi e2 (wp_if rfl (fin s2 t1 hi ht))))))))
    refine wp_ifn h18 ?_
    by_cases h19 : ((K.2.1 m4.toNatClampNeg) &&& (31 : Int32)).toInt = 19
    · obtain ⟨a, s1, t1, s2, e1, e2, hi, ht⟩ := st_count K N n sets c hN hK hKm hc t s h (K.2.1 (m4 + (1 : Int32)).toNatClampNeg)
      exact wp_if h19 (wp_gd g1 (wp_bi e1 (wp_gd g1 (wp_bi e2 (wp_if rfl (fin s2 t1 hi ht))))))
    refine wp_ifn h19 ?_
    exact fin s t (zI_mono h (by omega)) (zTt_refl t)
set_option maxRecDepth 100000 in
theorem law_one (K : px_K) (N n sets c : Nat) (hN : 2000 ≤ N) (hK : zKc K n sets) (hKm : zKm K) (hK46 : K.2.2 46 = 1) (hL : K.1 ≤ 2563) (hc : c < 1000000) (s : px_S) (h : zI n sets c s) : ∃ s3 t3, f_L_law K N (3 : Int32) s [] = some (.inl (some (.int 1)), s3, t3) ∧ t3.length ≤ 1024 ∧ px_tot t3 ≤ 51200 := by
  obtain ⟨r, e, s3, t3, rfl, h1, h2⟩ := law_loop K N n sets hN hK hKm hK46 (by omega) 512 N 3 c (3 : Int32) s [] rfl (by omega) (by omega) (by omega) (by omega) h
  refine ⟨s3, t3, ?_, ?_, ?_⟩
  · unfold f_L_law
    rw [e]
    rfl
  · simpa using h1
  · have e0 : px_tot [] = 0 := rfl
    rw [e0] at h2
    omega
