/-! THE GOAL OUT OF THE FUNCTIONS: what is left to show of them. -/
theorem ev_ofNat_toInt {n : Nat} (h : n < 2 ^ 31) : (Int32.ofNat n).toInt = (n : Int) := toInt_of rfl h
theorem ev_eq_ofNat {a : Int32} {n : Nat} (hn : n < 2 ^ 31) (h : a.toInt = (n : Int)) : a = Int32.ofNat n := by
  apply Int32.toInt_inj.mp
  rw [ev_ofNat_toInt hn, h]
theorem ev_clip (lo : Nat) (a : Int32) (h1 : 1 ≤ lo) (h2 : lo ≤ 8) : ∃ n : Nat, lo ≤ n ∧ n ≤ 8 ∧ ev_mx (Int32.ofNat lo) (ev_mn 8 a) = Int32.ofNat n := by
  have e8 : (8 : Int32) = Int32.ofNat 8 := rfl
  have i8 : (8 : Int32).toInt = 8 := by decide
  have il : (Int32.ofNat lo).toInt = (lo : Int) := ev_ofNat_toInt (by omega)
  unfold ev_mx ev_mn
  by_cases h : a < 8
  · rw [if_pos h]
    have ha : a.toInt < 8 := by
      have := Int32.lt_iff_toInt_lt.mp h
      rw [i8] at this
      exact this
    by_cases hb : Int32.ofNat lo < a
    · rw [if_pos hb]
      have hb' := Int32.lt_iff_toInt_lt.mp hb
      rw [il] at hb'
      refine ⟨a.toInt.toNat, by omega, by omega, ev_eq_ofNat (by omega) (by omega)⟩
    · rw [if_neg hb]
      exact ⟨lo, Nat.le_refl _, h2, rfl⟩
  · rw [if_neg h]
    by_cases hb : Int32.ofNat lo < 8
    · rw [if_pos hb]
      exact ⟨8, h2, Nat.le_refl _, rfl⟩
    · rw [if_neg hb]
      exact ⟨lo, Nat.le_refl _, h2, rfl⟩
theorem ev_h1 : ∀ n0, n0 < 9 → ∀ n1, n1 < 9 → 1 ≤ n0 → 2 ≤ n1 → ¬ (((50 : Int32) + (Int32.ofNat n0 * Int32.ofNat n1)) * (16 : Int32)) < 0 := by decide +kernel
theorem ev_h2 : ∀ n0, n0 < 9 → ∀ n1, n1 < 9 → 1 ≤ n0 → 2 ≤ n1 → (((50 : Int32) + (Int32.ofNat n0 * Int32.ofNat n1)) * (16 : Int32)).toNatClampNeg = (50 + n0 * n1) * 16 := by decide +kernel
theorem ev_h3 : ∀ n0, n0 < 9 → ∀ n1, n1 < 9 → 1 ≤ n0 → 2 ≤ n1 → ¬ (Int32.ofNat n0 * Int32.ofNat n1) < 0 := by decide +kernel
theorem ev_h4 : ∀ n0, n0 < 9 → ∀ n1, n1 < 9 → 1 ≤ n0 → 2 ≤ n1 → (Int32.ofNat n0 * Int32.ofNat n1).toNatClampNeg = n0 * n1 := by decide +kernel
theorem ev_h5 : ∀ n0, n0 < 9 → ¬ Int32.ofNat n0 < 0 := by decide +kernel
theorem ev_h6 : ∀ n0, n0 < 9 → (Int32.ofNat n0).toNatClampNeg = n0 := by decide +kernel
theorem ev_h7 : ∀ n0, n0 < 9 → ∀ n1, n1 < 9 → 1 ≤ n0 → 2 ≤ n1 → ¬ (((50 : Int32) + (Int32.ofNat n0 * Int32.ofNat n1)) ≤ (0 : Int32)) := by decide +kernel
theorem ev_h8 : ∀ n0, n0 < 9 → 1 ≤ n0 → ev_mx 1 (Int32.ofNat n0) = Int32.ofNat n0 := by decide +kernel
theorem ev_hn (n0 : Nat) (h0 : n0 < 9) (n1 : Nat) (h1 : n1 < 9) (k0 : 1 ≤ n0) (k1 : 2 ≤ n1) :
    (¬ (((50 : Int32) + (Int32.ofNat n0 * Int32.ofNat n1)) * (16 : Int32)) < 0 ∧ (((50 : Int32) + (Int32.ofNat n0 * Int32.ofNat n1)) * (16 : Int32)).toNatClampNeg = (50 + n0 * n1) * 16) ∧
    (¬ (Int32.ofNat n0 * Int32.ofNat n1) < 0 ∧ (Int32.ofNat n0 * Int32.ofNat n1).toNatClampNeg = n0 * n1) ∧ (¬ Int32.ofNat n0 < 0 ∧ (Int32.ofNat n0).toNatClampNeg = n0) ∧ ¬ (((50 : Int32) + (Int32.ofNat n0 * Int32.ofNat n1)) ≤ (0 : Int32)) ∧ ev_mx 1 (Int32.ofNat n0) = Int32.ofNat n0 ∧ ev_mx 1 (Int32.ofNat n1) = Int32.ofNat n1 :=
  ⟨⟨ev_h1 n0 h0 n1 h1 k0 k1, ev_h2 n0 h0 n1 h1 k0 k1⟩, ⟨ev_h3 n0 h0 n1 h1 k0 k1, ev_h4 n0 h0 n1 h1 k0 k1⟩, ⟨ev_h5 n0 h0, ev_h6 n0 h0⟩, ev_h7 n0 h0 n1 h1 k0 k1, ev_h8 n0 h0 k0, ev_h8 n1 h1 (Nat.le_trans (by decide) k1)⟩
theorem ev_k {L k : Nat} (hL : L ≤ 2563) (hk : k < 100) (h : ¬ Int32.ofNat L ≤ Int32.ofNat k) : vp_in (Int32.ofNat k) L := by
  have h1 : ¬ L ≤ k := fun q => h ((Int32.ofNat_le_ofNat (by omega) (by omega)).mpr q)
  unfold vp_in
  have h2 : (Int32.ofNat k).toNatClampNeg = k := clamp_of rfl (by omega)
  rw [h2]
  intro q
  rcases q with q | q
  · have := Int32.lt_iff_toInt_lt.mp q
    rw [ev_ofNat_toInt (show k < 2 ^ 31 by omega)] at this
    have i0 : (0 : Int32).toInt = 0 := by decide
    rw [i0] at this
    omega
  · omega
/-- what is left: the two functions, from the first state on -/
def ev_Goal (Nb : Nat) : Prop := ∀ (L : Nat) (xs : Nat → Int32) (n0 n1 n2 : Nat) (a0 a1 a2 : Int32), L ≤ Nb → 1 ≤ n0 → n0 ≤ 8 → 2 ≤ n1 → n1 ≤ 8 → 1 ≤ n2 → n2 ≤ 8 → ev_cell L xs 0 = a0 → ev_cell L xs 1 = a1 → ev_cell L xs 2 = a2 → ev_mx 1 (ev_mn 8 a0) = Int32.ofNat n0 → ev_mx 2 (ev_mn 8 a1) = Int32.ofNat n1 → ev_mx 1 (ev_mn 8 a2) = Int32.ofNat n2 →
  ∃ (N : Nat) (s2 s3 : px_S) (t3 : px_W), f_M_init (L, xs, ev_g (Int32.ofNat n0) (Int32.ofNat n1)) N a0 a1 a2 (ev_s (Int32.ofNat n0) (Int32.ofNat n1) (Int32.ofNat n2)) [] = some (.inl none, s2, []) ∧
    f_L_law (L, xs, ev_g (Int32.ofNat n0) (Int32.ofNat n1)) N 3 (s2.1, s2.2.1, s2.2.2.1, fun _ => 0) [] = some (.inl (some (.int 1)), s3, t3) ∧ t3.length ≤ 600000 ∧ px_tot t3 ≤ 7000000
set_option maxRecDepth 100000 in
theorem ev_tot0 (K : px_K) (s : px_S) (t : px_W) : px_tot (px_w K s t) = K.1 + (5 + (4 + (10 + (K.2.2 4 + (K.2.2 5 + (K.2.2 6 + (K.2.2 7 + (10 + (K.2.2 9 + (K.2.2 10 + (K.2.2 11 + (K.2.2 12 + (12 + (8 + (K.2.2 15 + (K.2.2 16 + (K.2.2 17 + (K.2.2 18 + (K.2.2 19 + (K.2.2 20 + (K.2.2 21 + (10 + (K.2.2 23 + (K.2.2 24 + (K.2.2 25 + (K.2.2 26 + (K.2.2 27 + (31 + (K.2.2 29 + (K.2.2 30 + (K.2.2 31 + (K.2.2 32 + (K.2.2 33 + (K.2.2 34 + (K.2.2 35 + (K.2.2 36 + (K.2.2 37 + (K.2.2 38 + (K.2.2 39 + (K.2.2 40 + (K.2.2 41 + (K.2.2 42 + (K.2.2 43 + (K.2.2 44 + (K.2.2 45 + (K.2.2 46 + (px_tot t))))))))))))))))))))))))))))))))))))))))))))))) := rfl
theorem ev_totS (a T : Nat) : a + (5 + (4 + (10 + (64 + (1024 + (2000 + (2000 + (10 + (64 + (1024 + (1824 + (1824 + (12 + (8 + (64 + (64 + (64 + (64 + (8 + (16 + (16 + (10 + (1696 + (1696 + (106 + (106 + (16 + (31 + (3824 + (2 + (128 + (2048 + (2 + (2 + (64 + (64 + (64 + (8 + (1696 + (1696 + (106 + (106 + (16 + (16 + (16 + (1 + (T))))))))))))))))))))))))))))))))))))))))))))))) ≤ a + T + 100000 := by omega
theorem ev_totK (K : px_K) (n sets : Nat) (hc : zKc K n sets) (hm : zKm K) (h46 : K.2.2 46 = 1) (hs : sets ≤ 8) (s : px_S) (t : px_W) : px_tot (px_w K s t) ≤ K.1 + px_tot t + 100000 := by
  obtain ⟨c1, c2, c3, c4, c5, c6, c7, c8, c9, c10, c11, c12, c13, c14, c15, c16, c17, c18, c19, c20, c21⟩ := hc
  obtain ⟨d1, d2, d3, d4, d5, d6, d7, d8, d9, d10, d11, d12, d13, d14, d15, d16, d17⟩ := hm
  refine Nat.le_trans (Nat.le_of_eq (ev_tot0 K s t)) (Nat.le_trans (Nat.add_le_add (Nat.le_refl K.1) ?_) (ev_totS K.1 (px_tot t)))
  exact Nat.add_le_add (Nat.le_refl 5) (Nat.add_le_add (Nat.le_refl 4) (Nat.add_le_add (Nat.le_refl 10) (Nat.add_le_add (Nat.le_of_eq c1) (Nat.add_le_add (Nat.le_of_eq c2) (Nat.add_le_add (Nat.le_of_eq c3) (Nat.add_le_add (Nat.le_of_eq c4) (Nat.add_le_add (Nat.le_refl 10) (Nat.add_le_add (Nat.le_of_eq c5) (Nat.add_le_add (Nat.le_of_eq c6) (Nat.add_le_add (by rw [c7]; omega) (Nat.add_le_add (by rw [c8]; omega) (Nat.add_le_add (Nat.le_refl 12) (Nat.add_le_add (Nat.le_refl 8) (Nat.add_le_add (by rw [c9]; omega) (Nat.add_le_add (by rw [c10]; omega) (Nat.add_le_add (by rw [c11]; omega) (Nat.add_le_add (by rw [c12]; omega) (Nat.add_le_add (by rw [c13]; exact hs) (Nat.add_le_add (Nat.le_of_eq c14) (Nat.add_le_add (Nat.le_of_eq c15) (Nat.add_le_add (Nat.le_refl 10) (Nat.add_le_add (Nat.le_of_eq c16) (Nat.add_le_add (Nat.le_of_eq c17) (Nat.add_le_add (Nat.le_of_eq c18) (Nat.add_le_add (Nat.le_of_eq c19) (Nat.add_le_add (Nat.le_of_eq c20) (Nat.add_le_add (Nat.le_refl 31) (Nat.add_le_add (Nat.le_of_eq d1) (Nat.add_le_add (Nat.le_of_eq d2) (Nat.add_le_add (Nat.le_of_eq d3) (Nat.add_le_add (Nat.le_of_eq d4) (Nat.add_le_add (Nat.le_of_eq d5) (Nat.add_le_add (Nat.le_of_eq d6) (Nat.add_le_add (Nat.le_of_eq d7) (Nat.add_le_add (Nat.le_of_eq d8) (Nat.add_le_add (Nat.le_of_eq d9) (Nat.add_le_add (Nat.le_of_eq d10) (Nat.add_le_add (Nat.le_of_eq d11) (Nat.add_le_add (Nat.le_of_eq d12) (Nat.add_le_add (Nat.le_of_eq d13) (Nat.add_le_add (Nat.le_of_eq d14) (Nat.add_le_add (Nat.le_of_eq d15) (Nat.add_le_add (Nat.le_of_eq d16) (Nat.add_le_add (Nat.le_of_eq d17) (Nat.add_le_add (Nat.le_of_eq h46) (Nat.le_refl (px_tot t)))))))))))))))))))))))))))))))))))))))))))))))
theorem ev_kc {L : Nat} {xs : Nat → Int32} {n0 n1 : Nat} (h0 : 1 ≤ n0) (h0' : n0 ≤ 8) (h1 : 2 ≤ n1) (h1' : n1 ≤ 8) : zKc (L, xs, ev_g (Int32.ofNat n0) (Int32.ofNat n1)) (n0 * n1) n0 := by
  obtain ⟨⟨-, q1⟩, ⟨-, q2⟩, ⟨-, q3⟩, -⟩ := ev_hn n0 (by omega) n1 (by omega) h0 h1
  have b : n0 * n1 ≤ 64 := Nat.mul_le_mul h0' h1'
  have q4 : (((50 : Int32) + (Int32.ofNat n0 * Int32.ofNat n1)) * (16 : Int32)).toNatClampNeg = 16 * (50 + n0 * n1) := by rw [q1, Nat.mul_comm]
  exact ⟨rfl, rfl, rfl, rfl, rfl, rfl, q4, q4, q2, q2, q2, q2, q3, rfl, rfl, rfl, rfl, rfl, rfl, rfl, b⟩
theorem ev_km {L : Nat} {xs : Nat → Int32} {r0 r1 : Int32} : zKm (L, xs, ev_g r0 r1) := ⟨rfl, rfl, rfl, rfl, rfl, rfl, rfl, rfl, rfl, rfl, rfl, rfl, rfl, rfl, rfl, rfl, rfl⟩
theorem ev_tot {L : Nat} {xs : Nat → Int32} {n0 n1 : Nat} (h0 : 1 ≤ n0) (h0' : n0 ≤ 8) (h1 : 2 ≤ n1) (h1' : n1 ≤ 8) (s : px_S) (t : px_W) : px_tot (px_w (L, xs, ev_g (Int32.ofNat n0) (Int32.ofNat n1)) s t) ≤ L + px_tot t + 100000 := ev_totK _ (n0 * n1) n0 (ev_kc h0 h0' h1 h1') ev_km rfl h0' s t
theorem px_goal_of {Nb : Nat} (hNb : Nb ≤ 2563) (H : ev_Goal Nb) : ∀ (L : Nat) (xs : Nat → Int32), L ≤ Nb → ∃ w' : px_W, px_E px_ET px_P 200 207 0 (px_ent 7 [.ref 0]) [] [.inl (0, L, .inl xs)] (.inl (some (.int 1))) w' ∧ w'.length ≤ 601025 ∧ px_tot w' ≤ 7293000 + L := by
  intro L xs hL
  obtain ⟨n0, a1, a2, e0⟩ := ev_clip 1 (ev_cell L xs 0) (by omega) (by omega)
  obtain ⟨n1, b1, b2, e1⟩ := ev_clip 2 (ev_cell L xs 1) (by omega) (by omega)
  obtain ⟨n2, c1, c2, e2⟩ := ev_clip 1 (ev_cell L xs 2) (by omega) (by omega)
  obtain ⟨N, s2, s3, t3, h2, h3, h4, h5⟩ := H L xs n0 n1 n2 _ _ _ hL a1 a2 b1 b2 c1 c2 rfl rfl rfl e0 e1 e2
  obtain ⟨⟨p1, q1⟩, ⟨p2, q2⟩, ⟨p3, q3⟩, p4, e3, e4⟩ := ev_hn n0 (by omega) n1 (by omega) a1 b1
  have b : n0 * n1 ≤ 64 := Nat.mul_le_mul a2 b2
  refine ⟨px_w (L, xs, ev_g (Int32.ofNat n0) (Int32.ofNat n1)) s3 t3, ?_, ?_, ?_⟩
  · refine px_begin L xs N _ _ _ (Int32.ofNat n0) (Int32.ofNat n1) (Int32.ofNat n2) e0 e1 e2 e3 e4 ⟨p1, by rw [q1]; omega⟩ ⟨p2, by rw [q2]; omega⟩ ⟨p3, by rw [q3]; omega⟩ p4 ?_ ?_ rfl rfl rfl (fun h => ev_k (k := 0) (by omega) (by omega) h) (fun h => ev_k (k := 1) (by omega) (by omega) h) (fun h => ev_k (k := 2) (by omega) (by omega) h) s2 h2 _ h3
    · unfold vp_in
      rw [q1, show ((0 : Int32) * (16 : Int32) + (0 : Int32)).toNatClampNeg = 0 by decide]
      intro h
      rcases h with h | h
      · exact absurd h (by decide)
      · omega
    · unfold vp_in
      rw [q1, show ((0 : Int32) * (16 : Int32) + (1 : Int32)).toNatClampNeg = 1 by decide]
      intro h
      rcases h with h | h
      · exact absurd h (by decide)
      · omega
  · show List.length (px_w (L, xs, ev_g (Int32.ofNat n0) (Int32.ofNat n1)) s3 t3) ≤ 601025
    simp only [px_w, List.length_cons]
    omega
  · have := ev_tot (L := L) (xs := xs) a1 a2 b1 b2 s3 t3
    omega
/-! THE GOAL -/
theorem ev_goal : ev_Goal 2563 := by
  intro L xs n0 n1 n2 a0 a1 a2 hL g1 g2 g3 g4 g5 g6 _ _ _ e0 e1 e2
  have hz : ZSz n0 n1 n2 := ⟨g1, g2, by omega, g4, g5, g6⟩
  obtain ⟨s2, h1, h2, h3⟩ := m_init (L, xs, ev_g (Int32.ofNat n0) (Int32.ofNat n1)) 5000 (by omega) ev_km n0 n1 n2 hz a0 a1 a2 e0 e1 e2 (Int32.ofNat n0) (Int32.ofNat n1) (Int32.ofNat n2)
  have hI := z0I1 n0 n1 n2 hz h2 h3
  have e4 : s2.2.2.2 = fun _ => 0 := h3.2.2.2
  have es : (s2.1, s2.2.1, s2.2.2.1, (fun _ => 0 : Nat → Int64)) = s2 := by
    show _ = (s2.1, s2.2.1, s2.2.2.1, s2.2.2.2)
    rw [e4]
  obtain ⟨s3, t3, q1, q2, q3⟩ := law_one (L, xs, ev_g (Int32.ofNat n0) (Int32.ofNat n1)) 5000 (n0 * n1) n0 0 (by omega) (ev_kc g1 g2 g3 g4) ev_km rfl hL (by omega) s2 hI
  refine ⟨5000, s2, s3, t3, h1, ?_, by omega, by omega⟩
  exact (congrArg (fun u => f_L_law (L, xs, ev_g (Int32.ofNat n0) (Int32.ofNat n1)) 5000 3 u []) es).trans q1
