/-! A WRITE OF THE REFERENCE from the row 39 -/
theorem m_wl_39 (K : px_K) (N : Nat) (hK : zKm K) (p fi : Nat) (hp : p < 128) (hfi : fi + 16 ≤ K.2.2 39) (hX : K.2.2 39 ≤ 1696) (u1 : Int32) (s : px_S) (t : px_W) : ∀ (d m n : Nat), m + d = 16 → d < n → l_M_write_28_39_94 K N n u1 (iN fi) (iN p) (iN m) (sF s 32 (va_cpy (s.2.2.1 39) (s.2.2.1 32) fi (16 * p) m)) t = some (.inl (112, [], sF s 32 (va_cpy (s.2.2.1 39) (s.2.2.1 32) fi (16 * p) 16), t)) := by
  intro d
  induction d with
  | zero =>
    intro m n hm hn
    obtain ⟨n, rfl⟩ : ∃ n', n = n' + 1 := ⟨n - 1, by omega⟩
    have hm : m = 16 := by omega
    subst hm
    unfold l_M_write_28_39_94
    rw [if_pos (by rw [iL16]; exact (iN_le (by omega) (by omega)).mpr (by omega))]
  | succ d ih =>
    intro m n hm hn
    obtain ⟨n, rfl⟩ : ∃ n', n = n' + 1 := ⟨n - 1, by omega⟩
    unfold l_M_write_28_39_94
    rw [if_neg (by rw [iL16, iN_le (by omega) (by omega)]; omega)]
    have e1 : (16 : Int32) * iN p + iN m = iN (16 * p + m) := by rw [iL16, iN_mul, iN_add]
    have e2 : iN fi + iN m = iN (fi + m) := iN_add _ _
    have e3 : iN m + (1 : Int32) = iN (m + 1) := by rw [iL1, iN_add]
    rw [e2, px_gd_of (iN_in (by omega) (by omega)), e1, px_gd_of (by rw [hK.2.2.2.1]; exact iN_in (by omega) (by omega))]
    unfold px_let
    rw [e3, iN_nat (by omega), iN_nat (by omega), sF_arr_ne (by omega), sA_sF, va_cpy_step]
    exact ih (m + 1) n (by omega) (by omega)
/-- the blocks of the pending writes move down -/
theorem m_wb_39 (K : px_K) (N : Nat) (hK : zKm K) (k : Nat) (hk : k < 2) (u1 u2 u4 : Int32) (s : px_S) (t : px_W) : ∀ (d m n : Nat), m + d = 63 → d < n → l_M_write_28_39_28 K N n u1 u2 u4 (iN (64 * k)) (iN (64 * k + m)) (sF s 31 (fun a => if 64 * k ≤ a ∧ a < 64 * k + m then s.2.2.1 31 (a + 1) else s.2.2.1 31 a)) t = some (.inl (47, [], sF s 31 (fun a => if 64 * k ≤ a ∧ a < 64 * k + 63 then s.2.2.1 31 (a + 1) else s.2.2.1 31 a), t)) := by
  have e0 : iN (64 * k) + (64 : Int32) - (1 : Int32) = iN (64 * k + 63) := by rw [iL64, iN_add, iL1, iN_sub (by omega)]; congr 1
  intro d
  induction d with
  | zero =>
    intro m n hm hn
    obtain ⟨n, rfl⟩ : ∃ n', n = n' + 1 := ⟨n - 1, by omega⟩
    have hm : m = 63 := by omega
    subst hm
    unfold l_M_write_28_39_28
    rw [e0, if_pos ((iN_le (by omega) (by omega)).mpr (by omega))]
  | succ d ih =>
    intro m n hm hn
    obtain ⟨n, rfl⟩ : ∃ n', n = n' + 1 := ⟨n - 1, by omega⟩
    unfold l_M_write_28_39_28
    have e3 : iN (64 * k + m) + (1 : Int32) = iN (64 * k + m + 1) := by rw [iL1, iN_add]
    rw [e0, if_neg (by rw [iN_le (by omega) (by omega)]; omega), e3, px_gd_of ⟨by rw [hK.2.2.1]; exact iN_in (by omega) (by omega), by rw [hK.2.2.1]; exact iN_in (by omega) (by omega)⟩]
    unfold px_let
    rw [iN_nat (by omega), iN_nat (by omega), sF_arr, sA_sF]
    have e4 : upd (fun a => if 64 * k ≤ a ∧ a < 64 * k + m then s.2.2.1 31 (a + 1) else s.2.2.1 31 a) (64 * k + m) (if 64 * k ≤ 64 * k + m + 1 ∧ 64 * k + m + 1 < 64 * k + m then s.2.2.1 31 (64 * k + m + 1 + 1) else s.2.2.1 31 (64 * k + m + 1)) = fun a => if 64 * k ≤ a ∧ a < 64 * k + (m + 1) then s.2.2.1 31 (a + 1) else s.2.2.1 31 a := by
      funext a
      unfold upd
      by_cases h1 : a = 64 * k + m
      · rw [if_pos h1, if_neg (by omega), if_pos (by omega), h1]
      · rw [if_neg h1]
        dsimp only
        by_cases h2 : 64 * k ≤ a ∧ a < 64 * k + m
        · rw [if_pos h2, if_pos (by omega)]
        · rw [if_neg h2, if_neg (by omega)]
    dsimp only
    rw [e4]
    exact ih (m + 1) n (by omega) (by omega)
/-- and their words -/
theorem m_ww_39 (K : px_K) (N : Nat) (hK : zKm K) (k : Nat) (hk : k < 2) (u1 u2 u4 : Int32) (s : px_S) (t : px_W) : ∀ (d m n : Nat), m + d = 1008 → d < n → l_M_write_28_39_51 K N n u1 u2 u4 (iN (64 * k)) (iN (1024 * k + m)) (sF s 32 (fun a => if 1024 * k ≤ a ∧ a < 1024 * k + m then s.2.2.1 32 (a + 16) else s.2.2.1 32 a)) t = some (.inl (72, [], sF s 32 (fun a => if 1024 * k ≤ a ∧ a < 1024 * k + 1008 then s.2.2.1 32 (a + 16) else s.2.2.1 32 a), t)) := by
  have e0 : (16 : Int32) * (iN (64 * k) + (64 : Int32) - (1 : Int32)) = iN (1024 * k + 1008) := by
    rw [iL64, iN_add, iL1, iN_sub (by omega), iL16, iN_mul]; congr 1; omega
  intro d
  induction d with
  | zero =>
    intro m n hm hn
    obtain ⟨n, rfl⟩ : ∃ n', n = n' + 1 := ⟨n - 1, by omega⟩
    have hm : m = 1008 := by omega
    subst hm
    unfold l_M_write_28_39_51
    rw [e0, if_pos ((iN_le (by omega) (by omega)).mpr (by omega))]
  | succ d ih =>
    intro m n hm hn
    obtain ⟨n, rfl⟩ : ∃ n', n = n' + 1 := ⟨n - 1, by omega⟩
    unfold l_M_write_28_39_51
    have e3 : iN (1024 * k + m) + (1 : Int32) = iN (1024 * k + (m + 1)) := by rw [iL1, iN_add]; congr 1
    have e5 : iN (1024 * k + m) + (16 : Int32) = iN (1024 * k + m + 16) := by rw [iL16, iN_add]
    rw [e0, if_neg (by rw [iN_le (by omega) (by omega)]; omega), e5, e3, px_gd_of ⟨by rw [hK.2.2.2.1]; exact iN_in (by omega) (by omega), by rw [hK.2.2.2.1]; exact iN_in (by omega) (by omega)⟩]
    unfold px_let
    rw [iN_nat (by omega), iN_nat (by omega), sF_arr, sA_sF]
    have e4 : upd (fun a => if 1024 * k ≤ a ∧ a < 1024 * k + m then s.2.2.1 32 (a + 16) else s.2.2.1 32 a) (1024 * k + m) (if 1024 * k ≤ 1024 * k + m + 16 ∧ 1024 * k + m + 16 < 1024 * k + m then s.2.2.1 32 (1024 * k + m + 16 + 16) else s.2.2.1 32 (1024 * k + m + 16)) = fun a => if 1024 * k ≤ a ∧ a < 1024 * k + (m + 1) then s.2.2.1 32 (a + 16) else s.2.2.1 32 a := by
      funext a
      unfold upd
      by_cases h1 : a = 1024 * k + m
      · rw [if_pos h1, if_neg (by omega), if_pos (by omega), h1]
      · rw [if_neg h1]
        dsimp only
        by_cases h2 : 1024 * k ≤ a ∧ a < 1024 * k + m
        · rw [if_pos h2, if_pos (by omega)]
        · rw [if_neg h2, if_neg (by omega)]
    dsimp only
    rw [e4]
    exact ih (m + 1) n (by omega) (by omega)

/-- the write -/
theorem m_write_39 (K : px_K) (N : Nat) (hN : 2000 ≤ N) (hK : zKm K) (t : px_W) (s : px_S) (p : ZPw) (h : zRw s p) (k b fi : Nat) (x : ZBk) (hk : k < 2) (hb : b < zNb k) (hfi : fi + 16 ≤ K.2.2 39) (hX : K.2.2 39 ≤ 1696) (hx : ∀ w, w < 16 → s.2.2.1 39 (fi + w) = x w) : ∃ s', f_M_write_28_39 K N (iN k) (iN b) (iN fi) s t = some (.inl none, s', t) ∧ zRw s' (p.wr k b x) ∧ zFm s s' := by
  obtain ⟨s1, a1, a2, a3⟩ := m_acts K N (by omega) hK t s p h
  unfold f_M_write_28_39
  rw [a1]
  unfold px_bi
  dsimp only
  unfold ZPw.wr
  cases hu : p.act.up with
  | false =>
    rw [if_neg (c := false = true) Bool.noConfusion, if_neg (c := false = true) Bool.noConfusion, if_neg (by exact fun hx => hx rfl)]
    exact ⟨s1, rfl, a2, a3⟩
  | true =>
    rw [if_pos (c := true = true) rfl, if_pos (c := true = true) rfl, if_pos (by decide)]
    have hin : vp_in (iN k) (K.2.2 33) := by rw [hK.2.2.2.2.1]; exact iN_in (by omega) hk
    have hin30 : vp_in (iN k) (K.2.2 30) := by rw [hK.2.1]; exact iN_in (by omega) hk
    have hx1 : ∀ w, w < 16 → s1.2.2.1 39 (fi + w) = x w := fun w hw => by rw [a3.1 39 (by omega)]; exact hx w hw
    rw [px_gd_of ⟨hin, hin⟩, iN_nat (by omega)]
    unfold px_let
    dsimp only
    generalize hq : p.act = q at *
    clear a1 hq h hx
    obtain ⟨r1, r2, r3, r4, r5⟩ := a2
    have hwr : s1.2.2.1 33 k = iN (q.dv k).wr := (r1 k hk).2.2.2.2.1
    obtain ⟨c, hc⟩ : ∃ c, c = zRp_cnt (c := 33) (v := s1.2.2.1 33 k + (1 : Int32)) r1 hk (Or.inl rfl) (d := (q.dv k).s_wr ((q.dv k).wr + 1)) ⟨rfl, rfl, by rw [if_pos rfl]; exact ⟨by rw [hwr, iL1, iN_add]; rfl, rfl⟩⟩ := ⟨_, rfl⟩
    clear hc
    have e64 : (64 : Int32) * iN k = iN (64 * k) := by rw [iL64, iN_mul]
    rw [px_gd_of hin30, e64]
    obtain ⟨s2, hs2⟩ : ∃ s2, s2 = sA s1 33 k (s1.2.2.1 33 k + (1 : Int32)) := ⟨_, rfl⟩
    rw [← hs2] at c ⊢
    have f2 : zFm s1 s2 := by rw [hs2]; exact zFm_sA (by omega)
    have hx2 : ∀ w, w < 16 → s2.2.2.1 39 (fi + w) = x w := fun w hw => by rw [f2.1 39 (by omega)]; exact hx1 w hw
    have hi2 : ∀ r, s2.1 r = s1.1 r := fun r => by rw [hs2]; rfl
    have hl2 : s2.2.1 = s1.2.1 := by rw [hs2]; rfl
    clear hs2
    have hz : zu q.dv k ((q.dv k).s_wr ((q.dv k).wr + 1)) k = (q.dv k).s_wr ((q.dv k).wr + 1) := zu_self _ _ _
    have hup : (ZPw.s_dv q (zu q.dv k ((q.dv k).add b x))).up = true := hu
    have e30 : s2.2.2.1 30 k = iN (q.dv k).pd.length := by have := (c k hk).2.1; rw [hz] at this; exact this
    have hlen := (r1 k hk).1
    by_cases hfull : (q.dv k).pd.length = 64
    · rw [if_neg (by rw [e30, hfull]; exact fun hx => hx rfl)]
      obtain ⟨g, b1, b2⟩ := m_bs_R K N (by omega) hK k 0 hk s2 t _ c (by rw [hz]; show 0 < (q.dv k).pd.length; omega)
      rw [iL0, b1]
      unfold px_bv
      try dsimp only
      rw [hz, zu_zu] at b2
      have w1 := m_wb_39 K N hK k hk (iN k) (iN b) (iN fi) (sF s2 29 g) t 63 0 N (by omega) (by omega)
      have w0 : (fun a => if 64 * k ≤ a ∧ a < 64 * k + 0 then (sF s2 29 g).2.2.1 31 (a + 1) else (sF s2 29 g).2.2.1 31 a) = (sF s2 29 g).2.2.1 31 := by funext a; rw [if_neg (by omega)]
      rw [w0, sF_triv, Nat.add_zero] at w1
      rw [w1]
      unfold px_lp
      try dsimp only
      rw [if_pos rfl]
      unfold px_v0
      try dsimp only
      obtain ⟨s3, hs3⟩ : ∃ s3, s3 = sF (sF s2 29 g) 31 (fun a => if 64 * k ≤ a ∧ a < 64 * k + 63 then (sF s2 29 g).2.2.1 31 (a + 1) else (sF s2 29 g).2.2.1 31 a) := ⟨_, rfl⟩
      rw [← hs3]
      have e16 : (16 : Int32) * iN (64 * k) = iN (1024 * k) := by rw [iL16, iN_mul]; congr 1; omega
      rw [e16]
      have w2 := m_ww_39 K N hK k hk (iN k) (iN b) (iN fi) s3 t 1008 0 N (by omega) (by omega)
      have w3 : (fun a => if 1024 * k ≤ a ∧ a < 1024 * k + 0 then s3.2.2.1 32 (a + 16) else s3.2.2.1 32 a) = s3.2.2.1 32 := by funext a; rw [if_neg (by omega)]
      rw [w3, sF_triv, Nat.add_zero] at w2
      rw [w2]
      try dsimp only
      rw [if_pos rfl]
      try dsimp only
      rw [px_gd_of ⟨hin30, hin30⟩, px_gd_of hin30]
      have hd32 : s3.2.2.1 32 = (sF s2 29 g).2.2.1 32 := by rw [hs3, sF_arr_ne (by omega)]
      have hsh := zRp_shift b2 hk (by rw [zu_self]; exact hfull)
      rw [zu_self, zu_zu, ← hs3] at hsh
      have e30' : (sF s3 32 (fun a => if 1024 * k ≤ a ∧ a < 1024 * k + 1008 then s3.2.2.1 32 (a + 16) else s3.2.2.1 32 a)).2.2.1 30 k - (1 : Int32) = iN 63 := by
        rw [sF_arr_ne (by omega), hs3, sF_arr_ne (by omega), sF_arr_ne (by omega), e30, hfull]; rfl
      rw [e30', hd32]
      obtain ⟨s4, hs4⟩ : ∃ s4, s4 = sA (sF s3 32 (fun a => if 1024 * k ≤ a ∧ a < 1024 * k + 1008 then (sF s2 29 g).2.2.1 32 (a + 16) else (sF s2 29 g).2.2.1 32 a)) 30 k (iN 63) := ⟨_, rfl⟩
      rw [← hs4] at hsh ⊢
      have f4 : zFm s2 s4 := by
        rw [hs4, hs3]
        exact zFm_trans (zFm_trans (zFm_sF (by omega)) (zFm_sF (by omega))) (zFm_trans (zFm_sF (by omega)) (zFm_sA (by omega)))
      have i4 : ∀ r, s4.1 r = s2.1 r := fun r => by rw [hs4, hs3]; rfl
      have l4 : s4.2.1 = s2.2.1 := by rw [hs4, hs3]; rfl
      obtain ⟨d4, hd4⟩ : ∃ d4, d4 = (((q.dv k).s_wr ((q.dv k).wr + 1)).s_st (zu (q.dv k).st (zPd (q.dv k) 0).1 (zPd (q.dv k) 0).2)).s_pd ((q.dv k).pd.drop 1) := ⟨_, rfl⟩
      have hsh : zRp s4 (zu q.dv k d4) := by rw [hd4]; exact hsh
      have hd4l : d4.pd.length = 63 := by rw [hd4]; show ((q.dv k).pd.drop 1).length = 63; rw [List.length_drop, hfull]
      have e430 : s4.2.2.1 30 k = iN 63 := by have := (hsh k hk).2.1; rw [zu_self, hd4l] at this; exact this
      have hzz : zu q.dv k d4 k = d4 := zu_self _ _ _
      have ev : iN (64 * k) + s4.2.2.1 30 k = iN (64 * k + 63) := by rw [e430, iN_add]
      rw [ev, px_gd_of (by rw [hK.2.2.1]; exact iN_in (by omega) (by omega)), iN_nat (by omega)]
      have hpu := zRp_push (b := b) (fi := fi) (x := x) (f := s4.2.2.1 39) hsh hk hb (by rw [hzz, hd4l]; omega) (fun w hw => by rw [f4.1 39 (by omega)]; exact hx2 w hw)
      rw [hzz, hd4l, zu_zu] at hpu
      have w5 := m_wl_39 K N hK (64 * k + 63) fi (by omega) hfi hX (iN k) (sA s4 31 (64 * k + 63) (iN b)) t 16 0 N (by omega) (by omega)
      rw [va_cpy_0, sF_triv] at w5
      rw [w5]
      try dsimp only
      rw [if_pos rfl]
      try dsimp only
      rw [px_gd_of ⟨hin30, hin30⟩]
      have ex : (sA s4 31 (64 * k + 63) (iN b)).2.2.1 39 = s4.2.2.1 39 := by rw [sA_eq, sF_arr_ne (by omega)]
      have en : (sF (sA s4 31 (64 * k + 63) (iN b)) 32 (va_cpy ((sA s4 31 (64 * k + 63) (iN b)).2.2.1 39) ((sA s4 31 (64 * k + 63) (iN b)).2.2.1 32) fi (16 * (64 * k + 63)) 16)).2.2.1 30 k + (1 : Int32) = iN (63 + 1) := by
        rw [sF_arr_ne (by omega), sA_eq, sF_arr_ne (by omega), e430, iL1, iN_add]
      rw [en, ex]
      have hadd : d4.s_pd (d4.pd ++ [(b, x)]) = (q.dv k).add b x := by
        unfold ZDv.add
        rw [if_pos hfull, hd4]
        have ht : (q.dv k).pd.take 1 = [zPd (q.dv k) 0] := by
          rw [List.take_succ_eq_append_getElem (by omega)]
          show [] ++ [(q.dv k).pd[0]] = [(q.dv k).pd.getD 0 (0, fun _ => 0)]
          rw [List.getD_eq_getElem?_getD, List.getElem?_eq_getElem (by omega)]; rfl
        rw [ht]; rfl
      rw [hadd] at hpu
      refine ⟨_, rfl, ⟨hpu, ?_, ?_, r4, ?_⟩, ?_⟩
      · rw [if_pos hup]
        rw [if_pos hu] at r2
        exact (i4 29).trans ((hi2 29).trans r2)
      · exact (i4 30).trans ((hi2 30).trans r3)
      · intro hx
        have := r5 hx
        show s4.2.1 3 = _
        rw [l4, hl2]; exact this
      · exact zFm_trans a3 (zFm_trans f2 (zFm_trans f4 (zFm_trans (zFm_trans (zFm_sA (by omega)) (zFm_sF (by omega))) (zFm_sA (by omega)))))
    · rw [if_pos (by rw [e30, iL64, iN_eq (by omega) (by omega)]; exact hfull), px_gd_of hin30]
      have hcl : ((q.dv k).s_wr ((q.dv k).wr + 1)).pd.length = (q.dv k).pd.length := rfl
      have ev : iN (64 * k) + s2.2.2.1 30 k = iN (64 * k + (q.dv k).pd.length) := by rw [e30, iN_add]
      rw [ev, px_gd_of (by rw [hK.2.2.1]; exact iN_in (by omega) (by omega)), iN_nat (by omega)]
      have hpu := zRp_push (b := b) (fi := fi) (x := x) (f := s2.2.2.1 39) c hk hb (by rw [hz]; show (q.dv k).pd.length < 64; omega) hx2
      rw [hz, hcl, zu_zu] at hpu
      have w5 := m_wl_39 K N hK (64 * k + (q.dv k).pd.length) fi (by omega) hfi hX (iN k) (sA s2 31 (64 * k + (q.dv k).pd.length) (iN b)) t 16 0 N (by omega) (by omega)
      rw [va_cpy_0, sF_triv] at w5
      rw [iL0, w5]
      unfold px_lp
      try dsimp only
      rw [if_pos rfl]
      unfold px_v0
      try dsimp only
      rw [px_gd_of ⟨hin30, hin30⟩]
      have ex : (sA s2 31 (64 * k + (q.dv k).pd.length) (iN b)).2.2.1 39 = s2.2.2.1 39 := by rw [sA_eq, sF_arr_ne (by omega)]
      have en : (sF (sA s2 31 (64 * k + (q.dv k).pd.length) (iN b)) 32 (va_cpy ((sA s2 31 (64 * k + (q.dv k).pd.length) (iN b)).2.2.1 39) ((sA s2 31 (64 * k + (q.dv k).pd.length) (iN b)).2.2.1 32) fi (16 * (64 * k + (q.dv k).pd.length)) 16)).2.2.1 30 k + (1 : Int32) = iN ((q.dv k).pd.length + 1) := by
        rw [sF_arr_ne (by omega), sA_eq, sF_arr_ne (by omega), e30, iL1, iN_add]
      rw [en, ex]
      have hadd : ((q.dv k).s_wr ((q.dv k).wr + 1)).s_pd ((q.dv k).pd ++ [(b, x)]) = (q.dv k).add b x := by
        unfold ZDv.add; rw [if_neg hfull]; rfl
      have hpu : zRp _ (zu q.dv k (((q.dv k).s_wr ((q.dv k).wr + 1)).s_pd ((q.dv k).pd ++ [(b, x)]))) := hpu
      rw [hadd] at hpu
      refine ⟨_, rfl, ⟨hpu, ?_, ?_, r4, ?_⟩, ?_⟩
      · rw [if_pos hup]
        rw [if_pos hu] at r2
        exact (hi2 29).trans r2
      · exact (hi2 30).trans r3
      · intro hx
        have := r5 hx
        show s2.2.1 3 = _
        rw [hl2]; exact this
      · exact zFm_trans a3 (zFm_trans f2 (zFm_trans (zFm_trans (zFm_sA (by omega)) (zFm_sF (by omega))) (zFm_sA (by omega))))
/-! A WRITE OF THE REFERENCE from the row 40 -/
theorem m_wl_40 (K : px_K) (N : Nat) (hK : zKm K) (p fi : Nat) (hp : p < 128) (hfi : fi + 16 ≤ K.2.2 40) (hX : K.2.2 40 ≤ 1696) (u1 : Int32) (s : px_S) (t : px_W) : ∀ (d m n : Nat), m + d = 16 → d < n → l_M_write_28_40_94 K N n u1 (iN fi) (iN p) (iN m) (sF s 32 (va_cpy (s.2.2.1 40) (s.2.2.1 32) fi (16 * p) m)) t = some (.inl (112, [], sF s 32 (va_cpy (s.2.2.1 40) (s.2.2.1 32) fi (16 * p) 16), t)) := by
  intro d
  induction d with
  | zero =>
    intro m n hm hn
    obtain ⟨n, rfl⟩ : ∃ n', n = n' + 1 := ⟨n - 1, by omega⟩
    have hm : m = 16 := by omega
    subst hm
    unfold l_M_write_28_40_94
    rw [if_pos (by rw [iL16]; exact (iN_le (by omega) (by omega)).mpr (by omega))]
  | succ d ih =>
    intro m n hm hn
    obtain ⟨n, rfl⟩ : ∃ n', n = n' + 1 := ⟨n - 1, by omega⟩
    unfold l_M_write_28_40_94
    rw [if_neg (by rw [iL16, iN_le (by omega) (by omega)]; omega)]
    have e1 : (16 : Int32) * iN p + iN m = iN (16 * p + m) := by rw [iL16, iN_mul, iN_add]
    have e2 : iN fi + iN m = iN (fi + m) := iN_add _ _
    have e3 : iN m + (1 : Int32) = iN (m + 1) := by rw [iL1, iN_add]
    rw [e2, px_gd_of (iN_in (by omega) (by omega)), e1, px_gd_of (by rw [hK.2.2.2.1]; exact iN_in (by omega) (by omega))]
    unfold px_let
    rw [e3, iN_nat (by omega), iN_nat (by omega), sF_arr_ne (by omega), sA_sF, va_cpy_step]
    exact ih (m + 1) n (by omega) (by omega)
/-- the blocks of the pending writes move down -/
theorem m_wb_40 (K : px_K) (N : Nat) (hK : zKm K) (k : Nat) (hk : k < 2) (u1 u2 u4 : Int32) (s : px_S) (t : px_W) : ∀ (d m n : Nat), m + d = 63 → d < n → l_M_write_28_40_28 K N n u1 u2 u4 (iN (64 * k)) (iN (64 * k + m)) (sF s 31 (fun a => if 64 * k ≤ a ∧ a < 64 * k + m then s.2.2.1 31 (a + 1) else s.2.2.1 31 a)) t = some (.inl (47, [], sF s 31 (fun a => if 64 * k ≤ a ∧ a < 64 * k + 63 then s.2.2.1 31 (a + 1) else s.2.2.1 31 a), t)) := by
  have e0 : iN (64 * k) + (64 : Int32) - (1 : Int32) = iN (64 * k + 63) := by rw [iL64, iN_add, iL1, iN_sub (by omega)]; congr 1
  intro d
  induction d with
  | zero =>
    intro m n hm hn
    obtain ⟨n, rfl⟩ : ∃ n', n = n' + 1 := ⟨n - 1, by omega⟩
    have hm : m = 63 := by omega
    subst hm
    unfold l_M_write_28_40_28
    rw [e0, if_pos ((iN_le (by omega) (by omega)).mpr (by omega))]
  | succ d ih =>
    intro m n hm hn
    obtain ⟨n, rfl⟩ : ∃ n', n = n' + 1 := ⟨n - 1, by omega⟩
    unfold l_M_write_28_40_28
    have e3 : iN (64 * k + m) + (1 : Int32) = iN (64 * k + m + 1) := by rw [iL1, iN_add]
    rw [e0, if_neg (by rw [iN_le (by omega) (by omega)]; omega), e3, px_gd_of ⟨by rw [hK.2.2.1]; exact iN_in (by omega) (by omega), by rw [hK.2.2.1]; exact iN_in (by omega) (by omega)⟩]
    unfold px_let
    rw [iN_nat (by omega), iN_nat (by omega), sF_arr, sA_sF]
    have e4 : upd (fun a => if 64 * k ≤ a ∧ a < 64 * k + m then s.2.2.1 31 (a + 1) else s.2.2.1 31 a) (64 * k + m) (if 64 * k ≤ 64 * k + m + 1 ∧ 64 * k + m + 1 < 64 * k + m then s.2.2.1 31 (64 * k + m + 1 + 1) else s.2.2.1 31 (64 * k + m + 1)) = fun a => if 64 * k ≤ a ∧ a < 64 * k + (m + 1) then s.2.2.1 31 (a + 1) else s.2.2.1 31 a := by
      funext a
      unfold upd
      by_cases h1 : a = 64 * k + m
      · rw [if_pos h1, if_neg (by omega), if_pos (by omega), h1]
      · rw [if_neg h1]
        dsimp only
        by_cases h2 : 64 * k ≤ a ∧ a < 64 * k + m
        · rw [if_pos h2, if_pos (by omega)]
        · rw [if_neg h2, if_neg (by omega)]
    dsimp only
    rw [e4]
    exact ih (m + 1) n (by omega) (by omega)
/-- and their words -/
theorem m_ww_40 (K : px_K) (N : Nat) (hK : zKm K) (k : Nat) (hk : k < 2) (u1 u2 u4 : Int32) (s : px_S) (t : px_W) : ∀ (d m n : Nat), m + d = 1008 → d < n → l_M_write_28_40_51 K N n u1 u2 u4 (iN (64 * k)) (iN (1024 * k + m)) (sF s 32 (fun a => if 1024 * k ≤ a ∧ a < 1024 * k + m then s.2.2.1 32 (a + 16) else s.2.2.1 32 a)) t = some (.inl (72, [], sF s 32 (fun a => if 1024 * k ≤ a ∧ a < 1024 * k + 1008 then s.2.2.1 32 (a + 16) else s.2.2.1 32 a), t)) := by
  have e0 : (16 : Int32) * (iN (64 * k) + (64 : Int32) - (1 : Int32)) = iN (1024 * k + 1008) := by
    rw [iL64, iN_add, iL1, iN_sub (by omega), iL16, iN_mul]; congr 1; omega
  intro d
  induction d with
  | zero =>
    intro m n hm hn
    obtain ⟨n, rfl⟩ : ∃ n', n = n' + 1 := ⟨n - 1, by omega⟩
    have hm : m = 1008 := by omega
    subst hm
    unfold l_M_write_28_40_51
    rw [e0, if_pos ((iN_le (by omega) (by omega)).mpr (by omega))]
  | succ d ih =>
    intro m n hm hn
    obtain ⟨n, rfl⟩ : ∃ n', n = n' + 1 := ⟨n - 1, by omega⟩
    unfold l_M_write_28_40_51
    have e3 : iN (1024 * k + m) + (1 : Int32) = iN (1024 * k + (m + 1)) := by rw [iL1, iN_add]; congr 1
    have e5 : iN (1024 * k + m) + (16 : Int32) = iN (1024 * k + m + 16) := by rw [iL16, iN_add]
    rw [e0, if_neg (by rw [iN_le (by omega) (by omega)]; omega), e5, e3, px_gd_of ⟨by rw [hK.2.2.2.1]; exact iN_in (by omega) (by omega), by rw [hK.2.2.2.1]; exact iN_in (by omega) (by omega)⟩]
    unfold px_let
    rw [iN_nat (by omega), iN_nat (by omega), sF_arr, sA_sF]
    have e4 : upd (fun a => if 1024 * k ≤ a ∧ a < 1024 * k + m then s.2.2.1 32 (a + 16) else s.2.2.1 32 a) (1024 * k + m) (if 1024 * k ≤ 1024 * k + m + 16 ∧ 1024 * k + m + 16 < 1024 * k + m then s.2.2.1 32 (1024 * k + m + 16 + 16) else s.2.2.1 32 (1024 * k + m + 16)) = fun a => if 1024 * k ≤ a ∧ a < 1024 * k + (m + 1) then s.2.2.1 32 (a + 16) else s.2.2.1 32 a := by
      funext a
      unfold upd
      by_cases h1 : a = 1024 * k + m
      · rw [if_pos h1, if_neg (by omega), if_pos (by omega), h1]
      · rw [if_neg h1]
        dsimp only
        by_cases h2 : 1024 * k ≤ a ∧ a < 1024 * k + m
        · rw [if_pos h2, if_pos (by omega)]
        · rw [if_neg h2, if_neg (by omega)]
    dsimp only
    rw [e4]
    exact ih (m + 1) n (by omega) (by omega)

/-- the write -/
theorem m_write_40 (K : px_K) (N : Nat) (hN : 2000 ≤ N) (hK : zKm K) (t : px_W) (s : px_S) (p : ZPw) (h : zRw s p) (k b fi : Nat) (x : ZBk) (hk : k < 2) (hb : b < zNb k) (hfi : fi + 16 ≤ K.2.2 40) (hX : K.2.2 40 ≤ 1696) (hx : ∀ w, w < 16 → s.2.2.1 40 (fi + w) = x w) : ∃ s', f_M_write_28_40 K N (iN k) (iN b) (iN fi) s t = some (.inl none, s', t) ∧ zRw s' (p.wr k b x) ∧ zFm s s' := by
  obtain ⟨s1, a1, a2, a3⟩ := m_acts K N (by omega) hK t s p h
  unfold f_M_write_28_40
  rw [a1]
  unfold px_bi
  dsimp only
  unfold ZPw.wr
  cases hu : p.act.up with
  | false =>
    rw [if_neg (c := false = true) Bool.noConfusion, if_neg (c := false = true) Bool.noConfusion, if_neg (by exact fun hx => hx rfl)]
    exact ⟨s1, rfl, a2, a3⟩
  | true =>
    rw [if_pos (c := true = true) rfl, if_pos (c := true = true) rfl, if_pos (by decide)]
    have hin : vp_in (iN k) (K.2.2 33) := by rw [hK.2.2.2.2.1]; exact iN_in (by omega) hk
    have hin30 : vp_in (iN k) (K.2.2 30) := by rw [hK.2.1]; exact iN_in (by omega) hk
    have hx1 : ∀ w, w < 16 → s1.2.2.1 40 (fi + w) = x w := fun w hw => by rw [a3.1 40 (by omega)]; exact hx w hw
    rw [px_gd_of ⟨hin, hin⟩, iN_nat (by omega)]
    unfold px_let
    dsimp only
    generalize hq : p.act = q at *
    clear a1 hq h hx
    obtain ⟨r1, r2, r3, r4, r5⟩ := a2
    have hwr : s1.2.2.1 33 k = iN (q.dv k).wr := (r1 k hk).2.2.2.2.1
    obtain ⟨c, hc⟩ : ∃ c, c = zRp_cnt (c := 33) (v := s1.2.2.1 33 k + (1 : Int32)) r1 hk (Or.inl rfl) (d := (q.dv k).s_wr ((q.dv k).wr + 1)) ⟨rfl, rfl, by rw [if_pos rfl]; exact ⟨by rw [hwr, iL1, iN_add]; rfl, rfl⟩⟩ := ⟨_, rfl⟩
    clear hc
    have e64 : (64 : Int32) * iN k = iN (64 * k) := by rw [iL64, iN_mul]
    rw [px_gd_of hin30, e64]
    obtain ⟨s2, hs2⟩ : ∃ s2, s2 = sA s1 33 k (s1.2.2.1 33 k + (1 : Int32)) := ⟨_, rfl⟩
    rw [← hs2] at c ⊢
    have f2 : zFm s1 s2 := by rw [hs2]; exact zFm_sA (by omega)
    have hx2 : ∀ w, w < 16 → s2.2.2.1 40 (fi + w) = x w := fun w hw => by rw [f2.1 40 (by omega)]; exact hx1 w hw
    have hi2 : ∀ r, s2.1 r = s1.1 r := fun r => by rw [hs2]; rfl
    have hl2 : s2.2.1 = s1.2.1 := by rw [hs2]; rfl
    clear hs2
    have hz : zu q.dv k ((q.dv k).s_wr ((q.dv k).wr + 1)) k = (q.dv k).s_wr ((q.dv k).wr + 1) := zu_self _ _ _
    have hup : (ZPw.s_dv q (zu q.dv k ((q.dv k).add b x))).up = true := hu
    have e30 : s2.2.2.1 30 k = iN (q.dv k).pd.length := by have := (c k hk).2.1; rw [hz] at this; exact this
    have hlen := (r1 k hk).1
    by_cases hfull : (q.dv k).pd.length = 64
    · rw [if_neg (by rw [e30, hfull]; exact fun hx => hx rfl)]
      obtain ⟨g, b1, b2⟩ := m_bs_R K N (by omega) hK k 0 hk s2 t _ c (by rw [hz]; show 0 < (q.dv k).pd.length; omega)
      rw [iL0, b1]
      unfold px_bv
      try dsimp only
      rw [hz, zu_zu] at b2
      have w1 := m_wb_40 K N hK k hk (iN k) (iN b) (iN fi) (sF s2 29 g) t 63 0 N (by omega) (by omega)
      have w0 : (fun a => if 64 * k ≤ a ∧ a < 64 * k + 0 then (sF s2 29 g).2.2.1 31 (a + 1) else (sF s2 29 g).2.2.1 31 a) = (sF s2 29 g).2.2.1 31 := by funext a; rw [if_neg (by omega)]
      rw [w0, sF_triv, Nat.add_zero] at w1
      rw [w1]
      unfold px_lp
      try dsimp only
      rw [if_pos rfl]
      unfold px_v0
      try dsimp only
      obtain ⟨s3, hs3⟩ : ∃ s3, s3 = sF (sF s2 29 g) 31 (fun a => if 64 * k ≤ a ∧ a < 64 * k + 63 then (sF s2 29 g).2.2.1 31 (a + 1) else (sF s2 29 g).2.2.1 31 a) := ⟨_, rfl⟩
      rw [← hs3]
      have e16 : (16 : Int32) * iN (64 * k) = iN (1024 * k) := by rw [iL16, iN_mul]; congr 1; omega
      rw [e16]
      have w2 := m_ww_40 K N hK k hk (iN k) (iN b) (iN fi) s3 t 1008 0 N (by omega) (by omega)
      have w3 : (fun a => if 1024 * k ≤ a ∧ a < 1024 * k + 0 then s3.2.2.1 32 (a + 16) else s3.2.2.1 32 a) = s3.2.2.1 32 := by funext a; rw [if_neg (by omega)]
      rw [w3, sF_triv, Nat.add_zero] at w2
      rw [w2]
      try dsimp only
      rw [if_pos rfl]
      try dsimp only
      rw [px_gd_of ⟨hin30, hin30⟩, px_gd_of hin30]
      have hd32 : s3.2.2.1 32 = (sF s2 29 g).2.2.1 32 := by rw [hs3, sF_arr_ne (by omega)]
      have hsh := zRp_shift b2 hk (by rw [zu_self]; exact hfull)
      rw [zu_self, zu_zu, ← hs3] at hsh
      have e30' : (sF s3 32 (fun a => if 1024 * k ≤ a ∧ a < 1024 * k + 1008 then s3.2.2.1 32 (a + 16) else s3.2.2.1 32 a)).2.2.1 30 k - (1 : Int32) = iN 63 := by
        rw [sF_arr_ne (by omega), hs3, sF_arr_ne (by omega), sF_arr_ne (by omega), e30, hfull]; rfl
      rw [e30', hd32]
      obtain ⟨s4, hs4⟩ : ∃ s4, s4 = sA (sF s3 32 (fun a => if 1024 * k ≤ a ∧ a < 1024 * k + 1008 then (sF s2 29 g).2.2.1 32 (a + 16) else (sF s2 29 g).2.2.1 32 a)) 30 k (iN 63) := ⟨_, rfl⟩
      rw [← hs4] at hsh ⊢
      have f4 : zFm s2 s4 := by
        rw [hs4, hs3]
        exact zFm_trans (zFm_trans (zFm_sF (by omega)) (zFm_sF (by omega))) (zFm_trans (zFm_sF (by omega)) (zFm_sA (by omega)))
      have i4 : ∀ r, s4.1 r = s2.1 r := fun r => by rw [hs4, hs3]; rfl
      have l4 : s4.2.1 = s2.2.1 := by rw [hs4, hs3]; rfl
      obtain ⟨d4, hd4⟩ : ∃ d4, d4 = (((q.dv k).s_wr ((q.dv k).wr + 1)).s_st (zu (q.dv k).st (zPd (q.dv k) 0).1 (zPd (q.dv k) 0).2)).s_pd ((q.dv k).pd.drop 1) := ⟨_, rfl⟩
      have hsh : zRp s4 (zu q.dv k d4) := by rw [hd4]; exact hsh
      have hd4l : d4.pd.length = 63 := by rw [hd4]; show ((q.dv k).pd.drop 1).length = 63; rw [List.length_drop, hfull]
      have e430 : s4.2.2.1 30 k = iN 63 := by have := (hsh k hk).2.1; rw [zu_self, hd4l] at this; exact this
      have hzz : zu q.dv k d4 k = d4 := zu_self _ _ _
      have ev : iN (64 * k) + s4.2.2.1 30 k = iN (64 * k + 63) := by rw [e430, iN_add]
      rw [ev, px_gd_of (by rw [hK.2.2.1]; exact iN_in (by omega) (by omega)), iN_nat (by omega)]
      have hpu := zRp_push (b := b) (fi := fi) (x := x) (f := s4.2.2.1 40) hsh hk hb (by rw [hzz, hd4l]; omega) (fun w hw => by rw [f4.1 40 (by omega)]; exact hx2 w hw)
      rw [hzz, hd4l, zu_zu] at hpu
      have w5 := m_wl_40 K N hK (64 * k + 63) fi (by omega) hfi hX (iN k) (sA s4 31 (64 * k + 63) (iN b)) t 16 0 N (by omega) (by omega)
      rw [va_cpy_0, sF_triv] at w5
      rw [w5]
      try dsimp only
      rw [if_pos rfl]
      try dsimp only
      rw [px_gd_of ⟨hin30, hin30⟩]
      have ex : (sA s4 31 (64 * k + 63) (iN b)).2.2.1 40 = s4.2.2.1 40 := by rw [sA_eq, sF_arr_ne (by omega)]
      have en : (sF (sA s4 31 (64 * k + 63) (iN b)) 32 (va_cpy ((sA s4 31 (64 * k + 63) (iN b)).2.2.1 40) ((sA s4 31 (64 * k + 63) (iN b)).2.2.1 32) fi (16 * (64 * k + 63)) 16)).2.2.1 30 k + (1 : Int32) = iN (63 + 1) := by
        rw [sF_arr_ne (by omega), sA_eq, sF_arr_ne (by omega), e430, iL1, iN_add]
      rw [en, ex]
      have hadd : d4.s_pd (d4.pd ++ [(b, x)]) = (q.dv k).add b x := by
        unfold ZDv.add
        rw [if_pos hfull, hd4]
        have ht : (q.dv k).pd.take 1 = [zPd (q.dv k) 0] := by
          rw [List.take_succ_eq_append_getElem (by omega)]
          show [] ++ [(q.dv k).pd[0]] = [(q.dv k).pd.getD 0 (0, fun _ => 0)]
          rw [List.getD_eq_getElem?_getD, List.getElem?_eq_getElem (by omega)]; rfl
        rw [ht]; rfl
      rw [hadd] at hpu
      refine ⟨_, rfl, ⟨hpu, ?_, ?_, r4, ?_⟩, ?_⟩
      · rw [if_pos hup]
        rw [if_pos hu] at r2
        exact (i4 29).trans ((hi2 29).trans r2)
      · exact (i4 30).trans ((hi2 30).trans r3)
      · intro hx
        have := r5 hx
        show s4.2.1 3 = _
        rw [l4, hl2]; exact this
      · exact zFm_trans a3 (zFm_trans f2 (zFm_trans f4 (zFm_trans (zFm_trans (zFm_sA (by omega)) (zFm_sF (by omega))) (zFm_sA (by omega)))))
    · rw [if_pos (by rw [e30, iL64, iN_eq (by omega) (by omega)]; exact hfull), px_gd_of hin30]
      have hcl : ((q.dv k).s_wr ((q.dv k).wr + 1)).pd.length = (q.dv k).pd.length := rfl
      have ev : iN (64 * k) + s2.2.2.1 30 k = iN (64 * k + (q.dv k).pd.length) := by rw [e30, iN_add]
      rw [ev, px_gd_of (by rw [hK.2.2.1]; exact iN_in (by omega) (by omega)), iN_nat (by omega)]
      have hpu := zRp_push (b := b) (fi := fi) (x := x) (f := s2.2.2.1 40) c hk hb (by rw [hz]; show (q.dv k).pd.length < 64; omega) hx2
      rw [hz, hcl, zu_zu] at hpu
      have w5 := m_wl_40 K N hK (64 * k + (q.dv k).pd.length) fi (by omega) hfi hX (iN k) (sA s2 31 (64 * k + (q.dv k).pd.length) (iN b)) t 16 0 N (by omega) (by omega)
      rw [va_cpy_0, sF_triv] at w5
      rw [iL0, w5]
      unfold px_lp
      try dsimp only
      rw [if_pos rfl]
      unfold px_v0
      try dsimp only
      rw [px_gd_of ⟨hin30, hin30⟩]
      have ex : (sA s2 31 (64 * k + (q.dv k).pd.length) (iN b)).2.2.1 40 = s2.2.2.1 40 := by rw [sA_eq, sF_arr_ne (by omega)]
      have en : (sF (sA s2 31 (64 * k + (q.dv k).pd.length) (iN b)) 32 (va_cpy ((sA s2 31 (64 * k + (q.dv k).pd.length) (iN b)).2.2.1 40) ((sA s2 31 (64 * k + (q.dv k).pd.length) (iN b)).2.2.1 32) fi (16 * (64 * k + (q.dv k).pd.length)) 16)).2.2.1 30 k + (1 : Int32) = iN ((q.dv k).pd.length + 1) := by
        rw [sF_arr_ne (by omega), sA_eq, sF_arr_ne (by omega), e30, iL1, iN_add]
      rw [en, ex]
      have hadd : ((q.dv k).s_wr ((q.dv k).wr + 1)).s_pd ((q.dv k).pd ++ [(b, x)]) = (q.dv k).add b x := by
        unfold ZDv.add; rw [if_neg hfull]; rfl
      have hpu : zRp _ (zu q.dv k (((q.dv k).s_wr ((q.dv k).wr + 1)).s_pd ((q.dv k).pd ++ [(b, x)]))) := hpu
      rw [hadd] at hpu
      refine ⟨_, rfl, ⟨hpu, ?_, ?_, r4, ?_⟩, ?_⟩
      · rw [if_pos hup]
        rw [if_pos hu] at r2
        exact (hi2 29).trans r2
      · exact (hi2 30).trans r3
      · intro hx
        have := r5 hx
        show s2.2.1 3 = _
        rw [hl2]; exact this
      · exact zFm_trans a3 (zFm_trans f2 (zFm_trans (zFm_trans (zFm_sA (by omega)) (zFm_sF (by omega))) (zFm_sA (by omega))))
/-! A WRITE OF THE REFERENCE from the row 43 -/
theorem m_wl_43 (K : px_K) (N : Nat) (hK : zKm K) (p fi : Nat) (hp : p < 128) (hfi : fi + 16 ≤ K.2.2 43) (hX : K.2.2 43 ≤ 1696) (u1 : Int32) (s : px_S) (t : px_W) : ∀ (d m n : Nat), m + d = 16 → d < n → l_M_write_28_43_94 K N n u1 (iN fi) (iN p) (iN m) (sF s 32 (va_cpy (s.2.2.1 43) (s.2.2.1 32) fi (16 * p) m)) t = some (.inl (112, [], sF s 32 (va_cpy (s.2.2.1 43) (s.2.2.1 32) fi (16 * p) 16), t)) := by
  intro d
  induction d with
  | zero =>
    intro m n hm hn
    obtain ⟨n, rfl⟩ : ∃ n', n = n' + 1 := ⟨n - 1, by omega⟩
    have hm : m = 16 := by omega
    subst hm
    unfold l_M_write_28_43_94
    rw [if_pos (by rw [iL16]; exact (iN_le (by omega) (by omega)).mpr (by omega))]
  | succ d ih =>
    intro m n hm hn
    obtain ⟨n, rfl⟩ : ∃ n', n = n' + 1 := ⟨n - 1, by omega⟩
    unfold l_M_write_28_43_94
    rw [if_neg (by rw [iL16, iN_le (by omega) (by omega)]; omega)]
    have e1 : (16 : Int32) * iN p + iN m = iN (16 * p + m) := by rw [iL16, iN_mul, iN_add]
    have e2 : iN fi + iN m = iN (fi + m) := iN_add _ _
    have e3 : iN m + (1 : Int32) = iN (m + 1) := by rw [iL1, iN_add]
    rw [e2, px_gd_of (iN_in (by omega) (by omega)), e1, px_gd_of (by rw [hK.2.2.2.1]; exact iN_in (by omega) (by omega))]
    unfold px_let
    rw [e3, iN_nat (by omega), iN_nat (by omega), sF_arr_ne (by omega), sA_sF, va_cpy_step]
    exact ih (m + 1) n (by omega) (by omega)
/-- the blocks of the pending writes move down -/
theorem m_wb_43 (K : px_K) (N : Nat) (hK : zKm K) (k : Nat) (hk : k < 2) (u1 u2 u4 : Int32) (s : px_S) (t : px_W) : ∀ (d m n : Nat), m + d = 63 → d < n → l_M_write_28_43_28 K N n u1 u2 u4 (iN (64 * k)) (iN (64 * k + m)) (sF s 31 (fun a => if 64 * k ≤ a ∧ a < 64 * k + m then s.2.2.1 31 (a + 1) else s.2.2.1 31 a)) t = some (.inl (47, [], sF s 31 (fun a => if 64 * k ≤ a ∧ a < 64 * k + 63 then s.2.2.1 31 (a + 1) else s.2.2.1 31 a), t)) := by
  have e0 : iN (64 * k) + (64 : Int32) - (1 : Int32) = iN (64 * k + 63) := by rw [iL64, iN_add, iL1, iN_sub (by omega)]; congr 1
  intro d
  induction d with
  | zero =>
    intro m n hm hn
    obtain ⟨n, rfl⟩ : ∃ n', n = n' + 1 := ⟨n - 1, by omega⟩
    have hm : m = 63 := by omega
    subst hm
    unfold l_M_write_28_43_28
    rw [e0, if_pos ((iN_le (by omega) (by omega)).mpr (by omega))]
  | succ d ih =>
    intro m n hm hn
    obtain ⟨n, rfl⟩ : ∃ n', n = n' + 1 := ⟨n - 1, by omega⟩
    unfold l_M_write_28_43_28
    have e3 : iN (64 * k + m) + (1 : Int32) = iN (64 * k + m + 1) := by rw [iL1, iN_add]
    rw [e0, if_neg (by rw [iN_le (by omega) (by omega)]; omega), e3, px_gd_of ⟨by rw [hK.2.2.1]; exact iN_in (by omega) (by omega), by rw [hK.2.2.1]; exact iN_in (by omega) (by omega)⟩]
    unfold px_let
    rw [iN_nat (by omega), iN_nat (by omega), sF_arr, sA_sF]
    have e4 : upd (fun a => if 64 * k ≤ a ∧ a < 64 * k + m then s.2.2.1 31 (a + 1) else s.2.2.1 31 a) (64 * k + m) (if 64 * k ≤ 64 * k + m + 1 ∧ 64 * k + m + 1 < 64 * k + m then s.2.2.1 31 (64 * k + m + 1 + 1) else s.2.2.1 31 (64 * k + m + 1)) = fun a => if 64 * k ≤ a ∧ a < 64 * k + (m + 1) then s.2.2.1 31 (a + 1) else s.2.2.1 31 a := by
      funext a
      unfold upd
      by_cases h1 : a = 64 * k + m
      · rw [if_pos h1, if_neg (by omega), if_pos (by omega), h1]
      · rw [if_neg h1]
        dsimp only
        by_cases h2 : 64 * k ≤ a ∧ a < 64 * k + m
        · rw [if_pos h2, if_pos (by omega)]
        · rw [if_neg h2, if_neg (by omega)]
    dsimp only
    rw [e4]
    exact ih (m + 1) n (by omega) (by omega)
/-- and their words -/
theorem m_ww_43 (K : px_K) (N : Nat) (hK : zKm K) (k : Nat) (hk : k < 2) (u1 u2 u4 : Int32) (s : px_S) (t : px_W) : ∀ (d m n : Nat), m + d = 1008 → d < n → l_M_write_28_43_51 K N n u1 u2 u4 (iN (64 * k)) (iN (1024 * k + m)) (sF s 32 (fun a => if 1024 * k ≤ a ∧ a < 1024 * k + m then s.2.2.1 32 (a + 16) else s.2.2.1 32 a)) t = some (.inl (72, [], sF s 32 (fun a => if 1024 * k ≤ a ∧ a < 1024 * k + 1008 then s.2.2.1 32 (a + 16) else s.2.2.1 32 a), t)) := by
  have e0 : (16 : Int32) * (iN (64 * k) + (64 : Int32) - (1 : Int32)) = iN (1024 * k + 1008) := by
    rw [iL64, iN_add, iL1, iN_sub (by omega), iL16, iN_mul]; congr 1; omega
  intro d
  induction d with
  | zero =>
    intro m n hm hn
    obtain ⟨n, rfl⟩ : ∃ n', n = n' + 1 := ⟨n - 1, by omega⟩
    have hm : m = 1008 := by omega
    subst hm
    unfold l_M_write_28_43_51
    rw [e0, if_pos ((iN_le (by omega) (by omega)).mpr (by omega))]
  | succ d ih =>
    intro m n hm hn
    obtain ⟨n, rfl⟩ : ∃ n', n = n' + 1 := ⟨n - 1, by omega⟩
    unfold l_M_write_28_43_51
    have e3 : iN (1024 * k + m) + (1 : Int32) = iN (1024 * k + (m + 1)) := by rw [iL1, iN_add]; congr 1
    have e5 : iN (1024 * k + m) + (16 : Int32) = iN (1024 * k + m + 16) := by rw [iL16, iN_add]
    rw [e0, if_neg (by rw [iN_le (by omega) (by omega)]; omega), e5, e3, px_gd_of ⟨by rw [hK.2.2.2.1]; exact iN_in (by omega) (by omega), by rw [hK.2.2.2.1]; exact iN_in (by omega) (by omega)⟩]
    unfold px_let
    rw [iN_nat (by omega), iN_nat (by omega), sF_arr, sA_sF]
    have e4 : upd (fun a => if 1024 * k ≤ a ∧ a < 1024 * k + m then s.2.2.1 32 (a + 16) else s.2.2.1 32 a) (1024 * k + m) (if 1024 * k ≤ 1024 * k + m + 16 ∧ 1024 * k + m + 16 < 1024 * k + m then s.2.2.1 32 (1024 * k + m + 16 + 16) else s.2.2.1 32 (1024 * k + m + 16)) = fun a => if 1024 * k ≤ a ∧ a < 1024 * k + (m + 1) then s.2.2.1 32 (a + 16) else s.2.2.1 32 a := by
      funext a
      unfold upd
      by_cases h1 : a = 1024 * k + m
      · rw [if_pos h1, if_neg (by omega), if_pos (by omega), h1]
      · rw [if_neg h1]
        dsimp only
        by_cases h2 : 1024 * k ≤ a ∧ a < 1024 * k + m
        · rw [if_pos h2, if_pos (by omega)]
        · rw [if_neg h2, if_neg (by omega)]
    dsimp only
    rw [e4]
    exact ih (m + 1) n (by omega) (by omega)

/-- the write -/
theorem m_write_43 (K : px_K) (N : Nat) (hN : 2000 ≤ N) (hK : zKm K) (t : px_W) (s : px_S) (p : ZPw) (h : zRw s p) (k b fi : Nat) (x : ZBk) (hk : k < 2) (hb : b < zNb k) (hfi : fi + 16 ≤ K.2.2 43) (hX : K.2.2 43 ≤ 1696) (hx : ∀ w, w < 16 → s.2.2.1 43 (fi + w) = x w) : ∃ s', f_M_write_28_43 K N (iN k) (iN b) (iN fi) s t = some (.inl none, s', t) ∧ zRw s' (p.wr k b x) ∧ zFm s s' := by
  obtain ⟨s1, a1, a2, a3⟩ := m_acts K N (by omega) hK t s p h
  unfold f_M_write_28_43
  rw [a1]
  unfold px_bi
  dsimp only
  unfold ZPw.wr
  cases hu : p.act.up with
  | false =>
    rw [if_neg (c := false = true) Bool.noConfusion, if_neg (c := false = true) Bool.noConfusion, if_neg (by exact fun hx => hx rfl)]
    exact ⟨s1, rfl, a2, a3⟩
  | true =>
    rw [if_pos (c := true = true) rfl, if_pos (c := true = true) rfl, if_pos (by decide)]
    have hin : vp_in (iN k) (K.2.2 33) := by rw [hK.2.2.2.2.1]; exact iN_in (by omega) hk
    have hin30 : vp_in (iN k) (K.2.2 30) := by rw [hK.2.1]; exact iN_in (by omega) hk
    have hx1 : ∀ w, w < 16 → s1.2.2.1 43 (fi + w) = x w := fun w hw => by rw [a3.1 43 (by omega)]; exact hx w hw
    rw [px_gd_of ⟨hin, hin⟩, iN_nat (by omega)]
    unfold px_let
    dsimp only
    generalize hq : p.act = q at *
    clear a1 hq h hx
    obtain ⟨r1, r2, r3, r4, r5⟩ := a2
    have hwr : s1.2.2.1 33 k = iN (q.dv k).wr := (r1 k hk).2.2.2.2.1
    obtain ⟨c, hc⟩ : ∃ c, c = zRp_cnt (c := 33) (v := s1.2.2.1 33 k + (1 : Int32)) r1 hk (Or.inl rfl) (d := (q.dv k).s_wr ((q.dv k).wr + 1)) ⟨rfl, rfl, by rw [if_pos rfl]; exact ⟨by rw [hwr, iL1, iN_add]; rfl, rfl⟩⟩ := ⟨_, rfl⟩
    clear hc
    have e64 : (64 : Int32) * iN k = iN (64 * k) := by rw [iL64, iN_mul]
    rw [px_gd_of hin30, e64]
    obtain ⟨s2, hs2⟩ : ∃ s2, s2 = sA s1 33 k (s1.2.2.1 33 k + (1 : Int32)) := ⟨_, rfl⟩
    rw [← hs2] at c ⊢
    have f2 : zFm s1 s2 := by rw [hs2]; exact zFm_sA (by omega)
    have hx2 : ∀ w, w < 16 → s2.2.2.1 43 (fi + w) = x w := fun w hw => by rw [f2.1 43 (by omega)]; exact hx1 w hw
    have hi2 : ∀ r, s2.1 r = s1.1 r := fun r => by rw [hs2]; rfl
    have hl2 : s2.2.1 = s1.2.1 := by rw [hs2]; rfl
    clear hs2
    have hz : zu q.dv k ((q.dv k).s_wr ((q.dv k).wr + 1)) k = (q.dv k).s_wr ((q.dv k).wr + 1) := zu_self _ _ _
    have hup : (ZPw.s_dv q (zu q.dv k ((q.dv k).add b x))).up = true := hu
    have e30 : s2.2.2.1 30 k = iN (q.dv k).pd.length := by have := (c k hk).2.1; rw [hz] at this; exact this
    have hlen := (r1 k hk).1
    by_cases hfull : (q.dv k).pd.length = 64
    · rw [if_neg (by rw [e30, hfull]; exact fun hx => hx rfl)]
      obtain ⟨g, b1, b2⟩ := m_bs_R K N (by omega) hK k 0 hk s2 t _ c (by rw [hz]; show 0 < (q.dv k).pd.length; omega)
      rw [iL0, b1]
      unfold px_bv
      try dsimp only
      rw [hz, zu_zu] at b2
      have w1 := m_wb_43 K N hK k hk (iN k) (iN b) (iN fi) (sF s2 29 g) t 63 0 N (by omega) (by omega)
      have w0 : (fun a => if 64 * k ≤ a ∧ a < 64 * k + 0 then (sF s2 29 g).2.2.1 31 (a + 1) else (sF s2 29 g).2.2.1 31 a) = (sF s2 29 g).2.2.1 31 := by funext a; rw [if_neg (by omega)]
      rw [w0, sF_triv, Nat.add_zero] at w1
      rw [w1]
      unfold px_lp
      try dsimp only
      rw [if_pos rfl]
      unfold px_v0
      try dsimp only
      obtain ⟨s3, hs3⟩ : ∃ s3, s3 = sF (sF s2 29 g) 31 (fun a => if 64 * k ≤ a ∧ a < 64 * k + 63 then (sF s2 29 g).2.2.1 31 (a + 1) else (sF s2 29 g).2.2.1 31 a) := ⟨_, rfl⟩
      rw [← hs3]
      have e16 : (16 : Int32) * iN (64 * k) = iN (1024 * k) := by rw [iL16, iN_mul]; congr 1; omega
      rw [e16]
      have w2 := m_ww_43 K N hK k hk (iN k) (iN b) (iN fi) s3 t 1008 0 N (by omega) (by omega)
      have w3 : (fun a => if 1024 * k ≤ a ∧ a < 1024 * k + 0 then s3.2.2.1 32 (a + 16) else s3.2.2.1 32 a) = s3.2.2.1 32 := by funext a; rw [if_neg (by omega)]
      rw [w3, sF_triv, Nat.add_zero] at w2
      rw [w2]
      try dsimp only
      rw [if_pos rfl]
      try dsimp only
      rw [px_gd_of ⟨hin30, hin30⟩, px_gd_of hin30]
      have hd32 : s3.2.2.1 32 = (sF s2 29 g).2.2.1 32 := by rw [hs3, sF_arr_ne (by omega)]
      have hsh := zRp_shift b2 hk (by rw [zu_self]; exact hfull)
      rw [zu_self, zu_zu, ← hs3] at hsh
      have e30' : (sF s3 32 (fun a => if 1024 * k ≤ a ∧ a < 1024 * k + 1008 then s3.2.2.1 32 (a + 16) else s3.2.2.1 32 a)).2.2.1 30 k - (1 : Int32) = iN 63 := by
        rw [sF_arr_ne (by omega), hs3, sF_arr_ne (by omega), sF_arr_ne (by omega), e30, hfull]; rfl
      rw [e30', hd32]
      obtain ⟨s4, hs4⟩ : ∃ s4, s4 = sA (sF s3 32 (fun a => if 1024 * k ≤ a ∧ a < 1024 * k + 1008 then (sF s2 29 g).2.2.1 32 (a + 16) else (sF s2 29 g).2.2.1 32 a)) 30 k (iN 63) := ⟨_, rfl⟩
      rw [← hs4] at hsh ⊢
      have f4 : zFm s2 s4 := by
        rw [hs4, hs3]
        exact zFm_trans (zFm_trans (zFm_sF (by omega)) (zFm_sF (by omega))) (zFm_trans (zFm_sF (by omega)) (zFm_sA (by omega)))
      have i4 : ∀ r, s4.1 r = s2.1 r := fun r => by rw [hs4, hs3]; rfl
      have l4 : s4.2.1 = s2.2.1 := by rw [hs4, hs3]; rfl
      obtain ⟨d4, hd4⟩ : ∃ d4, d4 = (((q.dv k).s_wr ((q.dv k).wr + 1)).s_st (zu (q.dv k).st (zPd (q.dv k) 0).1 (zPd (q.dv k) 0).2)).s_pd ((q.dv k).pd.drop 1) := ⟨_, rfl⟩
      have hsh : zRp s4 (zu q.dv k d4) := by rw [hd4]; exact hsh
      have hd4l : d4.pd.length = 63 := by rw [hd4]; show ((q.dv k).pd.drop 1).length = 63; rw [List.length_drop, hfull]
      have e430 : s4.2.2.1 30 k = iN 63 := by have := (hsh k hk).2.1; rw [zu_self, hd4l] at this; exact this
      have hzz : zu q.dv k d4 k = d4 := zu_self _ _ _
      have ev : iN (64 * k) + s4.2.2.1 30 k = iN (64 * k + 63) := by rw [e430, iN_add]
      rw [ev, px_gd_of (by rw [hK.2.2.1]; exact iN_in (by omega) (by omega)), iN_nat (by omega)]
      have hpu := zRp_push (b := b) (fi := fi) (x := x) (f := s4.2.2.1 43) hsh hk hb (by rw [hzz, hd4l]; omega) (fun w hw => by rw [f4.1 43 (by omega)]; exact hx2 w hw)
      rw [hzz, hd4l, zu_zu] at hpu
      have w5 := m_wl_43 K N hK (64 * k + 63) fi (by omega) hfi hX (iN k) (sA s4 31 (64 * k + 63) (iN b)) t 16 0 N (by omega) (by omega)
      rw [va_cpy_0, sF_triv] at w5
      rw [w5]
      try dsimp only
      rw [if_pos rfl]
      try dsimp only
      rw [px_gd_of ⟨hin30, hin30⟩]
      have ex : (sA s4 31 (64 * k + 63) (iN b)).2.2.1 43 = s4.2.2.1 43 := by rw [sA_eq, sF_arr_ne (by omega)]
      have en : (sF (sA s4 31 (64 * k + 63) (iN b)) 32 (va_cpy ((sA s4 31 (64 * k + 63) (iN b)).2.2.1 43) ((sA s4 31 (64 * k + 63) (iN b)).2.2.1 32) fi (16 * (64 * k + 63)) 16)).2.2.1 30 k + (1 : Int32) = iN (63 + 1) := by
        rw [sF_arr_ne (by omega), sA_eq, sF_arr_ne (by omega), e430, iL1, iN_add]
      rw [en, ex]
      have hadd : d4.s_pd (d4.pd ++ [(b, x)]) = (q.dv k).add b x := by
        unfold ZDv.add
        rw [if_pos hfull, hd4]
        have ht : (q.dv k).pd.take 1 = [zPd (q.dv k) 0] := by
          rw [List.take_succ_eq_append_getElem (by omega)]
          show [] ++ [(q.dv k).pd[0]] = [(q.dv k).pd.getD 0 (0, fun _ => 0)]
          rw [List.getD_eq_getElem?_getD, List.getElem?_eq_getElem (by omega)]; rfl
        rw [ht]; rfl
      rw [hadd] at hpu
      refine ⟨_, rfl, ⟨hpu, ?_, ?_, r4, ?_⟩, ?_⟩
      · rw [if_pos hup]
        rw [if_pos hu] at r2
        exact (i4 29).trans ((hi2 29).trans r2)
      · exact (i4 30).trans ((hi2 30).trans r3)
      · intro hx
        have := r5 hx
        show s4.2.1 3 = _
        rw [l4, hl2]; exact this
      · exact zFm_trans a3 (zFm_trans f2 (zFm_trans f4 (zFm_trans (zFm_trans (zFm_sA (by omega)) (zFm_sF (by omega))) (zFm_sA (by omega)))))
    · rw [if_pos (by rw [e30, iL64, iN_eq (by omega) (by omega)]; exact hfull), px_gd_of hin30]
      have hcl : ((q.dv k).s_wr ((q.dv k).wr + 1)).pd.length = (q.dv k).pd.length := rfl
      have ev : iN (64 * k) + s2.2.2.1 30 k = iN (64 * k + (q.dv k).pd.length) := by rw [e30, iN_add]
      rw [ev, px_gd_of (by rw [hK.2.2.1]; exact iN_in (by omega) (by omega)), iN_nat (by omega)]
      have hpu := zRp_push (b := b) (fi := fi) (x := x) (f := s2.2.2.1 43) c hk hb (by rw [hz]; show (q.dv k).pd.length < 64; omega) hx2
      rw [hz, hcl, zu_zu] at hpu
      have w5 := m_wl_43 K N hK (64 * k + (q.dv k).pd.length) fi (by omega) hfi hX (iN k) (sA s2 31 (64 * k + (q.dv k).pd.length) (iN b)) t 16 0 N (by omega) (by omega)
      rw [va_cpy_0, sF_triv] at w5
      rw [iL0, w5]
      unfold px_lp
      try dsimp only
      rw [if_pos rfl]
      unfold px_v0
      try dsimp only
      rw [px_gd_of ⟨hin30, hin30⟩]
      have ex : (sA s2 31 (64 * k + (q.dv k).pd.length) (iN b)).2.2.1 43 = s2.2.2.1 43 := by rw [sA_eq, sF_arr_ne (by omega)]
      have en : (sF (sA s2 31 (64 * k + (q.dv k).pd.length) (iN b)) 32 (va_cpy ((sA s2 31 (64 * k + (q.dv k).pd.length) (iN b)).2.2.1 43) ((sA s2 31 (64 * k + (q.dv k).pd.length) (iN b)).2.2.1 32) fi (16 * (64 * k + (q.dv k).pd.length)) 16)).2.2.1 30 k + (1 : Int32) = iN ((q.dv k).pd.length + 1) := by
        rw [sF_arr_ne (by omega), sA_eq, sF_arr_ne (by omega), e30, iL1, iN_add]
      rw [en, ex]
      have hadd : ((q.dv k).s_wr ((q.dv k).wr + 1)).s_pd ((q.dv k).pd ++ [(b, x)]) = (q.dv k).add b x := by
        unfold ZDv.add; rw [if_neg hfull]; rfl
      have hpu : zRp _ (zu q.dv k (((q.dv k).s_wr ((q.dv k).wr + 1)).s_pd ((q.dv k).pd ++ [(b, x)]))) := hpu
      rw [hadd] at hpu
      refine ⟨_, rfl, ⟨hpu, ?_, ?_, r4, ?_⟩, ?_⟩
      · rw [if_pos hup]
        rw [if_pos hu] at r2
        exact (hi2 29).trans r2
      · exact (hi2 30).trans r3
      · intro hx
        have := r5 hx
        show s2.2.1 3 = _
        rw [hl2]; exact this
      · exact zFm_trans a3 (zFm_trans f2 (zFm_trans (zFm_trans (zFm_sA (by omega)) (zFm_sF (by omega))) (zFm_sA (by omega))))
/-! A WRITE OF THE REFERENCE from the row 44 -/
theorem m_wl_44 (K : px_K) (N : Nat) (hK : zKm K) (p fi : Nat) (hp : p < 128) (hfi : fi + 16 ≤ K.2.2 44) (hX : K.2.2 44 ≤ 1696) (u1 : Int32) (s : px_S) (t : px_W) : ∀ (d m n : Nat), m + d = 16 → d < n → l_M_write_28_44_94 K N n u1 (iN fi) (iN p) (iN m) (sF s 32 (va_cpy (s.2.2.1 44) (s.2.2.1 32) fi (16 * p) m)) t = some (.inl (112, [], sF s 32 (va_cpy (s.2.2.1 44) (s.2.2.1 32) fi (16 * p) 16), t)) := by
  intro d
  induction d with
  | zero =>
    intro m n hm hn
    obtain ⟨n, rfl⟩ : ∃ n', n = n' + 1 := ⟨n - 1, by omega⟩
    have hm : m = 16 := by omega
    subst hm
    unfold l_M_write_28_44_94
    rw [if_pos (by rw [iL16]; exact (iN_le (by omega) (by omega)).mpr (by omega))]
  | succ d ih =>
    intro m n hm hn
    obtain ⟨n, rfl⟩ : ∃ n', n = n' + 1 := ⟨n - 1, by omega⟩
    unfold l_M_write_28_44_94
    rw [if_neg (by rw [iL16, iN_le (by omega) (by omega)]; omega)]
    have e1 : (16 : Int32) * iN p + iN m = iN (16 * p + m) := by rw [iL16, iN_mul, iN_add]
    have e2 : iN fi + iN m = iN (fi + m) := iN_add _ _
    have e3 : iN m + (1 : Int32) = iN (m + 1) := by rw [iL1, iN_add]
    rw [e2, px_gd_of (iN_in (by omega) (by omega)), e1, px_gd_of (by rw [hK.2.2.2.1]; exact iN_in (by omega) (by omega))]
    unfold px_let
    rw [e3, iN_nat (by omega), iN_nat (by omega), sF_arr_ne (by omega), sA_sF, va_cpy_step]
    exact ih (m + 1) n (by omega) (by omega)
/-- the blocks of the pending writes move down -/
theorem m_wb_44 (K : px_K) (N : Nat) (hK : zKm K) (k : Nat) (hk : k < 2) (u1 u2 u4 : Int32) (s : px_S) (t : px_W) : ∀ (d m n : Nat), m + d = 63 → d < n → l_M_write_28_44_28 K N n u1 u2 u4 (iN (64 * k)) (iN (64 * k + m)) (sF s 31 (fun a => if 64 * k ≤ a ∧ a < 64 * k + m then s.2.2.1 31 (a + 1) else s.2.2.1 31 a)) t = some (.inl (47, [], sF s 31 (fun a => if 64 * k ≤ a ∧ a < 64 * k + 63 then s.2.2.1 31 (a + 1) else s.2.2.1 31 a), t)) := by
  have e0 : iN (64 * k) + (64 : Int32) - (1 : Int32) = iN (64 * k + 63) := by rw [iL64, iN_add, iL1, iN_sub (by omega)]; congr 1
  intro d
  induction d with
  | zero =>
    intro m n hm hn
    obtain ⟨n, rfl⟩ : ∃ n', n = n' + 1 := ⟨n - 1, by omega⟩
    have hm : m = 63 := by omega
    subst hm
    unfold l_M_write_28_44_28
    rw [e0, if_pos ((iN_le (by omega) (by omega)).mpr (by omega))]
  | succ d ih =>
    intro m n hm hn
    obtain ⟨n, rfl⟩ : ∃ n', n = n' + 1 := ⟨n - 1, by omega⟩
    unfold l_M_write_28_44_28
    have e3 : iN (64 * k + m) + (1 : Int32) = iN (64 * k + m + 1) := by rw [iL1, iN_add]
    rw [e0, if_neg (by rw [iN_le (by omega) (by omega)]; omega), e3, px_gd_of ⟨by rw [hK.2.2.1]; exact iN_in (by omega) (by omega), by rw [hK.2.2.1]; exact iN_in (by omega) (by omega)⟩]
    unfold px_let
    rw [iN_nat (by omega), iN_nat (by omega), sF_arr, sA_sF]
    have e4 : upd (fun a => if 64 * k ≤ a ∧ a < 64 * k + m then s.2.2.1 31 (a + 1) else s.2.2.1 31 a) (64 * k + m) (if 64 * k ≤ 64 * k + m + 1 ∧ 64 * k + m + 1 < 64 * k + m then s.2.2.1 31 (64 * k + m + 1 + 1) else s.2.2.1 31 (64 * k + m + 1)) = fun a => if 64 * k ≤ a ∧ a < 64 * k + (m + 1) then s.2.2.1 31 (a + 1) else s.2.2.1 31 a := by
      funext a
      unfold upd
      by_cases h1 : a = 64 * k + m
      · rw [if_pos h1, if_neg (by omega), if_pos (by omega), h1]
      · rw [if_neg h1]
        dsimp only
        by_cases h2 : 64 * k ≤ a ∧ a < 64 * k + m
        · rw [if_pos h2, if_pos (by omega)]
        · rw [if_neg h2, if_neg (by omega)]
    dsimp only
    rw [e4]
    exact ih (m + 1) n (by omega) (by omega)
/-- and their words -/
theorem m_ww_44 (K : px_K) (N : Nat) (hK : zKm K) (k : Nat) (hk : k < 2) (u1 u2 u4 : Int32) (s : px_S) (t : px_W) : ∀ (d m n : Nat), m + d = 1008 → d < n → l_M_write_28_44_51 K N n u1 u2 u4 (iN (64 * k)) (iN (1024 * k + m)) (sF s 32 (fun a => if 1024 * k ≤ a ∧ a < 1024 * k + m then s.2.2.1 32 (a + 16) else s.2.2.1 32 a)) t = some (.inl (72, [], sF s 32 (fun a => if 1024 * k ≤ a ∧ a < 1024 * k + 1008 then s.2.2.1 32 (a + 16) else s.2.2.1 32 a), t)) := by
  have e0 : (16 : Int32) * (iN (64 * k) + (64 : Int32) - (1 : Int32)) = iN (1024 * k + 1008) := by
    rw [iL64, iN_add, iL1, iN_sub (by omega), iL16, iN_mul]; congr 1; omega
  intro d
  induction d with
  | zero =>
    intro m n hm hn
    obtain ⟨n, rfl⟩ : ∃ n', n = n' + 1 := ⟨n - 1, by omega⟩
    have hm : m = 1008 := by omega
    subst hm
    unfold l_M_write_28_44_51
    rw [e0, if_pos ((iN_le (by omega) (by omega)).mpr (by omega))]
  | succ d ih =>
    intro m n hm hn
    obtain ⟨n, rfl⟩ : ∃ n', n = n' + 1 := ⟨n - 1, by omega⟩
    unfold l_M_write_28_44_51
    have e3 : iN (1024 * k + m) + (1 : Int32) = iN (1024 * k + (m + 1)) := by rw [iL1, iN_add]; congr 1
    have e5 : iN (1024 * k + m) + (16 : Int32) = iN (1024 * k + m + 16) := by rw [iL16, iN_add]
    rw [e0, if_neg (by rw [iN_le (by omega) (by omega)]; omega), e5, e3, px_gd_of ⟨by rw [hK.2.2.2.1]; exact iN_in (by omega) (by omega), by rw [hK.2.2.2.1]; exact iN_in (by omega) (by omega)⟩]
    unfold px_let
    rw [iN_nat (by omega), iN_nat (by omega), sF_arr, sA_sF]
    have e4 : upd (fun a => if 1024 * k ≤ a ∧ a < 1024 * k + m then s.2.2.1 32 (a + 16) else s.2.2.1 32 a) (1024 * k + m) (if 1024 * k ≤ 1024 * k + m + 16 ∧ 1024 * k + m + 16 < 1024 * k + m then s.2.2.1 32 (1024 * k + m + 16 + 16) else s.2.2.1 32 (1024 * k + m + 16)) = fun a => if 1024 * k ≤ a ∧ a < 1024 * k + (m + 1) then s.2.2.1 32 (a + 16) else s.2.2.1 32 a := by
      funext a
      unfold upd
      by_cases h1 : a = 1024 * k + m
      · rw [if_pos h1, if_neg (by omega), if_pos (by omega), h1]
      · rw [if_neg h1]
        dsimp only
        by_cases h2 : 1024 * k ≤ a ∧ a < 1024 * k + m
        · rw [if_pos h2, if_pos (by omega)]
        · rw [if_neg h2, if_neg (by omega)]
    dsimp only
    rw [e4]
    exact ih (m + 1) n (by omega) (by omega)

/-- the write -/
theorem m_write_44 (K : px_K) (N : Nat) (hN : 2000 ≤ N) (hK : zKm K) (t : px_W) (s : px_S) (p : ZPw) (h : zRw s p) (k b fi : Nat) (x : ZBk) (hk : k < 2) (hb : b < zNb k) (hfi : fi + 16 ≤ K.2.2 44) (hX : K.2.2 44 ≤ 1696) (hx : ∀ w, w < 16 → s.2.2.1 44 (fi + w) = x w) : ∃ s', f_M_write_28_44 K N (iN k) (iN b) (iN fi) s t = some (.inl none, s', t) ∧ zRw s' (p.wr k b x) ∧ zFm s s' := by
  obtain ⟨s1, a1, a2, a3⟩ := m_acts K N (by omega) hK t s p h
  unfold f_M_write_28_44
  rw [a1]
  unfold px_bi
  dsimp only
  unfold ZPw.wr
  cases hu : p.act.up with
  | false =>
    rw [if_neg (c := false = true) Bool.noConfusion, if_neg (c := false = true) Bool.noConfusion, if_neg (by exact fun hx => hx rfl)]
    exact ⟨s1, rfl, a2, a3⟩
  | true =>
    rw [if_pos (c := true = true) rfl, if_pos (c := true = true) rfl, if_pos (by decide)]
    have hin : vp_in (iN k) (K.2.2 33) := by rw [hK.2.2.2.2.1]; exact iN_in (by omega) hk
    have hin30 : vp_in (iN k) (K.2.2 30) := by rw [hK.2.1]; exact iN_in (by omega) hk
    have hx1 : ∀ w, w < 16 → s1.2.2.1 44 (fi + w) = x w := fun w hw => by rw [a3.1 44 (by omega)]; exact hx w hw
    rw [px_gd_of ⟨hin, hin⟩, iN_nat (by omega)]
    unfold px_let
    dsimp only
    generalize hq : p.act = q at *
    clear a1 hq h hx
    obtain ⟨r1, r2, r3, r4, r5⟩ := a2
    have hwr : s1.2.2.1 33 k = iN (q.dv k).wr := (r1 k hk).2.2.2.2.1
    obtain ⟨c, hc⟩ : ∃ c, c = zRp_cnt (c := 33) (v := s1.2.2.1 33 k + (1 : Int32)) r1 hk (Or.inl rfl) (d := (q.dv k).s_wr ((q.dv k).wr + 1)) ⟨rfl, rfl, by rw [if_pos rfl]; exact ⟨by rw [hwr, iL1, iN_add]; rfl, rfl⟩⟩ := ⟨_, rfl⟩
    clear hc
    have e64 : (64 : Int32) * iN k = iN (64 * k) := by rw [iL64, iN_mul]
    rw [px_gd_of hin30, e64]
    obtain ⟨s2, hs2⟩ : ∃ s2, s2 = sA s1 33 k (s1.2.2.1 33 k + (1 : Int32)) := ⟨_, rfl⟩
    rw [← hs2] at c ⊢
    have f2 : zFm s1 s2 := by rw [hs2]; exact zFm_sA (by omega)
    have hx2 : ∀ w, w < 16 → s2.2.2.1 44 (fi + w) = x w := fun w hw => by rw [f2.1 44 (by omega)]; exact hx1 w hw
    have hi2 : ∀ r, s2.1 r = s1.1 r := fun r => by rw [hs2]; rfl
    have hl2 : s2.2.1 = s1.2.1 := by rw [hs2]; rfl
    clear hs2
    have hz : zu q.dv k ((q.dv k).s_wr ((q.dv k).wr + 1)) k = (q.dv k).s_wr ((q.dv k).wr + 1) := zu_self _ _ _
    have hup : (ZPw.s_dv q (zu q.dv k ((q.dv k).add b x))).up = true := hu
    have e30 : s2.2.2.1 30 k = iN (q.dv k).pd.length := by have := (c k hk).2.1; rw [hz] at this; exact this
    have hlen := (r1 k hk).1
    by_cases hfull : (q.dv k).pd.length = 64
    · rw [if_neg (by rw [e30, hfull]; exact fun hx => hx rfl)]
      obtain ⟨g, b1, b2⟩ := m_bs_R K N (by omega) hK k 0 hk s2 t _ c (by rw [hz]; show 0 < (q.dv k).pd.length; omega)
      rw [iL0, b1]
      unfold px_bv
      try dsimp only
      rw [hz, zu_zu] at b2
      have w1 := m_wb_44 K N hK k hk (iN k) (iN b) (iN fi) (sF s2 29 g) t 63 0 N (by omega) (by omega)
      have w0 : (fun a => if 64 * k ≤ a ∧ a < 64 * k + 0 then (sF s2 29 g).2.2.1 31 (a + 1) else (sF s2 29 g).2.2.1 31 a) = (sF s2 29 g).2.2.1 31 := by funext a; rw [if_neg (by omega)]
      rw [w0, sF_triv, Nat.add_zero] at w1
      rw [w1]
      unfold px_lp
      try dsimp only
      rw [if_pos rfl]
      unfold px_v0
      try dsimp only
      obtain ⟨s3, hs3⟩ : ∃ s3, s3 = sF (sF s2 29 g) 31 (fun a => if 64 * k ≤ a ∧ a < 64 * k + 63 then (sF s2 29 g).2.2.1 31 (a + 1) else (sF s2 29 g).2.2.1 31 a) := ⟨_, rfl⟩
      rw [← hs3]
      have e16 : (16 : Int32) * iN (64 * k) = iN (1024 * k) := by rw [iL16, iN_mul]; congr 1; omega
      rw [e16]
      have w2 := m_ww_44 K N hK k hk (iN k) (iN b) (iN fi) s3 t 1008 0 N (by omega) (by omega)
      have w3 : (fun a => if 1024 * k ≤ a ∧ a < 1024 * k + 0 then s3.2.2.1 32 (a + 16) else s3.2.2.1 32 a) = s3.2.2.1 32 := by funext a; rw [if_neg (by omega)]
      rw [w3, sF_triv, Nat.add_zero] at w2
      rw [w2]
      try dsimp only
      rw [if_pos rfl]
      try dsimp only
      rw [px_gd_of ⟨hin30, hin30⟩, px_gd_of hin30]
      have hd32 : s3.2.2.1 32 = (sF s2 29 g).2.2.1 32 := by rw [hs3, sF_arr_ne (by omega)]
      have hsh := zRp_shift b2 hk (by rw [zu_self]; exact hfull)
      rw [zu_self, zu_zu, ← hs3] at hsh
      have e30' : (sF s3 32 (fun a => if 1024 * k ≤ a ∧ a < 1024 * k + 1008 then s3.2.2.1 32 (a + 16) else s3.2.2.1 32 a)).2.2.1 30 k - (1 : Int32) = iN 63 := by
        rw [sF_arr_ne (by omega), hs3, sF_arr_ne (by omega), sF_arr_ne (by omega), e30, hfull]; rfl
      rw [e30', hd32]
      obtain ⟨s4, hs4⟩ : ∃ s4, s4 = sA (sF s3 32 (fun a => if 1024 * k ≤ a ∧ a < 1024 * k + 1008 then (sF s2 29 g).2.2.1 32 (a + 16) else (sF s2 29 g).2.2.1 32 a)) 30 k (iN 63) := ⟨_, rfl⟩
      rw [← hs4] at hsh ⊢
      have f4 : zFm s2 s4 := by
        rw [hs4, hs3]
        exact zFm_trans (zFm_trans (zFm_sF (by omega)) (zFm_sF (by omega))) (zFm_trans (zFm_sF (by omega)) (zFm_sA (by omega)))
      have i4 : ∀ r, s4.1 r = s2.1 r := fun r => by rw [hs4, hs3]; rfl
      have l4 : s4.2.1 = s2.2.1 := by rw [hs4, hs3]; rfl
      obtain ⟨d4, hd4⟩ : ∃ d4, d4 = (((q.dv k).s_wr ((q.dv k).wr + 1)).s_st (zu (q.dv k).st (zPd (q.dv k) 0).1 (zPd (q.dv k) 0).2)).s_pd ((q.dv k).pd.drop 1) := ⟨_, rfl⟩
      have hsh : zRp s4 (zu q.dv k d4) := by rw [hd4]; exact hsh
      have hd4l : d4.pd.length = 63 := by rw [hd4]; show ((q.dv k).pd.drop 1).length = 63; rw [List.length_drop, hfull]
      have e430 : s4.2.2.1 30 k = iN 63 := by have := (hsh k hk).2.1; rw [zu_self, hd4l] at this; exact this
      have hzz : zu q.dv k d4 k = d4 := zu_self _ _ _
      have ev : iN (64 * k) + s4.2.2.1 30 k = iN (64 * k + 63) := by rw [e430, iN_add]
      rw [ev, px_gd_of (by rw [hK.2.2.1]; exact iN_in (by omega) (by omega)), iN_nat (by omega)]
      have hpu := zRp_push (b := b) (fi := fi) (x := x) (f := s4.2.2.1 44) hsh hk hb (by rw [hzz, hd4l]; omega) (fun w hw => by rw [f4.1 44 (by omega)]; exact hx2 w hw)
      rw [hzz, hd4l, zu_zu] at hpu
      have w5 := m_wl_44 K N hK (64 * k + 63) fi (by omega) hfi hX (iN k) (sA s4 31 (64 * k + 63) (iN b)) t 16 0 N (by omega) (by omega)
      rw [va_cpy_0, sF_triv] at w5
      rw [w5]
      try dsimp only
      rw [if_pos rfl]
      try dsimp only
      rw [px_gd_of ⟨hin30, hin30⟩]
      have ex : (sA s4 31 (64 * k + 63) (iN b)).2.2.1 44 = s4.2.2.1 44 := by rw [sA_eq, sF_arr_ne (by omega)]
      have en : (sF (sA s4 31 (64 * k + 63) (iN b)) 32 (va_cpy ((sA s4 31 (64 * k + 63) (iN b)).2.2.1 44) ((sA s4 31 (64 * k + 63) (iN b)).2.2.1 32) fi (16 * (64 * k + 63)) 16)).2.2.1 30 k + (1 : Int32) = iN (63 + 1) := by
        rw [sF_arr_ne (by omega), sA_eq, sF_arr_ne (by omega), e430, iL1, iN_add]
      rw [en, ex]
      have hadd : d4.s_pd (d4.pd ++ [(b, x)]) = (q.dv k).add b x := by
        unfold ZDv.add
        rw [if_pos hfull, hd4]
        have ht : (q.dv k).pd.take 1 = [zPd (q.dv k) 0] := by
          rw [List.take_succ_eq_append_getElem (by omega)]
          show [] ++ [(q.dv k).pd[0]] = [(q.dv k).pd.getD 0 (0, fun _ => 0)]
          rw [List.getD_eq_getElem?_getD, List.getElem?_eq_getElem (by omega)]; rfl
        rw [ht]; rfl
      rw [hadd] at hpu
      refine ⟨_, rfl, ⟨hpu, ?_, ?_, r4, ?_⟩, ?_⟩
      · rw [if_pos hup]
        rw [if_pos hu] at r2
        exact (i4 29).trans ((hi2 29).trans r2)
      · exact (i4 30).trans ((hi2 30).trans r3)
      · intro hx
        have := r5 hx
        show s4.2.1 3 = _
        rw [l4, hl2]; exact this
      · exact zFm_trans a3 (zFm_trans f2 (zFm_trans f4 (zFm_trans (zFm_trans (zFm_sA (by omega)) (zFm_sF (by omega))) (zFm_sA (by omega)))))
    · rw [if_pos (by rw [e30, iL64, iN_eq (by omega) (by omega)]; exact hfull), px_gd_of hin30]
      have hcl : ((q.dv k).s_wr ((q.dv k).wr + 1)).pd.length = (q.dv k).pd.length := rfl
      have ev : iN (64 * k) + s2.2.2.1 30 k = iN (64 * k + (q.dv k).pd.length) := by rw [e30, iN_add]
      rw [ev, px_gd_of (by rw [hK.2.2.1]; exact iN_in (by omega) (by omega)), iN_nat (by omega)]
      have hpu := zRp_push (b := b) (fi := fi) (x := x) (f := s2.2.2.1 44) c hk hb (by rw [hz]; show (q.dv k).pd.length < 64; omega) hx2
      rw [hz, hcl, zu_zu] at hpu
      have w5 := m_wl_44 K N hK (64 * k + (q.dv k).pd.length) fi (by omega) hfi hX (iN k) (sA s2 31 (64 * k + (q.dv k).pd.length) (iN b)) t 16 0 N (by omega) (by omega)
      rw [va_cpy_0, sF_triv] at w5
      rw [iL0, w5]
      unfold px_lp
      try dsimp only
      rw [if_pos rfl]
      unfold px_v0
      try dsimp only
      rw [px_gd_of ⟨hin30, hin30⟩]
      have ex : (sA s2 31 (64 * k + (q.dv k).pd.length) (iN b)).2.2.1 44 = s2.2.2.1 44 := by rw [sA_eq, sF_arr_ne (by omega)]
      have en : (sF (sA s2 31 (64 * k + (q.dv k).pd.length) (iN b)) 32 (va_cpy ((sA s2 31 (64 * k + (q.dv k).pd.length) (iN b)).2.2.1 44) ((sA s2 31 (64 * k + (q.dv k).pd.length) (iN b)).2.2.1 32) fi (16 * (64 * k + (q.dv k).pd.length)) 16)).2.2.1 30 k + (1 : Int32) = iN ((q.dv k).pd.length + 1) := by
        rw [sF_arr_ne (by omega), sA_eq, sF_arr_ne (by omega), e30, iL1, iN_add]
      rw [en, ex]
      have hadd : ((q.dv k).s_wr ((q.dv k).wr + 1)).s_pd ((q.dv k).pd ++ [(b, x)]) = (q.dv k).add b x := by
        unfold ZDv.add; rw [if_neg hfull]; rfl
      have hpu : zRp _ (zu q.dv k (((q.dv k).s_wr ((q.dv k).wr + 1)).s_pd ((q.dv k).pd ++ [(b, x)]))) := hpu
      rw [hadd] at hpu
      refine ⟨_, rfl, ⟨hpu, ?_, ?_, r4, ?_⟩, ?_⟩
      · rw [if_pos hup]
        rw [if_pos hu] at r2
        exact (hi2 29).trans r2
      · exact (hi2 30).trans r3
      · intro hx
        have := r5 hx
        show s2.2.1 3 = _
        rw [hl2]; exact this
      · exact zFm_trans a3 (zFm_trans f2 (zFm_trans (zFm_trans (zFm_sA (by omega)) (zFm_sF (by omega))) (zFm_sA (by omega))))
/-! A WRITE OF THE REFERENCE from the row 45 -/
theorem m_wl_45 (K : px_K) (N : Nat) (hK : zKm K) (p fi : Nat) (hp : p < 128) (hfi : fi + 16 ≤ K.2.2 45) (hX : K.2.2 45 ≤ 1696) (u1 : Int32) (s : px_S) (t : px_W) : ∀ (d m n : Nat), m + d = 16 → d < n → l_M_write_28_45_94 K N n u1 (iN fi) (iN p) (iN m) (sF s 32 (va_cpy (s.2.2.1 45) (s.2.2.1 32) fi (16 * p) m)) t = some (.inl (112, [], sF s 32 (va_cpy (s.2.2.1 45) (s.2.2.1 32) fi (16 * p) 16), t)) := by
  intro d
  induction d with
  | zero =>
    intro m n hm hn
    obtain ⟨n, rfl⟩ : ∃ n', n = n' + 1 := ⟨n - 1, by omega⟩
    have hm : m = 16 := by omega
    subst hm
    unfold l_M_write_28_45_94
    rw [if_pos (by rw [iL16]; exact (iN_le (by omega) (by omega)).mpr (by omega))]
  | succ d ih =>
    intro m n hm hn
    obtain ⟨n, rfl⟩ : ∃ n', n = n' + 1 := ⟨n - 1, by omega⟩
    unfold l_M_write_28_45_94
    rw [if_neg (by rw [iL16, iN_le (by omega) (by omega)]; omega)]
    have e1 : (16 : Int32) * iN p + iN m = iN (16 * p + m) := by rw [iL16, iN_mul, iN_add]
    have e2 : iN fi + iN m = iN (fi + m) := iN_add _ _
    have e3 : iN m + (1 : Int32) = iN (m + 1) := by rw [iL1, iN_add]
    rw [e2, px_gd_of (iN_in (by omega) (by omega)), e1, px_gd_of (by rw [hK.2.2.2.1]; exact iN_in (by omega) (by omega))]
    unfold px_let
    rw [e3, iN_nat (by omega), iN_nat (by omega), sF_arr_ne (by omega), sA_sF, va_cpy_step]
    exact ih (m + 1) n (by omega) (by omega)
/-- the blocks of the pending writes move down -/
theorem m_wb_45 (K : px_K) (N : Nat) (hK : zKm K) (k : Nat) (hk : k < 2) (u1 u2 u4 : Int32) (s : px_S) (t : px_W) : ∀ (d m n : Nat), m + d = 63 → d < n → l_M_write_28_45_28 K N n u1 u2 u4 (iN (64 * k)) (iN (64 * k + m)) (sF s 31 (fun a => if 64 * k ≤ a ∧ a < 64 * k + m then s.2.2.1 31 (a + 1) else s.2.2.1 31 a)) t = some (.inl (47, [], sF s 31 (fun a => if 64 * k ≤ a ∧ a < 64 * k + 63 then s.2.2.1 31 (a + 1) else s.2.2.1 31 a), t)) := by
  have e0 : iN (64 * k) + (64 : Int32) - (1 : Int32) = iN (64 * k + 63) := by rw [iL64, iN_add, iL1, iN_sub (by omega)]; congr 1
  intro d
  induction d with
  | zero =>
    intro m n hm hn
    obtain ⟨n, rfl⟩ : ∃ n', n = n' + 1 := ⟨n - 1, by omega⟩
    have hm : m = 63 := by omega
    subst hm
    unfold l_M_write_28_45_28
    rw [e0, if_pos ((iN_le (by omega) (by omega)).mpr (by omega))]
  | succ d ih =>
    intro m n hm hn
    obtain ⟨n, rfl⟩ : ∃ n', n = n' + 1 := ⟨n - 1, by omega⟩
    unfold l_M_write_28_45_28
    have e3 : iN (64 * k + m) + (1 : Int32) = iN (64 * k + m + 1) := by rw [iL1, iN_add]
    rw [e0, if_neg (by rw [iN_le (by omega) (by omega)]; omega), e3, px_gd_of ⟨by rw [hK.2.2.1]; exact iN_in (by omega) (by omega), by rw [hK.2.2.1]; exact iN_in (by omega) (by omega)⟩]
    unfold px_let
    rw [iN_nat (by omega), iN_nat (by omega), sF_arr, sA_sF]
    have e4 : upd (fun a => if 64 * k ≤ a ∧ a < 64 * k + m then s.2.2.1 31 (a + 1) else s.2.2.1 31 a) (64 * k + m) (if 64 * k ≤ 64 * k + m + 1 ∧ 64 * k + m + 1 < 64 * k + m then s.2.2.1 31 (64 * k + m + 1 + 1) else s.2.2.1 31 (64 * k + m + 1)) = fun a => if 64 * k ≤ a ∧ a < 64 * k + (m + 1) then s.2.2.1 31 (a + 1) else s.2.2.1 31 a := by
      funext a
      unfold upd
      by_cases h1 : a = 64 * k + m
      · rw [if_pos h1, if_neg (by omega), if_pos (by omega), h1]
      · rw [if_neg h1]
        dsimp only
        by_cases h2 : 64 * k ≤ a ∧ a < 64 * k + m
        · rw [if_pos h2, if_pos (by omega)]
        · rw [if_neg h2, if_neg (by omega)]
    dsimp only
    rw [e4]
    exact ih (m + 1) n (by omega) (by omega)
/-- and their words -/
theorem m_ww_45 (K : px_K) (N : Nat) (hK : zKm K) (k : Nat) (hk : k < 2) (u1 u2 u4 : Int32) (s : px_S) (t : px_W) : ∀ (d m n : Nat), m + d = 1008 → d < n → l_M_write_28_45_51 K N n u1 u2 u4 (iN (64 * k)) (iN (1024 * k + m)) (sF s 32 (fun a => if 1024 * k ≤ a ∧ a < 1024 * k + m then s.2.2.1 32 (a + 16) else s.2.2.1 32 a)) t = some (.inl (72, [], sF s 32 (fun a => if 1024 * k ≤ a ∧ a < 1024 * k + 1008 then s.2.2.1 32 (a + 16) else s.2.2.1 32 a), t)) := by
  have e0 : (16 : Int32) * (iN (64 * k) + (64 : Int32) - (1 : Int32)) = iN (1024 * k + 1008) := by
    rw [iL64, iN_add, iL1, iN_sub (by omega), iL16, iN_mul]; congr 1; omega
  intro d
  induction d with
  | zero =>
    intro m n hm hn
    obtain ⟨n, rfl⟩ : ∃ n', n = n' + 1 := ⟨n - 1, by omega⟩
    have hm : m = 1008 := by omega
    subst hm
    unfold l_M_write_28_45_51
    rw [e0, if_pos ((iN_le (by omega) (by omega)).mpr (by omega))]
  | succ d ih =>
    intro m n hm hn
    obtain ⟨n, rfl⟩ : ∃ n', n = n' + 1 := ⟨n - 1, by omega⟩
    unfold l_M_write_28_45_51
    have e3 : iN (1024 * k + m) + (1 : Int32) = iN (1024 * k + (m + 1)) := by rw [iL1, iN_add]; congr 1
    have e5 : iN (1024 * k + m) + (16 : Int32) = iN (1024 * k + m + 16) := by rw [iL16, iN_add]
    rw [e0, if_neg (by rw [iN_le (by omega) (by omega)]; omega), e5, e3, px_gd_of ⟨by rw [hK.2.2.2.1]; exact iN_in (by omega) (by omega), by rw [hK.2.2.2.1]; exact iN_in (by omega) (by omega)⟩]
    unfold px_let
    rw [iN_nat (by omega), iN_nat (by omega), sF_arr, sA_sF]
    have e4 : upd (fun a => if 1024 * k ≤ a ∧ a < 1024 * k + m then s.2.2.1 32 (a + 16) else s.2.2.1 32 a) (1024 * k + m) (if 1024 * k ≤ 1024 * k + m + 16 ∧ 1024 * k + m + 16 < 1024 * k + m then s.2.2.1 32 (1024 * k + m + 16 + 16) else s.2.2.1 32 (1024 * k + m + 16)) = fun a => if 1024 * k ≤ a ∧ a < 1024 * k + (m + 1) then s.2.2.1 32 (a + 16) else s.2.2.1 32 a := by
      funext a
      unfold upd
      by_cases h1 : a = 1024 * k + m
      · rw [if_pos h1, if_neg (by omega), if_pos (by omega), h1]
      · rw [if_neg h1]
        dsimp only
        by_cases h2 : 1024 * k ≤ a ∧ a < 1024 * k + m
        · rw [if_pos h2, if_pos (by omega)]
        · rw [if_neg h2, if_neg (by omega)]
    dsimp only
    rw [e4]
    exact ih (m + 1) n (by omega) (by omega)

/-- the write -/
theorem m_write_45 (K : px_K) (N : Nat) (hN : 2000 ≤ N) (hK : zKm K) (t : px_W) (s : px_S) (p : ZPw) (h : zRw s p) (k b fi : Nat) (x : ZBk) (hk : k < 2) (hb : b < zNb k) (hfi : fi + 16 ≤ K.2.2 45) (hX : K.2.2 45 ≤ 1696) (hx : ∀ w, w < 16 → s.2.2.1 45 (fi + w) = x w) : ∃ s', f_M_write_28_45 K N (iN k) (iN b) (iN fi) s t = some (.inl none, s', t) ∧ zRw s' (p.wr k b x) ∧ zFm s s' := by
  obtain ⟨s1, a1, a2, a3⟩ := m_acts K N (by omega) hK t s p h
  unfold f_M_write_28_45
  rw [a1]
  unfold px_bi
  dsimp only
  unfold ZPw.wr
  cases hu : p.act.up with
  | false =>
    rw [if_neg (c := false = true) Bool.noConfusion, if_neg (c := false = true) Bool.noConfusion, if_neg (by exact fun hx => hx rfl)]
    exact ⟨s1, rfl, a2, a3⟩
  | true =>
    rw [if_pos (c := true = true) rfl, if_pos (c := true = true) rfl, if_pos (by decide)]
    have hin : vp_in (iN k) (K.2.2 33) := by rw [hK.2.2.2.2.1]; exact iN_in (by omega) hk
    have hin30 : vp_in (iN k) (K.2.2 30) := by rw [hK.2.1]; exact iN_in (by omega) hk
    have hx1 : ∀ w, w < 16 → s1.2.2.1 45 (fi + w) = x w := fun w hw => by rw [a3.1 45 (by omega)]; exact hx w hw
    rw [px_gd_of ⟨hin, hin⟩, iN_nat (by omega)]
    unfold px_let
    dsimp only
    generalize hq : p.act = q at *
    clear a1 hq h hx
    obtain ⟨r1, r2, r3, r4, r5⟩ := a2
    have hwr : s1.2.2.1 33 k = iN (q.dv k).wr := (r1 k hk).2.2.2.2.1
    obtain ⟨c, hc⟩ : ∃ c, c = zRp_cnt (c := 33) (v := s1.2.2.1 33 k + (1 : Int32)) r1 hk (Or.inl rfl) (d := (q.dv k).s_wr ((q.dv k).wr + 1)) ⟨rfl, rfl, by rw [if_pos rfl]; exact ⟨by rw [hwr, iL1, iN_add]; rfl, rfl⟩⟩ := ⟨_, rfl⟩
    clear hc
    have e64 : (64 : Int32) * iN k = iN (64 * k) := by rw [iL64, iN_mul]
    rw [px_gd_of hin30, e64]
    obtain ⟨s2, hs2⟩ : ∃ s2, s2 = sA s1 33 k (s1.2.2.1 33 k + (1 : Int32)) := ⟨_, rfl⟩
    rw [← hs2] at c ⊢
    have f2 : zFm s1 s2 := by rw [hs2]; exact zFm_sA (by omega)
    have hx2 : ∀ w, w < 16 → s2.2.2.1 45 (fi + w) = x w := fun w hw => by rw [f2.1 45 (by omega)]; exact hx1 w hw
    have hi2 : ∀ r, s2.1 r = s1.1 r := fun r => by rw [hs2]; rfl
    have hl2 : s2.2.1 = s1.2.1 := by rw [hs2]; rfl
    clear hs2
    have hz : zu q.dv k ((q.dv k).s_wr ((q.dv k).wr + 1)) k = (q.dv k).s_wr ((q.dv k).wr + 1) := zu_self _ _ _
    have hup : (ZPw.s_dv q (zu q.dv k ((q.dv k).add b x))).up = true := hu
    have e30 : s2.2.2.1 30 k = iN (q.dv k).pd.length := by have := (c k hk).2.1; rw [hz] at this; exact this
    have hlen := (r1 k hk).1
    by_cases hfull : (q.dv k).pd.length = 64
    · rw [if_neg (by rw [e30, hfull]; exact fun hx => hx rfl)]
      obtain ⟨g, b1, b2⟩ := m_bs_R K N (by omega) hK k 0 hk s2 t _ c (by rw [hz]; show 0 < (q.dv k).pd.length; omega)
      rw [iL0, b1]
      unfold px_bv
      try dsimp only
      rw [hz, zu_zu] at b2
      have w1 := m_wb_45 K N hK k hk (iN k) (iN b) (iN fi) (sF s2 29 g) t 63 0 N (by omega) (by omega)
      have w0 : (fun a => if 64 * k ≤ a ∧ a < 64 * k + 0 then (sF s2 29 g).2.2.1 31 (a + 1) else (sF s2 29 g).2.2.1 31 a) = (sF s2 29 g).2.2.1 31 := by funext a; rw [if_neg (by omega)]
      rw [w0, sF_triv, Nat.add_zero] at w1
      rw [w1]
      unfold px_lp
      try dsimp only
      rw [if_pos rfl]
      unfold px_v0
      try dsimp only
      obtain ⟨s3, hs3⟩ : ∃ s3, s3 = sF (sF s2 29 g) 31 (fun a => if 64 * k ≤ a ∧ a < 64 * k + 63 then (sF s2 29 g).2.2.1 31 (a + 1) else (sF s2 29 g).2.2.1 31 a) := ⟨_, rfl⟩
      rw [← hs3]
      have e16 : (16 : Int32) * iN (64 * k) = iN (1024 * k) := by rw [iL16, iN_mul]; congr 1; omega
      rw [e16]
      have w2 := m_ww_45 K N hK k hk (iN k) (iN b) (iN fi) s3 t 1008 0 N (by omega) (by omega)
      have w3 : (fun a => if 1024 * k ≤ a ∧ a < 1024 * k + 0 then s3.2.2.1 32 (a + 16) else s3.2.2.1 32 a) = s3.2.2.1 32 := by funext a; rw [if_neg (by omega)]
      rw [w3, sF_triv, Nat.add_zero] at w2
      rw [w2]
      try dsimp only
      rw [if_pos rfl]
      try dsimp only
      rw [px_gd_of ⟨hin30, hin30⟩, px_gd_of hin30]
      have hd32 : s3.2.2.1 32 = (sF s2 29 g).2.2.1 32 := by rw [hs3, sF_arr_ne (by omega)]
      have hsh := zRp_shift b2 hk (by rw [zu_self]; exact hfull)
      rw [zu_self, zu_zu, ← hs3] at hsh
      have e30' : (sF s3 32 (fun a => if 1024 * k ≤ a ∧ a < 1024 * k + 1008 then s3.2.2.1 32 (a + 16) else s3.2.2.1 32 a)).2.2.1 30 k - (1 : Int32) = iN 63 := by
        rw [sF_arr_ne (by omega), hs3, sF_arr_ne (by omega), sF_arr_ne (by omega), e30, hfull]; rfl
      rw [e30', hd32]
      obtain ⟨s4, hs4⟩ : ∃ s4, s4 = sA (sF s3 32 (fun a => if 1024 * k ≤ a ∧ a < 1024 * k + 1008 then (sF s2 29 g).2.2.1 32 (a + 16) else (sF s2 29 g).2.2.1 32 a)) 30 k (iN 63) := ⟨_, rfl⟩
      rw [← hs4] at hsh ⊢
      have f4 : zFm s2 s4 := by
        rw [hs4, hs3]
        exact zFm_trans (zFm_trans (zFm_sF (by omega)) (zFm_sF (by omega))) (zFm_trans (zFm_sF (by omega)) (zFm_sA (by omega)))
      have i4 : ∀ r, s4.1 r = s2.1 r := fun r => by rw [hs4, hs3]; rfl
      have l4 : s4.2.1 = s2.2.1 := by rw [hs4, hs3]; rfl
      obtain ⟨d4, hd4⟩ : ∃ d4, d4 = (((q.dv k).s_wr ((q.dv k).wr + 1)).s_st (zu (q.dv k).st (zPd (q.dv k) 0).1 (zPd (q.dv k) 0).2)).s_pd ((q.dv k).pd.drop 1) := ⟨_, rfl⟩
      have hsh : zRp s4 (zu q.dv k d4) := by rw [hd4]; exact hsh
      have hd4l : d4.pd.length = 63 := by rw [hd4]; show ((q.dv k).pd.drop 1).length = 63; rw [List.length_drop, hfull]
      have e430 : s4.2.2.1 30 k = iN 63 := by have := (hsh k hk).2.1; rw [zu_self, hd4l] at this; exact this
      have hzz : zu q.dv k d4 k = d4 := zu_self _ _ _
      have ev : iN (64 * k) + s4.2.2.1 30 k = iN (64 * k + 63) := by rw [e430, iN_add]
      rw [ev, px_gd_of (by rw [hK.2.2.1]; exact iN_in (by omega) (by omega)), iN_nat (by omega)]
      have hpu := zRp_push (b := b) (fi := fi) (x := x) (f := s4.2.2.1 45) hsh hk hb (by rw [hzz, hd4l]; omega) (fun w hw => by rw [f4.1 45 (by omega)]; exact hx2 w hw)
      rw [hzz, hd4l, zu_zu] at hpu
      have w5 := m_wl_45 K N hK (64 * k + 63) fi (by omega) hfi hX (iN k) (sA s4 31 (64 * k + 63) (iN b)) t 16 0 N (by omega) (by omega)
      rw [va_cpy_0, sF_triv] at w5
      rw [w5]
      try dsimp only
      rw [if_pos rfl]
      try dsimp only
      rw [px_gd_of ⟨hin30, hin30⟩]
      have ex : (sA s4 31 (64 * k + 63) (iN b)).2.2.1 45 = s4.2.2.1 45 := by rw [sA_eq, sF_arr_ne (by omega)]
      have en : (sF (sA s4 31 (64 * k + 63) (iN b)) 32 (va_cpy ((sA s4 31 (64 * k + 63) (iN b)).2.2.1 45) ((sA s4 31 (64 * k + 63) (iN b)).2.2.1 32) fi (16 * (64 * k + 63)) 16)).2.2.1 30 k + (1 : Int32) = iN (63 + 1) := by
        rw [sF_arr_ne (by omega), sA_eq, sF_arr_ne (by omega), e430, iL1, iN_add]
      rw [en, ex]
      have hadd : d4.s_pd (d4.pd ++ [(b, x)]) = (q.dv k).add b x := by
        unfold ZDv.add
        rw [if_pos hfull, hd4]
        have ht : (q.dv k).pd.take 1 = [zPd (q.dv k) 0] := by
          rw [List.take_succ_eq_append_getElem (by omega)]
          show [] ++ [(q.dv k).pd[0]] = [(q.dv k).pd.getD 0 (0, fun _ => 0)]
          rw [List.getD_eq_getElem?_getD, List.getElem?_eq_getElem (by omega)]; rfl
        rw [ht]; rfl
      rw [hadd] at hpu
      refine ⟨_, rfl, ⟨hpu, ?_, ?_, r4, ?_⟩, ?_⟩
      · rw [if_pos hup]
        rw [if_pos hu] at r2
        exact (i4 29).trans ((hi2 29).trans r2)
      · exact (i4 30).trans ((hi2 30).trans r3)
      · intro hx
        have := r5 hx
        show s4.2.1 3 = _
        rw [l4, hl2]; exact this
      · exact zFm_trans a3 (zFm_trans f2 (zFm_trans f4 (zFm_trans (zFm_trans (zFm_sA (by omega)) (zFm_sF (by omega))) (zFm_sA (by omega)))))
    · rw [if_pos (by rw [e30, iL64, iN_eq (by omega) (by omega)]; exact hfull), px_gd_of hin30]
      have hcl : ((q.dv k).s_wr ((q.dv k).wr + 1)).pd.length = (q.dv k).pd.length := rfl
      have ev : iN (64 * k) + s2.2.2.1 30 k = iN (64 * k + (q.dv k).pd.length) := by rw [e30, iN_add]
      rw [ev, px_gd_of (by rw [hK.2.2.1]; exact iN_in (by omega) (by omega)), iN_nat (by omega)]
      have hpu := zRp_push (b := b) (fi := fi) (x := x) (f := s2.2.2.1 45) c hk hb (by rw [hz]; show (q.dv k).pd.length < 64; omega) hx2
      rw [hz, hcl, zu_zu] at hpu
      have w5 := m_wl_45 K N hK (64 * k + (q.dv k).pd.length) fi (by omega) hfi hX (iN k) (sA s2 31 (64 * k + (q.dv k).pd.length) (iN b)) t 16 0 N (by omega) (by omega)
      rw [va_cpy_0, sF_triv] at w5
      rw [iL0, w5]
      unfold px_lp
      try dsimp only
      rw [if_pos rfl]
      unfold px_v0
      try dsimp only
      rw [px_gd_of ⟨hin30, hin30⟩]
      have ex : (sA s2 31 (64 * k + (q.dv k).pd.length) (iN b)).2.2.1 45 = s2.2.2.1 45 := by rw [sA_eq, sF_arr_ne (by omega)]
      have en : (sF (sA s2 31 (64 * k + (q.dv k).pd.length) (iN b)) 32 (va_cpy ((sA s2 31 (64 * k + (q.dv k).pd.length) (iN b)).2.2.1 45) ((sA s2 31 (64 * k + (q.dv k).pd.length) (iN b)).2.2.1 32) fi (16 * (64 * k + (q.dv k).pd.length)) 16)).2.2.1 30 k + (1 : Int32) = iN ((q.dv k).pd.length + 1) := by
        rw [sF_arr_ne (by omega), sA_eq, sF_arr_ne (by omega), e30, iL1, iN_add]
      rw [en, ex]
      have hadd : ((q.dv k).s_wr ((q.dv k).wr + 1)).s_pd ((q.dv k).pd ++ [(b, x)]) = (q.dv k).add b x := by
        unfold ZDv.add; rw [if_neg hfull]; rfl
      have hpu : zRp _ (zu q.dv k (((q.dv k).s_wr ((q.dv k).wr + 1)).s_pd ((q.dv k).pd ++ [(b, x)]))) := hpu
      rw [hadd] at hpu
      refine ⟨_, rfl, ⟨hpu, ?_, ?_, r4, ?_⟩, ?_⟩
      · rw [if_pos hup]
        rw [if_pos hu] at r2
        exact (hi2 29).trans r2
      · exact (hi2 30).trans r3
      · intro hx
        have := r5 hx
        show s2.2.1 3 = _
        rw [hl2]; exact this
      · exact zFm_trans a3 (zFm_trans f2 (zFm_trans (zFm_trans (zFm_sA (by omega)) (zFm_sF (by omega))) (zFm_sA (by omega))))
