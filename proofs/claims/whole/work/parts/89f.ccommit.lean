/-! THE CLASS: its tree, and coming home -/
def zCj (s : px_S) (T : ZTs) : Prop := (∀ b w, 29 ≤ b → b < 106 → w < 16 → s.2.2.1 23 (16 * b + w) = T.wd b w) ∧ (∀ b w, b < 106 → w < 16 → T.kt b = true → s.2.2.1 24 (16 * b + w) = T.kp b w) ∧ (∀ b, b < 106 → s.2.2.1 25 b = bN (T.ch b)) ∧ (∀ b, b < 106 → s.2.2.1 26 b = bN (T.kt b)) ∧ s.1 21 = iN (zCl T.ch).length ∧ s.1 22 = iN (zCl T.kt).length ∧ s.1 23 = iN T.sq ∧ s.1 24 = iN (T.jr - 1)
def zCt (s : px_S) (T : ZTs) : Prop := zCv s T.tv ∧ zCj s T
/-- what the tree's methods leave alone -/
def zHt (s u : px_S) : Prop := (∀ c, 28 ≤ c → u.2.2.1 c = s.2.2.1 c) ∧ (∀ r, (r = 0 ∨ r = 1 ∨ r = 6 ∨ r = 11 ∨ r = 12 ∨ r = 18 ∨ r = 19 ∨ r = 20 ∨ 24 < r) → u.1 r = s.1 r) ∧ (∀ r, 0 < r → u.2.1 r = s.2.1 r) ∧ u.2.2.2 = s.2.2.2
theorem zHt_refl (s : px_S) : zHt s s := ⟨fun _ _ => rfl, fun _ _ => rfl, fun _ _ => rfl, rfl⟩
theorem zHt_trans {s u v : px_S} (h1 : zHt s u) (h2 : zHt u v) : zHt s v := ⟨fun c hc => (h2.1 c hc).trans (h1.1 c hc), fun r hr => (h2.2.1 r hr).trans (h1.2.1 r hr), fun r hr => (h2.2.2.1 r hr).trans (h1.2.2.1 r hr), h2.2.2.2.trans h1.2.2.2⟩
theorem zHv_t {s u : px_S} (h : zHv s u) : zHt s u := ⟨fun c hc => h.1 c (by omega), fun r hr => h.2.1 r (by omega), h.2.2.1, h.2.2.2⟩
theorem zHt_x {s u : px_S} (h : zHt s u) : zHx s u := ⟨h.1, fun r hr => h.2.1 r (by omega), fun r hr => h.2.2.1 r (by omega), h.2.2.2⟩
theorem zHt_sF {s : px_S} {c : Nat} {g : Nat → Int32} (hc : c < 28) : zHt s (sF s c g) := ⟨fun d hd => sF_arr_ne (by omega), fun _ _ => rfl, fun _ _ => rfl, rfl⟩
theorem zHt_sR {s : px_S} {k : Nat} {x : Int32} (hk : 21 ≤ k ∧ k ≤ 24) : zHt s (sR s k x) := ⟨fun _ _ => rfl, fun r hr => sR_ne (by omega), fun _ _ => rfl, rfl⟩
theorem zCj_v {s u : px_S} {T : ZTs} (h : zCj s T) (hv : zHv s u) : zCj u T := by
  obtain ⟨h1, h2, h3, h4, h5, h6, h7, h8⟩ := h
  unfold zCj
  rw [hv.1 23 (by omega), hv.1 24 (by omega), hv.1 25 (by omega), hv.1 26 (by omega), hv.2.1 21 (by omega), hv.2.1 22 (by omega), hv.2.1 23 (by omega), hv.2.1 24 (by omega)]
  exact ⟨h1, h2, h3, h4, h5, h6, h7, h8⟩
theorem zCj_tv {s : px_S} {T : ZTs} (h : zCj s T) (v : ZVs) : zCj s (T.s_tv v) := h
/-- the volume's relation looks at no row of the tree -/
theorem zCv_of {s u : px_S} {v : ZVs} (h : zCv s v) (ha : ∀ c, 4 ≤ c → c ≤ 21 → u.2.2.1 c = s.2.2.1 c) (hr : ∀ r, 1 ≤ r → r ≤ 20 → u.1 r = s.1 r) (hl : u.2.1 = s.2.1) : zCv u v := by
  obtain ⟨h1, h2, h3⟩ := h
  refine ⟨zCw_of h1 (fun r a b => hr r (by omega) (by omega)) (fun a h1 h2 => ha a (by omega) (by omega)) hl, zCz_of h2 (fun r hr2 => hr r (by omega) (by omega)), fun hw => ?_⟩
  obtain ⟨g1, g2, g3, g4, g5, g6, g7⟩ := h3 hw
  unfold zCf
  rw [hr 13 (by omega) (by omega), hr 14 (by omega) (by omega), hr 15 (by omega) (by omega), hr 16 (by omega) (by omega), hr 17 (by omega) (by omega)]
  refine ⟨g1, g2, g3, g4, g5, zCk_of g6 (fun a h1 h2 => ha a (by omega) (by omega)), fun k hk => ?_⟩
  rw [ha 19 (by omega) (by omega)]; exact g7 k hk
theorem zCv_sF {s : px_S} {v : ZVs} {c : Nat} {g : Nat → Int32} (h : zCv s v) (hc : 22 ≤ c) : zCv (sF s c g) v := zCv_of h (fun a _ _ => sF_arr_ne (by omega)) (fun _ _ _ => rfl) rfl
theorem zCv_sR {s : px_S} {v : ZVs} {k : Nat} {x : Int32} (h : zCv s v) (hk : 20 < k) : zCv (sR s k x) v := zCv_of h (fun _ _ _ => rfl) (fun r _ _ => sR_ne (by omega)) rfl
theorem c_Tat (K : px_K) (N n sets : Nat) (hK : zKc K n sets) (t : px_W) (s : px_S) (b w : Nat) (hb : b < 106) (hw : w < 16) : f_T_at_22 K N (iN b) (iN w) s t = some (.inl (some (.int (s.2.2.1 23 (16 * b + w)))), s, t) := by
  have k23 : K.2.2 23 = 1696 := hK.2.2.2.2.2.2.2.2.2.2.2.2.2.2.2.1
  unfold f_T_at_22
  rw [if_neg (iN_neg (by omega)), if_neg (by show ¬ iN 106 ≤ iN b; rw [iN_le (by omega) (by omega)]; omega), if_neg (iN_neg (by omega)), if_neg (by show ¬ iN 16 ≤ iN w; rw [iN_le (by omega) (by omega)]; omega), iN_16, iN_add, iN_nat (by omega), px_gd_of (by rw [k23]; exact iN_in (by omega) (by omega))]
theorem c_esc (K : px_K) (N : Nat) (x : Int32) (s : px_S) (t : px_W) : f_T_looksLikeJournal_22 K N x s t = some (.inl (some (.int (if zE1 x = 0 then 0 else 1))), s, t) := by
  unfold f_T_looksLikeJournal_22 zE1
  by_cases h1 : x = 1
  · rw [if_pos h1, if_pos h1, px_gd_of (Or.inr rfl)]; rfl
  · rw [if_neg h1, if_neg h1]
    by_cases h2 : x = 2
    · rw [if_neg (fun hx => hx h2), if_pos h2, px_gd_of (Or.inr rfl)]; rfl
    · rw [if_pos h2, if_neg h2, px_gd_of (Or.inl rfl)]; rfl
/-! nothing is changed, nothing kept -/
theorem c_none25 (K : px_K) (N n0 sets : Nat) (hK : zKc K n0 sets) (t : px_W) (s : px_S) : ∀ (d m n : Nat), m + d = 106 → d < n → l_T_changeNone_22_2 K N n (iN m) (sF s 25 (fun j => if j < m then 0 else s.2.2.1 25 j)) t = some (.inl (12, [], sF s 25 (fun j => if j < 106 then 0 else s.2.2.1 25 j), t)) := by
  have k25 : K.2.2 25 = 106 := hK.2.2.2.2.2.2.2.2.2.2.2.2.2.2.2.2.2.1
  intro d
  induction d with
  | zero =>
    intro m n hm hn
    obtain ⟨n, rfl⟩ : ∃ n', n = n' + 1 := ⟨n - 1, by omega⟩
    have hm : m = 106 := by omega
    subst hm
    unfold l_T_changeNone_22_2
    rw [if_pos (by decide)]
  | succ d ih =>
    intro m n hm hn
    obtain ⟨n, rfl⟩ : ∃ n', n = n' + 1 := ⟨n - 1, by omega⟩
    have hst := ih (m + 1) n (by omega) (by omega)
    unfold l_T_changeNone_22_2
    rw [if_neg (by show ¬ iN 106 ≤ iN m; rw [iN_le (by omega) (by omega)]; omega), px_gd_of (by rw [k25]; exact iN_in (by omega) (by omega)), iN_nat (a := m) (by omega), sA_sF, iL1, iN_add]
    have eg : upd (fun j => if j < m then 0 else s.2.2.1 25 j) m 0 = fun j => if j < m + 1 then 0 else s.2.2.1 25 j := by
      funext j
      by_cases hj : j = m
      · rw [hj, upd_self, if_pos (by omega)]
      · rw [upd_ne hj]
        by_cases hj2 : j < m
        · rw [if_pos hj2, if_pos (by omega)]
        · rw [if_neg hj2, if_neg (by omega)]
    rw [eg]
    exact hst
theorem c_changeNone (K : px_K) (N n sets : Nat) (hN : 2000 ≤ N) (hK : zKc K n sets) (t : px_W) (s : px_S) : ∃ g, f_T_changeNone_22 K N s t = some (.inl none, sR (sF s 25 g) 21 0, t) ∧ ∀ b, b < 106 → g b = 0 := by
  have h := c_none25 K N n sets hK t s 106 0 N (by omega) (by omega)
  have e0 : (fun j => if j < 0 then 0 else s.2.2.1 25 j) = s.2.2.1 25 := by
    funext j; exact if_neg (Nat.not_lt_zero _)
  rw [e0, sF_triv] at h
  have h : l_T_changeNone_22_2 K N N (0 : Int32) s t = _ := h
  refine ⟨fun j => if j < 106 then 0 else s.2.2.1 25 j, ?_, fun b hb => if_pos hb⟩
  unfold f_T_changeNone_22
  rw [h]; rfl
theorem c_none26 (K : px_K) (N n0 sets : Nat) (hK : zKc K n0 sets) (t : px_W) (s : px_S) : ∀ (d m n : Nat), m + d = 106 → d < n → l_T_keepNone_22_2 K N n (iN m) (sF s 26 (fun j => if j < m then 0 else s.2.2.1 26 j)) t = some (.inl (12, [], sF s 26 (fun j => if j < 106 then 0 else s.2.2.1 26 j), t)) := by
  have k26 : K.2.2 26 = 106 := hK.2.2.2.2.2.2.2.2.2.2.2.2.2.2.2.2.2.2.1
  intro d
  induction d with
  | zero =>
    intro m n hm hn
    obtain ⟨n, rfl⟩ : ∃ n', n = n' + 1 := ⟨n - 1, by omega⟩
    have hm : m = 106 := by omega
    subst hm
    unfold l_T_keepNone_22_2
    rw [if_pos (by decide)]
  | succ d ih =>
    intro m n hm hn
    obtain ⟨n, rfl⟩ : ∃ n', n = n' + 1 := ⟨n - 1, by omega⟩
    have hst := ih (m + 1) n (by omega) (by omega)
    unfold l_T_keepNone_22_2
    rw [if_neg (by show ¬ iN 106 ≤ iN m; rw [iN_le (by omega) (by omega)]; omega), px_gd_of (by rw [k26]; exact iN_in (by omega) (by omega)), iN_nat (a := m) (by omega), sA_sF, iL1, iN_add]
    have eg : upd (fun j => if j < m then 0 else s.2.2.1 26 j) m 0 = fun j => if j < m + 1 then 0 else s.2.2.1 26 j := by
      funext j
      by_cases hj : j = m
      · rw [hj, upd_self, if_pos (by omega)]
      · rw [upd_ne hj]
        by_cases hj2 : j < m
        · rw [if_pos hj2, if_pos (by omega)]
        · rw [if_neg hj2, if_neg (by omega)]
    rw [eg]
    exact hst
theorem c_keepNone (K : px_K) (N n sets : Nat) (hN : 2000 ≤ N) (hK : zKc K n sets) (t : px_W) (s : px_S) : ∃ g, f_T_keepNone_22 K N s t = some (.inl none, sR (sR (sF s 26 g) 22 0) 24 0, t) ∧ ∀ b, b < 106 → g b = 0 := by
  have h := c_none26 K N n sets hK t s 106 0 N (by omega) (by omega)
  have e0 : (fun j => if j < 0 then 0 else s.2.2.1 26 j) = s.2.2.1 26 := by
    funext j; exact if_neg (Nat.not_lt_zero _)
  rw [e0, sF_triv] at h
  have h : l_T_keepNone_22_2 K N N (0 : Int32) s t = _ := h
  refine ⟨fun j => if j < 106 then 0 else s.2.2.1 26 j, ?_, fun b hb => if_pos hb⟩
  unfold f_T_keepNone_22
  rw [h]; rfl
/-! coming home -/
theorem c_bh {P : Nat → ZSt → Prop} (hP : ∀ m m' V, m ≤ m' → P m V → P m' V) (K : px_K) (N n sets : Nat) (hN : 2000 ≤ N) (hK : zKc K n sets) (t : px_W) (kt : Nat → Bool) (kp : ZSt) : ∀ (d i f : Nat) (s : px_S) (v : ZVs), i + d = 106 → d < f → v.n = n → v.sets = sets → ZSz v.sets v.ways v.eps → zCv s v → (∀ b, b < 106 → s.2.2.1 26 b = bN (kt b)) → (∀ b w, b < 106 → w < 16 → kt b = true → s.2.2.1 24 (16 * b + w) = kp b w) → v.p.up = true → zSq P ((zFrom kt i).map fun b => (b, kp b)) v → v.p.na + 7276 * (106 - i) + 30000 < 2147483648 → wp (l_T_bringHome_22_6 K N f (iN i) s t) (zOl n 25 [] t s (ZVs.wrAll ((zFrom kt i).map fun b => (b, kp b)) v).p (fun u => zCv u (ZVs.wrAll ((zFrom kt i).map fun b => (b, kp b)) v) ∧ zHv s u)) := by
  have k26 : K.2.2 26 = 106 := hK.2.2.2.2.2.2.2.2.2.2.2.2.2.2.2.2.2.2.1
  have k24 : K.2.2 24 = 1696 := hK.2.2.2.2.2.2.2.2.2.2.2.2.2.2.2.2.1
  have i106 : (106 : Int32) = iN 106 := rfl
  intro d
  induction d with
  | zero =>
    intro i f s v hi hf hn hsets hz h h26 h24 hu hq hna
    obtain ⟨f, rfl⟩ : ∃ f', f = f' + 1 := ⟨f - 1, by omega⟩
    have hi : i = 106 := by omega
    subst hi
    unfold l_T_bringHome_22_6
    exact wp_if (by decide) (wp_rOl hu ⟨h, zHv_refl s⟩)
  | succ d ih =>
    intro i f s v hi hf hn hsets hz h h26 h24 hu hq hna
    obtain ⟨f, rfl⟩ : ∃ f', f = f' + 1 := ⟨f - 1, by omega⟩
    have e3 : iN i + (1 : Int32) = iN (i + 1) := by rw [iL1, iN_add]
    unfold l_T_bringHome_22_6
    rw [e3, iN_16, iN_nat (a := i) (by omega), h26 i (by omega)]
    refine wp_ifn (by rw [i106, iN_le (by omega) (by omega)]; omega) (wp_gd (by rw [k26]; exact iN_in (by omega) (by omega)) ?_)
    rw [zFrom_succ kt (show i < 106 by omega)] at hq ⊢
    cases hk : kt i with
    | false =>
      rw [hk] at hq
      rw [if_neg (c := false = true) Bool.noConfusion] at hq ⊢
      exact wp_if rfl (ih (i + 1) f s v (by omega) (by omega) hn hsets hz h h26 h24 hu hq (by omega))
    | true =>
      rw [hk] at hq
      rw [if_pos (c := true = true) rfl, List.map_cons] at hq ⊢
      obtain ⟨q1, q2, q3, q4⟩ := hq
      refine wp_ifn (by decide) ?_
      have hfw := zfr_wrv v i (kp i) hz
      have hst := c_store_24 hP K N n sets hN hK t i (16 * i) (by omega) (kp i) (by rw [k24]; omega) s v hn hsets h hu q1 (by omega) (fun w hw => h24 i w (by omega) hw hk)
      obtain ⟨w, hw⟩ : ∃ w, w = v.wrv i (kp i) := ⟨_, rfl⟩
      have ew : ZVs.wrAll ((i, kp i) :: (zFrom kt (i + 1)).map fun b => (b, kp b)) v = ZVs.wrAll ((zFrom kt (i + 1)).map fun b => (b, kp b)) w := by rw [hw]; rfl
      rw [ew]
      have q4 : zSq P ((zFrom kt (i + 1)).map fun b => (b, kp b)) (v.wrv i (kp i)) := q4
      rw [← hw] at hst hfw q4
      have hwz := hfw.sz hz
      have hfr := zfr_wrAll ((zFrom kt (i + 1)).map fun b => (b, kp b)) w hwz
      have hn2 := hfw.n2
      refine wp_cvl hst (zHx_refl s) hfr.dn (fun u hu2 hR => ?_)
      refine wp_Ol (ih (i + 1) f u w (by omega) (by omega) ((zFr_n hfw).trans hn) (hfw.s.trans hsets) hwz hR.1 (by rw [hR.2.1 26 (by omega)]; exact h26) (by rw [hR.2.1 24 (by omega)]; exact h24) hu2 q4 (by omega)) (zHv_x hR.2) (fun x _ hx => ⟨hx.1, zHv_trans hR.2 hx.2⟩)
/-- what coming home leaves alone -/
def zHh (s u : px_S) : Prop := (∀ c, c = 22 ∨ c = 23 ∨ c = 24 ∨ c = 25 ∨ 28 ≤ c → u.2.2.1 c = s.2.2.1 c) ∧ (∀ r, (r = 0 ∨ r = 1 ∨ r = 6 ∨ r = 11 ∨ r = 12 ∨ r = 18 ∨ r = 19 ∨ r = 20 ∨ r = 21 ∨ r = 23 ∨ 24 < r) → u.1 r = s.1 r) ∧ (∀ r, 0 < r → u.2.1 r = s.2.1 r) ∧ u.2.2.2 = s.2.2.2
theorem zHh_refl (s : px_S) : zHh s s := ⟨fun _ _ => rfl, fun _ _ => rfl, fun _ _ => rfl, rfl⟩
theorem zHh_trans {s u v : px_S} (h1 : zHh s u) (h2 : zHh u v) : zHh s v := ⟨fun c hc => (h2.1 c hc).trans (h1.1 c hc), fun r hr => (h2.2.1 r hr).trans (h1.2.1 r hr), fun r hr => (h2.2.2.1 r hr).trans (h1.2.2.1 r hr), h2.2.2.2.trans h1.2.2.2⟩
theorem zHv_h {s u : px_S} (h : zHv s u) : zHh s u := ⟨fun c hc => h.1 c (by omega), fun r hr => h.2.1 r (by omega), h.2.2.1, h.2.2.2⟩
theorem zHh_t {s u : px_S} (h : zHh s u) : zHt s u := ⟨fun c hc => h.1 c (by omega), fun r hr => h.2.1 r (by omega), h.2.2.1, h.2.2.2⟩
theorem zHh_27 {s : px_S} {g : Nat → Int32} : zHh s (sF s 27 g) := ⟨fun c hc => sF_arr_ne (by omega), fun _ _ => rfl, fun _ _ => rfl, rfl⟩
theorem zHh_26 {s : px_S} {g : Nat → Int32} {x y : Int32} : zHh s (sR (sR (sF s 26 g) 22 x) 24 y) := ⟨fun c hc => sF_arr_ne (by omega), fun r hr => by rw [sR_ne (by omega), sR_ne (by omega)]; rfl, fun _ _ => rfl, rfl⟩
theorem zCl_no : zCl (fun _ => false) = [] := by
  unfold zCl
  exact List.filter_eq_nil_iff.mpr (fun _ _ => Bool.noConfusion)
theorem c_home {W : ZSt → Prop} (hW : ∀ T T', (∀ b, 29 ≤ b → T b = T' b) → W T → W T') (K : px_K) (N n sets : Nat) (hN : 2000 ≤ N) (hK : zKc K n sets) (t : px_W) (s : px_S) (T : ZTs) (hn : T.tv.n = n) (hsets : T.tv.sets = sets) (h : zCv s T.tv) (h26 : ∀ b, b < 106 → s.2.2.1 26 b = bN (T.kt b)) (h24 : ∀ b w, b < 106 → w < 16 → T.kt b = true → s.2.2.1 24 (16 * b + w) = T.kp b w) (h22 : s.1 22 = iN (zCl T.kt).length) (h23 : s.1 23 = iN T.sq) {jj : Nat} (hu : T.tv.p.up = true) (ht : ZTi W (T.s_jr jj)) (hna : T.tv.p.na + 1000000 < 2147483648) : wp (f_T_bringHome_22 K N s t) (zO n none t s T.home.tv.p (fun u => zCv u T.home.tv ∧ (∀ b, b < 106 → u.2.2.1 26 b = bN (T.home.kt b)) ∧ u.1 22 = iN (zCl T.home.kt).length ∧ (T.home.jr = T.jr ∧ u.1 24 = s.1 24 ∨ T.home.jr = 1 ∧ u.1 24 = 0) ∧ zHh s u)) := by
  have hP := zGood_mono W
  have k27 : K.2.2 27 = 16 := hK.2.2.2.2.2.2.2.2.2.2.2.2.2.2.2.2.2.2.2.1
  have hlen : (zCl T.kt).length ≤ 106 := zCnt_le _ _
  have hz : ZSz T.tv.sets T.tv.ways T.tv.eps := ht.iv.sz
  unfold f_T_bringHome_22
  rw [h22]
  by_cases hc : zCl T.kt = []
  · have e : T.home = T := by unfold ZTs.home; rw [if_pos hc]
    rw [e, hc]
    exact wp_ifn (fun hx => hx rfl) (wp_rO hu ⟨h, h26, by rw [h22, hc], Or.inl ⟨rfl, rfl⟩, zHh_refl s⟩)
  have hpos : 0 < (zCl T.kt).length := List.length_pos_iff.mpr hc
  refine wp_if (by rw [iL0, iN_eq (by omega) (by omega)]; omega) ?_
  have e : T.home = ZTs.mk ((((ZVs.wrAll ((zCl T.kt).map fun b => (b, T.kp b)) T.tv).flv).wrv 0 (zThree T.sq 0 0)).flv) T.wd T.kp T.ch (fun _ => false) T.sq 1 := by unfold ZTs.home; rw [if_neg hc]
  rw [e]
  show wp _ (zO n none t s (((ZVs.wrAll ((zCl T.kt).map fun b => (b, T.kp b)) T.tv).flv).wrv 0 (zThree T.sq 0 0)).flv.p (fun u => zCv u (((ZVs.wrAll ((zCl T.kt).map fun b => (b, T.kp b)) T.tv).flv).wrv 0 (zThree T.sq 0 0)).flv ∧ (∀ b, b < 106 → u.2.2.1 26 b = bN false) ∧ u.1 22 = iN (zCl (fun _ => false)).length ∧ (1 = T.jr ∧ u.1 24 = s.1 24 ∨ 1 = 1 ∧ u.1 24 = 0) ∧ zHh s u))
  obtain ⟨l, hl⟩ : ∃ l, l = (zCl T.kt).map fun b => (b, T.kp b) := ⟨_, rfl⟩
  rw [← hl]
  have hll : l.length = (zCl T.kt).length := by rw [hl, List.length_map]
  -- the writes are safe
  have safe : zSq (zGood W) l T.tv ∧ zAw (zGood W) (ZVs.wrAll l T.tv) ∧ zAw (zGood W) ((ZVs.wrAll l T.tv).flv) ∧ zAw (zGood W) (((ZVs.wrAll l T.tv).flv).wrv 0 (zThree T.sq 0 0)) := by
    obtain ⟨Q1, q1, q2, q3, q4⟩ : ∃ Q1 : ZSt → Prop, Q1 T.tv.cur ∧ (∀ e ∈ (zCl T.kt).map fun b => (b, T.kp b), e.1 < 106 ∧ ∀ V, Q1 V → Q1 (zu V e.1 e.2)) ∧ (∀ V, Q1 V → zGood W (T.tv.p.na + 1) V) ∧ zGood W (T.tv.p.na + 2) (zu (zov T.tv.cur ((zCl T.kt).map fun b => (b, T.kp b))) 0 (zThree T.sq 0 0)) := ht.homeQ hW hc
    rw [← hl] at q2 q4
    have hiv0 : ZIv (zGood W) (fun V => V = T.tv.cur) T.tv := ht.iv
    have hiv : ZIv (zGood W) Q1 T.tv := hiv0.re (fun V hV => by rw [hV]; exact q1) q3
    obtain ⟨s1, s2, s3⟩ := ZIv.three hP hiv0 q1 q2 q3 (by omega) (by omega) q4 (by omega)
    exact ⟨zSq_iv hP l T.tv (Or.inl ⟨hu, hiv⟩) hz q2 (by omega), zAw_iv (s1.imp (fun _ q => q.1)), zAw_iv (s2.imp (fun _ q => q.1)), zAw_iv (s3.imp (fun _ q => q.1))⟩
  obtain ⟨f1, f2, f3, f4⟩ := safe
  have hw1 := zfr_wrAll l T.tv hz
  have z1 := hw1.sz hz
  have hw2 := zfr_flv _ z1
  have z2 := hw2.sz z1
  have hw3 := zfr_wrv _ 0 (zThree T.sq 0 0) z2
  have z3 := hw3.sz z2
  have hw4 := zfr_flv _ z3
  have b1 := c_bh hP K N n sets hN hK t T.kt T.kp 106 0 N s T.tv (by omega) (by omega) hn hsets hz h h26 h24 hu (by rw [zFrom_0, ← hl]; exact f1) (by omega)
  rw [zFrom_0, ← hl] at b1
  have b1 : wp (l_T_bringHome_22_6 K N N (0 : Int32) s t) _ := b1
  obtain ⟨v1, hv1⟩ : ∃ v1, v1 = ZVs.wrAll l T.tv := ⟨_, rfl⟩
  rw [← hv1] at b1 f2 f3 f4 hw1 z1 hw2 z2 hw3 z3 hw4
  rw [← hv1]
  obtain ⟨v2, hv2⟩ : ∃ v2, v2 = v1.flv := ⟨_, rfl⟩
  rw [← hv2] at f3 f4 hw2 z2 hw3 z3 hw4
  rw [← hv2]
  obtain ⟨v3, hv3⟩ : ∃ v3, v3 = v2.wrv 0 (zThree T.sq 0 0) := ⟨_, rfl⟩
  rw [← hv3] at f4 hw3 z3 hw4
  rw [← hv3]
  have N1 := hw1.n2
  have N2 := hw2.n2
  have N3 := hw3.n2
  refine wp_cl b1 (zHx_refl s) (hw2.trans (hw3.trans hw4)).dn (fun u1 up1 hu1 => wp_if rfl (wp_v0 ?_))
  have n1 : v1.n = n := (zFr_n hw1).trans hn
  have e1s : v1.sets = sets := hw1.s.trans hsets
  have fl1 := c_flushAll hP K N n sets hN hK t u1 v1 n1 hu1.1 up1 f2 (by omega)
  rw [← hv2] at fl1
  refine wp_cv fl1 (zHv_x hu1.2) (hw3.trans hw4).dn (fun u2 up2 hu2 => ?_)
  have hh2 : zHh s u2 := zHh_trans (zHv_h hu1.2) (zHv_h hu2.2)
  refine wp_bv (c_fill_27 K N hN t 0 u2 16 k27 (by omega)) ?_
  obtain ⟨g, hg⟩ : ∃ g : Nat → Int32, g = fun j => if j < 16 then (0 : Int32) else u2.2.2.1 27 j := ⟨_, rfl⟩
  rw [← hg, k27]
  have n0 : (0 : Int32).toNatClampNeg = 0 := rfl
  refine wp_gd (iN_in (a := 0) (n := 16) (by omega) (by omega)) (wp_let ?_)
  rw [sA_sF, n0, show (sF u2 27 g).1 23 = iN T.sq by show u2.1 23 = _; rw [hh2.2.1 23 (by omega)]; exact h23]
  have n2 : v2.n = n := (zFr_n hw2).trans n1
  have e2s : v2.sets = sets := hw2.s.trans e1s
  have w3 := c_store_27 hP K N n sets hN hK t 0 0 (by omega) (zThree T.sq 0 0) (by rw [k27]; omega) (sF u2 27 (upd g 0 (iN T.sq))) v2 n2 e2s (zCv_sF hu2.1 (by omega)) up2 f3 (by omega) (fun w hw => by
    rw [sF_arr, Nat.zero_add]
    unfold zThree
    by_cases h0 : w = 0
    · rw [h0, upd_self, if_pos rfl]
    · rw [upd_ne h0, if_neg h0, hg]
      show (if w < 16 then (0 : Int32) else _) = _
      rw [if_pos hw]
      by_cases h1 : w = 1
      · rw [if_pos h1]; rfl
      · rw [if_neg h1]
        by_cases h2 : w = 2
        · rw [if_pos h2]; rfl
        · rw [if_neg h2])
  rw [← hv3] at w3
  have w3 : wp (f_V_store_13_27 K N (0 : Int32) (0 : Int32) (sF u2 27 (upd g 0 (iN T.sq))) t) _ := w3
  have hh3 : zHh s (sF u2 27 (upd g 0 (iN T.sq))) := zHh_trans hh2 zHh_27
  refine wp_cv w3 (zHt_x (zHh_t hh3)) hw4.dn (fun u3 up3 hu3 => ?_)
  have hh3' : zHh s u3 := zHh_trans hh3 (zHv_h hu3.2)
  have n3 : v3.n = n := (zFr_n hw3).trans n2
  refine wp_cv (c_flushAll hP K N n sets hN hK t u3 v3 n3 hu3.1 up3 f4 (by omega)) (zHt_x (zHh_t hh3')) (fun _ => rfl) (fun u4 up4 hu4 => ?_)
  obtain ⟨g4, k1, k2⟩ := c_keepNone K N n sets hN hK t u4
  refine wp_bv k1 (wp_rO up4 ⟨?_, ?_, ?_, Or.inr ⟨rfl, sR_self _ _ _⟩, zHh_trans (zHh_trans hh3' (zHv_h hu4.2)) zHh_26⟩)
  · exact zCv_sR (zCv_sR (zCv_sF hu4.1 (by omega)) (by omega)) (by omega)
  · intro b hb
    show (sF u4 26 g4).2.2.1 26 b = _
    rw [sF_arr, k2 b hb]; rfl
  · rw [sR_ne (by omega), sR_self, zCl_no]; rfl

/-! THE CLASS: a commit -/
theorem iN_or (a b : Nat) : iN a ||| iN b = iN (a ||| b) := by
  apply Int32.toBitVec.inj
  show BitVec.ofNat 32 a ||| BitVec.ofNat 32 b = BitVec.ofNat 32 (a ||| b)
  rw [BitVec.ofNat_or]
theorem zE1_le (x : Int32) : zE1 x ≤ 2 := by
  unfold zE1; split
  · omega
  · split <;> omega
theorem c_or {a j e : Nat} (ha : a < 4 ^ j) : iN a ||| iN (e * 4 ^ j) = iN (a + e * 4 ^ j) := by
  rw [iN_or]
  congr 1
  have h2 : (4 : Nat) ^ j = 2 ^ (2 * j) := by rw [Nat.pow_mul]
  rw [h2] at ha ⊢
  have := Nat.two_pow_add_eq_or_of_lt ha e
  rw [Nat.mul_comm e, Nat.or_comm, ← this, Nat.add_comm]
theorem c_esc_word {x : Int32} (h : zE1 x ≠ 0) : (x = 1 ∧ zE1 x = 1) ∨ (x = 2 ∧ zE1 x = 2) := by
  unfold zE1 at h ⊢
  by_cases c1 : x = 1
  · left; rw [if_pos c1]; exact ⟨c1, rfl⟩
  · by_cases c2 : x = 2
    · right; rw [if_neg c1, if_pos c2]; exact ⟨c2, rfl⟩
    · rw [if_neg c1, if_neg c2] at h; exact absurd rfl h
theorem c_rowLoop (K : px_K) (N n sets : Nat) (hN : 2000 ≤ N) (hK : zKc K n sets) (t : px_W) (T : ZTs) (n0 : Nat) (h12 : (zCl T.ch).length ≤ 12) (hb29 : ∀ b, T.ch b = true → 29 ≤ b) (s : px_S) (hj : zCj s T) : ∀ (d i f : Nat) (g : Nat → Int32), i + d = 106 → d < f → zHr T.sq n0 ((List.range i).filter T.ch) T.wd g → ∃ g', l_T_setCommitRow_22_24 K N f (iN ((List.range i).filter T.ch).length) (iN i) (sF s 27 g) t = some (.inl (68, [], sF s 27 g', t)) ∧ zHr T.sq n0 (zCl T.ch) T.wd g' := by
  have k27 : K.2.2 27 = 16 := hK.2.2.2.2.2.2.2.2.2.2.2.2.2.2.2.2.2.2.2.1
  have k25 : K.2.2 25 = 106 := hK.2.2.2.2.2.2.2.2.2.2.2.2.2.2.2.2.2.1
  have i106 : (106 : Int32) = iN 106 := rfl
  intro d
  induction d with
  | zero =>
    intro i f g hi hf hh
    obtain ⟨f, rfl⟩ : ∃ f', f = f' + 1 := ⟨f - 1, by omega⟩
    have hi : i = 106 := by omega
    subst hi
    refine ⟨g, ?_, hh⟩
    unfold l_T_setCommitRow_22_24
    rw [if_pos (by decide)]
  | succ d ih =>
    intro i f g hi hf hh
    obtain ⟨f, rfl⟩ : ∃ f', f = f' + 1 := ⟨f - 1, by omega⟩
    have e3 : iN i + (1 : Int32) = iN (i + 1) := by rw [iL1, iN_add]
    have hrs : (List.range (i + 1)).filter T.ch = (List.range i).filter T.ch ++ (if T.ch i = true then [i] else []) := by
      rw [List.range_succ, List.filter_append]
      congr 1
      cases h : T.ch i
      · rw [List.filter_cons_of_neg (by rw [h]; exact Bool.noConfusion)]; rfl
      · rw [List.filter_cons_of_pos h]; rfl
    have go : wp (l_T_setCommitRow_22_24 K N (f + 1) (iN ((List.range i).filter T.ch).length) (iN i) (sF s 27 g) t) (fun z => ∃ g', z = .inl (68, [], sF s 27 g', t) ∧ zHr T.sq n0 (zCl T.ch) T.wd g') := by
      unfold l_T_setCommitRow_22_24
      rw [e3, iN_nat (a := i) (by omega), show (sF s 27 g).2.2.1 25 = s.2.2.1 25 from sF_arr_ne (by omega), hj.2.2.1 i (by omega)]
      refine wp_ifn (by rw [i106, iN_le (by omega) (by omega)]; omega) (wp_gd (by rw [k25]; exact iN_in (by omega) (by omega)) ?_)
      cases hch : T.ch i with
      | false =>
        rw [hch, if_neg Bool.noConfusion, List.append_nil] at hrs
        obtain ⟨g', q1, q2⟩ := ih (i + 1) f g (by omega) (by omega) (by rw [hrs]; exact hh)
        rw [hrs] at q1
        exact wp_if rfl ⟨_, q1, g', rfl, q2⟩
      | true =>
        rw [hch, if_pos rfl] at hrs
        have hi29 := hb29 i hch
        obtain ⟨l, hl⟩ : ∃ l, l = (List.range i).filter T.ch := ⟨_, rfl⟩
        rw [← hl] at hh hrs ⊢
        have hlt : l.length < 12 := by
          have hsub : ((List.range (i + 1)).filter T.ch).length ≤ (zCl T.ch).length := by
            exact ((List.range_sublist.mpr (by omega)).filter T.ch).length_le
          rw [hrs, List.length_append] at hsub
          have : [i].length = 1 := rfl
          omega
        have hle : (l ++ [i]).length = l.length + 1 := by rw [List.length_append]; rfl
        have e3j : (3 : Int32) + iN l.length = iN (3 + l.length) := by show iN 3 + iN l.length = _; rw [iN_add]
        have ej : iN l.length + (1 : Int32) = iN (l.length + 1) := by rw [iL1, iN_add]
        have n15 : (15 : Int32).toNatClampNeg = 15 := rfl
        rw [e3j, ej, iN_nat (a := 3 + l.length) (by omega), n15, sA_sF]
        refine wp_ifn (by decide) (wp_ifn (by show ¬ iN 12 ≤ iN l.length; rw [iN_le (by omega) (by omega)]; omega) (wp_gd (by rw [k27]; exact iN_in (by omega) (by omega)) (wp_let ?_)))
        have hw0 : f_T_at_22 K N (iN i) (0 : Int32) (sF s 27 (upd g (3 + l.length) (iN i))) t = some (.inl (some (.int (T.wd i 0))), sF s 27 (upd g (3 + l.length) (iN i)), t) := by
          have := c_Tat K N n sets hK t (sF s 27 (upd g (3 + l.length) (iN i))) i 0 (by omega) (by omega)
          rw [sF_arr_ne (by omega), hj.1 i 0 hi29 (by omega) (by omega)] at this
          exact this
        refine wp_bi hw0 (wp_gd (by rw [k27]; exact iN_in (a := 15) (by omega) (by omega)) (wp_bi (c_esc K N _ _ t) (wp_gd (by rw [k27]; exact iN_in (a := 15) (by omega) (by omega)) (wp_let ?_))))
        rw [sF_arr, upd_ne (show 15 ≠ 3 + l.length by omega), hh.2.2.2.1, sA_sF]
        -- with the row told
        have fin : ∀ x : Int32, x = iN (zEn T.wd (l ++ [i])) → wp (l_T_setCommitRow_22_24 K N f (iN (l.length + 1)) (iN (i + 1)) (sF s 27 (upd (upd g (3 + l.length) (iN i)) 15 x)) t) (fun z => ∃ g', z = .inl (68, [], sF s 27 g', t) ∧ zHr T.sq n0 (zCl T.ch) T.wd g') := by
          intro x hx
          obtain ⟨g', q1, q2⟩ := ih (i + 1) f (upd (upd g (3 + l.length) (iN i)) 15 x) (by omega) (by omega) (by
            rw [hrs]
            obtain ⟨g0, g1, g2, g15, g3⟩ := hh
            refine ⟨by rw [upd_ne (by omega), upd_ne (by omega)]; exact g0, by rw [upd_ne (by omega), upd_ne (by omega)]; exact g1, by rw [upd_ne (by omega), upd_ne (by omega)]; exact g2, by rw [upd_self]; exact hx, fun w w1 w2 => ?_⟩
            rw [upd_ne (by omega)]
            by_cases hw : w = 3 + l.length
            · rw [hw, upd_self]
              have e : 3 + l.length - 3 = l.length := by omega
              rw [e, List.getElem?_append_right (Nat.le_refl _), Nat.sub_self]; rfl
            · rw [upd_ne hw, g3 w w1 w2]
              by_cases hlw : w - 3 < l.length
              · rw [List.getElem?_append_left hlw]
              · rw [List.getElem?_eq_none (by omega), List.getElem?_eq_none (by rw [hle]; omega)])
          rw [hrs, hle] at q1
          exact ⟨_, q1, g', rfl, q2⟩
        refine fin _ ?_
        rw [zEn_snoc]
        by_cases hz : zE1 (T.wd i 0) = 0
        · rw [if_pos hz, if_pos rfl, hz, Nat.zero_mul, Nat.add_zero]
          have : ((0 : Int32) <<< ((2 : Int32) * iN l.length &&& 31)) = 0 := by
            apply Int32.toBitVec.inj
            show (0#32).shiftLeft _ = 0#32
            exact BitVec.zero_shiftLeft _
          rw [this]
          apply Int32.toBitVec.inj
          show (iN (zEn T.wd l)).toBitVec ||| 0#32 = _
          exact BitVec.or_zero
        · rw [if_neg hz, if_neg (by decide)]
          obtain ⟨sh1, sh2⟩ := esc_sh l.length hlt
          have hlt4 := zEn_lt T.wd l
          rcases c_esc_word hz with ⟨c1, c2⟩ | ⟨c1, c2⟩
          · rw [c2, c1, sh1, c_or hlt4]
          · rw [c2, c1, sh2, c_or hlt4]
    obtain ⟨z, e1, g', e2, e4⟩ := go
    exact ⟨g', by rw [e1, e2], e4⟩
theorem c_setCommitRow (K : px_K) (N n sets : Nat) (hN : 2000 ≤ N) (hK : zKc K n sets) (t : px_W) (T : ZTs) (h12 : (zCl T.ch).length ≤ 12) (hb29 : ∀ b, T.ch b = true → 29 ≤ b) (s : px_S) (hj : zCj s T) : ∃ g, f_T_setCommitRow_22 K N (iN (zCl T.ch).length) s t = some (.inl none, sF s 27 g, t) ∧ ∀ w, w < 16 → g w = zHdr T.sq (zCl T.ch) T.wd w := by
  have k27 : K.2.2 27 = 16 := hK.2.2.2.2.2.2.2.2.2.2.2.2.2.2.2.2.2.2.2.1
  have hf := c_fill_27 K N hN t 0 s 16 k27 (by omega)
  obtain ⟨g, hg⟩ : ∃ g : Nat → Int32, g = fun j => if j < 16 then (0 : Int32) else s.2.2.1 27 j := ⟨_, rfl⟩
  rw [← hg] at hf
  obtain ⟨g', q1, q2⟩ := c_rowLoop K N n sets hN hK t T (zCl T.ch).length h12 hb29 s hj 106 0 N (upd (upd (upd g 0 1) 1 (iN T.sq)) 2 (iN (zCl T.ch).length)) (by omega) (by omega) (by
    have gz : ∀ w, w < 16 → g w = 0 := fun w hw => by rw [hg]; exact if_pos hw
    refine ⟨by rw [upd_ne (by omega), upd_ne (by omega), upd_self], by rw [upd_ne (by omega), upd_self], by rw [upd_self], by rw [upd_ne (by omega), upd_ne (by omega), upd_ne (by omega), gz 15 (by omega)]; rfl, fun w w1 w2 => ?_⟩
    rw [upd_ne (by omega), upd_ne (by omega), upd_ne (by omega), gz w (by omega)]; rfl)
  refine ⟨g', ?_, zHr_hdr q2⟩
  obtain ⟨r, e1, e2⟩ : wp (f_T_setCommitRow_22 K N (iN (zCl T.ch).length) s t) (fun r => r = (.inl none, sF s 27 g', t)) := by
    unfold f_T_setCommitRow_22
    refine wp_bv hf ?_
    rw [k27]
    refine wp_gd (iN_in (a := 0) (n := 16) (by omega) (by omega)) (wp_let (wp_gd (iN_in (a := 1) (n := 16) (by omega) (by omega)) (wp_let (wp_gd (iN_in (a := 2) (n := 16) (by omega) (by omega)) (wp_let ?_)))))
    rw [sA_sF, sA_sF, show (sF s 27 (upd g (0 : Int32).toNatClampNeg 1)).1 23 = iN T.sq from hj.2.2.2.2.2.2.1, sA_sF]
    exact wp_lp (show l_T_setCommitRow_22_24 K N N (0 : Int32) (0 : Int32) (sF s 27 (upd (upd (upd g 0 1) 1 (iN T.sq)) 2 (iN (zCl T.ch).length))) t = _ from q1) (wp_if rfl (wp_v0 (wp_some rfl)))
  rw [e1, e2]
/-- the frame of the commit's writes -/
def zHk (s u : px_S) : Prop := (∀ c, 22 ≤ c → c ≠ 27 → u.2.2.1 c = s.2.2.1 c) ∧ (∀ r, (r = 0 ∨ r = 1 ∨ r = 6 ∨ r = 11 ∨ r = 12 ∨ 17 < r) → u.1 r = s.1 r) ∧ (∀ r, 0 < r → u.2.1 r = s.2.1 r) ∧ u.2.2.2 = s.2.2.2
theorem zHk_refl (s : px_S) : zHk s s := ⟨fun _ _ _ => rfl, fun _ _ => rfl, fun _ _ => rfl, rfl⟩
theorem zHk_trans {s u v : px_S} (h1 : zHk s u) (h2 : zHk u v) : zHk s v := ⟨fun c a b => (h2.1 c a b).trans (h1.1 c a b), fun r hr => (h2.2.1 r hr).trans (h1.2.1 r hr), fun r hr => (h2.2.2.1 r hr).trans (h1.2.2.1 r hr), h2.2.2.2.trans h1.2.2.2⟩
theorem zHv_k {s u : px_S} (h : zHv s u) : zHk s u := ⟨fun c hc _ => h.1 c hc, h.2.1, h.2.2.1, h.2.2.2⟩
theorem zHk_27 {s : px_S} {g : Nat → Int32} : zHk s (sF s 27 g) := ⟨fun c _ h => sF_arr_ne h, fun _ _ => rfl, fun _ _ => rfl, rfl⟩
theorem zHk_t {s u : px_S} (h : zHk s u) : zHt s u := ⟨fun c hc => h.1 c (by omega) (by omega), fun r hr => h.2.1 r (by omega), h.2.2.1, h.2.2.2⟩
theorem zHk_x {s u : px_S} (h : zHk s u) : zHx s u := zHt_x (zHk_t h)
theorem zCj_k {s u : px_S} {T : ZTs} (h : zCj s T) (hv : zHk s u) : zCj u T := by
  obtain ⟨h1, h2, h3, h4, h5, h6, h7, h8⟩ := h
  unfold zCj
  rw [hv.1 23 (by omega) (by omega), hv.1 24 (by omega) (by omega), hv.1 25 (by omega) (by omega), hv.1 26 (by omega) (by omega), hv.2.1 21 (by omega), hv.2.1 22 (by omega), hv.2.1 23 (by omega), hv.2.1 24 (by omega)]
  exact ⟨h1, h2, h3, h4, h5, h6, h7, h8⟩
theorem c_cm2 {P : Nat → ZSt → Prop} (hP : ∀ m m' V, m ≤ m' → P m V → P m' V) (K : px_K) (N n sets : Nat) (hN : 2000 ≤ N) (hK : zKc K n sets) (t : px_W) (T : ZTs) (hb29 : ∀ b, T.ch b = true → 29 ≤ b) (u2 : Int32) : ∀ (d i f q : Nat) (s : px_S) (v : ZVs), i + d = 106 → d < f → v.n = n → v.sets = sets → ZSz v.sets v.ways v.eps → zCv s v → zCj s T → v.p.up = true → zSq P (zRowsF T.wd q (zFrom T.ch i)) v → v.p.na + 7276 * (106 - i) + 30000 < 2147483648 → q + (106 - i) < 1000 → wp (l_T_commitAbove_22_34 K N f u2 (iN q) (iN i) s t) (zOl n 79 [iN (q + (zFrom T.ch i).length)] t s (ZVs.wrAll (zRowsF T.wd q (zFrom T.ch i)) v).p (fun u => zCv u (ZVs.wrAll (zRowsF T.wd q (zFrom T.ch i)) v) ∧ zHk s u)) := by
  have k27 : K.2.2 27 = 16 := hK.2.2.2.2.2.2.2.2.2.2.2.2.2.2.2.2.2.2.2.1
  have k25 : K.2.2 25 = 106 := hK.2.2.2.2.2.2.2.2.2.2.2.2.2.2.2.2.2.1
  have k23 : K.2.2 23 = 1696 := hK.2.2.2.2.2.2.2.2.2.2.2.2.2.2.2.1
  have i106 : (106 : Int32) = iN 106 := rfl
  intro d
  induction d with
  | zero =>
    intro i f q s v hi hf hn hsets hz h hj hu hq hna hqb
    obtain ⟨f, rfl⟩ : ∃ f', f = f' + 1 := ⟨f - 1, by omega⟩
    have hi : i = 106 := by omega
    subst hi
    unfold l_T_commitAbove_22_34
    exact wp_if (by decide) (wp_rOl hu ⟨h, zHk_refl s⟩)
  | succ d ih =>
    intro i f q s v hi hf hn hsets hz h hj hu hq hna hqb
    obtain ⟨f, rfl⟩ : ∃ f', f = f' + 1 := ⟨f - 1, by omega⟩
    have e3 : iN i + (1 : Int32) = iN (i + 1) := by rw [iL1, iN_add]
    unfold l_T_commitAbove_22_34
    rw [e3, iN_nat (a := i) (by omega), hj.2.2.1 i (by omega)]
    refine wp_ifn (by rw [i106, iN_le (by omega) (by omega)]; omega) (wp_gd (by rw [k25]; exact iN_in (by omega) (by omega)) ?_)
    rw [zFrom_succ T.ch (show i < 106 by omega)] at hq ⊢
    cases hk : T.ch i with
    | false =>
      rw [hk] at hq
      rw [if_neg (c := false = true) Bool.noConfusion] at hq ⊢
      exact wp_if rfl (ih (i + 1) f q s v (by omega) (by omega) hn hsets hz h hj hu hq (by omega) (by omega))
    | true =>
      rw [hk] at hq
      rw [if_pos (c := true = true) rfl] at hq ⊢
      have hi29 := hb29 i hk
      obtain ⟨q1, q2, q3, q4⟩ := hq
      have q3 : q + 1 < 106 := q3
      have n0 : (0 : Int32).toNatClampNeg = 0 := rfl
      rw [iN_16, iN_nat (a := 16 * i) (by omega), n0, n16]
      refine wp_ifn (by decide) (wp_gd ⟨iN_neg (by omega), by decide, by decide, by rw [k23]; omega, by rw [k27]; omega⟩ (wp_let (wp_gd (by rw [k27]; exact iN_in (a := 0) (by omega) (by omega)) ?_)))
      obtain ⟨g, hg⟩ : ∃ g, g = va_cpy (s.2.2.1 23) (s.2.2.1 27) (16 * i) 0 16 := ⟨_, rfl⟩
      rw [← hg, sF_arr]
      have hgw : ∀ w, w < 16 → g w = T.wd i w := by
        intro w hw
        have := va_cpy_in (f := s.2.2.1 23) (g := s.2.2.1 27) (a := 16 * i) (b := 0) hw
        rw [Nat.mul_zero, Nat.zero_add] at this
        rw [hg, this]
        exact hj.1 i w hi29 (by omega) hw
      rw [hgw 0 (by omega)]
      refine wp_bi (c_esc K N _ _ t) ?_
      have eq1 : iN q + (1 : Int32) = iN (q + 1) := by rw [iL1, iN_add]
      rw [eq1]
      have hfw := zfr_wrv v (q + 1) (zEsc (T.wd i)) hz
      -- with the row escaped
      have fin : ∀ x : Int32, x = zEsc (T.wd i) 0 → wp (α := px_LO) (px_bv (f_V_store_13_27 K N (iN (q + 1)) (0 : Int32) (sA (sF s 27 g) 27 0 x) t) (fun s18 t19 => (l_T_commitAbove_22_34 K N f u2 (iN (q + 1)) (iN (i + 1)) s18 t19)) (fun x22 s18 t19 => (some (.inr (.inr x22, s18, t19))))) (zOl n 79 [iN (q + (i :: zFrom T.ch (i + 1)).length)] t s (ZVs.wrAll (zRowsF T.wd q (i :: zFrom T.ch (i + 1))) v).p (fun u => zCv u (ZVs.wrAll (zRowsF T.wd q (i :: zFrom T.ch (i + 1))) v) ∧ zHk s u)) := by
        intro x hx
        rw [sA_sF]
        have hst := c_store_27 hP K N n sets hN hK t (q + 1) 0 q3 (zEsc (T.wd i)) (by rw [k27]; omega) (sF s 27 (upd g 0 x)) v hn hsets (zCv_sF h (by omega)) hu q1 (by omega) (fun w hw => by
          rw [sF_arr, Nat.zero_add]
          by_cases hw0 : w = 0
          · rw [hw0, upd_self]; exact hx
          · rw [upd_ne hw0, hgw w hw]
            unfold zEsc; rw [if_neg (fun hy => hw0 hy.1)])
        obtain ⟨w, hw⟩ : ∃ w, w = v.wrv (q + 1) (zEsc (T.wd i)) := ⟨_, rfl⟩
        have ew : ZVs.wrAll (zRowsF T.wd q (i :: zFrom T.ch (i + 1))) v = ZVs.wrAll (zRowsF T.wd (q + 1) (zFrom T.ch (i + 1))) w := by rw [hw]; rfl
        have q4 : zSq P (zRowsF T.wd (q + 1) (zFrom T.ch (i + 1))) (v.wrv (q + 1) (zEsc (T.wd i))) := q4
        rw [← hw] at hst hfw q4
        rw [ew, List.length_cons, show q + ((zFrom T.ch (i + 1)).length + 1) = q + 1 + (zFrom T.ch (i + 1)).length by omega]
        have hwz := hfw.sz hz
        have hfr := zfr_wrAll (zRowsF T.wd (q + 1) (zFrom T.ch (i + 1))) w hwz
        have hn2 := hfw.n2
        have hst : wp (f_V_store_13_27 K N (iN (q + 1)) (0 : Int32) (sF s 27 (upd g 0 x)) t) _ := hst
        refine wp_cvl hst (zHk_x zHk_27) hfr.dn (fun u hu2 hR => ?_)
        have hk1 : zHk s u := zHk_trans zHk_27 (zHv_k hR.2)
        exact wp_Ol (ih (i + 1) f (q + 1) u w (by omega) (by omega) ((zFr_n hfw).trans hn) (hfw.s.trans hsets) hwz hR.1 (zCj_k hj hk1) hu2 q4 (by omega) (by omega)) (zHk_x hk1) (fun x _ hx => ⟨hx.1, zHk_trans hk1 hx.2⟩)
      by_cases hze : zE1 (T.wd i 0) = 0
      · rw [if_pos hze]
        refine wp_if rfl (wp_gd ⟨by rw [k27]; exact iN_in (a := 0) (by omega) (by omega), by rw [k27]; exact iN_in (a := 0) (by omega) (by omega)⟩ (wp_let (fin _ ?_)))
        rw [sF_arr, hgw 0 (by omega)]
        unfold zEsc; rw [if_neg (fun hy => hy.2 hze)]
      · rw [if_neg hze]
        refine wp_ifn (by decide) (wp_gd (by rw [k27]; exact iN_in (a := 0) (by omega) (by omega)) (wp_let (fin _ ?_)))
        unfold zEsc; rw [if_pos ⟨rfl, hze⟩]

/-! THE CLASS: what is committed is kept -/
theorem zCl_put {f : Nat → Bool} {i : Nat} (hi : i < 106) (h : f i = false) : (zCl (zu f i true)).length = (zCl f).length + 1 := by
  have key : ∀ m, ((List.range m).filter (zu f i true)).length = ((List.range m).filter f).length + (if i < m then 1 else 0) := by
    intro m
    induction m with
    | zero => rfl
    | succ m ih =>
      rw [List.range_succ, List.filter_append, List.filter_append, List.length_append, List.length_append, ih]
      by_cases hmi : m = i
      · rw [hmi, List.filter_cons_of_pos (by exact zu_self f i true), List.filter_cons_of_neg (by rw [h]; exact Bool.noConfusion), if_neg (by omega), if_pos (by omega)]
        simp
      · have e : (List.filter (zu f i true) [m]) = List.filter f [m] := by
          refine List.filter_congr (fun x hx => ?_)
          have : x = m := by simpa using hx
          rw [this]; exact zu_ne f true hmi
        rw [e]
        by_cases hlt : i < m
        · rw [if_pos hlt, if_pos (by omega)]; omega
        · rw [if_neg hlt, if_neg (by omega)]; omega
  have := key 106
  rw [if_pos hi] at this
  exact this
theorem zu_same {f : Nat → Bool} {i : Nat} (h : f i = true) : zu f i true = f := by
  funext j; unfold zu
  by_cases hj : j = i
  · rw [if_pos hj, hj, h]
  · rw [if_neg hj]
theorem c_setKept (K : px_K) (N n sets : Nat) (hK : zKc K n sets) (t : px_W) (s : px_S) (kt : Nat → Bool) (b : Nat) (hb : b < 106) (h26 : ∀ b, b < 106 → s.2.2.1 26 b = bN (kt b)) (h22 : s.1 22 = iN (zCl kt).length) : ∃ u, f_T_setKept_22 K N (iN b) s t = some (.inl none, u, t) ∧ (∀ c, c < 106 → u.2.2.1 26 c = bN (zu kt b true c)) ∧ u.1 22 = iN (zCl (zu kt b true)).length ∧ (∀ c, c ≠ 26 → u.2.2.1 c = s.2.2.1 c) ∧ (∀ r, r ≠ 22 → u.1 r = s.1 r) ∧ u.2.1 = s.2.1 ∧ u.2.2.2 = s.2.2.2 := by
  have k26 : K.2.2 26 = 106 := hK.2.2.2.2.2.2.2.2.2.2.2.2.2.2.2.2.2.2.1
  unfold f_T_setKept_22
  rw [px_gd_of (by rw [k26]; exact iN_in (by omega) (by omega)), iN_nat (a := b) (by omega), h26 b hb]
  cases hk : kt b with
  | true =>
    rw [if_pos (by decide)]
    refine ⟨s, rfl, ?_, ?_, fun _ _ => rfl, fun _ _ => rfl, rfl, rfl⟩
    · rw [zu_same hk]; exact h26
    · rw [zu_same hk]; exact h22
  | false =>
    rw [if_neg (fun hx => hx rfl), px_gd_of (by rw [k26]; exact iN_in (by omega) (by omega))]
    refine ⟨sR (sA s 26 b 1) 22 ((sA s 26 b 1).1 22 + 1), rfl, ?_, ?_, fun c hc => sF_arr_ne hc, fun r hr => sR_ne hr, rfl, rfl⟩
    · intro c hc
      show (sF s 26 _).2.2.1 26 c = _
      rw [sF_arr]
      by_cases hcb : c = b
      · rw [hcb, upd_self, zu_self]; rfl
      · rw [upd_ne hcb, zu_ne _ _ hcb]; exact h26 c hc
    · rw [sR_self, zCl_put hb hk]
      show s.1 22 + iN 1 = _
      rw [h22, iN_add]
/-- what is kept, when the blocks below a number have been looked at -/
def zKb2 (T : ZTs) (i : Nat) : Nat → Bool := fun b => T.kt b || (T.ch b && decide (b < i))
theorem zKb2_skip {T : ZTs} {i : Nat} (h : T.ch i = false) : zKb2 T (i + 1) = zKb2 T i := by
  funext b
  unfold zKb2
  by_cases hb : b = i
  · rw [hb, h, Bool.false_and, Bool.false_and]
  · have : decide (b < i + 1) = decide (b < i) := by
      by_cases hlt : b < i
      · rw [decide_eq_true hlt, decide_eq_true (by omega)]
      · rw [decide_eq_false hlt, decide_eq_false (by omega)]
    rw [this]
theorem zKb2_step {T : ZTs} {i : Nat} (h : T.ch i = true) : zKb2 T (i + 1) = zu (zKb2 T i) i true := by
  funext b
  by_cases hb : b = i
  · rw [hb, zu_self]
    unfold zKb2
    rw [h, decide_eq_true (by omega), Bool.and_true, Bool.or_true]
  · rw [zu_ne _ _ hb]
    unfold zKb2
    have : decide (b < i + 1) = decide (b < i) := by
      by_cases hlt : b < i
      · rw [decide_eq_true hlt, decide_eq_true (by omega)]
      · rw [decide_eq_false hlt, decide_eq_false (by omega)]
    rw [this]
theorem c_keepLoop (K : px_K) (N n sets : Nat) (hK : zKc K n sets) (t : px_W) (T : ZTs) (hb29 : ∀ b, T.ch b = true → 29 ≤ b) : ∀ (d i f : Nat) (s : px_S), i + d = 106 → d < f → (∀ b w, 29 ≤ b → b < 106 → w < 16 → s.2.2.1 23 (16 * b + w) = T.wd b w) → (∀ b, b < 106 → s.2.2.1 25 b = bN (T.ch b)) → (∀ b w, b < 106 → w < 16 → zKb2 T i b = true → s.2.2.1 24 (16 * b + w) = (if (T.ch b && decide (b < i)) = true then T.wd b else T.kp b) w) → (∀ b, b < 106 → s.2.2.1 26 b = bN (zKb2 T i b)) → s.1 22 = iN (zCl (zKb2 T i)).length → ∃ u, l_T_keepChanged_22_2 K N f (iN i) s t = some (.inl (27, [], u, t)) ∧ (∀ b w, b < 106 → w < 16 → zKb2 T 106 b = true → u.2.2.1 24 (16 * b + w) = (if (T.ch b && decide (b < 106)) = true then T.wd b else T.kp b) w) ∧ (∀ b, b < 106 → u.2.2.1 26 b = bN (zKb2 T 106 b)) ∧ u.1 22 = iN (zCl (zKb2 T 106)).length ∧ (∀ c, c ≠ 24 → c ≠ 26 → u.2.2.1 c = s.2.2.1 c) ∧ (∀ r, r ≠ 22 → u.1 r = s.1 r) ∧ u.2.1 = s.2.1 ∧ u.2.2.2 = s.2.2.2 := by
  have k25 : K.2.2 25 = 106 := hK.2.2.2.2.2.2.2.2.2.2.2.2.2.2.2.2.2.1
  have k24 : K.2.2 24 = 1696 := hK.2.2.2.2.2.2.2.2.2.2.2.2.2.2.2.2.1
  have k23 : K.2.2 23 = 1696 := hK.2.2.2.2.2.2.2.2.2.2.2.2.2.2.2.1
  have i106 : (106 : Int32) = iN 106 := rfl
  intro d
  induction d with
  | zero =>
    intro i f s hi hf h23 h25 h24 h26 h22
    obtain ⟨f, rfl⟩ : ∃ f', f = f' + 1 := ⟨f - 1, by omega⟩
    have hi : i = 106 := by omega
    subst hi
    refine ⟨s, ?_, h24, h26, h22, fun _ _ _ => rfl, fun _ _ => rfl, rfl, rfl⟩
    unfold l_T_keepChanged_22_2
    rw [if_pos (by decide)]
  | succ d ih =>
    intro i f s hi hf h23 h25 h24 h26 h22
    obtain ⟨f, rfl⟩ : ∃ f', f = f' + 1 := ⟨f - 1, by omega⟩
    have e3 : iN i + (1 : Int32) = iN (i + 1) := by rw [iL1, iN_add]
    cases hk : T.ch i with
    | false =>
      have hskip := zKb2_skip hk
      have hdec : ∀ b, (T.ch b && decide (b < i + 1)) = (T.ch b && decide (b < i)) := by
        intro b
        by_cases hb : b = i
        · rw [hb, hk, Bool.false_and, Bool.false_and]
        · congr 1
          by_cases hlt : b < i
          · rw [decide_eq_true hlt, decide_eq_true (by omega)]
          · rw [decide_eq_false hlt, decide_eq_false (by omega)]
      obtain ⟨u, q1, q2⟩ := ih (i + 1) f s (by omega) (by omega) h23 h25 (by
        intro b w hb hw hx
        rw [hskip] at hx
        rw [hdec b]; exact h24 b w hb hw hx) (by rw [hskip]; exact h26) (by rw [hskip]; exact h22)
      refine ⟨u, ?_, q2⟩
      unfold l_T_keepChanged_22_2
      rw [if_neg (by rw [i106, iN_le (by omega) (by omega)]; omega), px_gd_of (by rw [k25]; exact iN_in (by omega) (by omega)), iN_nat (a := i) (by omega), h25 i (by omega), hk, if_pos (by rfl), e3]
      exact q1
    | true =>
      have hi29 := hb29 i hk
      have hstep := zKb2_step hk
      obtain ⟨g, hg⟩ : ∃ g, g = va_cpy (s.2.2.1 23) (s.2.2.1 24) (16 * i) (16 * i) 16 := ⟨_, rfl⟩
      obtain ⟨u1, a1, a2, a3, a4, a5, a6, a7⟩ := c_setKept K N n sets hK t (sF s 24 g) (zKb2 T i) i (by omega) (fun b hb => by rw [sF_arr_ne (by omega)]; exact h26 b hb) h22
      rw [← hstep] at a2 a3
      obtain ⟨u, q1, q2, q3, q4, q5, q6, q7, q8⟩ := ih (i + 1) f u1 (by omega) (by omega) (by
        rw [a4 23 (by omega), sF_arr_ne (by omega)]; exact h23) (by rw [a4 25 (by omega), sF_arr_ne (by omega)]; exact h25) (by
        intro b w hb hw hx
        rw [a4 24 (by omega), sF_arr, hg]
        by_cases hbi : b = i
        · rw [hbi, va_cpy_in hw, hk, decide_eq_true (show i < i + 1 by omega), Bool.and_true, if_pos rfl]
          exact h23 i w hi29 (by omega) hw
        · rw [va_cpy_out hw hbi]
          have hdec : decide (b < i + 1) = decide (b < i) := by
            by_cases hlt : b < i
            · rw [decide_eq_true hlt, decide_eq_true (by omega)]
            · rw [decide_eq_false hlt, decide_eq_false (by omega)]
          rw [hdec]
          rw [hstep, zu_ne _ _ hbi] at hx
          exact h24 b w hb hw hx) a2 a3
      refine ⟨u, ?_, q2, q3, q4, fun c h1 h2 => by rw [q5 c h1 h2, a4 c h2, sF_arr_ne h1], fun r hr => by rw [q6 r hr, a5 r hr]; rfl, by rw [q7, a6]; rfl, by rw [q8, a7]; rfl⟩
      unfold l_T_keepChanged_22_2
      rw [if_neg (by rw [i106, iN_le (by omega) (by omega)]; omega), px_gd_of (by rw [k25]; exact iN_in (by omega) (by omega)), iN_nat (a := i) (by omega), h25 i (by omega), hk, if_neg (by decide), e3, iN_16, iN_nat (a := 16 * i) (by omega), n16, px_gd_of ⟨iN_neg (by omega), iN_neg (by omega), by decide, by rw [k23]; omega, by rw [k24]; omega⟩, ← hg]
      show px_bv (f_T_setKept_22 K N (iN i) (sF s 24 g) t) _ _ = _
      rw [a1]
      exact q1
theorem c_keepChanged (K : px_K) (N n sets : Nat) (hN : 2000 ≤ N) (hK : zKc K n sets) (t : px_W) (T : ZTs) (hb29 : ∀ b, T.ch b = true → 29 ≤ b) (s : px_S) (h23 : ∀ b w, 29 ≤ b → b < 106 → w < 16 → s.2.2.1 23 (16 * b + w) = T.wd b w) (h25 : ∀ b, b < 106 → s.2.2.1 25 b = bN (T.ch b)) (h24 : ∀ b w, b < 106 → w < 16 → T.kt b = true → s.2.2.1 24 (16 * b + w) = T.kp b w) (h26 : ∀ b, b < 106 → s.2.2.1 26 b = bN (T.kt b)) (h22 : s.1 22 = iN (zCl T.kt).length) : ∃ u, f_T_keepChanged_22 K N s t = some (.inl none, u, t) ∧ (∀ b w, b < 106 → w < 16 → (T.kt b || T.ch b) = true → u.2.2.1 24 (16 * b + w) = (if T.ch b = true then T.wd b else T.kp b) w) ∧ (∀ b, b < 106 → u.2.2.1 25 b = 0) ∧ (∀ b, b < 106 → u.2.2.1 26 b = bN (T.kt b || T.ch b)) ∧ u.1 21 = 0 ∧ u.1 22 = iN (zCl (fun b => T.kt b || T.ch b)).length ∧ (∀ c, c < 24 ∨ 26 < c → u.2.2.1 c = s.2.2.1 c) ∧ (∀ r, r ≠ 21 → r ≠ 22 → u.1 r = s.1 r) ∧ u.2.1 = s.2.1 ∧ u.2.2.2 = s.2.2.2 := by
  have ez : zKb2 T 0 = T.kt := by
    funext b; unfold zKb2
    rw [decide_eq_false (Nat.not_lt_zero _), Bool.and_false, Bool.or_false]
  obtain ⟨u, q1, q2, q3, q4, q5, q6, q7, q8⟩ := c_keepLoop K N n sets hK t T hb29 106 0 N s (by omega) (by omega) h23 h25 (by
    intro b w hb hw hx
    rw [ez] at hx
    rw [decide_eq_false (Nat.not_lt_zero _), Bool.and_false, if_neg Bool.noConfusion]
    exact h24 b w hb hw hx) (by rw [ez]; exact h26) (by rw [ez]; exact h22)
  have q1 : l_T_keepChanged_22_2 K N N (0 : Int32) s t = _ := q1
  obtain ⟨g, c1, c2⟩ := c_changeNone K N n sets hN hK t u
  have e106 : ∀ b, b < 106 → zKb2 T 106 b = (T.kt b || T.ch b) := by
    intro b hb; unfold zKb2
    rw [decide_eq_true hb, Bool.and_true]
  refine ⟨sR (sF u 25 g) 21 0, ?_, ?_, ?_, ?_, ?_, ?_, ?_, ?_, ?_, ?_⟩
  · unfold f_T_keepChanged_22
    rw [q1]
    show px_bv (f_T_changeNone_22 K N u t) _ _ = _
    rw [c1]; rfl
  · intro b w hb hw hx
    show (sF u 25 g).2.2.1 24 _ = _
    rw [sF_arr_ne (by omega), q2 b w hb hw (by rw [e106 b hb]; exact hx), decide_eq_true hb, Bool.and_true]
  · intro b hb
    show (sF u 25 g).2.2.1 25 b = _
    rw [sF_arr]; exact c2 b hb
  · intro b hb
    show (sF u 25 g).2.2.1 26 b = _
    rw [sF_arr_ne (by omega), q3 b hb, e106 b hb]
  · exact sR_self _ _ _
  · rw [sR_ne (by omega)]
    show u.1 22 = _
    rw [q4]
    congr 2
    unfold zCl
    refine List.filter_congr (fun b hb => ?_)
    exact e106 b (List.mem_range.mp hb)
  · intro c hc
    show (sF u 25 g).2.2.1 c = _
    rw [sF_arr_ne (by omega), q5 c (by omega) (by omega)]
  · intro r h1 h2
    rw [sR_ne h1]
    exact q6 r h2
  · exact q7
  · exact q8
/-! the commit itself -/
theorem c_cmt {W : ZSt → Prop} (hW : ∀ T T', (∀ b, 29 ≤ b → T b = T' b) → W T → W T') (K : px_K) (N n sets : Nat) (hN : 2000 ≤ N) (hK : zKc K n sets) (t : px_W) (s : px_S) (T : ZTs) (hn : T.tv.n = n) (hsets : T.tv.sets = sets) (h : zCt s T) (hu : T.tv.p.up = true) (ht : ZTi W T) (hc : zCl T.ch ≠ []) (hjr : 1 ≤ T.jr) (hroom : T.jr + (zCl T.ch).length + 1 ≤ 28) (hna : T.tv.p.na + 1000000 < 2147483648) (n0 : Int32) (hn0 : n0 = iN (zCl T.ch).length) : wp (α := px_Res) (px_let ((1 : Int32) + (s.1 24)) (fun v3 => (px_bv (f_T_setCommitRow_22 K N n0 s t) (fun s5 t6 => (px_bv (f_V_store_13_27 K N v3 (0 : Int32) s5 t6) (fun s10 t11 => (px_lp (l_T_commitAbove_22_34 K N N n0 v3 (0 : Int32) s10 t11) (fun i15 vs16 s17 t18 => (if i15 = 79 then (px_v1 vs16 (fun y21 => (px_bv (f_V_flushAll_13 K N s17 t18) (fun s23 t24 => (px_bv (f_Arrays_fill_27 K N (0 : Int32) s23 t24) (fun s28 t29 => (px_gd (vp_in (0 : Int32) (K.2.2 27)) (px_let (sA s28 27 (0 : Int32).toNatClampNeg (2 : Int32)) (fun s34 => (px_gd (vp_in (1 : Int32) (K.2.2 27)) (px_let (sA s34 27 (1 : Int32).toNatClampNeg (s34.1 23)) (fun s37 => (px_bv (f_V_store_13_27 K N (y21 + (1 : Int32)) (0 : Int32) s37 t29) (fun s39 t40 => (px_bv (f_V_flushAll_13 K N s39 t40) (fun s44 t45 => (px_let (sR s44 23 ((s44.1 23) + (1 : Int32))) (fun s49 => (px_let (sR s49 24 ((s49.1 24) + (n0 + (2 : Int32)))) (fun s51 => (px_bv (f_T_keepChanged_22 K N s51 t45) (fun s53 t54 => (some (.inl none, s53, t54))) (fun x57 s53 t54 => none))))))) (fun x48 s44 t45 => (some (.inr x48, s44, t45))))) (fun x43 s39 t40 => (some (.inr x43, s39, t40))))))))))) (fun x32 s28 t29 => none))) (fun x27 s23 t24 => (some (.inr x27, s23, t24)))))) else none)) (fun z20 => some z20))) (fun x14 s10 t11 => (some (.inr x14, s10, t11))))) (fun x9 s5 t6 => none)))) (zO n none t s (zCmt1 T (zCl T.ch)).tv.p (fun u => zCt u (zCmt1 T (zCl T.ch)) ∧ zHt s u)) := by
  have hP := zGood_mono W
  have k27 : K.2.2 27 = 16 := hK.2.2.2.2.2.2.2.2.2.2.2.2.2.2.2.2.2.2.2.1
  have h12 : (zCl T.ch).length ≤ 12 := ht.2.2.2.2.2.2.1
  have hb29 : ∀ b, T.ch b = true → 29 ≤ b := fun b hb => (ht.2.2.2.2.2.1 b hb).1
  have hpos : 0 < (zCl T.ch).length := List.length_pos_iff.mpr hc
  have hz : ZSz T.tv.sets T.tv.ways T.tv.eps := ht.iv.sz
  obtain ⟨g, r1, r2⟩ := c_setCommitRow K N n sets hN hK t T h12 hb29 s h.2
  obtain ⟨l, hl⟩ : ∃ l, l = zCl T.ch := ⟨_, rfl⟩
  have ecm : zCmt1 T l = ZTs.mk (((((ZVs.wrAll (zRowsF T.wd T.jr l) (T.tv.wrv T.jr (zHdr T.sq l T.wd))).flv).wrv (T.jr + l.length + 1) (zThree 2 T.sq 0)).flv)) T.wd (fun b => if T.ch b = true then T.wd b else T.kp b) (fun _ => false) (fun b => T.kt b || T.ch b) (T.sq + 1) (T.jr + (l.length + 2)) := by
    unfold zCmt1 zCmt; rw [zRowsF_eq]; rfl
  have safe : zAw (zGood W) T.tv ∧ zSq (zGood W) (zRowsF T.wd T.jr l) (T.tv.wrv T.jr (zHdr T.sq l T.wd)) ∧ zAw (zGood W) (ZVs.wrAll (zRowsF T.wd T.jr l) (T.tv.wrv T.jr (zHdr T.sq l T.wd))) ∧ zAw (zGood W) ((ZVs.wrAll (zRowsF T.wd T.jr l) (T.tv.wrv T.jr (zHdr T.sq l T.wd))).flv) ∧ zAw (zGood W) ((((ZVs.wrAll (zRowsF T.wd T.jr l) (T.tv.wrv T.jr (zHdr T.sq l T.wd))).flv)).wrv (T.jr + l.length + 1) (zThree 2 T.sq 0)) := by
    obtain ⟨Q1, q1, q2, q3, q4⟩ := ht.cmtQ hW hc hroom hna
    have hiv : ZIv (zGood W) Q1 T.tv := ht.iv.re (fun V hV => by rw [hV]; exact q1) q3
    have hlen : ((T.jr, zHdr T.sq (zCl T.ch) T.wd) :: zRows T.jr (zCl T.ch) T.wd).length = l.length + 1 := by rw [hl]; unfold zRows; simp
    obtain ⟨s1, s2, s3⟩ := ZIv.three hP ht.iv q1 q2 q3 (by omega) (by rw [hlen]; exact Nat.succ_pos _) q4 (by rw [hlen, hl]; exact zBnd _ _ hna h12)
    have sq := zSq_iv hP _ T.tv (Or.inl ⟨hu, hiv⟩) hz q2 (by rw [hlen, hl]; exact Nat.lt_of_le_of_lt (Nat.add_le_add_left (by decide : 10000 ≤ 30000) _) (zBnd _ _ hna h12))
    rw [← hl, zRowsF_eq] at sq s1 s2 s3
    exact ⟨sq.1, sq.2.2.2, zAw_iv (s1.imp (fun _ q => q.1)), zAw_iv (s2.imp (fun _ q => q.1)), zAw_iv (s3.imp (fun _ q => q.1))⟩
  obtain ⟨f0, f1, f2, f3, f4⟩ := safe
  rw [← hl] at r1 r2 hn0 h12 hpos hroom
  rw [← hl, ecm]
  have hrl : (zRowsF T.wd T.jr l).length = l.length := by rw [← zRowsF_eq]; unfold zRows; simp
  have w0 := zfr_wrv T.tv T.jr (zHdr T.sq l T.wd) hz
  have z0 := w0.sz hz
  have w1 := zfr_wrAll (zRowsF T.wd T.jr l) _ z0
  have z1 := w1.sz z0
  have w2 := zfr_flv _ z1
  have z2 := w2.sz z1
  have w3 := zfr_wrv _ (T.jr + l.length + 1) (zThree 2 T.sq 0) z2
  have z3 := w3.sz z2
  have w4 := zfr_flv _ z3
  rw [hrl] at w1
  have e24 : s.1 24 = iN (T.jr - 1) := h.2.2.2.2.2.2.2.2
  have ev3 : (1 : Int32) + s.1 24 = iN T.jr := by
    rw [e24]
    show iN 1 + iN (T.jr - 1) = _
    rw [iN_add]; congr 1; omega
  obtain ⟨v1, hv1⟩ : ∃ v1, v1 = T.tv.wrv T.jr (zHdr T.sq l T.wd) := ⟨_, rfl⟩
  have st1 := c_store_27 hP K N n sets hN hK t T.jr 0 (by omega) (zHdr T.sq l T.wd) (by rw [k27]; omega) (sF s 27 g) T.tv hn hsets (zCv_sF h.1 (by omega)) hu f0 (by omega) (fun w hw => by rw [sF_arr, Nat.zero_add]; exact r2 w hw)
  rw [← hv1] at f1 f2 f3 f4 w0 z0 w1 z1 w2 z2 w3 z3 w4 st1
  rw [← hv1]
  obtain ⟨v2, hv2⟩ : ∃ v2, v2 = ZVs.wrAll (zRowsF T.wd T.jr l) v1 := ⟨_, rfl⟩
  rw [← hv2] at f2 f3 f4 w1 z1 w2 z2 w3 z3 w4
  rw [← hv2]
  obtain ⟨v3, hv3⟩ : ∃ v3, v3 = v2.flv := ⟨_, rfl⟩
  rw [← hv3] at f3 f4 w2 z2 w3 z3 w4
  rw [← hv3]
  obtain ⟨v4, hv4⟩ : ∃ v4, v4 = v3.wrv (T.jr + l.length + 1) (zThree 2 T.sq 0) := ⟨_, rfl⟩
  rw [← hv4] at f4 w3 z3 w4
  rw [← hv4]
  have N0 := w0.n2
  have N1 := w1.n2
  have N2 := w2.n2
  have N3 := w3.n2
  have hj := h.2
  show wp _ (zO n none t s v4.flv.p (fun u => zCt u (ZTs.mk v4.flv T.wd (fun b => if T.ch b = true then T.wd b else T.kp b) (fun _ => false) (fun b => T.kt b || T.ch b) (T.sq + 1) (T.jr + (l.length + 2))) ∧ zHt s u))
  refine wp_let ?_
  rw [ev3, hn0]
  refine wp_bv r1 ?_
  have st1 : wp (f_V_store_13_27 K N (iN T.jr) (0 : Int32) (sF s 27 g) t) _ := st1
  refine wp_cv st1 (zHk_x zHk_27) (w1.trans (w2.trans (w3.trans w4))).dn (fun u1 up1 hu1 => ?_)
  have hk1 : zHk s u1 := zHk_trans zHk_27 (zHv_k hu1.2)
  have n1 : v1.n = n := (zFr_n w0).trans hn
  have s1 : v1.sets = sets := w0.s.trans hsets
  have lp := c_cm2 hP K N n sets hN hK t T hb29 (iN l.length) 106 0 N T.jr u1 v1 (by omega) (by omega) n1 s1 z0 hu1.1 (zCj_k hj hk1) up1 (by rw [zFrom_0, ← hl]; exact f1) (by omega) (by omega)
  rw [zFrom_0, ← hl, ← hv2] at lp
  have lp : wp (l_T_commitAbove_22_34 K N N (iN l.length) (iN T.jr) (0 : Int32) u1 t) _ := lp
  refine wp_cl lp (zHk_x hk1) (w2.trans (w3.trans w4)).dn (fun u2 up2 hu2 => wp_if rfl (wp_v1 ?_))
  have hk2 := zHk_trans hk1 hu2.2
  have n2 : v2.n = n := (zFr_n w1).trans n1
  have s2 : v2.sets = sets := w1.s.trans s1
  have fl2 := c_flushAll hP K N n sets hN hK t u2 v2 n2 hu2.1 up2 f2 (by omega)
  rw [← hv3] at fl2
  refine wp_cv fl2 (zHk_x hk2) (w3.trans w4).dn (fun u3 up3 hu3 => ?_)
  have hk3 := zHk_trans hk2 (zHv_k hu3.2)
  refine wp_bv (c_fill_27 K N hN t 0 u3 16 k27 (by omega)) ?_
  obtain ⟨g3, hg3⟩ : ∃ g3 : Nat → Int32, g3 = fun j => if j < 16 then (0 : Int32) else u3.2.2.1 27 j := ⟨_, rfl⟩
  rw [← hg3, k27]
  have e0 : (0 : Int32).toNatClampNeg = 0 := rfl
  have e1 : (1 : Int32).toNatClampNeg = 1 := rfl
  refine wp_gd (iN_in (a := 0) (n := 16) (by omega) (by omega)) (wp_let (wp_gd (iN_in (a := 1) (n := 16) (by omega) (by omega)) (wp_let ?_)))
  rw [sA_sF, e0, e1, show (sF u3 27 (upd g3 0 2)).1 23 = iN T.sq by show u3.1 23 = _; rw [hk3.2.1 23 (by omega)]; exact hj.2.2.2.2.2.2.1, sA_sF]
  have ey : iN (T.jr + l.length) + (1 : Int32) = iN (T.jr + l.length + 1) := by rw [iL1, iN_add]
  rw [ey]
  have n3 : v3.n = n := (zFr_n w2).trans n2
  have s3 : v3.sets = sets := w2.s.trans s2
  have st3 := c_store_27 hP K N n sets hN hK t (T.jr + l.length + 1) 0 (by omega) (zThree 2 T.sq 0) (by rw [k27]; omega) (sF u3 27 (upd (upd g3 0 2) 1 (iN T.sq))) v3 n3 s3 (zCv_sF hu3.1 (by omega)) up3 f3 (by omega) (fun w hw => by
    rw [sF_arr, Nat.zero_add]
    unfold zThree
    by_cases h1 : w = 1
    · rw [h1, upd_self, if_neg (by omega), if_pos rfl]
    · rw [upd_ne h1]
      by_cases h0 : w = 0
      · rw [h0, upd_self, if_pos rfl]; rfl
      · rw [upd_ne h0, if_neg h0, if_neg h1, hg3]
        show (if w < 16 then (0 : Int32) else _) = _
        rw [if_pos hw]
        by_cases h2 : w = 2
        · rw [if_pos h2]; rfl
        · rw [if_neg h2])
  rw [← hv4] at st3
  have st3 : wp (f_V_store_13_27 K N (iN (T.jr + l.length + 1)) (0 : Int32) (sF u3 27 (upd (upd g3 0 2) 1 (iN T.sq))) t) _ := st3
  have hk3b : zHk s (sF u3 27 (upd (upd g3 0 2) 1 (iN T.sq))) := zHk_trans hk3 zHk_27
  refine wp_cv st3 (zHk_x hk3b) w4.dn (fun u4 up4 hu4 => ?_)
  have hk4 := zHk_trans hk3b (zHv_k hu4.2)
  have n4 : v4.n = n := (zFr_n w3).trans n3
  refine wp_cv (c_flushAll hP K N n sets hN hK t u4 v4 n4 hu4.1 up4 f4 (by omega)) (zHk_x hk4) (fun _ => rfl) (fun u5 up5 hu5 => wp_let (wp_let ?_))
  have hk5 := zHk_trans hk4 (zHv_k hu5.2)
  have hj5 := zCj_k hj hk5
  obtain ⟨j1, j2, j3, j4, j5, j6, j7, j8⟩ := hj5
  have esq : u5.1 23 + (1 : Int32) = iN (T.sq + 1) := by rw [j7, iL1, iN_add]
  have ejr : (sR u5 23 (u5.1 23 + (1 : Int32))).1 24 + (iN l.length + (2 : Int32)) = iN (T.jr + (l.length + 2) - 1) := by
    rw [sR_ne (by omega), j8]
    show iN (T.jr - 1) + (iN l.length + iN 2) = _
    rw [iN_add, iN_add]; congr 1; omega
  rw [ejr, esq]
  obtain ⟨u6, s6, hs6⟩ : ∃ u6 : px_S, ∃ h6 : True, u6 = sR (sR u5 23 (iN (T.sq + 1))) 24 (iN (T.jr + (l.length + 2) - 1)) := ⟨_, trivial, rfl⟩
  rw [← hs6]
  have a6 : u6.2.2.1 = u5.2.2.1 := by rw [hs6]; rfl
  have r6 : ∀ r, r ≠ 23 → r ≠ 24 → u6.1 r = u5.1 r := fun r a b => by rw [hs6, sR_ne b, sR_ne a]
  obtain ⟨u7, k1, k2, k3, k4, k5, k6, k7, k8, k9, k10⟩ := c_keepChanged K N n sets hN hK t T hb29 u6 (by rw [a6]; exact j1) (by rw [a6]; exact j3) (by rw [a6]; exact j2) (by rw [a6]; exact j4) (by rw [r6 22 (by omega) (by omega)]; exact j6)
  refine wp_bv k1 (wp_rO up5 ⟨⟨?_, ?_, k2, ?_, ?_, ?_, ?_, ?_, ?_⟩, ?_⟩)
  · have h6 : zCv u6 v4.flv := by rw [hs6]; exact zCv_sR (zCv_sR hu5.1 (by omega)) (by omega)
    exact zCv_of h6 (fun c _ _ => k7 c (by omega)) (fun r _ _ => k8 r (by omega) (by omega)) k9
  · intro b w hb hb2 hw
    rw [k7 23 (by omega), a6]; exact j1 b w hb hb2 hw
  · intro b hb
    rw [k3 b hb]; rfl
  · exact k4
  · rw [k5]
    show (0 : Int32) = iN (zCl (fun _ => false)).length
    rw [zCl_no]; rfl
  · exact k6
  · rw [k8 23 (by omega) (by omega), hs6, sR_ne (by omega), sR_self]; rfl
  · rw [k8 24 (by omega) (by omega), hs6, sR_self]; rfl
  · refine zHt_trans (zHk_t hk5) ⟨fun c hc => by rw [k7 c (by omega), a6], fun r hr => by rw [k8 r (by omega) (by omega), r6 r (by omega) (by omega)], fun r _ => ?_, ?_⟩
    · rw [k9, hs6]; rfl
    · rw [k10, hs6]; rfl

/-! THE CLASS: a commit, if more than so many blocks are changed -/
theorem c_commitAbove {W : ZSt → Prop} (hW : ∀ T T', (∀ b, 29 ≤ b → T b = T' b) → W T → W T') (K : px_K) (N n sets : Nat) (hN : 2000 ≤ N) (hK : zKc K n sets) (t : px_W) (s : px_S) (T : ZTs) (hn : T.tv.n = n) (hsets : T.tv.sets = sets) (h : zCt s T) (hi : ZTi W T) (hna : T.tv.p.na + 3000000 < 2147483648) (m : Nat) (hm : m < 100) (F : ZTs) (hF : F = if m < (zCl T.ch).length then T.commit else T) : wp (f_T_commitAbove_22 K N (iN m) s t) (zO n none t s F.tv.p (fun u => zCt u F ∧ zHt s u)) := by
  have hz : ZSz T.tv.sets T.tv.ways T.tv.eps := hi.iv.sz
  have hup := hi.iv.up
  have h12 : (zCl T.ch).length ≤ 12 := hi.2.2.2.2.2.2.1
  have hfh := zfr_home T hz
  obtain ⟨hn1, hn2⟩ := zBnd2 hna hfh.n2
  obtain ⟨s0, cs, hj, _, _⟩ := hi.jn
  have hjl := zCh_len hj.ch (by omega)
  have hjr := hj.jr
  have e21 : s.1 21 = iN (zCl T.ch).length := h.2.2.2.2.2.1
  have e24 : s.1 24 = iN (T.jr - 1) := h.2.2.2.2.2.2.2.2
  unfold f_T_commitAbove_22
  rw [e21]
  by_cases hlt : m < (zCl T.ch).length
  · rw [if_pos hlt] at hF
    have hc : zCl T.ch ≠ [] := fun hx => by rw [hx] at hlt; exact absurd hlt (Nat.not_lt_zero _)
    refine wp_if (by rw [iN_lt (by omega) (by omega)]; exact hlt) ?_
    have e28 : (28 : Int32) - s.1 24 = iN (28 - (T.jr - 1)) := by
      rw [e24]; show iN 28 - iN (T.jr - 1) = _; rw [iN_sub (by omega)]
    have e2 : iN (zCl T.ch).length + (2 : Int32) = iN ((zCl T.ch).length + 2) := by rw [iL2, iN_add]
    have hsp : F = zCmt1 (if 29 - T.jr < (zCl T.ch).length + 2 then T.home else T) (zCl T.ch) := by rw [hF]; unfold ZTs.commit; rw [if_neg hc]
    by_cases hr : 29 - T.jr < (zCl T.ch).length + 2
    · rw [if_pos (c := 29 - T.jr < (zCl T.ch).length + 2) hr] at hsp
      refine wp_ifn (by rw [e28, e2, iN_le (by omega) (by omega)]; omega) ?_
      have hj := h.2
      have hh := c_home hW K N n sets hN hK t s T hn hsets h.1 hj.2.2.2.1 hj.2.1 hj.2.2.2.2.2.1 hj.2.2.2.2.2.2.1 (jj := T.jr) hup hi hn1
      obtain ⟨c1, c2, c3, c4⟩ := home_same T
      have hjr1 := home_jr hi hr
      have hok := hi.home hW hn1
      obtain ⟨U, hU⟩ : ∃ U, U = T.home := ⟨_, rfl⟩
      rw [← hU] at hh hok c1 c2 c3 c4 hjr1 hn2 hfh hsp
      rw [← c1] at hc h12 hsp hr
      have hdn : U.tv.p.up = false → F.tv.p = U.tv.p := by
        intro hx
        rw [hsp]
        show (zCmt (zCl U.ch) U.wd U.sq U.jr U.tv).p = U.tv.p
        exact (zfr_cmt (zCl U.ch) U.wd U.sq U.jr U.tv (hfh.sz hz)).dn hx
      refine wp_cv hh (zHx_refl s) hdn (fun u hu2 hR => ?_)
      obtain ⟨q1, q2, q3, q4, q5⟩ := hR
      have hti : ZTi W U := by
        rcases hok with ⟨_, hok⟩ | hok
        · exact hok.1
        · have := hok.up; rw [hu2] at this; cases this
      have hct : zCt u U := by
        obtain ⟨j1, j2, j3, j4, j5, j6, j7, j8⟩ := hj
        refine ⟨q1, ?_, ?_, ?_, q2, ?_, q3, ?_, ?_⟩
        · rw [q5.1 23 (by omega), c2]; exact j1
        · intro b w hb hw hx
          rw [q5.1 24 (by omega), c4]
          refine j2 b w hb hw ?_
          -- what is kept now was kept
          have hke : ∀ b, U.kt b = true → T.kt b = true := by
            intro b hx
            rw [hU] at hx
            unfold ZTs.home at hx
            split at hx
            · exact hx
            · cases hx
          exact hke b hx
        · rw [q5.1 25 (by omega), c1]; exact j3
        · rw [q5.2.1 21 (by omega), c1]; exact j5
        · rw [q5.2.1 23 (by omega), c3]; exact j7
        · rcases q4 with ⟨a, b⟩ | ⟨a, b⟩
          · rw [b, a]; exact j8
          · rw [b, a]; rfl
      rw [hsp]
      have key := c_cmt hW K N n sets hN hK t u U ((zFr_n hfh).trans hn) (hfh.s.trans hsets) hct hu2 hti hc (by omega) (by omega) hn2 (iN (zCl T.ch).length) (by rw [c1])
      exact wp_O key (zHt_x (zHh_t q5)) (fun w _ hw => ⟨hw.1, zHt_trans (zHh_t q5) hw.2⟩)
    · rw [if_neg (c := 29 - T.jr < (zCl T.ch).length + 2) hr] at hsp
      refine wp_if (by rw [e28, e2, iN_le (by omega) (by omega)]; omega) ?_
      rw [hsp]
      exact c_cmt hW K N n sets hN hK t s T hn hsets h hup hi hc (by omega) (by omega) hn1 (iN (zCl T.ch).length) rfl
  · rw [if_neg hlt] at hF
    rw [hF]
    exact wp_ifn (by rw [iN_lt (by omega) (by omega)]; exact hlt) (wp_rO hup ⟨h, zHt_refl s⟩)

