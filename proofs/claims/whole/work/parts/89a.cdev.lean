/-! THE CLASS: one device -/
/-- ints i.. (blocks, first, pending, writes, flushes), arrays c+1.. (pending blocks, pending words, now, stable) -/
def zCd (s : px_S) (i c nb : Nat) (d : ZDv) : Prop := d.pd.length ≤ 64 ∧ s.1 i = iN nb ∧ s.1 (i + 2) = iN d.pd.length ∧ s.1 (i + 3) = iN d.wr ∧ s.1 (i + 4) = iN d.fl ∧ (∃ f, f < 64 ∧ s.1 (i + 1) = iN f ∧ ∀ j, j < d.pd.length → s.2.2.1 (c + 1) ((f + j) % 64) = iN (zPd d j).1 ∧ (zPd d j).1 < nb ∧ ∀ w, w < 16 → s.2.2.1 (c + 2) (16 * ((f + j) % 64) + w) = (zPd d j).2 w) ∧ (∀ b w, b < nb → w < 16 → s.2.2.1 (c + 4) (16 * b + w) = d.st b w) ∧ (∀ b w, b < nb → w < 16 → s.2.2.1 (c + 3) (16 * b + w) = d.now b w)
theorem zCd_of {s u : px_S} {i c nb : Nat} {d : ZDv} (h : zCd s i c nb d) (hr : ∀ r, i ≤ r → r ≤ i + 4 → u.1 r = s.1 r) (ha : ∀ a, c + 1 ≤ a → a ≤ c + 4 → u.2.2.1 a = s.2.2.1 a) : zCd u i c nb d := by
  obtain ⟨h1, h2, h3, h4, h5, ⟨f, f1, f2, f3⟩, h7, h8⟩ := h
  refine ⟨h1, by rw [hr i (by omega) (by omega)]; exact h2, by rw [hr (i + 2) (by omega) (by omega)]; exact h3, by rw [hr (i + 3) (by omega) (by omega)]; exact h4, by rw [hr (i + 4) (by omega) (by omega)]; exact h5, ⟨f, f1, by rw [hr (i + 1) (by omega) (by omega)]; exact f2, ?_⟩, ?_, ?_⟩
  · rw [ha (c + 1) (by omega) (by omega), ha (c + 2) (by omega) (by omega)]; exact f3
  · rw [ha (c + 4) (by omega) (by omega)]; exact h7
  · rw [ha (c + 3) (by omega) (by omega)]; exact h8
theorem sQ_1 (s : px_S) (k : Nat) (v : Int64) : (sQ s k v).1 = s.1 := rfl
theorem sQ_a (s : px_S) (k : Nat) (v : Int64) : (sQ s k v).2.2.1 = s.2.2.1 := rfl
theorem sQ_self (s : px_S) (k : Nat) (v : Int64) : (sQ s k v).2.1 k = v := if_pos rfl
theorem sQ_ne {s : px_S} {k r : Nat} {v : Int64} (h : r ≠ k) : (sQ s k v).2.1 r = s.2.1 r := if_neg h
theorem sR_self (s : px_S) (k : Nat) (v : Int32) : (sR s k v).1 k = v := if_pos rfl
theorem sR_ne {s : px_S} {k r : Nat} {v : Int32} (h : r ≠ k) : (sR s k v).1 r = s.1 r := if_neg h
theorem va_cpy_in {f g : Nat → Int32} {a b w : Nat} (h : w < 16) : va_cpy f g a (16 * b) 16 (16 * b + w) = f (a + w) := by
  unfold va_cpy
  rw [if_pos (by omega), Nat.add_sub_cancel_left]
theorem va_cpy_out {f g : Nat → Int32} {a b b' w : Nat} (h : w < 16) (hb : b' ≠ b) : va_cpy f g a (16 * b) 16 (16 * b' + w) = g (16 * b' + w) := by
  unfold va_cpy
  rw [if_neg (by omega)]
/-- the oldest pending write becomes stable -/
def zcE (i c : Nat) (s : px_S) (f b0 : Nat) : px_S := sR (sR (sF s (c + 4) (va_cpy (s.2.2.1 (c + 2)) (s.2.2.1 (c + 4)) (16 * f) (16 * b0) 16)) (i + 1) (iN ((f + 1) % 64))) (i + 2) (iN 63)
def zcA (i c src : Nat) (s : px_S) (b ix q : Nat) : px_S := sR (sR (sF (sF (sF s (c + 1) (upd (s.2.2.1 (c + 1)) q (iN b))) (c + 2) (va_cpy (s.2.2.1 src) (s.2.2.1 (c + 2)) ix (16 * q) 16)) (c + 3) (va_cpy (s.2.2.1 src) (s.2.2.1 (c + 3)) ix (16 * b) 16)) (i + 2) (s.1 (i + 2) + 1)) (i + 3) (s.1 (i + 3) + 1)
theorem zcE_ok {s : px_S} {i c nb : Nat} {d : ZDv} (h : zCd s i c nb d) (h64 : d.pd.length = 64) (f : Nat) (hf : f < 64) (hf2 : s.1 (i + 1) = iN f) : ∃ b0, s.2.2.1 (c + 1) f = iN b0 ∧ b0 < nb ∧ zCd (zcE i c s f b0) i c nb (ZDv.mk (zov d.st (d.pd.take 1)) (d.pd.drop 1) d.wr d.fl) := by
  obtain ⟨h1, h2, h3, h4, h5, ⟨f', f1, f2, f3⟩, h7, h8⟩ := h
  have ef : f' = f := (iN_eq (by omega) (by omega)).mp (f2.symm.trans hf2)
  subst ef
  obtain ⟨e, l, hl⟩ : ∃ e l, d.pd = e :: l := by
    cases hp : d.pd with
    | nil => rw [hp] at h64; cases h64
    | cons e l => exact ⟨e, l, rfl⟩
  have hlen : l.length = 63 := by rw [hl] at h64; simpa using h64
  have z0 : zPd d 0 = e := by unfold zPd; rw [hl]; rfl
  obtain ⟨a1, a2, a3⟩ := f3 0 (by omega)
  have ez : (f' + 0) % 64 = f' := by omega
  rw [z0, ez] at a1
  rw [z0] at a2
  rw [z0, ez] at a3
  refine ⟨e.1, a1, a2, ?_⟩
  have est : zov d.st (d.pd.take 1) = zu d.st e.1 e.2 := by rw [hl]; rfl
  have epd : d.pd.drop 1 = l := by rw [hl]; rfl
  rw [est, epd]
  have enow : ∀ D : ZDv, D = ZDv.mk (zu d.st e.1 e.2) l d.wr d.fl → D.now = d.now := by
    intro D hD
    rw [hD]
    show zov (zu d.st e.1 e.2) l = zov d.st d.pd
    rw [hl]; rfl
  refine ⟨by show l.length ≤ 64; omega, ?_, ?_, ?_, ?_, ⟨(f' + 1) % 64, Nat.mod_lt _ (by omega), ?_, ?_⟩, ?_, ?_⟩
  · show (sR (sR (sF s (c + 4) _) (i + 1) _) (i + 2) _).1 i = _
    rw [sR_ne (by omega), sR_ne (by omega)]; exact h2
  · show (sR (sR (sF s (c + 4) _) (i + 1) _) (i + 2) _).1 (i + 2) = iN l.length
    rw [sR_self, hlen]
  · show (sR (sR (sF s (c + 4) _) (i + 1) _) (i + 2) _).1 (i + 3) = iN d.wr
    rw [sR_ne (by omega), sR_ne (by omega)]; exact h4
  · show (sR (sR (sF s (c + 4) _) (i + 1) _) (i + 2) _).1 (i + 4) = iN d.fl
    rw [sR_ne (by omega), sR_ne (by omega)]; exact h5
  · show (sR (sR (sF s (c + 4) _) (i + 1) _) (i + 2) _).1 (i + 1) = _
    rw [sR_ne (by omega), sR_self]
  · intro j hj
    have hj : j < l.length := hj
    have zj : zPd (ZDv.mk (zu d.st e.1 e.2) l d.wr d.fl) j = zPd d (j + 1) := by
      unfold zPd; rw [hl]; rfl
    obtain ⟨b1, b2, b3⟩ := f3 (j + 1) (by rw [hl]; simpa using hj)
    have em : ((f' + 1) % 64 + j) % 64 = (f' + (j + 1)) % 64 := by omega
    rw [zj, em]
    exact ⟨by show (sF s (c + 4) _).2.2.1 (c + 1) _ = _; rw [sF_arr_ne (by omega)]; exact b1, b2, fun w hw => by show (sF s (c + 4) _).2.2.1 (c + 2) _ = _; rw [sF_arr_ne (by omega)]; exact b3 w hw⟩
  · intro b w hb hw
    show (sF s (c + 4) _).2.2.1 (c + 4) _ = zu d.st e.1 e.2 b w
    rw [sF_arr]
    by_cases hbe : b = e.1
    · rw [hbe, va_cpy_in hw, zu, if_pos rfl]; exact a3 w hw
    · rw [va_cpy_out hw hbe, zu, if_neg hbe]; exact h7 b w hb hw
  · intro b w hb hw
    rw [enow _ rfl]
    show (sF s (c + 4) _).2.2.1 (c + 3) _ = _
    rw [sF_arr_ne (by omega)]; exact h8 b w hb hw
theorem zcA_ok {s : px_S} {i c nb src : Nat} {d : ZDv} (h : zCd s i c nb d) (h64 : d.pd.length < 64) (f : Nat) (hf : f < 64) (hf2 : s.1 (i + 1) = iN f) (b ix : Nat) (x : ZBk) (hb : b < nb) (hx : ∀ w, w < 16 → s.2.2.1 src (ix + w) = x w) : zCd (zcA i c src s b ix ((f + d.pd.length) % 64)) i c nb (ZDv.mk d.st (d.pd ++ [(b, x)]) (d.wr + 1) d.fl) := by
  obtain ⟨h1, h2, h3, h4, h5, ⟨f', f1, f2, f3⟩, h7, h8⟩ := h
  have ef : f' = f := (iN_eq (by omega) (by omega)).mp (f2.symm.trans hf2)
  subst ef
  obtain ⟨q, hq⟩ : ∃ q, q = (f' + d.pd.length) % 64 := ⟨_, rfl⟩
  rw [← hq]
  have enow : ∀ D : ZDv, D = ZDv.mk d.st (d.pd ++ [(b, x)]) (d.wr + 1) d.fl → D.now = zu d.now b x := by
    intro D hD
    have ha := ZDv.now_add d b x
    unfold ZDv.add at ha
    rw [if_neg (by omega)] at ha
    rw [hD]; exact ha
  have hlen : (d.pd ++ [(b, x)]).length = d.pd.length + 1 := by simp
  refine ⟨by show (d.pd ++ [(b, x)]).length ≤ 64; omega, ?_, ?_, ?_, ?_, ⟨f', f1, ?_, ?_⟩, ?_, ?_⟩
  · show (sR (sR (sF (sF (sF s _ _) _ _) _ _) (i + 2) _) (i + 3) _).1 i = _
    rw [sR_ne (by omega), sR_ne (by omega)]; exact h2
  · show (sR (sR (sF (sF (sF s _ _) _ _) _ _) (i + 2) _) (i + 3) _).1 (i + 2) = iN (d.pd ++ [(b, x)]).length
    rw [sR_ne (by omega), sR_self, h3, iL1, iN_add, hlen]
  · show (sR (sR (sF (sF (sF s _ _) _ _) _ _) (i + 2) _) (i + 3) _).1 (i + 3) = iN (d.wr + 1)
    rw [sR_self, h4, iL1, iN_add]
  · show (sR (sR (sF (sF (sF s _ _) _ _) _ _) (i + 2) _) (i + 3) _).1 (i + 4) = iN d.fl
    rw [sR_ne (by omega), sR_ne (by omega)]; exact h5
  · show (sR (sR (sF (sF (sF s _ _) _ _) _ _) (i + 2) _) (i + 3) _).1 (i + 1) = _
    rw [sR_ne (by omega), sR_ne (by omega)]; exact f2
  · intro j hj
    have hj : j < (d.pd ++ [(b, x)]).length := hj
    have e1 : (zcA i c src s b ix q).2.2.1 (c + 1) = upd (s.2.2.1 (c + 1)) q (iN b) := by
      show (sF (sF (sF s _ _) _ _) _ _).2.2.1 (c + 1) = _
      rw [sF_arr_ne (by omega), sF_arr_ne (by omega), sF_arr]
    have e2 : (zcA i c src s b ix q).2.2.1 (c + 2) = va_cpy (s.2.2.1 src) (s.2.2.1 (c + 2)) ix (16 * q) 16 := by
      show (sF (sF (sF s _ _) _ _) _ _).2.2.1 (c + 2) = _
      rw [sF_arr_ne (by omega), sF_arr]
    rw [e1, e2]
    by_cases hje : j = d.pd.length
    · have zj : zPd (ZDv.mk d.st (d.pd ++ [(b, x)]) (d.wr + 1) d.fl) j = (b, x) := by
        show (d.pd ++ [(b, x)]).getD j _ = _
        rw [hje]; simp
      rw [zj, hje, ← hq, upd_self]
      exact ⟨rfl, hb, fun w hw => by rw [va_cpy_in hw]; exact hx w hw⟩
    · have hj2 : j < d.pd.length := by omega
      have zj : zPd (ZDv.mk d.st (d.pd ++ [(b, x)]) (d.wr + 1) d.fl) j = zPd d j := by
        show (d.pd ++ [(b, x)]).getD j _ = d.pd.getD j _
        rw [List.getD_eq_getElem?_getD, List.getD_eq_getElem?_getD, List.getElem?_append_left hj2]
      obtain ⟨b1, b2, b3⟩ := f3 j hj2
      have hne : (f' + j) % 64 ≠ q := by omega
      rw [zj, upd_ne hne]
      exact ⟨b1, b2, fun w hw => by rw [va_cpy_out hw hne]; exact b3 w hw⟩
  · intro b' w hb' hw
    show (sF (sF (sF s _ _) _ _) _ _).2.2.1 (c + 4) _ = d.st b' w
    rw [sF_arr_ne (by omega), sF_arr_ne (by omega), sF_arr_ne (by omega)]; exact h7 b' w hb' hw
  · intro b' w hb' hw
    rw [enow _ rfl]
    show (sF (sF (sF s _ _) _ _) _ _).2.2.1 (c + 3) _ = _
    rw [sF_arr]
    by_cases hbe : b' = b
    · rw [hbe, va_cpy_in hw, zu, if_pos rfl]; exact hx w hw
    · rw [va_cpy_out hw hbe, zu, if_neg hbe]; exact h8 b' w hb' hw

/-! THE CLASS: the power, both devices -/
def zKc (K : px_K) (n sets : Nat) : Prop := K.2.2 4 = 64 ∧ K.2.2 5 = 1024 ∧ K.2.2 6 = 2000 ∧ K.2.2 7 = 2000 ∧ K.2.2 9 = 64 ∧ K.2.2 10 = 1024 ∧ K.2.2 11 = 16 * (50 + n) ∧ K.2.2 12 = 16 * (50 + n) ∧ K.2.2 15 = n ∧ K.2.2 16 = n ∧ K.2.2 17 = n ∧ K.2.2 18 = n ∧ K.2.2 19 = sets ∧ K.2.2 20 = 16 ∧ K.2.2 21 = 16 ∧ K.2.2 23 = 1696 ∧ K.2.2 24 = 1696 ∧ K.2.2 25 = 106 ∧ K.2.2 26 = 106 ∧ K.2.2 27 = 16 ∧ n ≤ 64
def zCw (n : Nat) (s : px_S) (p : ZPw) : Prop := zCd s 1 3 125 (p.dv 0) ∧ zCd s 6 8 (50 + n) (p.dv 1) ∧ s.2.1 0 = Int64.ofNat p.na ∧ (p.lim = 0 → s.2.1 1 = 0) ∧ (p.lim ≠ 0 → s.2.1 1 = s.2.1 0 + Int64.ofNat p.lim ∧ s.2.1 2 = p.msk) ∧ p.lim < 2147483648
/-- an act was refused: the power is gone, what is pending not yet lost -/
def zDw (n : Nat) (s : px_S) (p : ZPw) : Prop := (∃ dv : Nat → ZDv, zCd s 1 3 125 (dv 0) ∧ zCd s 6 8 (50 + n) (dv 1) ∧ ∀ k, p.dv k = (dv k).go (s.2.1 2)) ∧ s.2.1 0 = Int64.ofNat p.na ∧ p.lim = 0
/-- what a call of the class leaves alone -/
def zHx (s u : px_S) : Prop := (∀ c, 28 ≤ c → u.2.2.1 c = s.2.2.1 c) ∧ (∀ r, (25 ≤ r ∨ r = 1 ∨ r = 6 ∨ r = 11 ∨ r = 18 ∨ r = 19 ∨ r = 20) → u.1 r = s.1 r) ∧ (∀ r, 3 ≤ r → u.2.1 r = s.2.1 r) ∧ u.2.2.2 = s.2.2.2
/-- what an act of a device leaves alone -/
def zHd (s u : px_S) : Prop := (∀ c, 13 ≤ c → u.2.2.1 c = s.2.2.1 c) ∧ (∀ r, (r = 0 ∨ r = 1 ∨ r = 6 ∨ 10 < r) → u.1 r = s.1 r) ∧ (∀ r, 0 < r → u.2.1 r = s.2.1 r) ∧ u.2.2.2 = s.2.2.2
theorem zHx_refl (s : px_S) : zHx s s := ⟨fun _ _ => rfl, fun _ _ => rfl, fun _ _ => rfl, rfl⟩
theorem zHx_trans {s u v : px_S} (h1 : zHx s u) (h2 : zHx u v) : zHx s v := ⟨fun c hc => (h2.1 c hc).trans (h1.1 c hc), fun r hr => (h2.2.1 r hr).trans (h1.2.1 r hr), fun r hr => (h2.2.2.1 r hr).trans (h1.2.2.1 r hr), h2.2.2.2.trans h1.2.2.2⟩
theorem zHd_refl (s : px_S) : zHd s s := ⟨fun _ _ => rfl, fun _ _ => rfl, fun _ _ => rfl, rfl⟩
theorem zHd_trans {s u v : px_S} (h1 : zHd s u) (h2 : zHd u v) : zHd s v := ⟨fun c hc => (h2.1 c hc).trans (h1.1 c hc), fun r hr => (h2.2.1 r hr).trans (h1.2.1 r hr), fun r hr => (h2.2.2.1 r hr).trans (h1.2.2.1 r hr), h2.2.2.2.trans h1.2.2.2⟩
theorem zHd_x {s u : px_S} (h : zHd s u) : zHx s u := ⟨fun c hc => h.1 c (by omega), fun r hr => h.2.1 r (by omega), fun r hr => h.2.2.1 r (by omega), h.2.2.2⟩
/-- a call's outcome: it goes on, or the power is gone -/
def zO (n : Nat) (val : Option Value) (t : px_W) (s : px_S) (p : ZPw) (R : px_S → Prop) (r : px_Res) : Prop := (p.up = true ∧ ∃ u, r = (.inl val, u, t) ∧ R u) ∨ (p.up = false ∧ ∃ u, r = (.inr (t.length + 47), u, t ++ [px_exc 7]) ∧ zDw n u p ∧ zHx s u)
/-- a loop's -/
def zOl (n : Nat) (i : Nat) (vs : List Int32) (t : px_W) (s : px_S) (p : ZPw) (R : px_S → Prop) (r : px_LO) : Prop := (p.up = true ∧ ∃ u, r = .inl (i, vs, u, t) ∧ R u) ∨ (p.up = false ∧ ∃ u, r = .inr (.inr (t.length + 47), u, t ++ [px_exc 7]) ∧ zDw n u p ∧ zHx s u)
theorem zO_x {n : Nat} {val : Option Value} {t : px_W} {s s0 : px_S} {p : ZPw} {R R' : px_S → Prop} {r : px_Res} (h : zO n val t s p R r) (hx : zHx s0 s) (hR : ∀ u, p.up = true → R u → R' u) : zO n val t s0 p R' r := by
  rcases h with ⟨h1, u, h2, h3⟩ | ⟨h1, u, h2, h3, h4⟩
  · exact .inl ⟨h1, u, h2, hR u h1 h3⟩
  · exact .inr ⟨h1, u, h2, h3, zHx_trans hx h4⟩
theorem wp_O {n : Nat} {val : Option Value} {t : px_W} {s s0 : px_S} {p : ZPw} {R R' : px_S → Prop} {x : Option px_Res} (h : wp x (zO n val t s p R)) (hx : zHx s0 s) (hR : ∀ u, p.up = true → R u → R' u) : wp x (zO n val t s0 p R') := wp_imp h fun r hr => zO_x hr hx hR
theorem wp_rO {n : Nat} {val : Option Value} {t : px_W} {s u : px_S} {p : ZPw} {R : px_S → Prop} (hu : p.up = true) (h : R u) : wp (some ((.inl val, u, t) : px_Res)) (zO n val t s p R) := ⟨_, rfl, .inl ⟨hu, u, rfl, h⟩⟩
theorem wp_rOl {n i : Nat} {vs : List Int32} {t : px_W} {s u : px_S} {p : ZPw} {R : px_S → Prop} (hu : p.up = true) (h : R u) : wp (some (.inl (i, vs, u, t) : px_LO)) (zOl n i vs t s p R) := ⟨_, rfl, .inl ⟨hu, u, rfl, h⟩⟩
/-- a call within a function, after which all goes on, or nothing -/
theorem wp_cv {n : Nat} {val : Option Value} {t : px_W} {s s1 : px_S} {p p' : ZPw} {R R' : px_S → Prop} {x : Option px_Res} {f : px_S → px_W → Option px_Res} (h : wp x (zO n none t s1 p R)) (hx : zHx s s1) (hd : p.up = false → p' = p) (hk : ∀ u, p.up = true → R u → wp (f u t) (zO n val t s p' R')) : wp (px_bv x f (fun a u t => some (.inr a, u, t))) (zO n val t s p' R') := by
  obtain ⟨r, h1, h2⟩ := h
  rcases h2 with ⟨h3, u, h4, h5⟩ | ⟨h3, u, h4, h5, h6⟩
  · rw [h1, h4]; exact hk u h3 h5
  · rw [h1, h4, hd h3]; exact ⟨_, rfl, .inr ⟨h3, u, rfl, h5, zHx_trans hx h6⟩⟩
theorem wp_ci {n : Nat} {val : Option Value} {t : px_W} {s s1 : px_S} {p p' : ZPw} {R R' : px_S → Prop} {x : Option px_Res} {a : Int32} {f : Int32 → px_S → px_W → Option px_Res} (h : wp x (zO n (some (.int a)) t s1 p R)) (hx : zHx s s1) (hd : p.up = false → p' = p) (hk : ∀ u, p.up = true → R u → wp (f a u t) (zO n val t s p' R')) : wp (px_bi x f (fun a u t => some (.inr a, u, t))) (zO n val t s p' R') := by
  obtain ⟨r, h1, h2⟩ := h
  rcases h2 with ⟨h3, u, h4, h5⟩ | ⟨h3, u, h4, h5, h6⟩
  · rw [h1, h4]; exact hk u h3 h5
  · rw [h1, h4, hd h3]; exact ⟨_, rfl, .inr ⟨h3, u, rfl, h5, zHx_trans hx h6⟩⟩
theorem wp_cl {n i : Nat} {vs : List Int32} {val : Option Value} {t : px_W} {s s1 : px_S} {p p' : ZPw} {R R' : px_S → Prop} {x : Option px_LO} {f : Nat → List Int32 → px_S → px_W → Option px_Res} (h : wp x (zOl n i vs t s1 p R)) (hx : zHx s s1) (hd : p.up = false → p' = p) (hk : ∀ u, p.up = true → R u → wp (f i vs u t) (zO n val t s p' R')) : wp (px_lp x f (fun z => some z)) (zO n val t s p' R') := by
  obtain ⟨r, h1, h2⟩ := h
  rcases h2 with ⟨h3, u, h4, h5⟩ | ⟨h3, u, h4, h5, h6⟩
  · rw [h1, h4]; exact hk u h3 h5
  · rw [h1, h4, hd h3]; exact ⟨_, rfl, .inr ⟨h3, u, rfl, h5, zHx_trans hx h6⟩⟩
/-- the same within a loop -/
theorem wp_cvl {n i : Nat} {vs : List Int32} {t : px_W} {s s1 : px_S} {p p' : ZPw} {R R' : px_S → Prop} {x : Option px_Res} {f : px_S → px_W → Option px_LO} (h : wp x (zO n none t s1 p R)) (hx : zHx s s1) (hd : p.up = false → p' = p) (hk : ∀ u, p.up = true → R u → wp (f u t) (zOl n i vs t s p' R')) : wp (px_bv x f (fun a u t => some (.inr (.inr a, u, t)))) (zOl n i vs t s p' R') := by
  obtain ⟨r, h1, h2⟩ := h
  rcases h2 with ⟨h3, u, h4, h5⟩ | ⟨h3, u, h4, h5, h6⟩
  · rw [h1, h4]; exact hk u h3 h5
  · rw [h1, h4, hd h3]; exact ⟨_, rfl, .inr ⟨h3, u, rfl, h5, zHx_trans hx h6⟩⟩
theorem wp_cil {n i : Nat} {vs : List Int32} {t : px_W} {s s1 : px_S} {p p' : ZPw} {R R' : px_S → Prop} {x : Option px_Res} {a : Int32} {f : Int32 → px_S → px_W → Option px_LO} (h : wp x (zO n (some (.int a)) t s1 p R)) (hx : zHx s s1) (hd : p.up = false → p' = p) (hk : ∀ u, p.up = true → R u → wp (f a u t) (zOl n i vs t s p' R')) : wp (px_bi x f (fun a u t => some (.inr (.inr a, u, t)))) (zOl n i vs t s p' R') := by
  obtain ⟨r, h1, h2⟩ := h
  rcases h2 with ⟨h3, u, h4, h5⟩ | ⟨h3, u, h4, h5, h6⟩
  · rw [h1, h4]; exact hk u h3 h5
  · rw [h1, h4, hd h3]; exact ⟨_, rfl, .inr ⟨h3, u, rfl, h5, zHx_trans hx h6⟩⟩
theorem wp_cll {n i i' : Nat} {vs vs' : List Int32} {t : px_W} {s s1 : px_S} {p p' : ZPw} {R R' : px_S → Prop} {x : Option px_LO} {f : Nat → List Int32 → px_S → px_W → Option px_LO} (h : wp x (zOl n i' vs' t s1 p R)) (hx : zHx s s1) (hd : p.up = false → p' = p) (hk : ∀ u, p.up = true → R u → wp (f i' vs' u t) (zOl n i vs t s p' R')) : wp (px_lp x f (fun z => some (.inr z))) (zOl n i vs t s p' R') := by
  obtain ⟨r, h1, h2⟩ := h
  rcases h2 with ⟨h3, u, h4, h5⟩ | ⟨h3, u, h4, h5, h6⟩
  · rw [h1, h4]; exact hk u h3 h5
  · rw [h1, h4, hd h3]; exact ⟨_, rfl, .inr ⟨h3, u, rfl, h5, zHx_trans hx h6⟩⟩
theorem wp_Ol {n i : Nat} {vs : List Int32} {t : px_W} {s s0 : px_S} {p : ZPw} {R R' : px_S → Prop} {x : Option px_LO} (h : wp x (zOl n i vs t s p R)) (hx : zHx s0 s) (hR : ∀ u, p.up = true → R u → R' u) : wp x (zOl n i vs t s0 p R') := wp_imp h fun r hr => by
  rcases hr with ⟨h1, u, h2, h3⟩ | ⟨h1, u, h2, h3, h4⟩
  · exact .inl ⟨h1, u, h2, hR u h1 h3⟩
  · exact .inr ⟨h1, u, h2, h3, zHx_trans hx h4⟩
/-! an act -/
theorem lg_cmp0 (x y : Int64) : lg_cmp x y = 0 ↔ x = y := by
  unfold lg_cmp
  constructor
  · intro h
    by_cases h1 : x > y
    · rw [if_pos h1] at h; exact absurd h (by decide)
    · rw [if_neg h1] at h
      by_cases h2 : x = y
      · exact h2
      · rw [if_neg h2] at h; exact absurd h (by decide)
  · intro h
    rw [h, if_neg (by show ¬ (y < y); exact Int64.lt_irrefl), if_pos rfl]
theorem i64_inj {a b : Nat} (ha : a < 4611686018427387904) (hb : b < 4611686018427387904) (h : Int64.ofNat a = Int64.ofNat b) : a = b := by
  have := congrArg Int64.toInt h
  rw [Int64.toInt_ofNat_of_lt (by simpa using (by omega : a < 9223372036854775808)), Int64.toInt_ofNat_of_lt (by simpa using (by omega : b < 9223372036854775808))] at this
  omega
theorem i64_add (a b : Nat) : Int64.ofNat a + Int64.ofNat b = Int64.ofNat (a + b) := (Int64.ofNat_add a b).symm
theorem c_lim {n : Nat} {s : px_S} {p : ZPw} (h : zCw n s p) (hna : p.na + 1 < 2305843009213693952) : lg_cmp (s.2.1 0 + (1 : Int64)) (s.2.1 1) = 0 ↔ p.lim = 1 := by
  obtain ⟨_, _, h3, h4, h5, h6⟩ := h
  rw [lg_cmp0]
  have e1 : s.2.1 0 + (1 : Int64) = Int64.ofNat (p.na + 1) := by rw [h3, ← i64_add]; rfl
  by_cases hl : p.lim = 0
  · rw [e1, h4 hl]
    constructor
    · intro hx
      have := i64_inj (a := p.na + 1) (b := 0) (by omega) (by omega) hx
      omega
    · intro hx; omega
  · rw [e1, (h5 hl).1, h3, i64_add]
    constructor
    · intro hx
      have := i64_inj (by omega) (by omega) hx
      omega
    · intro hx; rw [hx]
theorem ZPw.act_na {p : ZPw} (hu : p.up = true) : p.act.na = p.na + 1 := by
  unfold ZPw.act; rw [if_pos hu]; split <;> rfl
theorem ZPw.act_1 {p : ZPw} (hu : p.up = true) (hl : p.lim = 1) : p.act = ZPw.s_na (p.goes p.msk) (p.na + 1) := by
  unfold ZPw.act; rw [if_pos hu, if_pos hl]
theorem ZPw.act_2 {p : ZPw} (hu : p.up = true) (hl : p.lim ≠ 1) : p.act = ZPw.mk p.dv p.up (p.lim - 1) p.msk (p.na + 1) := by
  unfold ZPw.act; rw [if_pos hu, if_neg hl]
theorem c_act1 {n : Nat} {s : px_S} {p : ZPw} (h : zCw n s p) (hl : p.lim = 1) : zDw n (sQ s 0 (s.2.1 0 + 1)) (ZPw.s_na (p.goes p.msk) (p.na + 1)) := by
  obtain ⟨h1, h2, h3, h4, h5, h6⟩ := h
  have e2 : (sQ s 0 (s.2.1 0 + 1)).2.1 2 = p.msk := by rw [sQ_ne (by omega)]; exact (h5 (by omega)).2
  refine ⟨⟨p.dv, zCd_of h1 (fun _ _ _ => rfl) (fun _ _ _ => rfl), zCd_of h2 (fun _ _ _ => rfl) (fun _ _ _ => rfl), fun k => by rw [e2]; rfl⟩, ?_, rfl⟩
  rw [sQ_self, h3]
  show _ = Int64.ofNat (p.na + 1)
  rw [← i64_add]; rfl
theorem c_act2 {n : Nat} {s : px_S} {p : ZPw} (h : zCw n s p) (hl : p.lim ≠ 1) : zCw n (sQ s 0 (s.2.1 0 + 1)) (ZPw.mk p.dv p.up (p.lim - 1) p.msk (p.na + 1)) := by
  obtain ⟨h1, h2, h3, h4, h5, h6⟩ := h
  refine ⟨zCd_of h1 (fun _ _ _ => rfl) (fun _ _ _ => rfl), zCd_of h2 (fun _ _ _ => rfl) (fun _ _ _ => rfl), ?_, ?_, ?_, by show p.lim - 1 < _; omega⟩
  · rw [sQ_self, h3]
    show _ = Int64.ofNat (p.na + 1)
    rw [← i64_add]; rfl
  · intro hx
    have hx : p.lim - 1 = 0 := hx
    rw [sQ_ne (by omega)]
    exact h4 (by omega)
  · intro hx
    have hx : p.lim - 1 ≠ 0 := hx
    rw [sQ_ne (by omega), sQ_self, sQ_ne (by omega)]
    obtain ⟨g1, g2⟩ := h5 (by omega)
    refine ⟨?_, g2⟩
    show _ = s.2.1 0 + 1 + Int64.ofNat (p.lim - 1)
    rw [g1, h3]
    show _ = Int64.ofNat p.na + Int64.ofNat 1 + Int64.ofNat (p.lim - 1)
    rw [i64_add, i64_add, i64_add]
    congr 1; omega
theorem zHd_sQ (s : px_S) (v : Int64) : zHd s (sQ s 0 v) := ⟨fun _ _ => rfl, fun _ _ => rfl, fun r hr => sQ_ne (by omega), rfl⟩
theorem zHd_E {s : px_S} {i c f b0 : Nat} (hi : i = 1 ∧ c = 3 ∨ i = 6 ∧ c = 8) : zHd s (zcE i c s f b0) := by
  refine ⟨fun a ha => sF_arr_ne (by omega), fun r hr => ?_, fun _ _ => rfl, rfl⟩
  show (sR (sR (sF s (c + 4) _) (i + 1) _) (i + 2) _).1 r = _
  rw [sR_ne (by omega), sR_ne (by omega)]; rfl
theorem zHd_A {s : px_S} {i c src b ix q : Nat} (hi : i = 1 ∧ c = 3 ∨ i = 6 ∧ c = 8) : zHd s (zcA i c src s b ix q) := by
  refine ⟨fun a ha => ?_, fun r hr => ?_, fun _ _ => rfl, rfl⟩
  · show (sF (sF (sF s _ _) _ _) _ _).2.2.1 a = _
    rw [sF_arr_ne (by omega), sF_arr_ne (by omega), sF_arr_ne (by omega)]
  · show (sR (sR (sF (sF (sF s _ _) _ _) _ _) (i + 2) _) (i + 3) _).1 r = _
    rw [sR_ne (by omega), sR_ne (by omega)]; rfl
theorem zcE_cd {s : px_S} {i c f b0 i' c' nb : Nat} {d : ZDv} (hi : i = 1 ∧ c = 3 ∧ i' = 6 ∧ c' = 8 ∨ i = 6 ∧ c = 8 ∧ i' = 1 ∧ c' = 3) (h : zCd s i' c' nb d) : zCd (zcE i c s f b0) i' c' nb d := by
  refine zCd_of h (fun r h1 h2 => ?_) (fun a h1 h2 => sF_arr_ne (by omega))
  show (sR (sR (sF s (c + 4) _) (i + 1) _) (i + 2) _).1 r = _
  rw [sR_ne (by omega), sR_ne (by omega)]; rfl
theorem zcA_cd {s : px_S} {i c src b ix q i' c' nb : Nat} {d : ZDv} (hi : i = 1 ∧ c = 3 ∧ i' = 6 ∧ c' = 8 ∨ i = 6 ∧ c = 8 ∧ i' = 1 ∧ c' = 3) (h : zCd s i' c' nb d) : zCd (zcA i c src s b ix q) i' c' nb d := by
  refine zCd_of h (fun r h1 h2 => ?_) (fun a h1 h2 => ?_)
  · show (sR (sR (sF (sF (sF s _ _) _ _) _ _) (i + 2) _) (i + 3) _).1 r = _
    rw [sR_ne (by omega), sR_ne (by omega)]; rfl
  · show (sF (sF (sF s _ _) _ _) _ _).2.2.1 a = _
    rw [sF_arr_ne (by omega), sF_arr_ne (by omega), sF_arr_ne (by omega)]
theorem ZPw.wr_1 {p : ZPw} (hu : p.up = true) (hl : p.lim = 1) (k b : Nat) (x : ZBk) : p.wr k b x = ZPw.s_na (p.goes p.msk) (p.na + 1) := by
  unfold ZPw.wr; rw [ZPw.act_1 hu hl]; exact if_neg Bool.noConfusion
theorem ZPw.wr_2 {p : ZPw} (hu : p.up = true) (hl : p.lim ≠ 1) (k b : Nat) (x : ZBk) : p.wr k b x = ZPw.mk (zu p.dv k ((p.dv k).add b x)) p.up (p.lim - 1) p.msk (p.na + 1) := by
  unfold ZPw.wr; rw [ZPw.act_2 hu hl]; exact if_pos hu
theorem ZPw.fl_1 {p : ZPw} (hu : p.up = true) (hl : p.lim = 1) (k : Nat) : p.fl k = ZPw.s_na (p.goes p.msk) (p.na + 1) := by
  unfold ZPw.fl; rw [ZPw.act_1 hu hl]; exact if_neg Bool.noConfusion
theorem ZPw.fl_2 {p : ZPw} (hu : p.up = true) (hl : p.lim ≠ 1) (k : Nat) : p.fl k = ZPw.mk (zu p.dv k (p.dv k).flush) p.up (p.lim - 1) p.msk (p.na + 1) := by
  unfold ZPw.fl; rw [ZPw.act_2 hu hl]; exact if_pos hu
theorem wp_gd1 {q : Prop} {x : Option px_Res} {n : Nat} {val : Option Value} {t : px_W} {s : px_S} {p : ZPw} {R : px_S → Prop} (h : q) (k : wp x (zO n val t s p R)) : wp (px_gd q x) (zO n val t s p R) := wp_gd h k
/-- the new pending write is in: the power after it -/
theorem c_wrA {n : Nat} {s : px_S} {p : ZPw} (h : zCw n s p) (k : Nat) (i c nb src b ix q : Nat) (x : ZBk) (hi : k = 0 ∧ i = 1 ∧ c = 3 ∧ nb = 125 ∨ k = 1 ∧ i = 6 ∧ c = 8 ∧ nb = 50 + n) (D : ZDv) (hD : zCd (zcA i c src s b ix q) i c nb D) : zCw n (zcA i c src s b ix q) (ZPw.mk (zu p.dv k D) p.up p.lim p.msk p.na) := by
  obtain ⟨h1, h2, h3, h4, h5, h6⟩ := h
  rcases hi with ⟨rfl, rfl, rfl, rfl⟩ | ⟨rfl, rfl, rfl, rfl⟩
  · exact ⟨hD, zcA_cd (by omega) h2, h3, h4, h5, h6⟩
  · exact ⟨zcA_cd (by omega) h1, hD, h3, h4, h5, h6⟩
theorem iN_le_sub {a L : Nat} (h : a + 16 ≤ L) (hL : L < 2147483648) : iN a ≤ Int32.ofNat L - (16 : Int32) := by
  have : Int32.ofNat L - (16 : Int32) = iN (L - 16) := iN_sub (a := L) (b := 16) (by omega)
  rw [this, iN_le (by omega) (by omega)]; omega
theorem ring_q {f m : Nat} (hf : f < 64) (hm : m ≤ 64) : (iN f + iN m) - (iN f + iN m) / (64 : Int32) * (64 : Int32) = iN ((f + m) % 64) := by
  rw [iN_add, iL64, iN_rem (by omega) (by omega) (by omega)]
theorem iN_16 (b : Nat) : iN b * (16 : Int32) = iN (16 * b) := by rw [iL16, iN_mul, Nat.mul_comm]
theorem n16 : (16 : Int32).toNatClampNeg = 16 := rfl

/-! WRITES OF A DEVICE (by template) -/
theorem c_put_3_11 (K : px_K) (N n sets : Nat) (hK : zKc K n sets) (t : px_W) (s : px_S) (p : ZPw) (h : zCw n s p) (hu : p.up = true) (b ix : Nat) (x : ZBk) (hb : b < 125) (hx : ∀ w, w < 16 → s.2.2.1 11 (ix + w) = x w) (hix : ix + 16 ≤ K.2.2 11) (hna : (p.wr 0 b x).na < 2305843009213693952) : wp (f_D_put_3_11 K N (iN b) (iN ix) s t) (zO n none t s (p.wr 0 b x) (fun u => zCw n u (p.wr 0 b x) ∧ zHd s u)) := by
  have hn64 : n ≤ 64 := hK.2.2.2.2.2.2.2.2.2.2.2.2.2.2.2.2.2.2.2.2
  have k4 : K.2.2 4 = 64 := hK.1
  have k5 : K.2.2 5 = 1024 := hK.2.1
  have k6 : K.2.2 6 = 16 * 125 := hK.2.2.1
  have k7 : K.2.2 7 = 16 * 125 := hK.2.2.2.1
  have hLS : K.2.2 11 < 2147483648 := by
    have := hK.2.2.2.2.2.2.1
    omega
  have hix0 : ix < 2147483648 := by omega
  obtain ⟨g1, g2, g3, g4, g5, ⟨f, f1, f2, f3⟩, g7, g8⟩ := h.1
  have hhas : f_D_has_3 K N (iN b) s t = some (.inl (some (.int 1)), s, t) := by
    unfold f_D_has_3
    rw [g2, if_neg (iN_neg (by omega)), if_neg (by rw [iN_le (by omega) (by omega)]; omega), px_gd_of (Or.inr rfl)]
  have hlim := c_lim h (by
    by_cases hl : p.lim = 1
    · rw [ZPw.wr_1 hu hl] at hna; exact hna
    · rw [ZPw.wr_2 hu hl] at hna; exact hna)
  unfold f_D_put_3_11
  refine wp_bi hhas (wp_ifn (by decide) (wp_ifn (iN_neg hix0) (wp_if (iN_le_sub hix hLS) (wp_let ?_))))
  by_cases hl : p.lim = 1
  · rw [ZPw.wr_1 hu hl]
    refine wp_ifn (fun hx => hx (hlim.mpr hl)) ⟨_, rfl, .inr ⟨rfl, _, rfl, c_act1 h hl, zHd_x (zHd_sQ _ _)⟩⟩
  refine wp_if (fun hx => hl (hlim.mp hx)) ?_
  rw [ZPw.wr_2 hu hl]
  have h2 := c_act2 h hl
  have hH := zHd_sQ s (s.2.1 0 + 1)
  obtain ⟨s9, hs9⟩ : ∃ s9, s9 = sQ s 0 (s.2.1 0 + 1) := ⟨_, rfl⟩
  rw [← hs9] at h2 hH
  rw [← hs9]
  have q2 : s9.1 2 = iN f := by rw [hs9]; exact f2
  have q3 : s9.1 3 = iN (p.dv 0).pd.length := by rw [hs9]; exact g3
  have qx : ∀ w, w < 16 → s9.2.2.1 11 (ix + w) = x w := by rw [hs9]; exact hx
  by_cases h64 : (p.dv 0).pd.length = 64
  · have e64 : s9.1 3 = 64 := by rw [q3, h64]; rfl
    have h9 : zCd s9 1 3 (125) (p.dv 0) := h2.1
    obtain ⟨b0, e1, e2, e3⟩ := zcE_ok h9 h64 f f1 q2
    have e1 : s9.2.2.1 4 f = iN b0 := e1
    refine wp_ifn (fun hx => hx e64) ?_
    rw [q2, iN_nat (by omega), e1, iN_16, iN_16, n16, iN_nat (by omega), iN_nat (by omega)]
    refine wp_gd ⟨by rw [k4]; exact iN_in (by omega) f1, iN_neg (by omega), iN_neg (by omega), by decide, by rw [k5]; omega, by rw [k7]; omega⟩ (wp_let (wp_let (wp_let ?_)))
    have ez : (sR (sR (sF s9 7 (va_cpy (s9.2.2.1 5) (s9.2.2.1 7) (16 * f) (16 * b0) 16)) 2 (((sF s9 7 (va_cpy (s9.2.2.1 5) (s9.2.2.1 7) (16 * f) (16 * b0) 16)).1 2 + 1) - ((sF s9 7 (va_cpy (s9.2.2.1 5) (s9.2.2.1 7) (16 * f) (16 * b0) 16)).1 2 + 1) / 64 * 64)) 3 ((sR (sF s9 7 (va_cpy (s9.2.2.1 5) (s9.2.2.1 7) (16 * f) (16 * b0) 16)) 2 (((sF s9 7 (va_cpy (s9.2.2.1 5) (s9.2.2.1 7) (16 * f) (16 * b0) 16)).1 2 + 1) - ((sF s9 7 (va_cpy (s9.2.2.1 5) (s9.2.2.1 7) (16 * f) (16 * b0) 16)).1 2 + 1) / 64 * 64)).1 3 - 1)) = zcE 1 3 s9 f b0 := by
      have a1 : ((sF s9 7 (va_cpy (s9.2.2.1 5) (s9.2.2.1 7) (16 * f) (16 * b0) 16)).1 2 + 1) - ((sF s9 7 (va_cpy (s9.2.2.1 5) (s9.2.2.1 7) (16 * f) (16 * b0) 16)).1 2 + 1) / 64 * 64 = iN ((f + 1) % 64) := by
        show s9.1 2 + 1 - (s9.1 2 + 1) / 64 * 64 = _
        rw [q2]; exact ring_q (m := 1) f1 (by omega)
      rw [a1, sR_ne (by omega)]
      show sR (sR _ _ _) 3 (s9.1 3 - 1) = _
      rw [e64]; rfl
    rw [ez]
    have hE : zHd s9 (zcE 1 3 s9 f b0) := zHd_E (by omega)
    have hw : zCw n (zcE 1 3 s9 f b0) (ZPw.mk (zu p.dv 0 (ZDv.mk (zov (p.dv 0).st ((p.dv 0).pd.take 1)) ((p.dv 0).pd.drop 1) (p.dv 0).wr (p.dv 0).fl)) p.up (p.lim - 1) p.msk (p.na + 1)) := ⟨e3, zcE_cd (by omega) h2.2.1, h2.2.2⟩
    obtain ⟨s34, hs34⟩ : ∃ s34, s34 = zcE 1 3 s9 f b0 := ⟨_, rfl⟩
    rw [← hs34] at hE hw e3
    rw [← hs34]
    have r2 : s34.1 2 = iN ((f + 1) % 64) := by rw [hs34]; exact (sR_ne (by omega)).trans (sR_self _ _ _)
    have r3 : s34.1 3 = iN 63 := by rw [hs34]; exact sR_self _ _ _
    have rx : ∀ w, w < 16 → s34.2.2.1 11 (ix + w) = x w := by
      intro w hw
      rw [hs34]
      show (sF s9 7 _).2.2.1 11 _ = _
      rw [sF_arr_ne (by omega)]; exact qx w hw
    have hfl : (f + 1) % 64 < 64 := Nat.mod_lt _ (by omega)
    have hlen : ((p.dv 0).pd.drop 1).length = 63 := by rw [List.length_drop, h64]
    refine wp_let ?_
    rw [r2, r3, ring_q hfl (by omega)]
    have hq : ((f + 1) % 64 + 63) % 64 < 64 := Nat.mod_lt _ (by omega)
    have hA := zcA_ok (src := 11) e3 (by show ((p.dv 0).pd.drop 1).length < 64; omega) ((f + 1) % 64) hfl r2 b ix x hb rx
    have hl2 : (ZDv.mk (zov (p.dv 0).st ((p.dv 0).pd.take 1)) ((p.dv 0).pd.drop 1) (p.dv 0).wr (p.dv 0).fl).pd.length = 63 := hlen
    rw [hl2] at hA
    obtain ⟨q, hqq⟩ : ∃ q, q = ((f + 1) % 64 + 63) % 64 := ⟨_, rfl⟩
    rw [← hqq] at hq hA
    rw [← hqq, iN_16, iN_nat (a := q) (by omega)]
    refine wp_gd (by rw [k4]; exact iN_in (by omega) hq) (wp_let ?_)
    rw [iN_nat (a := ix) hix0, iN_nat (a := 16 * q) (by omega), iN_16, iN_nat (a := 16 * b) (by omega)]
    refine wp_gd ⟨iN_neg hix0, iN_neg (by omega), by decide, hix, by rw [k5]; omega⟩ (wp_let ?_)
    refine wp_gd ⟨iN_neg hix0, iN_neg (by omega), by decide, hix, by rw [k6]; omega⟩ (wp_let (wp_let (wp_let ?_)))
    have hfin := c_wrA hw 0 1 3 (125) 11 b ix q x (by omega) _ hA
    refine wp_rO (u := zcA 1 3 11 s34 b ix q) hu ⟨?_, zHd_trans (zHd_trans hH hE) (zHd_A (by omega))⟩
    have eD : ((p.dv 0).add b x) = ZDv.mk (zov (p.dv 0).st ((p.dv 0).pd.take 1)) ((p.dv 0).pd.drop 1 ++ [(b, x)]) ((p.dv 0).wr + 1) (p.dv 0).fl := by
      unfold ZDv.add; rw [if_pos h64]
    have edv : zu p.dv 0 ((p.dv 0).add b x) = zu (zu p.dv 0 (ZDv.mk (zov (p.dv 0).st ((p.dv 0).pd.take 1)) ((p.dv 0).pd.drop 1) (p.dv 0).wr (p.dv 0).fl)) 0 ((p.dv 0).add b x) := by
      funext j; unfold zu; by_cases hj : j = 0
      · rw [if_pos hj, if_pos hj]
      · rw [if_neg hj, if_neg hj, if_neg hj]
    rw [edv, eD]; exact hfin
  · refine wp_if (fun hx => h64 ?_) ?_
    · rw [q3] at hx; exact (iN_eq (by omega) (by omega)).mp hx
    refine wp_let ?_
    rw [q2, q3, ring_q f1 g1]
    have h9 : zCd s9 1 3 (125) (p.dv 0) := h2.1
    have hA := zcA_ok (src := 11) h9 (by omega) f f1 q2 b ix x hb qx
    have hq : (f + (p.dv 0).pd.length) % 64 < 64 := Nat.mod_lt _ (by omega)
    obtain ⟨q, hqq⟩ : ∃ q, q = (f + (p.dv 0).pd.length) % 64 := ⟨_, rfl⟩
    rw [← hqq] at hq hA
    rw [← hqq, iN_16, iN_nat (a := q) (by omega)]
    refine wp_gd (by rw [k4]; exact iN_in (by omega) hq) (wp_let ?_)
    rw [iN_nat (a := ix) hix0, iN_nat (a := 16 * q) (by omega), iN_16, iN_nat (a := 16 * b) (by omega), n16]
    refine wp_gd ⟨iN_neg hix0, iN_neg (by omega), by decide, hix, by rw [k5]; omega⟩ (wp_let ?_)
    refine wp_gd ⟨iN_neg hix0, iN_neg (by omega), by decide, hix, by rw [k6]; omega⟩ (wp_let (wp_let (wp_let ?_)))
    have hfin := c_wrA h2 0 1 3 (125) 11 b ix q x (by omega) _ hA
    refine wp_rO (u := zcA 1 3 11 s9 b ix q) hu ⟨?_, zHd_trans hH (zHd_A (by omega))⟩
    have eD : ((p.dv 0).add b x) = ZDv.mk (p.dv 0).st ((p.dv 0).pd ++ [(b, x)]) ((p.dv 0).wr + 1) (p.dv 0).fl := by
      unfold ZDv.add; rw [if_neg h64]
    rw [eD]; exact hfin
theorem c_put_3_20 (K : px_K) (N n sets : Nat) (hK : zKc K n sets) (t : px_W) (s : px_S) (p : ZPw) (h : zCw n s p) (hu : p.up = true) (b ix : Nat) (x : ZBk) (hb : b < 125) (hx : ∀ w, w < 16 → s.2.2.1 20 (ix + w) = x w) (hix : ix + 16 ≤ K.2.2 20) (hna : (p.wr 0 b x).na < 2305843009213693952) : wp (f_D_put_3_20 K N (iN b) (iN ix) s t) (zO n none t s (p.wr 0 b x) (fun u => zCw n u (p.wr 0 b x) ∧ zHd s u)) := by
  have hn64 : n ≤ 64 := hK.2.2.2.2.2.2.2.2.2.2.2.2.2.2.2.2.2.2.2.2
  have k4 : K.2.2 4 = 64 := hK.1
  have k5 : K.2.2 5 = 1024 := hK.2.1
  have k6 : K.2.2 6 = 16 * 125 := hK.2.2.1
  have k7 : K.2.2 7 = 16 * 125 := hK.2.2.2.1
  have hLS : K.2.2 20 < 2147483648 := by
    have := hK.2.2.2.2.2.2.2.2.2.2.2.2.2.1
    omega
  have hix0 : ix < 2147483648 := by omega
  obtain ⟨g1, g2, g3, g4, g5, ⟨f, f1, f2, f3⟩, g7, g8⟩ := h.1
  have hhas : f_D_has_3 K N (iN b) s t = some (.inl (some (.int 1)), s, t) := by
    unfold f_D_has_3
    rw [g2, if_neg (iN_neg (by omega)), if_neg (by rw [iN_le (by omega) (by omega)]; omega), px_gd_of (Or.inr rfl)]
  have hlim := c_lim h (by
    by_cases hl : p.lim = 1
    · rw [ZPw.wr_1 hu hl] at hna; exact hna
    · rw [ZPw.wr_2 hu hl] at hna; exact hna)
  unfold f_D_put_3_20
  refine wp_bi hhas (wp_ifn (by decide) (wp_ifn (iN_neg hix0) (wp_if (iN_le_sub hix hLS) (wp_let ?_))))
  by_cases hl : p.lim = 1
  · rw [ZPw.wr_1 hu hl]
    refine wp_ifn (fun hx => hx (hlim.mpr hl)) ⟨_, rfl, .inr ⟨rfl, _, rfl, c_act1 h hl, zHd_x (zHd_sQ _ _)⟩⟩
  refine wp_if (fun hx => hl (hlim.mp hx)) ?_
  rw [ZPw.wr_2 hu hl]
  have h2 := c_act2 h hl
  have hH := zHd_sQ s (s.2.1 0 + 1)
  obtain ⟨s9, hs9⟩ : ∃ s9, s9 = sQ s 0 (s.2.1 0 + 1) := ⟨_, rfl⟩
  rw [← hs9] at h2 hH
  rw [← hs9]
  have q2 : s9.1 2 = iN f := by rw [hs9]; exact f2
  have q3 : s9.1 3 = iN (p.dv 0).pd.length := by rw [hs9]; exact g3
  have qx : ∀ w, w < 16 → s9.2.2.1 20 (ix + w) = x w := by rw [hs9]; exact hx
  by_cases h64 : (p.dv 0).pd.length = 64
  · have e64 : s9.1 3 = 64 := by rw [q3, h64]; rfl
    have h9 : zCd s9 1 3 (125) (p.dv 0) := h2.1
    obtain ⟨b0, e1, e2, e3⟩ := zcE_ok h9 h64 f f1 q2
    have e1 : s9.2.2.1 4 f = iN b0 := e1
    refine wp_ifn (fun hx => hx e64) ?_
    rw [q2, iN_nat (by omega), e1, iN_16, iN_16, n16, iN_nat (by omega), iN_nat (by omega)]
    refine wp_gd ⟨by rw [k4]; exact iN_in (by omega) f1, iN_neg (by omega), iN_neg (by omega), by decide, by rw [k5]; omega, by rw [k7]; omega⟩ (wp_let (wp_let (wp_let ?_)))
    have ez : (sR (sR (sF s9 7 (va_cpy (s9.2.2.1 5) (s9.2.2.1 7) (16 * f) (16 * b0) 16)) 2 (((sF s9 7 (va_cpy (s9.2.2.1 5) (s9.2.2.1 7) (16 * f) (16 * b0) 16)).1 2 + 1) - ((sF s9 7 (va_cpy (s9.2.2.1 5) (s9.2.2.1 7) (16 * f) (16 * b0) 16)).1 2 + 1) / 64 * 64)) 3 ((sR (sF s9 7 (va_cpy (s9.2.2.1 5) (s9.2.2.1 7) (16 * f) (16 * b0) 16)) 2 (((sF s9 7 (va_cpy (s9.2.2.1 5) (s9.2.2.1 7) (16 * f) (16 * b0) 16)).1 2 + 1) - ((sF s9 7 (va_cpy (s9.2.2.1 5) (s9.2.2.1 7) (16 * f) (16 * b0) 16)).1 2 + 1) / 64 * 64)).1 3 - 1)) = zcE 1 3 s9 f b0 := by
      have a1 : ((sF s9 7 (va_cpy (s9.2.2.1 5) (s9.2.2.1 7) (16 * f) (16 * b0) 16)).1 2 + 1) - ((sF s9 7 (va_cpy (s9.2.2.1 5) (s9.2.2.1 7) (16 * f) (16 * b0) 16)).1 2 + 1) / 64 * 64 = iN ((f + 1) % 64) := by
        show s9.1 2 + 1 - (s9.1 2 + 1) / 64 * 64 = _
        rw [q2]; exact ring_q (m := 1) f1 (by omega)
      rw [a1, sR_ne (by omega)]
      show sR (sR _ _ _) 3 (s9.1 3 - 1) = _
      rw [e64]; rfl
    rw [ez]
    have hE : zHd s9 (zcE 1 3 s9 f b0) := zHd_E (by omega)
    have hw : zCw n (zcE 1 3 s9 f b0) (ZPw.mk (zu p.dv 0 (ZDv.mk (zov (p.dv 0).st ((p.dv 0).pd.take 1)) ((p.dv 0).pd.drop 1) (p.dv 0).wr (p.dv 0).fl)) p.up (p.lim - 1) p.msk (p.na + 1)) := ⟨e3, zcE_cd (by omega) h2.2.1, h2.2.2⟩
    obtain ⟨s34, hs34⟩ : ∃ s34, s34 = zcE 1 3 s9 f b0 := ⟨_, rfl⟩
    rw [← hs34] at hE hw e3
    rw [← hs34]
    have r2 : s34.1 2 = iN ((f + 1) % 64) := by rw [hs34]; exact (sR_ne (by omega)).trans (sR_self _ _ _)
    have r3 : s34.1 3 = iN 63 := by rw [hs34]; exact sR_self _ _ _
    have rx : ∀ w, w < 16 → s34.2.2.1 20 (ix + w) = x w := by
      intro w hw
      rw [hs34]
      show (sF s9 7 _).2.2.1 20 _ = _
      rw [sF_arr_ne (by omega)]; exact qx w hw
    have hfl : (f + 1) % 64 < 64 := Nat.mod_lt _ (by omega)
    have hlen : ((p.dv 0).pd.drop 1).length = 63 := by rw [List.length_drop, h64]
    refine wp_let ?_
    rw [r2, r3, ring_q hfl (by omega)]
    have hq : ((f + 1) % 64 + 63) % 64 < 64 := Nat.mod_lt _ (by omega)
    have hA := zcA_ok (src := 20) e3 (by show ((p.dv 0).pd.drop 1).length < 64; omega) ((f + 1) % 64) hfl r2 b ix x hb rx
    have hl2 : (ZDv.mk (zov (p.dv 0).st ((p.dv 0).pd.take 1)) ((p.dv 0).pd.drop 1) (p.dv 0).wr (p.dv 0).fl).pd.length = 63 := hlen
    rw [hl2] at hA
    obtain ⟨q, hqq⟩ : ∃ q, q = ((f + 1) % 64 + 63) % 64 := ⟨_, rfl⟩
    rw [← hqq] at hq hA
    rw [← hqq, iN_16, iN_nat (a := q) (by omega)]
    refine wp_gd (by rw [k4]; exact iN_in (by omega) hq) (wp_let ?_)
    rw [iN_nat (a := ix) hix0, iN_nat (a := 16 * q) (by omega), iN_16, iN_nat (a := 16 * b) (by omega)]
    refine wp_gd ⟨iN_neg hix0, iN_neg (by omega), by decide, hix, by rw [k5]; omega⟩ (wp_let ?_)
    refine wp_gd ⟨iN_neg hix0, iN_neg (by omega), by decide, hix, by rw [k6]; omega⟩ (wp_let (wp_let (wp_let ?_)))
    have hfin := c_wrA hw 0 1 3 (125) 20 b ix q x (by omega) _ hA
    refine wp_rO (u := zcA 1 3 20 s34 b ix q) hu ⟨?_, zHd_trans (zHd_trans hH hE) (zHd_A (by omega))⟩
    have eD : ((p.dv 0).add b x) = ZDv.mk (zov (p.dv 0).st ((p.dv 0).pd.take 1)) ((p.dv 0).pd.drop 1 ++ [(b, x)]) ((p.dv 0).wr + 1) (p.dv 0).fl := by
      unfold ZDv.add; rw [if_pos h64]
    have edv : zu p.dv 0 ((p.dv 0).add b x) = zu (zu p.dv 0 (ZDv.mk (zov (p.dv 0).st ((p.dv 0).pd.take 1)) ((p.dv 0).pd.drop 1) (p.dv 0).wr (p.dv 0).fl)) 0 ((p.dv 0).add b x) := by
      funext j; unfold zu; by_cases hj : j = 0
      · rw [if_pos hj, if_pos hj]
      · rw [if_neg hj, if_neg hj, if_neg hj]
    rw [edv, eD]; exact hfin
  · refine wp_if (fun hx => h64 ?_) ?_
    · rw [q3] at hx; exact (iN_eq (by omega) (by omega)).mp hx
    refine wp_let ?_
    rw [q2, q3, ring_q f1 g1]
    have h9 : zCd s9 1 3 (125) (p.dv 0) := h2.1
    have hA := zcA_ok (src := 20) h9 (by omega) f f1 q2 b ix x hb qx
    have hq : (f + (p.dv 0).pd.length) % 64 < 64 := Nat.mod_lt _ (by omega)
    obtain ⟨q, hqq⟩ : ∃ q, q = (f + (p.dv 0).pd.length) % 64 := ⟨_, rfl⟩
    rw [← hqq] at hq hA
    rw [← hqq, iN_16, iN_nat (a := q) (by omega)]
    refine wp_gd (by rw [k4]; exact iN_in (by omega) hq) (wp_let ?_)
    rw [iN_nat (a := ix) hix0, iN_nat (a := 16 * q) (by omega), iN_16, iN_nat (a := 16 * b) (by omega), n16]
    refine wp_gd ⟨iN_neg hix0, iN_neg (by omega), by decide, hix, by rw [k5]; omega⟩ (wp_let ?_)
    refine wp_gd ⟨iN_neg hix0, iN_neg (by omega), by decide, hix, by rw [k6]; omega⟩ (wp_let (wp_let (wp_let ?_)))
    have hfin := c_wrA h2 0 1 3 (125) 20 b ix q x (by omega) _ hA
    refine wp_rO (u := zcA 1 3 20 s9 b ix q) hu ⟨?_, zHd_trans hH (zHd_A (by omega))⟩
    have eD : ((p.dv 0).add b x) = ZDv.mk (p.dv 0).st ((p.dv 0).pd ++ [(b, x)]) ((p.dv 0).wr + 1) (p.dv 0).fl := by
      unfold ZDv.add; rw [if_neg h64]
    rw [eD]; exact hfin
theorem c_put_3_27 (K : px_K) (N n sets : Nat) (hK : zKc K n sets) (t : px_W) (s : px_S) (p : ZPw) (h : zCw n s p) (hu : p.up = true) (b ix : Nat) (x : ZBk) (hb : b < 125) (hx : ∀ w, w < 16 → s.2.2.1 27 (ix + w) = x w) (hix : ix + 16 ≤ K.2.2 27) (hna : (p.wr 0 b x).na < 2305843009213693952) : wp (f_D_put_3_27 K N (iN b) (iN ix) s t) (zO n none t s (p.wr 0 b x) (fun u => zCw n u (p.wr 0 b x) ∧ zHd s u)) := by
  have hn64 : n ≤ 64 := hK.2.2.2.2.2.2.2.2.2.2.2.2.2.2.2.2.2.2.2.2
  have k4 : K.2.2 4 = 64 := hK.1
  have k5 : K.2.2 5 = 1024 := hK.2.1
  have k6 : K.2.2 6 = 16 * 125 := hK.2.2.1
  have k7 : K.2.2 7 = 16 * 125 := hK.2.2.2.1
  have hLS : K.2.2 27 < 2147483648 := by
    have := hK.2.2.2.2.2.2.2.2.2.2.2.2.2.2.2.2.2.2.2.1
    omega
  have hix0 : ix < 2147483648 := by omega
  obtain ⟨g1, g2, g3, g4, g5, ⟨f, f1, f2, f3⟩, g7, g8⟩ := h.1
  have hhas : f_D_has_3 K N (iN b) s t = some (.inl (some (.int 1)), s, t) := by
    unfold f_D_has_3
    rw [g2, if_neg (iN_neg (by omega)), if_neg (by rw [iN_le (by omega) (by omega)]; omega), px_gd_of (Or.inr rfl)]
  have hlim := c_lim h (by
    by_cases hl : p.lim = 1
    · rw [ZPw.wr_1 hu hl] at hna; exact hna
    · rw [ZPw.wr_2 hu hl] at hna; exact hna)
  unfold f_D_put_3_27
  refine wp_bi hhas (wp_ifn (by decide) (wp_ifn (iN_neg hix0) (wp_if (iN_le_sub hix hLS) (wp_let ?_))))
  by_cases hl : p.lim = 1
  · rw [ZPw.wr_1 hu hl]
    refine wp_ifn (fun hx => hx (hlim.mpr hl)) ⟨_, rfl, .inr ⟨rfl, _, rfl, c_act1 h hl, zHd_x (zHd_sQ _ _)⟩⟩
  refine wp_if (fun hx => hl (hlim.mp hx)) ?_
  rw [ZPw.wr_2 hu hl]
  have h2 := c_act2 h hl
  have hH := zHd_sQ s (s.2.1 0 + 1)
  obtain ⟨s9, hs9⟩ : ∃ s9, s9 = sQ s 0 (s.2.1 0 + 1) := ⟨_, rfl⟩
  rw [← hs9] at h2 hH
  rw [← hs9]
  have q2 : s9.1 2 = iN f := by rw [hs9]; exact f2
  have q3 : s9.1 3 = iN (p.dv 0).pd.length := by rw [hs9]; exact g3
  have qx : ∀ w, w < 16 → s9.2.2.1 27 (ix + w) = x w := by rw [hs9]; exact hx
  by_cases h64 : (p.dv 0).pd.length = 64
  · have e64 : s9.1 3 = 64 := by rw [q3, h64]; rfl
    have h9 : zCd s9 1 3 (125) (p.dv 0) := h2.1
    obtain ⟨b0, e1, e2, e3⟩ := zcE_ok h9 h64 f f1 q2
    have e1 : s9.2.2.1 4 f = iN b0 := e1
    refine wp_ifn (fun hx => hx e64) ?_
    rw [q2, iN_nat (by omega), e1, iN_16, iN_16, n16, iN_nat (by omega), iN_nat (by omega)]
    refine wp_gd ⟨by rw [k4]; exact iN_in (by omega) f1, iN_neg (by omega), iN_neg (by omega), by decide, by rw [k5]; omega, by rw [k7]; omega⟩ (wp_let (wp_let (wp_let ?_)))
    have ez : (sR (sR (sF s9 7 (va_cpy (s9.2.2.1 5) (s9.2.2.1 7) (16 * f) (16 * b0) 16)) 2 (((sF s9 7 (va_cpy (s9.2.2.1 5) (s9.2.2.1 7) (16 * f) (16 * b0) 16)).1 2 + 1) - ((sF s9 7 (va_cpy (s9.2.2.1 5) (s9.2.2.1 7) (16 * f) (16 * b0) 16)).1 2 + 1) / 64 * 64)) 3 ((sR (sF s9 7 (va_cpy (s9.2.2.1 5) (s9.2.2.1 7) (16 * f) (16 * b0) 16)) 2 (((sF s9 7 (va_cpy (s9.2.2.1 5) (s9.2.2.1 7) (16 * f) (16 * b0) 16)).1 2 + 1) - ((sF s9 7 (va_cpy (s9.2.2.1 5) (s9.2.2.1 7) (16 * f) (16 * b0) 16)).1 2 + 1) / 64 * 64)).1 3 - 1)) = zcE 1 3 s9 f b0 := by
      have a1 : ((sF s9 7 (va_cpy (s9.2.2.1 5) (s9.2.2.1 7) (16 * f) (16 * b0) 16)).1 2 + 1) - ((sF s9 7 (va_cpy (s9.2.2.1 5) (s9.2.2.1 7) (16 * f) (16 * b0) 16)).1 2 + 1) / 64 * 64 = iN ((f + 1) % 64) := by
        show s9.1 2 + 1 - (s9.1 2 + 1) / 64 * 64 = _
        rw [q2]; exact ring_q (m := 1) f1 (by omega)
      rw [a1, sR_ne (by omega)]
      show sR (sR _ _ _) 3 (s9.1 3 - 1) = _
      rw [e64]; rfl
    rw [ez]
    have hE : zHd s9 (zcE 1 3 s9 f b0) := zHd_E (by omega)
    have hw : zCw n (zcE 1 3 s9 f b0) (ZPw.mk (zu p.dv 0 (ZDv.mk (zov (p.dv 0).st ((p.dv 0).pd.take 1)) ((p.dv 0).pd.drop 1) (p.dv 0).wr (p.dv 0).fl)) p.up (p.lim - 1) p.msk (p.na + 1)) := ⟨e3, zcE_cd (by omega) h2.2.1, h2.2.2⟩
    obtain ⟨s34, hs34⟩ : ∃ s34, s34 = zcE 1 3 s9 f b0 := ⟨_, rfl⟩
    rw [← hs34] at hE hw e3
    rw [← hs34]
    have r2 : s34.1 2 = iN ((f + 1) % 64) := by rw [hs34]; exact (sR_ne (by omega)).trans (sR_self _ _ _)
    have r3 : s34.1 3 = iN 63 := by rw [hs34]; exact sR_self _ _ _
    have rx : ∀ w, w < 16 → s34.2.2.1 27 (ix + w) = x w := by
      intro w hw
      rw [hs34]
      show (sF s9 7 _).2.2.1 27 _ = _
      rw [sF_arr_ne (by omega)]; exact qx w hw
    have hfl : (f + 1) % 64 < 64 := Nat.mod_lt _ (by omega)
    have hlen : ((p.dv 0).pd.drop 1).length = 63 := by rw [List.length_drop, h64]
    refine wp_let ?_
    rw [r2, r3, ring_q hfl (by omega)]
    have hq : ((f + 1) % 64 + 63) % 64 < 64 := Nat.mod_lt _ (by omega)
    have hA := zcA_ok (src := 27) e3 (by show ((p.dv 0).pd.drop 1).length < 64; omega) ((f + 1) % 64) hfl r2 b ix x hb rx
    have hl2 : (ZDv.mk (zov (p.dv 0).st ((p.dv 0).pd.take 1)) ((p.dv 0).pd.drop 1) (p.dv 0).wr (p.dv 0).fl).pd.length = 63 := hlen
    rw [hl2] at hA
    obtain ⟨q, hqq⟩ : ∃ q, q = ((f + 1) % 64 + 63) % 64 := ⟨_, rfl⟩
    rw [← hqq] at hq hA
    rw [← hqq, iN_16, iN_nat (a := q) (by omega)]
    refine wp_gd (by rw [k4]; exact iN_in (by omega) hq) (wp_let ?_)
    rw [iN_nat (a := ix) hix0, iN_nat (a := 16 * q) (by omega), iN_16, iN_nat (a := 16 * b) (by omega)]
    refine wp_gd ⟨iN_neg hix0, iN_neg (by omega), by decide, hix, by rw [k5]; omega⟩ (wp_let ?_)
    refine wp_gd ⟨iN_neg hix0, iN_neg (by omega), by decide, hix, by rw [k6]; omega⟩ (wp_let (wp_let (wp_let ?_)))
    have hfin := c_wrA hw 0 1 3 (125) 27 b ix q x (by omega) _ hA
    refine wp_rO (u := zcA 1 3 27 s34 b ix q) hu ⟨?_, zHd_trans (zHd_trans hH hE) (zHd_A (by omega))⟩
    have eD : ((p.dv 0).add b x) = ZDv.mk (zov (p.dv 0).st ((p.dv 0).pd.take 1)) ((p.dv 0).pd.drop 1 ++ [(b, x)]) ((p.dv 0).wr + 1) (p.dv 0).fl := by
      unfold ZDv.add; rw [if_pos h64]
    have edv : zu p.dv 0 ((p.dv 0).add b x) = zu (zu p.dv 0 (ZDv.mk (zov (p.dv 0).st ((p.dv 0).pd.take 1)) ((p.dv 0).pd.drop 1) (p.dv 0).wr (p.dv 0).fl)) 0 ((p.dv 0).add b x) := by
      funext j; unfold zu; by_cases hj : j = 0
      · rw [if_pos hj, if_pos hj]
      · rw [if_neg hj, if_neg hj, if_neg hj]
    rw [edv, eD]; exact hfin
  · refine wp_if (fun hx => h64 ?_) ?_
    · rw [q3] at hx; exact (iN_eq (by omega) (by omega)).mp hx
    refine wp_let ?_
    rw [q2, q3, ring_q f1 g1]
    have h9 : zCd s9 1 3 (125) (p.dv 0) := h2.1
    have hA := zcA_ok (src := 27) h9 (by omega) f f1 q2 b ix x hb qx
    have hq : (f + (p.dv 0).pd.length) % 64 < 64 := Nat.mod_lt _ (by omega)
    obtain ⟨q, hqq⟩ : ∃ q, q = (f + (p.dv 0).pd.length) % 64 := ⟨_, rfl⟩
    rw [← hqq] at hq hA
    rw [← hqq, iN_16, iN_nat (a := q) (by omega)]
    refine wp_gd (by rw [k4]; exact iN_in (by omega) hq) (wp_let ?_)
    rw [iN_nat (a := ix) hix0, iN_nat (a := 16 * q) (by omega), iN_16, iN_nat (a := 16 * b) (by omega), n16]
    refine wp_gd ⟨iN_neg hix0, iN_neg (by omega), by decide, hix, by rw [k5]; omega⟩ (wp_let ?_)
    refine wp_gd ⟨iN_neg hix0, iN_neg (by omega), by decide, hix, by rw [k6]; omega⟩ (wp_let (wp_let (wp_let ?_)))
    have hfin := c_wrA h2 0 1 3 (125) 27 b ix q x (by omega) _ hA
    refine wp_rO (u := zcA 1 3 27 s9 b ix q) hu ⟨?_, zHd_trans hH (zHd_A (by omega))⟩
    have eD : ((p.dv 0).add b x) = ZDv.mk (p.dv 0).st ((p.dv 0).pd ++ [(b, x)]) ((p.dv 0).wr + 1) (p.dv 0).fl := by
      unfold ZDv.add; rw [if_neg h64]
    rw [eD]; exact hfin
theorem c_put_3_24 (K : px_K) (N n sets : Nat) (hK : zKc K n sets) (t : px_W) (s : px_S) (p : ZPw) (h : zCw n s p) (hu : p.up = true) (b ix : Nat) (x : ZBk) (hb : b < 125) (hx : ∀ w, w < 16 → s.2.2.1 24 (ix + w) = x w) (hix : ix + 16 ≤ K.2.2 24) (hna : (p.wr 0 b x).na < 2305843009213693952) : wp (f_D_put_3_24 K N (iN b) (iN ix) s t) (zO n none t s (p.wr 0 b x) (fun u => zCw n u (p.wr 0 b x) ∧ zHd s u)) := by
  have hn64 : n ≤ 64 := hK.2.2.2.2.2.2.2.2.2.2.2.2.2.2.2.2.2.2.2.2
  have k4 : K.2.2 4 = 64 := hK.1
  have k5 : K.2.2 5 = 1024 := hK.2.1
  have k6 : K.2.2 6 = 16 * 125 := hK.2.2.1
  have k7 : K.2.2 7 = 16 * 125 := hK.2.2.2.1
  have hLS : K.2.2 24 < 2147483648 := by
    have := hK.2.2.2.2.2.2.2.2.2.2.2.2.2.2.2.2.1
    omega
  have hix0 : ix < 2147483648 := by omega
  obtain ⟨g1, g2, g3, g4, g5, ⟨f, f1, f2, f3⟩, g7, g8⟩ := h.1
  have hhas : f_D_has_3 K N (iN b) s t = some (.inl (some (.int 1)), s, t) := by
    unfold f_D_has_3
    rw [g2, if_neg (iN_neg (by omega)), if_neg (by rw [iN_le (by omega) (by omega)]; omega), px_gd_of (Or.inr rfl)]
  have hlim := c_lim h (by
    by_cases hl : p.lim = 1
    · rw [ZPw.wr_1 hu hl] at hna; exact hna
    · rw [ZPw.wr_2 hu hl] at hna; exact hna)
  unfold f_D_put_3_24
  refine wp_bi hhas (wp_ifn (by decide) (wp_ifn (iN_neg hix0) (wp_if (iN_le_sub hix hLS) (wp_let ?_))))
  by_cases hl : p.lim = 1
  · rw [ZPw.wr_1 hu hl]
    refine wp_ifn (fun hx => hx (hlim.mpr hl)) ⟨_, rfl, .inr ⟨rfl, _, rfl, c_act1 h hl, zHd_x (zHd_sQ _ _)⟩⟩
  refine wp_if (fun hx => hl (hlim.mp hx)) ?_
  rw [ZPw.wr_2 hu hl]
  have h2 := c_act2 h hl
  have hH := zHd_sQ s (s.2.1 0 + 1)
  obtain ⟨s9, hs9⟩ : ∃ s9, s9 = sQ s 0 (s.2.1 0 + 1) := ⟨_, rfl⟩
  rw [← hs9] at h2 hH
  rw [← hs9]
  have q2 : s9.1 2 = iN f := by rw [hs9]; exact f2
  have q3 : s9.1 3 = iN (p.dv 0).pd.length := by rw [hs9]; exact g3
  have qx : ∀ w, w < 16 → s9.2.2.1 24 (ix + w) = x w := by rw [hs9]; exact hx
  by_cases h64 : (p.dv 0).pd.length = 64
  · have e64 : s9.1 3 = 64 := by rw [q3, h64]; rfl
    have h9 : zCd s9 1 3 (125) (p.dv 0) := h2.1
    obtain ⟨b0, e1, e2, e3⟩ := zcE_ok h9 h64 f f1 q2
    have e1 : s9.2.2.1 4 f = iN b0 := e1
    refine wp_ifn (fun hx => hx e64) ?_
    rw [q2, iN_nat (by omega), e1, iN_16, iN_16, n16, iN_nat (by omega), iN_nat (by omega)]
    refine wp_gd ⟨by rw [k4]; exact iN_in (by omega) f1, iN_neg (by omega), iN_neg (by omega), by decide, by rw [k5]; omega, by rw [k7]; omega⟩ (wp_let (wp_let (wp_let ?_)))
    have ez : (sR (sR (sF s9 7 (va_cpy (s9.2.2.1 5) (s9.2.2.1 7) (16 * f) (16 * b0) 16)) 2 (((sF s9 7 (va_cpy (s9.2.2.1 5) (s9.2.2.1 7) (16 * f) (16 * b0) 16)).1 2 + 1) - ((sF s9 7 (va_cpy (s9.2.2.1 5) (s9.2.2.1 7) (16 * f) (16 * b0) 16)).1 2 + 1) / 64 * 64)) 3 ((sR (sF s9 7 (va_cpy (s9.2.2.1 5) (s9.2.2.1 7) (16 * f) (16 * b0) 16)) 2 (((sF s9 7 (va_cpy (s9.2.2.1 5) (s9.2.2.1 7) (16 * f) (16 * b0) 16)).1 2 + 1) - ((sF s9 7 (va_cpy (s9.2.2.1 5) (s9.2.2.1 7) (16 * f) (16 * b0) 16)).1 2 + 1) / 64 * 64)).1 3 - 1)) = zcE 1 3 s9 f b0 := by
      have a1 : ((sF s9 7 (va_cpy (s9.2.2.1 5) (s9.2.2.1 7) (16 * f) (16 * b0) 16)).1 2 + 1) - ((sF s9 7 (va_cpy (s9.2.2.1 5) (s9.2.2.1 7) (16 * f) (16 * b0) 16)).1 2 + 1) / 64 * 64 = iN ((f + 1) % 64) := by
        show s9.1 2 + 1 - (s9.1 2 + 1) / 64 * 64 = _
        rw [q2]; exact ring_q (m := 1) f1 (by omega)
      rw [a1, sR_ne (by omega)]
      show sR (sR _ _ _) 3 (s9.1 3 - 1) = _
      rw [e64]; rfl
    rw [ez]
    have hE : zHd s9 (zcE 1 3 s9 f b0) := zHd_E (by omega)
    have hw : zCw n (zcE 1 3 s9 f b0) (ZPw.mk (zu p.dv 0 (ZDv.mk (zov (p.dv 0).st ((p.dv 0).pd.take 1)) ((p.dv 0).pd.drop 1) (p.dv 0).wr (p.dv 0).fl)) p.up (p.lim - 1) p.msk (p.na + 1)) := ⟨e3, zcE_cd (by omega) h2.2.1, h2.2.2⟩
    obtain ⟨s34, hs34⟩ : ∃ s34, s34 = zcE 1 3 s9 f b0 := ⟨_, rfl⟩
    rw [← hs34] at hE hw e3
    rw [← hs34]
    have r2 : s34.1 2 = iN ((f + 1) % 64) := by rw [hs34]; exact (sR_ne (by omega)).trans (sR_self _ _ _)
    have r3 : s34.1 3 = iN 63 := by rw [hs34]; exact sR_self _ _ _
    have rx : ∀ w, w < 16 → s34.2.2.1 24 (ix + w) = x w := by
      intro w hw
      rw [hs34]
      show (sF s9 7 _).2.2.1 24 _ = _
      rw [sF_arr_ne (by omega)]; exact qx w hw
    have hfl : (f + 1) % 64 < 64 := Nat.mod_lt _ (by omega)
    have hlen : ((p.dv 0).pd.drop 1).length = 63 := by rw [List.length_drop, h64]
    refine wp_let ?_
    rw [r2, r3, ring_q hfl (by omega)]
    have hq : ((f + 1) % 64 + 63) % 64 < 64 := Nat.mod_lt _ (by omega)
    have hA := zcA_ok (src := 24) e3 (by show ((p.dv 0).pd.drop 1).length < 64; omega) ((f + 1) % 64) hfl r2 b ix x hb rx
    have hl2 : (ZDv.mk (zov (p.dv 0).st ((p.dv 0).pd.take 1)) ((p.dv 0).pd.drop 1) (p.dv 0).wr (p.dv 0).fl).pd.length = 63 := hlen
    rw [hl2] at hA
    obtain ⟨q, hqq⟩ : ∃ q, q = ((f + 1) % 64 + 63) % 64 := ⟨_, rfl⟩
    rw [← hqq] at hq hA
    rw [← hqq, iN_16, iN_nat (a := q) (by omega)]
    refine wp_gd (by rw [k4]; exact iN_in (by omega) hq) (wp_let ?_)
    rw [iN_nat (a := ix) hix0, iN_nat (a := 16 * q) (by omega), iN_16, iN_nat (a := 16 * b) (by omega)]
    refine wp_gd ⟨iN_neg hix0, iN_neg (by omega), by decide, hix, by rw [k5]; omega⟩ (wp_let ?_)
    refine wp_gd ⟨iN_neg hix0, iN_neg (by omega), by decide, hix, by rw [k6]; omega⟩ (wp_let (wp_let (wp_let ?_)))
    have hfin := c_wrA hw 0 1 3 (125) 24 b ix q x (by omega) _ hA
    refine wp_rO (u := zcA 1 3 24 s34 b ix q) hu ⟨?_, zHd_trans (zHd_trans hH hE) (zHd_A (by omega))⟩
    have eD : ((p.dv 0).add b x) = ZDv.mk (zov (p.dv 0).st ((p.dv 0).pd.take 1)) ((p.dv 0).pd.drop 1 ++ [(b, x)]) ((p.dv 0).wr + 1) (p.dv 0).fl := by
      unfold ZDv.add; rw [if_pos h64]
    have edv : zu p.dv 0 ((p.dv 0).add b x) = zu (zu p.dv 0 (ZDv.mk (zov (p.dv 0).st ((p.dv 0).pd.take 1)) ((p.dv 0).pd.drop 1) (p.dv 0).wr (p.dv 0).fl)) 0 ((p.dv 0).add b x) := by
      funext j; unfold zu; by_cases hj : j = 0
      · rw [if_pos hj, if_pos hj]
      · rw [if_neg hj, if_neg hj, if_neg hj]
    rw [edv, eD]; exact hfin
  · refine wp_if (fun hx => h64 ?_) ?_
    · rw [q3] at hx; exact (iN_eq (by omega) (by omega)).mp hx
    refine wp_let ?_
    rw [q2, q3, ring_q f1 g1]
    have h9 : zCd s9 1 3 (125) (p.dv 0) := h2.1
    have hA := zcA_ok (src := 24) h9 (by omega) f f1 q2 b ix x hb qx
    have hq : (f + (p.dv 0).pd.length) % 64 < 64 := Nat.mod_lt _ (by omega)
    obtain ⟨q, hqq⟩ : ∃ q, q = (f + (p.dv 0).pd.length) % 64 := ⟨_, rfl⟩
    rw [← hqq] at hq hA
    rw [← hqq, iN_16, iN_nat (a := q) (by omega)]
    refine wp_gd (by rw [k4]; exact iN_in (by omega) hq) (wp_let ?_)
    rw [iN_nat (a := ix) hix0, iN_nat (a := 16 * q) (by omega), iN_16, iN_nat (a := 16 * b) (by omega), n16]
    refine wp_gd ⟨iN_neg hix0, iN_neg (by omega), by decide, hix, by rw [k5]; omega⟩ (wp_let ?_)
    refine wp_gd ⟨iN_neg hix0, iN_neg (by omega), by decide, hix, by rw [k6]; omega⟩ (wp_let (wp_let (wp_let ?_)))
    have hfin := c_wrA h2 0 1 3 (125) 24 b ix q x (by omega) _ hA
    refine wp_rO (u := zcA 1 3 24 s9 b ix q) hu ⟨?_, zHd_trans hH (zHd_A (by omega))⟩
    have eD : ((p.dv 0).add b x) = ZDv.mk (p.dv 0).st ((p.dv 0).pd ++ [(b, x)]) ((p.dv 0).wr + 1) (p.dv 0).fl := by
      unfold ZDv.add; rw [if_neg h64]
    rw [eD]; exact hfin
theorem c_put_3_6 (K : px_K) (N n sets : Nat) (hK : zKc K n sets) (t : px_W) (s : px_S) (p : ZPw) (h : zCw n s p) (hu : p.up = true) (b ix : Nat) (x : ZBk) (hb : b < 125) (hx : ∀ w, w < 16 → s.2.2.1 6 (ix + w) = x w) (hix : ix + 16 ≤ K.2.2 6) (hna : (p.wr 0 b x).na < 2305843009213693952) : wp (f_D_put_3_6 K N (iN b) (iN ix) s t) (zO n none t s (p.wr 0 b x) (fun u => zCw n u (p.wr 0 b x) ∧ zHd s u)) := by
  have hn64 : n ≤ 64 := hK.2.2.2.2.2.2.2.2.2.2.2.2.2.2.2.2.2.2.2.2
  have k4 : K.2.2 4 = 64 := hK.1
  have k5 : K.2.2 5 = 1024 := hK.2.1
  have k6 : K.2.2 6 = 16 * 125 := hK.2.2.1
  have k7 : K.2.2 7 = 16 * 125 := hK.2.2.2.1
  have hLS : K.2.2 6 < 2147483648 := by
    have := hK.2.2.1
    omega
  have hix0 : ix < 2147483648 := by omega
  obtain ⟨g1, g2, g3, g4, g5, ⟨f, f1, f2, f3⟩, g7, g8⟩ := h.1
  have hhas : f_D_has_3 K N (iN b) s t = some (.inl (some (.int 1)), s, t) := by
    unfold f_D_has_3
    rw [g2, if_neg (iN_neg (by omega)), if_neg (by rw [iN_le (by omega) (by omega)]; omega), px_gd_of (Or.inr rfl)]
  have hlim := c_lim h (by
    by_cases hl : p.lim = 1
    · rw [ZPw.wr_1 hu hl] at hna; exact hna
    · rw [ZPw.wr_2 hu hl] at hna; exact hna)
  unfold f_D_put_3_6
  refine wp_bi hhas (wp_ifn (by decide) (wp_ifn (iN_neg hix0) (wp_if (iN_le_sub hix hLS) (wp_let ?_))))
  by_cases hl : p.lim = 1
  · rw [ZPw.wr_1 hu hl]
    refine wp_ifn (fun hx => hx (hlim.mpr hl)) ⟨_, rfl, .inr ⟨rfl, _, rfl, c_act1 h hl, zHd_x (zHd_sQ _ _)⟩⟩
  refine wp_if (fun hx => hl (hlim.mp hx)) ?_
  rw [ZPw.wr_2 hu hl]
  have h2 := c_act2 h hl
  have hH := zHd_sQ s (s.2.1 0 + 1)
  obtain ⟨s9, hs9⟩ : ∃ s9, s9 = sQ s 0 (s.2.1 0 + 1) := ⟨_, rfl⟩
  rw [← hs9] at h2 hH
  rw [← hs9]
  have q2 : s9.1 2 = iN f := by rw [hs9]; exact f2
  have q3 : s9.1 3 = iN (p.dv 0).pd.length := by rw [hs9]; exact g3
  have qx : ∀ w, w < 16 → s9.2.2.1 6 (ix + w) = x w := by rw [hs9]; exact hx
  by_cases h64 : (p.dv 0).pd.length = 64
  · have e64 : s9.1 3 = 64 := by rw [q3, h64]; rfl
    have h9 : zCd s9 1 3 (125) (p.dv 0) := h2.1
    obtain ⟨b0, e1, e2, e3⟩ := zcE_ok h9 h64 f f1 q2
    have e1 : s9.2.2.1 4 f = iN b0 := e1
    refine wp_ifn (fun hx => hx e64) ?_
    rw [q2, iN_nat (by omega), e1, iN_16, iN_16, n16, iN_nat (by omega), iN_nat (by omega)]
    refine wp_gd ⟨by rw [k4]; exact iN_in (by omega) f1, iN_neg (by omega), iN_neg (by omega), by decide, by rw [k5]; omega, by rw [k7]; omega⟩ (wp_let (wp_let (wp_let ?_)))
    have ez : (sR (sR (sF s9 7 (va_cpy (s9.2.2.1 5) (s9.2.2.1 7) (16 * f) (16 * b0) 16)) 2 (((sF s9 7 (va_cpy (s9.2.2.1 5) (s9.2.2.1 7) (16 * f) (16 * b0) 16)).1 2 + 1) - ((sF s9 7 (va_cpy (s9.2.2.1 5) (s9.2.2.1 7) (16 * f) (16 * b0) 16)).1 2 + 1) / 64 * 64)) 3 ((sR (sF s9 7 (va_cpy (s9.2.2.1 5) (s9.2.2.1 7) (16 * f) (16 * b0) 16)) 2 (((sF s9 7 (va_cpy (s9.2.2.1 5) (s9.2.2.1 7) (16 * f) (16 * b0) 16)).1 2 + 1) - ((sF s9 7 (va_cpy (s9.2.2.1 5) (s9.2.2.1 7) (16 * f) (16 * b0) 16)).1 2 + 1) / 64 * 64)).1 3 - 1)) = zcE 1 3 s9 f b0 := by
      have a1 : ((sF s9 7 (va_cpy (s9.2.2.1 5) (s9.2.2.1 7) (16 * f) (16 * b0) 16)).1 2 + 1) - ((sF s9 7 (va_cpy (s9.2.2.1 5) (s9.2.2.1 7) (16 * f) (16 * b0) 16)).1 2 + 1) / 64 * 64 = iN ((f + 1) % 64) := by
        show s9.1 2 + 1 - (s9.1 2 + 1) / 64 * 64 = _
        rw [q2]; exact ring_q (m := 1) f1 (by omega)
      rw [a1, sR_ne (by omega)]
      show sR (sR _ _ _) 3 (s9.1 3 - 1) = _
      rw [e64]; rfl
    rw [ez]
    have hE : zHd s9 (zcE 1 3 s9 f b0) := zHd_E (by omega)
    have hw : zCw n (zcE 1 3 s9 f b0) (ZPw.mk (zu p.dv 0 (ZDv.mk (zov (p.dv 0).st ((p.dv 0).pd.take 1)) ((p.dv 0).pd.drop 1) (p.dv 0).wr (p.dv 0).fl)) p.up (p.lim - 1) p.msk (p.na + 1)) := ⟨e3, zcE_cd (by omega) h2.2.1, h2.2.2⟩
    obtain ⟨s34, hs34⟩ : ∃ s34, s34 = zcE 1 3 s9 f b0 := ⟨_, rfl⟩
    rw [← hs34] at hE hw e3
    rw [← hs34]
    have r2 : s34.1 2 = iN ((f + 1) % 64) := by rw [hs34]; exact (sR_ne (by omega)).trans (sR_self _ _ _)
    have r3 : s34.1 3 = iN 63 := by rw [hs34]; exact sR_self _ _ _
    have rx : ∀ w, w < 16 → s34.2.2.1 6 (ix + w) = x w := by
      intro w hw
      rw [hs34]
      show (sF s9 7 _).2.2.1 6 _ = _
      rw [sF_arr_ne (by omega)]; exact qx w hw
    have hfl : (f + 1) % 64 < 64 := Nat.mod_lt _ (by omega)
    have hlen : ((p.dv 0).pd.drop 1).length = 63 := by rw [List.length_drop, h64]
    refine wp_let ?_
    rw [r2, r3, ring_q hfl (by omega)]
    have hq : ((f + 1) % 64 + 63) % 64 < 64 := Nat.mod_lt _ (by omega)
    have hA := zcA_ok (src := 6) e3 (by show ((p.dv 0).pd.drop 1).length < 64; omega) ((f + 1) % 64) hfl r2 b ix x hb rx
    have hl2 : (ZDv.mk (zov (p.dv 0).st ((p.dv 0).pd.take 1)) ((p.dv 0).pd.drop 1) (p.dv 0).wr (p.dv 0).fl).pd.length = 63 := hlen
    rw [hl2] at hA
    obtain ⟨q, hqq⟩ : ∃ q, q = ((f + 1) % 64 + 63) % 64 := ⟨_, rfl⟩
    rw [← hqq] at hq hA
    rw [← hqq, iN_16, iN_nat (a := q) (by omega)]
    refine wp_gd (by rw [k4]; exact iN_in (by omega) hq) (wp_let ?_)
    rw [iN_nat (a := ix) hix0, iN_nat (a := 16 * q) (by omega), iN_16, iN_nat (a := 16 * b) (by omega)]
    refine wp_gd ⟨iN_neg hix0, iN_neg (by omega), by decide, hix, by rw [k5]; omega⟩ (wp_let ?_)
    refine wp_gd ⟨iN_neg hix0, iN_neg (by omega), by decide, hix, by rw [k6]; omega⟩ (wp_let (wp_let (wp_let ?_)))
    have hfin := c_wrA hw 0 1 3 (125) 6 b ix q x (by omega) _ hA
    refine wp_rO (u := zcA 1 3 6 s34 b ix q) hu ⟨?_, zHd_trans (zHd_trans hH hE) (zHd_A (by omega))⟩
    have eD : ((p.dv 0).add b x) = ZDv.mk (zov (p.dv 0).st ((p.dv 0).pd.take 1)) ((p.dv 0).pd.drop 1 ++ [(b, x)]) ((p.dv 0).wr + 1) (p.dv 0).fl := by
      unfold ZDv.add; rw [if_pos h64]
    have edv : zu p.dv 0 ((p.dv 0).add b x) = zu (zu p.dv 0 (ZDv.mk (zov (p.dv 0).st ((p.dv 0).pd.take 1)) ((p.dv 0).pd.drop 1) (p.dv 0).wr (p.dv 0).fl)) 0 ((p.dv 0).add b x) := by
      funext j; unfold zu; by_cases hj : j = 0
      · rw [if_pos hj, if_pos hj]
      · rw [if_neg hj, if_neg hj, if_neg hj]
    rw [edv, eD]; exact hfin
  · refine wp_if (fun hx => h64 ?_) ?_
    · rw [q3] at hx; exact (iN_eq (by omega) (by omega)).mp hx
    refine wp_let ?_
    rw [q2, q3, ring_q f1 g1]
    have h9 : zCd s9 1 3 (125) (p.dv 0) := h2.1
    have hA := zcA_ok (src := 6) h9 (by omega) f f1 q2 b ix x hb qx
    have hq : (f + (p.dv 0).pd.length) % 64 < 64 := Nat.mod_lt _ (by omega)
    obtain ⟨q, hqq⟩ : ∃ q, q = (f + (p.dv 0).pd.length) % 64 := ⟨_, rfl⟩
    rw [← hqq] at hq hA
    rw [← hqq, iN_16, iN_nat (a := q) (by omega)]
    refine wp_gd (by rw [k4]; exact iN_in (by omega) hq) (wp_let ?_)
    rw [iN_nat (a := ix) hix0, iN_nat (a := 16 * q) (by omega), iN_16, iN_nat (a := 16 * b) (by omega), n16]
    refine wp_gd ⟨iN_neg hix0, iN_neg (by omega), by decide, hix, by rw [k5]; omega⟩ (wp_let ?_)
    refine wp_gd ⟨iN_neg hix0, iN_neg (by omega), by decide, hix, by rw [k6]; omega⟩ (wp_let (wp_let (wp_let ?_)))
    have hfin := c_wrA h2 0 1 3 (125) 6 b ix q x (by omega) _ hA
    refine wp_rO (u := zcA 1 3 6 s9 b ix q) hu ⟨?_, zHd_trans hH (zHd_A (by omega))⟩
    have eD : ((p.dv 0).add b x) = ZDv.mk (p.dv 0).st ((p.dv 0).pd ++ [(b, x)]) ((p.dv 0).wr + 1) (p.dv 0).fl := by
      unfold ZDv.add; rw [if_neg h64]
    rw [eD]; exact hfin
theorem c_put_8_20 (K : px_K) (N n sets : Nat) (hK : zKc K n sets) (t : px_W) (s : px_S) (p : ZPw) (h : zCw n s p) (hu : p.up = true) (b ix : Nat) (x : ZBk) (hb : b < (50 + n)) (hx : ∀ w, w < 16 → s.2.2.1 20 (ix + w) = x w) (hix : ix + 16 ≤ K.2.2 20) (hna : (p.wr 1 b x).na < 2305843009213693952) : wp (f_D_put_8_20 K N (iN b) (iN ix) s t) (zO n none t s (p.wr 1 b x) (fun u => zCw n u (p.wr 1 b x) ∧ zHd s u)) := by
  have hn64 : n ≤ 64 := hK.2.2.2.2.2.2.2.2.2.2.2.2.2.2.2.2.2.2.2.2
  have k4 : K.2.2 9 = 64 := hK.2.2.2.2.1
  have k5 : K.2.2 10 = 1024 := hK.2.2.2.2.2.1
  have k6 : K.2.2 11 = 16 * (50 + n) := hK.2.2.2.2.2.2.1
  have k7 : K.2.2 12 = 16 * (50 + n) := hK.2.2.2.2.2.2.2.1
  have hLS : K.2.2 20 < 2147483648 := by
    have := hK.2.2.2.2.2.2.2.2.2.2.2.2.2.1
    omega
  have hix0 : ix < 2147483648 := by omega
  obtain ⟨g1, g2, g3, g4, g5, ⟨f, f1, f2, f3⟩, g7, g8⟩ := h.2.1
  have hhas : f_D_has_8 K N (iN b) s t = some (.inl (some (.int 1)), s, t) := by
    unfold f_D_has_8
    rw [g2, if_neg (iN_neg (by omega)), if_neg (by rw [iN_le (by omega) (by omega)]; omega), px_gd_of (Or.inr rfl)]
  have hlim := c_lim h (by
    by_cases hl : p.lim = 1
    · rw [ZPw.wr_1 hu hl] at hna; exact hna
    · rw [ZPw.wr_2 hu hl] at hna; exact hna)
  unfold f_D_put_8_20
  refine wp_bi hhas (wp_ifn (by decide) (wp_ifn (iN_neg hix0) (wp_if (iN_le_sub hix hLS) (wp_let ?_))))
  by_cases hl : p.lim = 1
  · rw [ZPw.wr_1 hu hl]
    refine wp_ifn (fun hx => hx (hlim.mpr hl)) ⟨_, rfl, .inr ⟨rfl, _, rfl, c_act1 h hl, zHd_x (zHd_sQ _ _)⟩⟩
  refine wp_if (fun hx => hl (hlim.mp hx)) ?_
  rw [ZPw.wr_2 hu hl]
  have h2 := c_act2 h hl
  have hH := zHd_sQ s (s.2.1 0 + 1)
  obtain ⟨s9, hs9⟩ : ∃ s9, s9 = sQ s 0 (s.2.1 0 + 1) := ⟨_, rfl⟩
  rw [← hs9] at h2 hH
  rw [← hs9]
  have q2 : s9.1 7 = iN f := by rw [hs9]; exact f2
  have q3 : s9.1 8 = iN (p.dv 1).pd.length := by rw [hs9]; exact g3
  have qx : ∀ w, w < 16 → s9.2.2.1 20 (ix + w) = x w := by rw [hs9]; exact hx
  by_cases h64 : (p.dv 1).pd.length = 64
  · have e64 : s9.1 8 = 64 := by rw [q3, h64]; rfl
    have h9 : zCd s9 6 8 ((50 + n)) (p.dv 1) := h2.2.1
    obtain ⟨b0, e1, e2, e3⟩ := zcE_ok h9 h64 f f1 q2
    have e1 : s9.2.2.1 9 f = iN b0 := e1
    refine wp_ifn (fun hx => hx e64) ?_
    rw [q2, iN_nat (by omega), e1, iN_16, iN_16, n16, iN_nat (by omega), iN_nat (by omega)]
    refine wp_gd ⟨by rw [k4]; exact iN_in (by omega) f1, iN_neg (by omega), iN_neg (by omega), by decide, by rw [k5]; omega, by rw [k7]; omega⟩ (wp_let (wp_let (wp_let ?_)))
    have ez : (sR (sR (sF s9 12 (va_cpy (s9.2.2.1 10) (s9.2.2.1 12) (16 * f) (16 * b0) 16)) 7 (((sF s9 12 (va_cpy (s9.2.2.1 10) (s9.2.2.1 12) (16 * f) (16 * b0) 16)).1 7 + 1) - ((sF s9 12 (va_cpy (s9.2.2.1 10) (s9.2.2.1 12) (16 * f) (16 * b0) 16)).1 7 + 1) / 64 * 64)) 8 ((sR (sF s9 12 (va_cpy (s9.2.2.1 10) (s9.2.2.1 12) (16 * f) (16 * b0) 16)) 7 (((sF s9 12 (va_cpy (s9.2.2.1 10) (s9.2.2.1 12) (16 * f) (16 * b0) 16)).1 7 + 1) - ((sF s9 12 (va_cpy (s9.2.2.1 10) (s9.2.2.1 12) (16 * f) (16 * b0) 16)).1 7 + 1) / 64 * 64)).1 8 - 1)) = zcE 6 8 s9 f b0 := by
      have a1 : ((sF s9 12 (va_cpy (s9.2.2.1 10) (s9.2.2.1 12) (16 * f) (16 * b0) 16)).1 7 + 1) - ((sF s9 12 (va_cpy (s9.2.2.1 10) (s9.2.2.1 12) (16 * f) (16 * b0) 16)).1 7 + 1) / 64 * 64 = iN ((f + 1) % 64) := by
        show s9.1 7 + 1 - (s9.1 7 + 1) / 64 * 64 = _
        rw [q2]; exact ring_q (m := 1) f1 (by omega)
      rw [a1, sR_ne (by omega)]
      show sR (sR _ _ _) 8 (s9.1 8 - 1) = _
      rw [e64]; rfl
    rw [ez]
    have hE : zHd s9 (zcE 6 8 s9 f b0) := zHd_E (by omega)
    have hw : zCw n (zcE 6 8 s9 f b0) (ZPw.mk (zu p.dv 1 (ZDv.mk (zov (p.dv 1).st ((p.dv 1).pd.take 1)) ((p.dv 1).pd.drop 1) (p.dv 1).wr (p.dv 1).fl)) p.up (p.lim - 1) p.msk (p.na + 1)) := ⟨zcE_cd (by omega) h2.1, e3, h2.2.2⟩
    obtain ⟨s34, hs34⟩ : ∃ s34, s34 = zcE 6 8 s9 f b0 := ⟨_, rfl⟩
    rw [← hs34] at hE hw e3
    rw [← hs34]
    have r2 : s34.1 7 = iN ((f + 1) % 64) := by rw [hs34]; exact (sR_ne (by omega)).trans (sR_self _ _ _)
    have r3 : s34.1 8 = iN 63 := by rw [hs34]; exact sR_self _ _ _
    have rx : ∀ w, w < 16 → s34.2.2.1 20 (ix + w) = x w := by
      intro w hw
      rw [hs34]
      show (sF s9 12 _).2.2.1 20 _ = _
      rw [sF_arr_ne (by omega)]; exact qx w hw
    have hfl : (f + 1) % 64 < 64 := Nat.mod_lt _ (by omega)
    have hlen : ((p.dv 1).pd.drop 1).length = 63 := by rw [List.length_drop, h64]
    refine wp_let ?_
    rw [r2, r3, ring_q hfl (by omega)]
    have hq : ((f + 1) % 64 + 63) % 64 < 64 := Nat.mod_lt _ (by omega)
    have hA := zcA_ok (src := 20) e3 (by show ((p.dv 1).pd.drop 1).length < 64; omega) ((f + 1) % 64) hfl r2 b ix x hb rx
    have hl2 : (ZDv.mk (zov (p.dv 1).st ((p.dv 1).pd.take 1)) ((p.dv 1).pd.drop 1) (p.dv 1).wr (p.dv 1).fl).pd.length = 63 := hlen
    rw [hl2] at hA
    obtain ⟨q, hqq⟩ : ∃ q, q = ((f + 1) % 64 + 63) % 64 := ⟨_, rfl⟩
    rw [← hqq] at hq hA
    rw [← hqq, iN_16, iN_nat (a := q) (by omega)]
    refine wp_gd (by rw [k4]; exact iN_in (by omega) hq) (wp_let ?_)
    rw [iN_nat (a := ix) hix0, iN_nat (a := 16 * q) (by omega), iN_16, iN_nat (a := 16 * b) (by omega)]
    refine wp_gd ⟨iN_neg hix0, iN_neg (by omega), by decide, hix, by rw [k5]; omega⟩ (wp_let ?_)
    refine wp_gd ⟨iN_neg hix0, iN_neg (by omega), by decide, hix, by rw [k6]; omega⟩ (wp_let (wp_let (wp_let ?_)))
    have hfin := c_wrA hw 1 6 8 ((50 + n)) 20 b ix q x (by omega) _ hA
    refine wp_rO (u := zcA 6 8 20 s34 b ix q) hu ⟨?_, zHd_trans (zHd_trans hH hE) (zHd_A (by omega))⟩
    have eD : ((p.dv 1).add b x) = ZDv.mk (zov (p.dv 1).st ((p.dv 1).pd.take 1)) ((p.dv 1).pd.drop 1 ++ [(b, x)]) ((p.dv 1).wr + 1) (p.dv 1).fl := by
      unfold ZDv.add; rw [if_pos h64]
    have edv : zu p.dv 1 ((p.dv 1).add b x) = zu (zu p.dv 1 (ZDv.mk (zov (p.dv 1).st ((p.dv 1).pd.take 1)) ((p.dv 1).pd.drop 1) (p.dv 1).wr (p.dv 1).fl)) 1 ((p.dv 1).add b x) := by
      funext j; unfold zu; by_cases hj : j = 1
      · rw [if_pos hj, if_pos hj]
      · rw [if_neg hj, if_neg hj, if_neg hj]
    rw [edv, eD]; exact hfin
  · refine wp_if (fun hx => h64 ?_) ?_
    · rw [q3] at hx; exact (iN_eq (by omega) (by omega)).mp hx
    refine wp_let ?_
    rw [q2, q3, ring_q f1 g1]
    have h9 : zCd s9 6 8 ((50 + n)) (p.dv 1) := h2.2.1
    have hA := zcA_ok (src := 20) h9 (by omega) f f1 q2 b ix x hb qx
    have hq : (f + (p.dv 1).pd.length) % 64 < 64 := Nat.mod_lt _ (by omega)
    obtain ⟨q, hqq⟩ : ∃ q, q = (f + (p.dv 1).pd.length) % 64 := ⟨_, rfl⟩
    rw [← hqq] at hq hA
    rw [← hqq, iN_16, iN_nat (a := q) (by omega)]
    refine wp_gd (by rw [k4]; exact iN_in (by omega) hq) (wp_let ?_)
    rw [iN_nat (a := ix) hix0, iN_nat (a := 16 * q) (by omega), iN_16, iN_nat (a := 16 * b) (by omega), n16]
    refine wp_gd ⟨iN_neg hix0, iN_neg (by omega), by decide, hix, by rw [k5]; omega⟩ (wp_let ?_)
    refine wp_gd ⟨iN_neg hix0, iN_neg (by omega), by decide, hix, by rw [k6]; omega⟩ (wp_let (wp_let (wp_let ?_)))
    have hfin := c_wrA h2 1 6 8 ((50 + n)) 20 b ix q x (by omega) _ hA
    refine wp_rO (u := zcA 6 8 20 s9 b ix q) hu ⟨?_, zHd_trans hH (zHd_A (by omega))⟩
    have eD : ((p.dv 1).add b x) = ZDv.mk (p.dv 1).st ((p.dv 1).pd ++ [(b, x)]) ((p.dv 1).wr + 1) (p.dv 1).fl := by
      unfold ZDv.add; rw [if_neg h64]
    rw [eD]; exact hfin
theorem c_put_8_27 (K : px_K) (N n sets : Nat) (hK : zKc K n sets) (t : px_W) (s : px_S) (p : ZPw) (h : zCw n s p) (hu : p.up = true) (b ix : Nat) (x : ZBk) (hb : b < (50 + n)) (hx : ∀ w, w < 16 → s.2.2.1 27 (ix + w) = x w) (hix : ix + 16 ≤ K.2.2 27) (hna : (p.wr 1 b x).na < 2305843009213693952) : wp (f_D_put_8_27 K N (iN b) (iN ix) s t) (zO n none t s (p.wr 1 b x) (fun u => zCw n u (p.wr 1 b x) ∧ zHd s u)) := by
  have hn64 : n ≤ 64 := hK.2.2.2.2.2.2.2.2.2.2.2.2.2.2.2.2.2.2.2.2
  have k4 : K.2.2 9 = 64 := hK.2.2.2.2.1
  have k5 : K.2.2 10 = 1024 := hK.2.2.2.2.2.1
  have k6 : K.2.2 11 = 16 * (50 + n) := hK.2.2.2.2.2.2.1
  have k7 : K.2.2 12 = 16 * (50 + n) := hK.2.2.2.2.2.2.2.1
  have hLS : K.2.2 27 < 2147483648 := by
    have := hK.2.2.2.2.2.2.2.2.2.2.2.2.2.2.2.2.2.2.2.1
    omega
  have hix0 : ix < 2147483648 := by omega
  obtain ⟨g1, g2, g3, g4, g5, ⟨f, f1, f2, f3⟩, g7, g8⟩ := h.2.1
  have hhas : f_D_has_8 K N (iN b) s t = some (.inl (some (.int 1)), s, t) := by
    unfold f_D_has_8
    rw [g2, if_neg (iN_neg (by omega)), if_neg (by rw [iN_le (by omega) (by omega)]; omega), px_gd_of (Or.inr rfl)]
  have hlim := c_lim h (by
    by_cases hl : p.lim = 1
    · rw [ZPw.wr_1 hu hl] at hna; exact hna
    · rw [ZPw.wr_2 hu hl] at hna; exact hna)
  unfold f_D_put_8_27
  refine wp_bi hhas (wp_ifn (by decide) (wp_ifn (iN_neg hix0) (wp_if (iN_le_sub hix hLS) (wp_let ?_))))
  by_cases hl : p.lim = 1
  · rw [ZPw.wr_1 hu hl]
    refine wp_ifn (fun hx => hx (hlim.mpr hl)) ⟨_, rfl, .inr ⟨rfl, _, rfl, c_act1 h hl, zHd_x (zHd_sQ _ _)⟩⟩
  refine wp_if (fun hx => hl (hlim.mp hx)) ?_
  rw [ZPw.wr_2 hu hl]
  have h2 := c_act2 h hl
  have hH := zHd_sQ s (s.2.1 0 + 1)
  obtain ⟨s9, hs9⟩ : ∃ s9, s9 = sQ s 0 (s.2.1 0 + 1) := ⟨_, rfl⟩
  rw [← hs9] at h2 hH
  rw [← hs9]
  have q2 : s9.1 7 = iN f := by rw [hs9]; exact f2
  have q3 : s9.1 8 = iN (p.dv 1).pd.length := by rw [hs9]; exact g3
  have qx : ∀ w, w < 16 → s9.2.2.1 27 (ix + w) = x w := by rw [hs9]; exact hx
  by_cases h64 : (p.dv 1).pd.length = 64
  · have e64 : s9.1 8 = 64 := by rw [q3, h64]; rfl
    have h9 : zCd s9 6 8 ((50 + n)) (p.dv 1) := h2.2.1
    obtain ⟨b0, e1, e2, e3⟩ := zcE_ok h9 h64 f f1 q2
    have e1 : s9.2.2.1 9 f = iN b0 := e1
    refine wp_ifn (fun hx => hx e64) ?_
    rw [q2, iN_nat (by omega), e1, iN_16, iN_16, n16, iN_nat (by omega), iN_nat (by omega)]
    refine wp_gd ⟨by rw [k4]; exact iN_in (by omega) f1, iN_neg (by omega), iN_neg (by omega), by decide, by rw [k5]; omega, by rw [k7]; omega⟩ (wp_let (wp_let (wp_let ?_)))
    have ez : (sR (sR (sF s9 12 (va_cpy (s9.2.2.1 10) (s9.2.2.1 12) (16 * f) (16 * b0) 16)) 7 (((sF s9 12 (va_cpy (s9.2.2.1 10) (s9.2.2.1 12) (16 * f) (16 * b0) 16)).1 7 + 1) - ((sF s9 12 (va_cpy (s9.2.2.1 10) (s9.2.2.1 12) (16 * f) (16 * b0) 16)).1 7 + 1) / 64 * 64)) 8 ((sR (sF s9 12 (va_cpy (s9.2.2.1 10) (s9.2.2.1 12) (16 * f) (16 * b0) 16)) 7 (((sF s9 12 (va_cpy (s9.2.2.1 10) (s9.2.2.1 12) (16 * f) (16 * b0) 16)).1 7 + 1) - ((sF s9 12 (va_cpy (s9.2.2.1 10) (s9.2.2.1 12) (16 * f) (16 * b0) 16)).1 7 + 1) / 64 * 64)).1 8 - 1)) = zcE 6 8 s9 f b0 := by
      have a1 : ((sF s9 12 (va_cpy (s9.2.2.1 10) (s9.2.2.1 12) (16 * f) (16 * b0) 16)).1 7 + 1) - ((sF s9 12 (va_cpy (s9.2.2.1 10) (s9.2.2.1 12) (16 * f) (16 * b0) 16)).1 7 + 1) / 64 * 64 = iN ((f + 1) % 64) := by
        show s9.1 7 + 1 - (s9.1 7 + 1) / 64 * 64 = _
        rw [q2]; exact ring_q (m := 1) f1 (by omega)
      rw [a1, sR_ne (by omega)]
      show sR (sR _ _ _) 8 (s9.1 8 - 1) = _
      rw [e64]; rfl
    rw [ez]
    have hE : zHd s9 (zcE 6 8 s9 f b0) := zHd_E (by omega)
    have hw : zCw n (zcE 6 8 s9 f b0) (ZPw.mk (zu p.dv 1 (ZDv.mk (zov (p.dv 1).st ((p.dv 1).pd.take 1)) ((p.dv 1).pd.drop 1) (p.dv 1).wr (p.dv 1).fl)) p.up (p.lim - 1) p.msk (p.na + 1)) := ⟨zcE_cd (by omega) h2.1, e3, h2.2.2⟩
    obtain ⟨s34, hs34⟩ : ∃ s34, s34 = zcE 6 8 s9 f b0 := ⟨_, rfl⟩
    rw [← hs34] at hE hw e3
    rw [← hs34]
    have r2 : s34.1 7 = iN ((f + 1) % 64) := by rw [hs34]; exact (sR_ne (by omega)).trans (sR_self _ _ _)
    have r3 : s34.1 8 = iN 63 := by rw [hs34]; exact sR_self _ _ _
    have rx : ∀ w, w < 16 → s34.2.2.1 27 (ix + w) = x w := by
      intro w hw
      rw [hs34]
      show (sF s9 12 _).2.2.1 27 _ = _
      rw [sF_arr_ne (by omega)]; exact qx w hw
    have hfl : (f + 1) % 64 < 64 := Nat.mod_lt _ (by omega)
    have hlen : ((p.dv 1).pd.drop 1).length = 63 := by rw [List.length_drop, h64]
    refine wp_let ?_
    rw [r2, r3, ring_q hfl (by omega)]
    have hq : ((f + 1) % 64 + 63) % 64 < 64 := Nat.mod_lt _ (by omega)
    have hA := zcA_ok (src := 27) e3 (by show ((p.dv 1).pd.drop 1).length < 64; omega) ((f + 1) % 64) hfl r2 b ix x hb rx
    have hl2 : (ZDv.mk (zov (p.dv 1).st ((p.dv 1).pd.take 1)) ((p.dv 1).pd.drop 1) (p.dv 1).wr (p.dv 1).fl).pd.length = 63 := hlen
    rw [hl2] at hA
    obtain ⟨q, hqq⟩ : ∃ q, q = ((f + 1) % 64 + 63) % 64 := ⟨_, rfl⟩
    rw [← hqq] at hq hA
    rw [← hqq, iN_16, iN_nat (a := q) (by omega)]
    refine wp_gd (by rw [k4]; exact iN_in (by omega) hq) (wp_let ?_)
    rw [iN_nat (a := ix) hix0, iN_nat (a := 16 * q) (by omega), iN_16, iN_nat (a := 16 * b) (by omega)]
    refine wp_gd ⟨iN_neg hix0, iN_neg (by omega), by decide, hix, by rw [k5]; omega⟩ (wp_let ?_)
    refine wp_gd ⟨iN_neg hix0, iN_neg (by omega), by decide, hix, by rw [k6]; omega⟩ (wp_let (wp_let (wp_let ?_)))
    have hfin := c_wrA hw 1 6 8 ((50 + n)) 27 b ix q x (by omega) _ hA
    refine wp_rO (u := zcA 6 8 27 s34 b ix q) hu ⟨?_, zHd_trans (zHd_trans hH hE) (zHd_A (by omega))⟩
    have eD : ((p.dv 1).add b x) = ZDv.mk (zov (p.dv 1).st ((p.dv 1).pd.take 1)) ((p.dv 1).pd.drop 1 ++ [(b, x)]) ((p.dv 1).wr + 1) (p.dv 1).fl := by
      unfold ZDv.add; rw [if_pos h64]
    have edv : zu p.dv 1 ((p.dv 1).add b x) = zu (zu p.dv 1 (ZDv.mk (zov (p.dv 1).st ((p.dv 1).pd.take 1)) ((p.dv 1).pd.drop 1) (p.dv 1).wr (p.dv 1).fl)) 1 ((p.dv 1).add b x) := by
      funext j; unfold zu; by_cases hj : j = 1
      · rw [if_pos hj, if_pos hj]
      · rw [if_neg hj, if_neg hj, if_neg hj]
    rw [edv, eD]; exact hfin
  · refine wp_if (fun hx => h64 ?_) ?_
    · rw [q3] at hx; exact (iN_eq (by omega) (by omega)).mp hx
    refine wp_let ?_
    rw [q2, q3, ring_q f1 g1]
    have h9 : zCd s9 6 8 ((50 + n)) (p.dv 1) := h2.2.1
    have hA := zcA_ok (src := 27) h9 (by omega) f f1 q2 b ix x hb qx
    have hq : (f + (p.dv 1).pd.length) % 64 < 64 := Nat.mod_lt _ (by omega)
    obtain ⟨q, hqq⟩ : ∃ q, q = (f + (p.dv 1).pd.length) % 64 := ⟨_, rfl⟩
    rw [← hqq] at hq hA
    rw [← hqq, iN_16, iN_nat (a := q) (by omega)]
    refine wp_gd (by rw [k4]; exact iN_in (by omega) hq) (wp_let ?_)
    rw [iN_nat (a := ix) hix0, iN_nat (a := 16 * q) (by omega), iN_16, iN_nat (a := 16 * b) (by omega), n16]
    refine wp_gd ⟨iN_neg hix0, iN_neg (by omega), by decide, hix, by rw [k5]; omega⟩ (wp_let ?_)
    refine wp_gd ⟨iN_neg hix0, iN_neg (by omega), by decide, hix, by rw [k6]; omega⟩ (wp_let (wp_let (wp_let ?_)))
    have hfin := c_wrA h2 1 6 8 ((50 + n)) 27 b ix q x (by omega) _ hA
    refine wp_rO (u := zcA 6 8 27 s9 b ix q) hu ⟨?_, zHd_trans hH (zHd_A (by omega))⟩
    have eD : ((p.dv 1).add b x) = ZDv.mk (p.dv 1).st ((p.dv 1).pd ++ [(b, x)]) ((p.dv 1).wr + 1) (p.dv 1).fl := by
      unfold ZDv.add; rw [if_neg h64]
    rw [eD]; exact hfin
theorem c_put_8_24 (K : px_K) (N n sets : Nat) (hK : zKc K n sets) (t : px_W) (s : px_S) (p : ZPw) (h : zCw n s p) (hu : p.up = true) (b ix : Nat) (x : ZBk) (hb : b < (50 + n)) (hx : ∀ w, w < 16 → s.2.2.1 24 (ix + w) = x w) (hix : ix + 16 ≤ K.2.2 24) (hna : (p.wr 1 b x).na < 2305843009213693952) : wp (f_D_put_8_24 K N (iN b) (iN ix) s t) (zO n none t s (p.wr 1 b x) (fun u => zCw n u (p.wr 1 b x) ∧ zHd s u)) := by
  have hn64 : n ≤ 64 := hK.2.2.2.2.2.2.2.2.2.2.2.2.2.2.2.2.2.2.2.2
  have k4 : K.2.2 9 = 64 := hK.2.2.2.2.1
  have k5 : K.2.2 10 = 1024 := hK.2.2.2.2.2.1
  have k6 : K.2.2 11 = 16 * (50 + n) := hK.2.2.2.2.2.2.1
  have k7 : K.2.2 12 = 16 * (50 + n) := hK.2.2.2.2.2.2.2.1
  have hLS : K.2.2 24 < 2147483648 := by
    have := hK.2.2.2.2.2.2.2.2.2.2.2.2.2.2.2.2.1
    omega
  have hix0 : ix < 2147483648 := by omega
  obtain ⟨g1, g2, g3, g4, g5, ⟨f, f1, f2, f3⟩, g7, g8⟩ := h.2.1
  have hhas : f_D_has_8 K N (iN b) s t = some (.inl (some (.int 1)), s, t) := by
    unfold f_D_has_8
    rw [g2, if_neg (iN_neg (by omega)), if_neg (by rw [iN_le (by omega) (by omega)]; omega), px_gd_of (Or.inr rfl)]
  have hlim := c_lim h (by
    by_cases hl : p.lim = 1
    · rw [ZPw.wr_1 hu hl] at hna; exact hna
    · rw [ZPw.wr_2 hu hl] at hna; exact hna)
  unfold f_D_put_8_24
  refine wp_bi hhas (wp_ifn (by decide) (wp_ifn (iN_neg hix0) (wp_if (iN_le_sub hix hLS) (wp_let ?_))))
  by_cases hl : p.lim = 1
  · rw [ZPw.wr_1 hu hl]
    refine wp_ifn (fun hx => hx (hlim.mpr hl)) ⟨_, rfl, .inr ⟨rfl, _, rfl, c_act1 h hl, zHd_x (zHd_sQ _ _)⟩⟩
  refine wp_if (fun hx => hl (hlim.mp hx)) ?_
  rw [ZPw.wr_2 hu hl]
  have h2 := c_act2 h hl
  have hH := zHd_sQ s (s.2.1 0 + 1)
  obtain ⟨s9, hs9⟩ : ∃ s9, s9 = sQ s 0 (s.2.1 0 + 1) := ⟨_, rfl⟩
  rw [← hs9] at h2 hH
  rw [← hs9]
  have q2 : s9.1 7 = iN f := by rw [hs9]; exact f2
  have q3 : s9.1 8 = iN (p.dv 1).pd.length := by rw [hs9]; exact g3
  have qx : ∀ w, w < 16 → s9.2.2.1 24 (ix + w) = x w := by rw [hs9]; exact hx
  by_cases h64 : (p.dv 1).pd.length = 64
  · have e64 : s9.1 8 = 64 := by rw [q3, h64]; rfl
    have h9 : zCd s9 6 8 ((50 + n)) (p.dv 1) := h2.2.1
    obtain ⟨b0, e1, e2, e3⟩ := zcE_ok h9 h64 f f1 q2
    have e1 : s9.2.2.1 9 f = iN b0 := e1
    refine wp_ifn (fun hx => hx e64) ?_
    rw [q2, iN_nat (by omega), e1, iN_16, iN_16, n16, iN_nat (by omega), iN_nat (by omega)]
    refine wp_gd ⟨by rw [k4]; exact iN_in (by omega) f1, iN_neg (by omega), iN_neg (by omega), by decide, by rw [k5]; omega, by rw [k7]; omega⟩ (wp_let (wp_let (wp_let ?_)))
    have ez : (sR (sR (sF s9 12 (va_cpy (s9.2.2.1 10) (s9.2.2.1 12) (16 * f) (16 * b0) 16)) 7 (((sF s9 12 (va_cpy (s9.2.2.1 10) (s9.2.2.1 12) (16 * f) (16 * b0) 16)).1 7 + 1) - ((sF s9 12 (va_cpy (s9.2.2.1 10) (s9.2.2.1 12) (16 * f) (16 * b0) 16)).1 7 + 1) / 64 * 64)) 8 ((sR (sF s9 12 (va_cpy (s9.2.2.1 10) (s9.2.2.1 12) (16 * f) (16 * b0) 16)) 7 (((sF s9 12 (va_cpy (s9.2.2.1 10) (s9.2.2.1 12) (16 * f) (16 * b0) 16)).1 7 + 1) - ((sF s9 12 (va_cpy (s9.2.2.1 10) (s9.2.2.1 12) (16 * f) (16 * b0) 16)).1 7 + 1) / 64 * 64)).1 8 - 1)) = zcE 6 8 s9 f b0 := by
      have a1 : ((sF s9 12 (va_cpy (s9.2.2.1 10) (s9.2.2.1 12) (16 * f) (16 * b0) 16)).1 7 + 1) - ((sF s9 12 (va_cpy (s9.2.2.1 10) (s9.2.2.1 12) (16 * f) (16 * b0) 16)).1 7 + 1) / 64 * 64 = iN ((f + 1) % 64) := by
        show s9.1 7 + 1 - (s9.1 7 + 1) / 64 * 64 = _
        rw [q2]; exact ring_q (m := 1) f1 (by omega)
      rw [a1, sR_ne (by omega)]
      show sR (sR _ _ _) 8 (s9.1 8 - 1) = _
      rw [e64]; rfl
    rw [ez]
    have hE : zHd s9 (zcE 6 8 s9 f b0) := zHd_E (by omega)
    have hw : zCw n (zcE 6 8 s9 f b0) (ZPw.mk (zu p.dv 1 (ZDv.mk (zov (p.dv 1).st ((p.dv 1).pd.take 1)) ((p.dv 1).pd.drop 1) (p.dv 1).wr (p.dv 1).fl)) p.up (p.lim - 1) p.msk (p.na + 1)) := ⟨zcE_cd (by omega) h2.1, e3, h2.2.2⟩
    obtain ⟨s34, hs34⟩ : ∃ s34, s34 = zcE 6 8 s9 f b0 := ⟨_, rfl⟩
    rw [← hs34] at hE hw e3
    rw [← hs34]
    have r2 : s34.1 7 = iN ((f + 1) % 64) := by rw [hs34]; exact (sR_ne (by omega)).trans (sR_self _ _ _)
    have r3 : s34.1 8 = iN 63 := by rw [hs34]; exact sR_self _ _ _
    have rx : ∀ w, w < 16 → s34.2.2.1 24 (ix + w) = x w := by
      intro w hw
      rw [hs34]
      show (sF s9 12 _).2.2.1 24 _ = _
      rw [sF_arr_ne (by omega)]; exact qx w hw
    have hfl : (f + 1) % 64 < 64 := Nat.mod_lt _ (by omega)
    have hlen : ((p.dv 1).pd.drop 1).length = 63 := by rw [List.length_drop, h64]
    refine wp_let ?_
    rw [r2, r3, ring_q hfl (by omega)]
    have hq : ((f + 1) % 64 + 63) % 64 < 64 := Nat.mod_lt _ (by omega)
    have hA := zcA_ok (src := 24) e3 (by show ((p.dv 1).pd.drop 1).length < 64; omega) ((f + 1) % 64) hfl r2 b ix x hb rx
    have hl2 : (ZDv.mk (zov (p.dv 1).st ((p.dv 1).pd.take 1)) ((p.dv 1).pd.drop 1) (p.dv 1).wr (p.dv 1).fl).pd.length = 63 := hlen
    rw [hl2] at hA
    obtain ⟨q, hqq⟩ : ∃ q, q = ((f + 1) % 64 + 63) % 64 := ⟨_, rfl⟩
    rw [← hqq] at hq hA
    rw [← hqq, iN_16, iN_nat (a := q) (by omega)]
    refine wp_gd (by rw [k4]; exact iN_in (by omega) hq) (wp_let ?_)
    rw [iN_nat (a := ix) hix0, iN_nat (a := 16 * q) (by omega), iN_16, iN_nat (a := 16 * b) (by omega)]
    refine wp_gd ⟨iN_neg hix0, iN_neg (by omega), by decide, hix, by rw [k5]; omega⟩ (wp_let ?_)
    refine wp_gd ⟨iN_neg hix0, iN_neg (by omega), by decide, hix, by rw [k6]; omega⟩ (wp_let (wp_let (wp_let ?_)))
    have hfin := c_wrA hw 1 6 8 ((50 + n)) 24 b ix q x (by omega) _ hA
    refine wp_rO (u := zcA 6 8 24 s34 b ix q) hu ⟨?_, zHd_trans (zHd_trans hH hE) (zHd_A (by omega))⟩
    have eD : ((p.dv 1).add b x) = ZDv.mk (zov (p.dv 1).st ((p.dv 1).pd.take 1)) ((p.dv 1).pd.drop 1 ++ [(b, x)]) ((p.dv 1).wr + 1) (p.dv 1).fl := by
      unfold ZDv.add; rw [if_pos h64]
    have edv : zu p.dv 1 ((p.dv 1).add b x) = zu (zu p.dv 1 (ZDv.mk (zov (p.dv 1).st ((p.dv 1).pd.take 1)) ((p.dv 1).pd.drop 1) (p.dv 1).wr (p.dv 1).fl)) 1 ((p.dv 1).add b x) := by
      funext j; unfold zu; by_cases hj : j = 1
      · rw [if_pos hj, if_pos hj]
      · rw [if_neg hj, if_neg hj, if_neg hj]
    rw [edv, eD]; exact hfin
  · refine wp_if (fun hx => h64 ?_) ?_
    · rw [q3] at hx; exact (iN_eq (by omega) (by omega)).mp hx
    refine wp_let ?_
    rw [q2, q3, ring_q f1 g1]
    have h9 : zCd s9 6 8 ((50 + n)) (p.dv 1) := h2.2.1
    have hA := zcA_ok (src := 24) h9 (by omega) f f1 q2 b ix x hb qx
    have hq : (f + (p.dv 1).pd.length) % 64 < 64 := Nat.mod_lt _ (by omega)
    obtain ⟨q, hqq⟩ : ∃ q, q = (f + (p.dv 1).pd.length) % 64 := ⟨_, rfl⟩
    rw [← hqq] at hq hA
    rw [← hqq, iN_16, iN_nat (a := q) (by omega)]
    refine wp_gd (by rw [k4]; exact iN_in (by omega) hq) (wp_let ?_)
    rw [iN_nat (a := ix) hix0, iN_nat (a := 16 * q) (by omega), iN_16, iN_nat (a := 16 * b) (by omega), n16]
    refine wp_gd ⟨iN_neg hix0, iN_neg (by omega), by decide, hix, by rw [k5]; omega⟩ (wp_let ?_)
    refine wp_gd ⟨iN_neg hix0, iN_neg (by omega), by decide, hix, by rw [k6]; omega⟩ (wp_let (wp_let (wp_let ?_)))
    have hfin := c_wrA h2 1 6 8 ((50 + n)) 24 b ix q x (by omega) _ hA
    refine wp_rO (u := zcA 6 8 24 s9 b ix q) hu ⟨?_, zHd_trans hH (zHd_A (by omega))⟩
    have eD : ((p.dv 1).add b x) = ZDv.mk (p.dv 1).st ((p.dv 1).pd ++ [(b, x)]) ((p.dv 1).wr + 1) (p.dv 1).fl := by
      unfold ZDv.add; rw [if_neg h64]
    rw [eD]; exact hfin
theorem c_put_8_6 (K : px_K) (N n sets : Nat) (hK : zKc K n sets) (t : px_W) (s : px_S) (p : ZPw) (h : zCw n s p) (hu : p.up = true) (b ix : Nat) (x : ZBk) (hb : b < (50 + n)) (hx : ∀ w, w < 16 → s.2.2.1 6 (ix + w) = x w) (hix : ix + 16 ≤ K.2.2 6) (hna : (p.wr 1 b x).na < 2305843009213693952) : wp (f_D_put_8_6 K N (iN b) (iN ix) s t) (zO n none t s (p.wr 1 b x) (fun u => zCw n u (p.wr 1 b x) ∧ zHd s u)) := by
  have hn64 : n ≤ 64 := hK.2.2.2.2.2.2.2.2.2.2.2.2.2.2.2.2.2.2.2.2
  have k4 : K.2.2 9 = 64 := hK.2.2.2.2.1
  have k5 : K.2.2 10 = 1024 := hK.2.2.2.2.2.1
  have k6 : K.2.2 11 = 16 * (50 + n) := hK.2.2.2.2.2.2.1
  have k7 : K.2.2 12 = 16 * (50 + n) := hK.2.2.2.2.2.2.2.1
  have hLS : K.2.2 6 < 2147483648 := by
    have := hK.2.2.1
    omega
  have hix0 : ix < 2147483648 := by omega
  obtain ⟨g1, g2, g3, g4, g5, ⟨f, f1, f2, f3⟩, g7, g8⟩ := h.2.1
  have hhas : f_D_has_8 K N (iN b) s t = some (.inl (some (.int 1)), s, t) := by
    unfold f_D_has_8
    rw [g2, if_neg (iN_neg (by omega)), if_neg (by rw [iN_le (by omega) (by omega)]; omega), px_gd_of (Or.inr rfl)]
  have hlim := c_lim h (by
    by_cases hl : p.lim = 1
    · rw [ZPw.wr_1 hu hl] at hna; exact hna
    · rw [ZPw.wr_2 hu hl] at hna; exact hna)
  unfold f_D_put_8_6
  refine wp_bi hhas (wp_ifn (by decide) (wp_ifn (iN_neg hix0) (wp_if (iN_le_sub hix hLS) (wp_let ?_))))
  by_cases hl : p.lim = 1
  · rw [ZPw.wr_1 hu hl]
    refine wp_ifn (fun hx => hx (hlim.mpr hl)) ⟨_, rfl, .inr ⟨rfl, _, rfl, c_act1 h hl, zHd_x (zHd_sQ _ _)⟩⟩
  refine wp_if (fun hx => hl (hlim.mp hx)) ?_
  rw [ZPw.wr_2 hu hl]
  have h2 := c_act2 h hl
  have hH := zHd_sQ s (s.2.1 0 + 1)
  obtain ⟨s9, hs9⟩ : ∃ s9, s9 = sQ s 0 (s.2.1 0 + 1) := ⟨_, rfl⟩
  rw [← hs9] at h2 hH
  rw [← hs9]
  have q2 : s9.1 7 = iN f := by rw [hs9]; exact f2
  have q3 : s9.1 8 = iN (p.dv 1).pd.length := by rw [hs9]; exact g3
  have qx : ∀ w, w < 16 → s9.2.2.1 6 (ix + w) = x w := by rw [hs9]; exact hx
  by_cases h64 : (p.dv 1).pd.length = 64
  · have e64 : s9.1 8 = 64 := by rw [q3, h64]; rfl
    have h9 : zCd s9 6 8 ((50 + n)) (p.dv 1) := h2.2.1
    obtain ⟨b0, e1, e2, e3⟩ := zcE_ok h9 h64 f f1 q2
    have e1 : s9.2.2.1 9 f = iN b0 := e1
    refine wp_ifn (fun hx => hx e64) ?_
    rw [q2, iN_nat (by omega), e1, iN_16, iN_16, n16, iN_nat (by omega), iN_nat (by omega)]
    refine wp_gd ⟨by rw [k4]; exact iN_in (by omega) f1, iN_neg (by omega), iN_neg (by omega), by decide, by rw [k5]; omega, by rw [k7]; omega⟩ (wp_let (wp_let (wp_let ?_)))
    have ez : (sR (sR (sF s9 12 (va_cpy (s9.2.2.1 10) (s9.2.2.1 12) (16 * f) (16 * b0) 16)) 7 (((sF s9 12 (va_cpy (s9.2.2.1 10) (s9.2.2.1 12) (16 * f) (16 * b0) 16)).1 7 + 1) - ((sF s9 12 (va_cpy (s9.2.2.1 10) (s9.2.2.1 12) (16 * f) (16 * b0) 16)).1 7 + 1) / 64 * 64)) 8 ((sR (sF s9 12 (va_cpy (s9.2.2.1 10) (s9.2.2.1 12) (16 * f) (16 * b0) 16)) 7 (((sF s9 12 (va_cpy (s9.2.2.1 10) (s9.2.2.1 12) (16 * f) (16 * b0) 16)).1 7 + 1) - ((sF s9 12 (va_cpy (s9.2.2.1 10) (s9.2.2.1 12) (16 * f) (16 * b0) 16)).1 7 + 1) / 64 * 64)).1 8 - 1)) = zcE 6 8 s9 f b0 := by
      have a1 : ((sF s9 12 (va_cpy (s9.2.2.1 10) (s9.2.2.1 12) (16 * f) (16 * b0) 16)).1 7 + 1) - ((sF s9 12 (va_cpy (s9.2.2.1 10) (s9.2.2.1 12) (16 * f) (16 * b0) 16)).1 7 + 1) / 64 * 64 = iN ((f + 1) % 64) := by
        show s9.1 7 + 1 - (s9.1 7 + 1) / 64 * 64 = _
        rw [q2]; exact ring_q (m := 1) f1 (by omega)
      rw [a1, sR_ne (by omega)]
      show sR (sR _ _ _) 8 (s9.1 8 - 1) = _
      rw [e64]; rfl
    rw [ez]
    have hE : zHd s9 (zcE 6 8 s9 f b0) := zHd_E (by omega)
    have hw : zCw n (zcE 6 8 s9 f b0) (ZPw.mk (zu p.dv 1 (ZDv.mk (zov (p.dv 1).st ((p.dv 1).pd.take 1)) ((p.dv 1).pd.drop 1) (p.dv 1).wr (p.dv 1).fl)) p.up (p.lim - 1) p.msk (p.na + 1)) := ⟨zcE_cd (by omega) h2.1, e3, h2.2.2⟩
    obtain ⟨s34, hs34⟩ : ∃ s34, s34 = zcE 6 8 s9 f b0 := ⟨_, rfl⟩
    rw [← hs34] at hE hw e3
    rw [← hs34]
    have r2 : s34.1 7 = iN ((f + 1) % 64) := by rw [hs34]; exact (sR_ne (by omega)).trans (sR_self _ _ _)
    have r3 : s34.1 8 = iN 63 := by rw [hs34]; exact sR_self _ _ _
    have rx : ∀ w, w < 16 → s34.2.2.1 6 (ix + w) = x w := by
      intro w hw
      rw [hs34]
      show (sF s9 12 _).2.2.1 6 _ = _
      rw [sF_arr_ne (by omega)]; exact qx w hw
    have hfl : (f + 1) % 64 < 64 := Nat.mod_lt _ (by omega)
    have hlen : ((p.dv 1).pd.drop 1).length = 63 := by rw [List.length_drop, h64]
    refine wp_let ?_
    rw [r2, r3, ring_q hfl (by omega)]
    have hq : ((f + 1) % 64 + 63) % 64 < 64 := Nat.mod_lt _ (by omega)
    have hA := zcA_ok (src := 6) e3 (by show ((p.dv 1).pd.drop 1).length < 64; omega) ((f + 1) % 64) hfl r2 b ix x hb rx
    have hl2 : (ZDv.mk (zov (p.dv 1).st ((p.dv 1).pd.take 1)) ((p.dv 1).pd.drop 1) (p.dv 1).wr (p.dv 1).fl).pd.length = 63 := hlen
    rw [hl2] at hA
    obtain ⟨q, hqq⟩ : ∃ q, q = ((f + 1) % 64 + 63) % 64 := ⟨_, rfl⟩
    rw [← hqq] at hq hA
    rw [← hqq, iN_16, iN_nat (a := q) (by omega)]
    refine wp_gd (by rw [k4]; exact iN_in (by omega) hq) (wp_let ?_)
    rw [iN_nat (a := ix) hix0, iN_nat (a := 16 * q) (by omega), iN_16, iN_nat (a := 16 * b) (by omega)]
    refine wp_gd ⟨iN_neg hix0, iN_neg (by omega), by decide, hix, by rw [k5]; omega⟩ (wp_let ?_)
    refine wp_gd ⟨iN_neg hix0, iN_neg (by omega), by decide, hix, by rw [k6]; omega⟩ (wp_let (wp_let (wp_let ?_)))
    have hfin := c_wrA hw 1 6 8 ((50 + n)) 6 b ix q x (by omega) _ hA
    refine wp_rO (u := zcA 6 8 6 s34 b ix q) hu ⟨?_, zHd_trans (zHd_trans hH hE) (zHd_A (by omega))⟩
    have eD : ((p.dv 1).add b x) = ZDv.mk (zov (p.dv 1).st ((p.dv 1).pd.take 1)) ((p.dv 1).pd.drop 1 ++ [(b, x)]) ((p.dv 1).wr + 1) (p.dv 1).fl := by
      unfold ZDv.add; rw [if_pos h64]
    have edv : zu p.dv 1 ((p.dv 1).add b x) = zu (zu p.dv 1 (ZDv.mk (zov (p.dv 1).st ((p.dv 1).pd.take 1)) ((p.dv 1).pd.drop 1) (p.dv 1).wr (p.dv 1).fl)) 1 ((p.dv 1).add b x) := by
      funext j; unfold zu; by_cases hj : j = 1
      · rw [if_pos hj, if_pos hj]
      · rw [if_neg hj, if_neg hj, if_neg hj]
    rw [edv, eD]; exact hfin
  · refine wp_if (fun hx => h64 ?_) ?_
    · rw [q3] at hx; exact (iN_eq (by omega) (by omega)).mp hx
    refine wp_let ?_
    rw [q2, q3, ring_q f1 g1]
    have h9 : zCd s9 6 8 ((50 + n)) (p.dv 1) := h2.2.1
    have hA := zcA_ok (src := 6) h9 (by omega) f f1 q2 b ix x hb qx
    have hq : (f + (p.dv 1).pd.length) % 64 < 64 := Nat.mod_lt _ (by omega)
    obtain ⟨q, hqq⟩ : ∃ q, q = (f + (p.dv 1).pd.length) % 64 := ⟨_, rfl⟩
    rw [← hqq] at hq hA
    rw [← hqq, iN_16, iN_nat (a := q) (by omega)]
    refine wp_gd (by rw [k4]; exact iN_in (by omega) hq) (wp_let ?_)
    rw [iN_nat (a := ix) hix0, iN_nat (a := 16 * q) (by omega), iN_16, iN_nat (a := 16 * b) (by omega), n16]
    refine wp_gd ⟨iN_neg hix0, iN_neg (by omega), by decide, hix, by rw [k5]; omega⟩ (wp_let ?_)
    refine wp_gd ⟨iN_neg hix0, iN_neg (by omega), by decide, hix, by rw [k6]; omega⟩ (wp_let (wp_let (wp_let ?_)))
    have hfin := c_wrA h2 1 6 8 ((50 + n)) 6 b ix q x (by omega) _ hA
    refine wp_rO (u := zcA 6 8 6 s9 b ix q) hu ⟨?_, zHd_trans hH (zHd_A (by omega))⟩
    have eD : ((p.dv 1).add b x) = ZDv.mk (p.dv 1).st ((p.dv 1).pd ++ [(b, x)]) ((p.dv 1).wr + 1) (p.dv 1).fl := by
      unfold ZDv.add; rw [if_neg h64]
    rw [eD]; exact hfin

/-! FLUSH, LOSS, A WORD OF A DEVICE (by template) -/
theorem sh63u : ∀ j, j < 64 → ((iN j).toInt64.toUInt64 &&& Int64.toUInt64 63) = UInt64.ofNat j := by decide
theorem c_bit (u : Int64) (j : Nat) (hj : j < 64) : lg_cmp ((u.toUInt64 >>> ((iN j).toInt64.toUInt64 &&& Int64.toUInt64 63)).toInt64 &&& (1 : Int64)) (0 : Int64) = 0 ↔ u.toBitVec.getLsbD j = false := by
  rw [sh63u j hj]
  have e : ((u.toUInt64 >>> UInt64.ofNat j).toInt64 &&& (1 : Int64)) = Int64.ofBitVec ((u.toBitVec >>> j) &&& 1#64) := by
    apply Int64.toBitVec.inj
    show (u.toBitVec >>> ((UInt64.ofNat j).toBitVec % 64#64)) &&& 1#64 = _
    have h1 : (UInt64.ofNat j).toBitVec % 64#64 = BitVec.ofNat 64 j := by
      apply BitVec.eq_of_toNat_eq
      show (j % 18446744073709551616) % 64 = j % 18446744073709551616
      omega
    rw [h1]
    show (u.toBitVec >>> (BitVec.ofNat 64 j).toNat) &&& 1#64 = _
    have : (BitVec.ofNat 64 j).toNat = j := by simp; omega
    rw [this]; rfl
  rw [e, one_bit]
  have hb : (u.toBitVec >>> j).getLsbD 0 = u.toBitVec.getLsbD j := by
    rw [BitVec.getLsbD_ushiftRight]; rfl
  rw [hb]
  cases u.toBitVec.getLsbD j
  · simp only [Bool.false_eq_true, if_false]; decide
  · simp only [if_true]; decide
theorem c_flush_loop_3 (K : px_K) (N n0 sets : Nat) (hK : zKc K n0 sets) (t : px_W) (dd : ZDv) (f : Nat) (hf : f < 64) (hl : dd.pd.length ≤ 64) : ∀ (d m n : Nat) (s : px_S) (st : ZSt), s.1 2 = iN f → s.1 3 = iN dd.pd.length → (∀ j, j < dd.pd.length → s.2.2.1 4 ((f + j) % 64) = iN (zPd dd j).1 ∧ (zPd dd j).1 < 125 ∧ ∀ w, w < 16 → s.2.2.1 5 (16 * ((f + j) % 64) + w) = (zPd dd j).2 w) → (∀ b w, b < 125 → w < 16 → s.2.2.1 7 (16 * b + w) = st b w) → m + d = dd.pd.length → d < n → ∃ g, l_D_flush_3_18 K N n (iN m) s t = some (.inl (46, [], sF s 7 g, t)) ∧ ∀ b w, b < 125 → w < 16 → g (16 * b + w) = zov st (dd.pd.drop m) b w := by
  have hn64 : n0 ≤ 64 := hK.2.2.2.2.2.2.2.2.2.2.2.2.2.2.2.2.2.2.2.2
  have k4 : K.2.2 4 = 64 := hK.1
  have k5 : K.2.2 5 = 1024 := hK.2.1
  have k7 : K.2.2 7 = 16 * 125 := hK.2.2.2.1
  intro d
  induction d with
  | zero =>
    intro m n s st q1 q2 q3 q4 hm hn
    obtain ⟨n, rfl⟩ : ∃ n', n = n' + 1 := ⟨n - 1, by omega⟩
    refine ⟨s.2.2.1 7, ?_, ?_⟩
    · unfold l_D_flush_3_18
      rw [q2, if_pos (by rw [iN_le (by omega) (by omega)]; omega), sF_triv]
    · intro b w hb hw
      rw [List.drop_eq_nil_of_le (by omega)]
      exact q4 b w hb hw
  | succ d ih =>
    intro m n s st q1 q2 q3 q4 hm hn
    obtain ⟨n, rfl⟩ : ∃ n', n = n' + 1 := ⟨n - 1, by omega⟩
    obtain ⟨a1, a2, a3⟩ := q3 m (by omega)
    have hq : (f + m) % 64 < 64 := Nat.mod_lt _ (by omega)
    obtain ⟨g, hg⟩ : ∃ g, g = va_cpy (s.2.2.1 5) (s.2.2.1 7) (16 * ((f + m) % 64)) (16 * (zPd dd m).1) 16 := ⟨_, rfl⟩
    have hst : ∀ b w, b < 125 → w < 16 → (sF s 7 g).2.2.1 7 (16 * b + w) = zu st (zPd dd m).1 (zPd dd m).2 b w := by
      intro b w hb hw
      rw [sF_arr, hg]
      by_cases hbe : b = (zPd dd m).1
      · rw [hbe, va_cpy_in hw, zu, if_pos rfl]; exact a3 w hw
      · rw [va_cpy_out hw hbe, zu, if_neg hbe]; exact q4 b w hb hw
    obtain ⟨g2, e1, e2⟩ := ih (m + 1) n (sF s 7 g) (zu st (zPd dd m).1 (zPd dd m).2) q1 q2 (by
      rw [sF_arr_ne (by omega), sF_arr_ne (by omega)]; exact q3) hst (by omega) (by omega)
    refine ⟨g2, ?_, ?_⟩
    · have hdr : l_D_flush_3_18 K N (n + 1) (iN m) s t = l_D_flush_3_18 K N n (iN (m + 1)) (sF s 7 g) t := by
        conv => lhs; unfold l_D_flush_3_18
        rw [q2, if_neg (by rw [iN_le (by omega) (by omega)]; omega), q1, ring_q hf (by omega)]
        show px_gd _ (px_gd _ _) = _
        rw [px_gd_of (by rw [k4]; exact iN_in (by omega) hq), iN_nat (a := (f + m) % 64) (by omega), a1, iN_16, iN_16, iN_nat (by omega), iN_nat (by omega), n16, px_gd_of ⟨iN_neg (by omega), iN_neg (by omega), by decide, by rw [k5]; omega, by rw [k7]; omega⟩, iL1, iN_add, ← hg]
        rfl
      rw [hdr, e1, sF_sF]
    · intro b w hb hw
      rw [e2 b w hb hw]
      have hd : dd.pd.drop m = zPd dd m :: dd.pd.drop (m + 1) := by
        rw [List.drop_eq_getElem_cons (by omega)]
        congr 1
        unfold zPd
        rw [List.getD_eq_getElem?_getD, List.getElem?_eq_getElem (by omega)]; rfl
      rw [hd]; rfl
theorem c_flush_3 (K : px_K) (N n sets : Nat) (hN : 2000 ≤ N) (hK : zKc K n sets) (t : px_W) (s : px_S) (p : ZPw) (h : zCw n s p) (hu : p.up = true) (hna : (p.fl 0).na < 2305843009213693952) : wp (f_D_flush_3 K N s t) (zO n none t s (p.fl 0) (fun u => zCw n u (p.fl 0) ∧ zHd s u)) := by
  have hlim := c_lim h (by
    by_cases hl : p.lim = 1
    · rw [ZPw.fl_1 hu hl] at hna; exact hna
    · rw [ZPw.fl_2 hu hl] at hna; exact hna)
  unfold f_D_flush_3
  refine wp_let ?_
  by_cases hl : p.lim = 1
  · rw [ZPw.fl_1 hu hl]
    exact wp_ifn (fun hx => hx (hlim.mpr hl)) ⟨_, rfl, .inr ⟨rfl, _, rfl, c_act1 h hl, zHd_x (zHd_sQ _ _)⟩⟩
  refine wp_if (fun hx => hl (hlim.mp hx)) ?_
  rw [ZPw.fl_2 hu hl]
  have h2 := c_act2 h hl
  have hH := zHd_sQ s (s.2.1 0 + 1)
  obtain ⟨s9, hs9⟩ : ∃ s9, s9 = sQ s 0 (s.2.1 0 + 1) := ⟨_, rfl⟩
  rw [← hs9] at h2 hH
  rw [← hs9]
  have h9 : zCd s9 1 3 (125) (p.dv 0) := h2.1
  obtain ⟨g1, g2, g3, g4, g5, ⟨f, f1, f2, f3⟩, g7, g8⟩ := h9
  obtain ⟨g, e1, e2⟩ := c_flush_loop_3 K N n sets hK t (p.dv 0) f f1 g1 (p.dv 0).pd.length 0 N s9 (p.dv 0).st f2 g3 f3 g7 (by omega) (by omega)
  refine wp_lp e1 (wp_if rfl (wp_v0 (wp_let (wp_let ?_))))
  refine wp_rO hu ⟨?_, zHd_trans hH ⟨fun a ha => sF_arr_ne (by omega), fun r hr => ?_, fun _ _ => rfl, rfl⟩⟩
  · have hD : zCd (sR (sR (sF s9 7 g) 3 (0 : Int32)) 5 ((sR (sF s9 7 g) 3 (0 : Int32)).1 5 + (1 : Int32))) 1 3 (125) (p.dv 0).flush := by
      refine ⟨by show 0 ≤ 64; omega, ?_, ?_, ?_, ?_, ⟨f, f1, ?_, fun j hj => absurd hj (Nat.not_lt_zero _)⟩, ?_, ?_⟩
      · rw [sR_ne (by omega), sR_ne (by omega)]; exact g2
      · rw [sR_ne (by omega), sR_self]; rfl
      · rw [sR_ne (by omega), sR_ne (by omega)]; exact g4
      · rw [sR_self, sR_ne (by omega)]
        show s9.1 5 + 1 = iN ((p.dv 0).fl + 1)
        have g5 : s9.1 5 = iN (p.dv 0).fl := g5
        rw [g5, iL1, iN_add]
      · rw [sR_ne (by omega), sR_ne (by omega)]; exact f2
      · intro b w hb hw
        show (sF s9 7 g).2.2.1 7 _ = _
        rw [sF_arr]; exact e2 b w hb hw
      · intro b w hb hw
        show (sF s9 7 g).2.2.1 6 _ = _
        rw [sF_arr_ne (by omega)]; exact g8 b w hb hw
    refine ⟨hD, zCd_of h2.2.1 (fun r a b => ?_) (fun a b c => sF_arr_ne (by omega)), h2.2.2⟩
    rw [sR_ne (by omega), sR_ne (by omega)]; rfl
  · rw [sR_ne (by omega), sR_ne (by omega)]; rfl
theorem c_lose_loop_3 (K : px_K) (N n0 sets : Nat) (hK : zKc K n0 sets) (t : px_W) (u : Int64) (dd : ZDv) (f : Nat) (hf : f < 64) (hl : dd.pd.length ≤ 64) : ∀ (d m n : Nat) (s : px_S) (st : ZSt), s.1 2 = iN f → s.1 3 = iN dd.pd.length → (∀ j, j < dd.pd.length → s.2.2.1 4 ((f + j) % 64) = iN (zPd dd j).1 ∧ (zPd dd j).1 < 125 ∧ ∀ w, w < 16 → s.2.2.1 5 (16 * ((f + j) % 64) + w) = (zPd dd j).2 w) → (∀ b w, b < 125 → w < 16 → s.2.2.1 7 (16 * b + w) = st b w) → m + d = dd.pd.length → d < n → ∃ g, l_D_losePending_3_2 K N n u (iN m) s t = some (.inl (38, [], sF s 7 g, t)) ∧ ∀ b w, b < 125 → w < 16 → g (16 * b + w) = zlost u m st (dd.pd.drop m) b w := by
  have hn64 : n0 ≤ 64 := hK.2.2.2.2.2.2.2.2.2.2.2.2.2.2.2.2.2.2.2.2
  have k4 : K.2.2 4 = 64 := hK.1
  have k5 : K.2.2 5 = 1024 := hK.2.1
  have k7 : K.2.2 7 = 16 * 125 := hK.2.2.2.1
  intro d
  induction d with
  | zero =>
    intro m n s st q1 q2 q3 q4 hm hn
    obtain ⟨n, rfl⟩ : ∃ n', n = n' + 1 := ⟨n - 1, by omega⟩
    refine ⟨s.2.2.1 7, ?_, ?_⟩
    · unfold l_D_losePending_3_2
      rw [q2, if_pos (by rw [iN_le (by omega) (by omega)]; omega), sF_triv]
    · intro b w hb hw
      rw [List.drop_eq_nil_of_le (by omega)]
      exact q4 b w hb hw
  | succ d ih =>
    intro m n s st q1 q2 q3 q4 hm hn
    obtain ⟨n, rfl⟩ : ∃ n', n = n' + 1 := ⟨n - 1, by omega⟩
    obtain ⟨a1, a2, a3⟩ := q3 m (by omega)
    have hq : (f + m) % 64 < 64 := Nat.mod_lt _ (by omega)
    have hd : dd.pd.drop m = zPd dd m :: dd.pd.drop (m + 1) := by
      rw [List.drop_eq_getElem_cons (by omega)]
      congr 1
      unfold zPd
      rw [List.getD_eq_getElem?_getD, List.getElem?_eq_getElem (by omega)]; rfl
    have hbit := c_bit u m (by omega)
    have hz : ∀ st : ZSt, zlost u m st (zPd dd m :: dd.pd.drop (m + 1)) = zlost u (m + 1) (if u.toBitVec.getLsbD m = true then zu st (zPd dd m).1 (zPd dd m).2 else st) (dd.pd.drop (m + 1)) := fun _ => rfl
    rw [hd]
    cases hb0 : u.toBitVec.getLsbD m with
    | false =>
      obtain ⟨g2, e1, e2⟩ := ih (m + 1) n s st q1 q2 q3 q4 (by omega) (by omega)
      refine ⟨g2, ?_, ?_⟩
      · have hdr : l_D_losePending_3_2 K N (n + 1) u (iN m) s t = l_D_losePending_3_2 K N n u (iN (m + 1)) s t := by
          conv => lhs; unfold l_D_losePending_3_2
          rw [q2, if_neg (by rw [iN_le (by omega) (by omega)]; omega)]
          show (if _ then _ else _) = _
          rw [if_pos (hbit.mpr hb0), iL1, iN_add]
        rw [hdr, e1]
      · intro b w hb hw
        rw [e2 b w hb hw, hz, hb0, if_neg Bool.noConfusion]
    | true =>
      obtain ⟨g, hg⟩ : ∃ g, g = va_cpy (s.2.2.1 5) (s.2.2.1 7) (16 * ((f + m) % 64)) (16 * (zPd dd m).1) 16 := ⟨_, rfl⟩
      have hst : ∀ b w, b < 125 → w < 16 → (sF s 7 g).2.2.1 7 (16 * b + w) = zu st (zPd dd m).1 (zPd dd m).2 b w := by
        intro b w hb hw
        rw [sF_arr, hg]
        by_cases hbe : b = (zPd dd m).1
        · rw [hbe, va_cpy_in hw, zu, if_pos rfl]; exact a3 w hw
        · rw [va_cpy_out hw hbe, zu, if_neg hbe]; exact q4 b w hb hw
      obtain ⟨g2, e1, e2⟩ := ih (m + 1) n (sF s 7 g) (zu st (zPd dd m).1 (zPd dd m).2) q1 q2 (by
        rw [sF_arr_ne (by omega), sF_arr_ne (by omega)]; exact q3) hst (by omega) (by omega)
      refine ⟨g2, ?_, ?_⟩
      · have hdr : l_D_losePending_3_2 K N (n + 1) u (iN m) s t = l_D_losePending_3_2 K N n u (iN (m + 1)) (sF s 7 g) t := by
          conv => lhs; unfold l_D_losePending_3_2
          rw [q2, if_neg (by rw [iN_le (by omega) (by omega)]; omega), q1, ring_q hf (by omega)]
          show (if _ then _ else px_gd _ (px_gd _ _)) = _
          rw [if_neg (fun hx => by have := hbit.mp hx; rw [hb0] at this; cases this), px_gd_of (by rw [k4]; exact iN_in (by omega) hq), iN_nat (a := (f + m) % 64) (by omega), a1, iN_16, iN_16, iN_nat (by omega), iN_nat (by omega), n16, px_gd_of ⟨iN_neg (by omega), iN_neg (by omega), by decide, by rw [k5]; omega, by rw [k7]; omega⟩, iL1, iN_add, ← hg]
          rfl
        rw [hdr, e1, sF_sF]
      · intro b w hb hw
        rw [e2 b w hb hw, hz, hb0, if_pos rfl]
theorem c_lose2_loop_3 (K : px_K) (N n0 sets : Nat) (hK : zKc K n0 sets) (t : px_W) (u : Int64) (dd : ZDv) (f : Nat) (hf : f < 64) (hl : dd.pd.length ≤ 64) (L : ZSt) : ∀ (d m n : Nat) (s : px_S), s.1 2 = iN f → s.1 3 = iN dd.pd.length → (∀ j, j < dd.pd.length → s.2.2.1 4 ((f + j) % 64) = iN (zPd dd j).1 ∧ (zPd dd j).1 < 125) → (∀ b w, b < 125 → w < 16 → s.2.2.1 7 (16 * b + w) = L b w) → (∀ b w, b < 125 → w < 16 → (∀ e ∈ dd.pd.drop m, e.1 ≠ b) → s.2.2.1 6 (16 * b + w) = L b w) → m + d = dd.pd.length → d < n → ∃ g, l_D_losePending_3_40 K N n u (iN m) s t = some (.inl (66, [], sF s 6 g, t)) ∧ ∀ b w, b < 125 → w < 16 → g (16 * b + w) = L b w := by
  have hn64 : n0 ≤ 64 := hK.2.2.2.2.2.2.2.2.2.2.2.2.2.2.2.2.2.2.2.2
  have k4 : K.2.2 4 = 64 := hK.1
  have k6 : K.2.2 6 = 16 * 125 := hK.2.2.1
  have k7 : K.2.2 7 = 16 * 125 := hK.2.2.2.1
  intro d
  induction d with
  | zero =>
    intro m n s q1 q2 q3 q4 q5 hm hn
    obtain ⟨n, rfl⟩ : ∃ n', n = n' + 1 := ⟨n - 1, by omega⟩
    refine ⟨s.2.2.1 6, ?_, ?_⟩
    · unfold l_D_losePending_3_40
      rw [q2, if_pos (by rw [iN_le (by omega) (by omega)]; omega), sF_triv]
    · intro b w hb hw
      exact q5 b w hb hw (by rw [List.drop_eq_nil_of_le (by omega)]; exact fun _ h => absurd h List.not_mem_nil)
  | succ d ih =>
    intro m n s q1 q2 q3 q4 q5 hm hn
    obtain ⟨n, rfl⟩ : ∃ n', n = n' + 1 := ⟨n - 1, by omega⟩
    obtain ⟨a1, a2⟩ := q3 m (by omega)
    have hq : (f + m) % 64 < 64 := Nat.mod_lt _ (by omega)
    have hd : dd.pd.drop m = zPd dd m :: dd.pd.drop (m + 1) := by
      rw [List.drop_eq_getElem_cons (by omega)]
      congr 1
      unfold zPd
      rw [List.getD_eq_getElem?_getD, List.getElem?_eq_getElem (by omega)]; rfl
    rw [hd] at q5
    obtain ⟨g, hg⟩ : ∃ g, g = va_cpy (s.2.2.1 7) (s.2.2.1 6) (16 * (zPd dd m).1) (16 * (zPd dd m).1) 16 := ⟨_, rfl⟩
    obtain ⟨g2, e1, e2⟩ := ih (m + 1) n (sF s 6 g) q1 q2 (by
      rw [sF_arr_ne (by omega)]; exact q3) (by rw [sF_arr_ne (by omega)]; exact q4) (by
      intro b w hb hw hx
      rw [sF_arr, hg]
      by_cases hbe : b = (zPd dd m).1
      · rw [hbe, va_cpy_in hw]; rw [← hbe]; exact q4 b w hb hw
      · rw [va_cpy_out hw hbe]
        refine q5 b w hb hw (fun e he => ?_)
        rcases List.mem_cons.mp he with h1 | h1
        · rw [h1]; exact fun h2 => hbe h2.symm
        · exact hx e h1) (by omega) (by omega)
    refine ⟨g2, ?_, e2⟩
    have hdr : l_D_losePending_3_40 K N (n + 1) u (iN m) s t = l_D_losePending_3_40 K N n u (iN (m + 1)) (sF s 6 g) t := by
      conv => lhs; unfold l_D_losePending_3_40
      rw [q2, if_neg (by rw [iN_le (by omega) (by omega)]; omega), q1, ring_q hf (by omega)]
      rw [px_gd_of (by rw [k4]; exact iN_in (by omega) hq), iN_nat (a := (f + m) % 64) (by omega), a1, iN_16]
      show px_gd _ _ = _
      rw [iN_nat (by omega), n16, px_gd_of ⟨iN_neg (by omega), iN_neg (by omega), by decide, by rw [k7]; omega, by rw [k6]; omega⟩, iL1, iN_add, ← hg]
      rfl
    rw [hdr, e1, sF_sF]
/-- a device loses what is pending -/
theorem c_lose_3 (K : px_K) (N n sets : Nat) (hN : 2000 ≤ N) (hK : zKc K n sets) (t : px_W) (s : px_S) (m : Int64) (d : ZDv) (h : zCd s 1 3 (125) d) : ∃ u, f_D_losePending_3 K N m s t = some (.inl none, u, t) ∧ zCd u 1 3 (125) (d.go m) ∧ (∀ r, r ≠ 3 → u.1 r = s.1 r) ∧ u.2.1 = s.2.1 ∧ (∀ c, c ≠ 6 → c ≠ 7 → u.2.2.1 c = s.2.2.1 c) ∧ u.2.2.2 = s.2.2.2 := by
  obtain ⟨g1, g2, g3, g4, g5, ⟨f, f1, f2, f3⟩, g7, g8⟩ := h
  obtain ⟨g, e1, e2⟩ := c_lose_loop_3 K N n sets hK t m d f f1 g1 d.pd.length 0 N s d.st f2 g3 f3 g7 (by omega) (by omega)
  obtain ⟨h, e3, e4⟩ := c_lose2_loop_3 K N n sets hK t m d f f1 g1 (zlost m 0 d.st d.pd) d.pd.length 0 N (sF s 7 g) f2 g3 (fun j hj => by
    rw [sF_arr_ne (by omega)]; exact ⟨(f3 j hj).1, (f3 j hj).2.1⟩) (fun b w hb hw => by rw [sF_arr]; exact e2 b w hb hw) (fun b w hb hw hx => by
    rw [sF_arr_ne (by omega)]
    have e8 : s.2.2.1 6 (16 * b + w) = d.now b w := g8 b w hb hw
    rw [e8]
    have hx : ∀ e ∈ d.pd, e.1 ≠ b := hx
    exact congrFun (ZDv.out_notin (ZDv.out_go d m) hx).symm w) (by omega) (by omega)
  refine ⟨sR (sF (sF s 7 g) 6 h) 3 0, ?_, ?_, fun r hr => sR_ne hr, rfl, ?_, rfl⟩
  · unfold f_D_losePending_3
    have e1 : l_D_losePending_3_2 K N N m 0 s t = _ := e1
    have e3 : l_D_losePending_3_40 K N N m 0 (sF s 7 g) t = _ := e3
    rw [e1]
    show px_lp (l_D_losePending_3_40 K N N m 0 (sF s 7 g) t) _ _ = _
    rw [e3]; rfl
  · refine ⟨by show 0 ≤ 64; omega, ?_, ?_, ?_, ?_, ⟨f, f1, ?_, fun j hj => absurd hj (Nat.not_lt_zero _)⟩, ?_, ?_⟩
    · rw [sR_ne (by omega)]; exact g2
    · rw [sR_self]; rfl
    · rw [sR_ne (by omega)]; exact g4
    · rw [sR_ne (by omega)]; exact g5
    · rw [sR_ne (by omega)]; exact f2
    · intro b w hb hw
      show (sF (sF s 7 g) 6 h).2.2.1 7 _ = _
      rw [sF_arr_ne (by omega), sF_arr]; exact e2 b w hb hw
    · intro b w hb hw
      show (sF (sF s 7 g) 6 h).2.2.1 6 _ = _
      rw [sF_arr]; exact e4 b w hb hw
  · intro c h1 h2
    show (sF (sF s 7 g) 6 h).2.2.1 c = _
    rw [sF_arr_ne h1, sF_arr_ne h2]
/-- a word that is there now -/
theorem c_at_3 (K : px_K) (N n sets : Nat) (hK : zKc K n sets) (t : px_W) (s : px_S) (d : ZDv) (h : zCd s 1 3 (125) d) (b w : Nat) (hb : b < 125) (hw : w < 16) : f_D_at_3 K N (iN b) (iN w) s t = some (.inl (some (.int (d.now b w))), s, t) := by
  have hn64 : n ≤ 64 := hK.2.2.2.2.2.2.2.2.2.2.2.2.2.2.2.2.2.2.2.2
  have k6 : K.2.2 6 = 16 * 125 := hK.2.2.1
  obtain ⟨g1, g2, g3, g4, g5, g6, g7, g8⟩ := h
  have hhas : f_D_has_3 K N (iN b) s t = some (.inl (some (.int 1)), s, t) := by
    unfold f_D_has_3
    rw [g2, if_neg (iN_neg (by omega)), if_neg (by rw [iN_le (by omega) (by omega)]; omega), px_gd_of (Or.inr rfl)]
  obtain ⟨r, e1, e2⟩ : wp (f_D_at_3 K N (iN b) (iN w) s t) (fun r => r = (.inl (some (.int (d.now b w))), s, t)) := by
    unfold f_D_at_3
    refine wp_bi hhas (wp_ifn (by decide) (wp_ifn (iN_neg (by omega)) (wp_ifn ?_ ?_)))
    · rw [iL16, iN_le (by omega) (by omega)]; omega
    · rw [iN_16, iN_add, iN_nat (by omega)]
      refine wp_gd (by rw [k6]; exact iN_in (by omega) (by omega)) (wp_some ?_)
      rw [← g8 b w hb hw]
  rw [e1, e2]
theorem c_flush_loop_8 (K : px_K) (N n0 sets : Nat) (hK : zKc K n0 sets) (t : px_W) (dd : ZDv) (f : Nat) (hf : f < 64) (hl : dd.pd.length ≤ 64) : ∀ (d m n : Nat) (s : px_S) (st : ZSt), s.1 7 = iN f → s.1 8 = iN dd.pd.length → (∀ j, j < dd.pd.length → s.2.2.1 9 ((f + j) % 64) = iN (zPd dd j).1 ∧ (zPd dd j).1 < (50 + n0) ∧ ∀ w, w < 16 → s.2.2.1 10 (16 * ((f + j) % 64) + w) = (zPd dd j).2 w) → (∀ b w, b < (50 + n0) → w < 16 → s.2.2.1 12 (16 * b + w) = st b w) → m + d = dd.pd.length → d < n → ∃ g, l_D_flush_8_18 K N n (iN m) s t = some (.inl (46, [], sF s 12 g, t)) ∧ ∀ b w, b < (50 + n0) → w < 16 → g (16 * b + w) = zov st (dd.pd.drop m) b w := by
  have hn64 : n0 ≤ 64 := hK.2.2.2.2.2.2.2.2.2.2.2.2.2.2.2.2.2.2.2.2
  have k4 : K.2.2 9 = 64 := hK.2.2.2.2.1
  have k5 : K.2.2 10 = 1024 := hK.2.2.2.2.2.1
  have k7 : K.2.2 12 = 16 * (50 + n0) := hK.2.2.2.2.2.2.2.1
  intro d
  induction d with
  | zero =>
    intro m n s st q1 q2 q3 q4 hm hn
    obtain ⟨n, rfl⟩ : ∃ n', n = n' + 1 := ⟨n - 1, by omega⟩
    refine ⟨s.2.2.1 12, ?_, ?_⟩
    · unfold l_D_flush_8_18
      rw [q2, if_pos (by rw [iN_le (by omega) (by omega)]; omega), sF_triv]
    · intro b w hb hw
      rw [List.drop_eq_nil_of_le (by omega)]
      exact q4 b w hb hw
  | succ d ih =>
    intro m n s st q1 q2 q3 q4 hm hn
    obtain ⟨n, rfl⟩ : ∃ n', n = n' + 1 := ⟨n - 1, by omega⟩
    obtain ⟨a1, a2, a3⟩ := q3 m (by omega)
    have hq : (f + m) % 64 < 64 := Nat.mod_lt _ (by omega)
    obtain ⟨g, hg⟩ : ∃ g, g = va_cpy (s.2.2.1 10) (s.2.2.1 12) (16 * ((f + m) % 64)) (16 * (zPd dd m).1) 16 := ⟨_, rfl⟩
    have hst : ∀ b w, b < (50 + n0) → w < 16 → (sF s 12 g).2.2.1 12 (16 * b + w) = zu st (zPd dd m).1 (zPd dd m).2 b w := by
      intro b w hb hw
      rw [sF_arr, hg]
      by_cases hbe : b = (zPd dd m).1
      · rw [hbe, va_cpy_in hw, zu, if_pos rfl]; exact a3 w hw
      · rw [va_cpy_out hw hbe, zu, if_neg hbe]; exact q4 b w hb hw
    obtain ⟨g2, e1, e2⟩ := ih (m + 1) n (sF s 12 g) (zu st (zPd dd m).1 (zPd dd m).2) q1 q2 (by
      rw [sF_arr_ne (by omega), sF_arr_ne (by omega)]; exact q3) hst (by omega) (by omega)
    refine ⟨g2, ?_, ?_⟩
    · have hdr : l_D_flush_8_18 K N (n + 1) (iN m) s t = l_D_flush_8_18 K N n (iN (m + 1)) (sF s 12 g) t := by
        conv => lhs; unfold l_D_flush_8_18
        rw [q2, if_neg (by rw [iN_le (by omega) (by omega)]; omega), q1, ring_q hf (by omega)]
        show px_gd _ (px_gd _ _) = _
        rw [px_gd_of (by rw [k4]; exact iN_in (by omega) hq), iN_nat (a := (f + m) % 64) (by omega), a1, iN_16, iN_16, iN_nat (by omega), iN_nat (by omega), n16, px_gd_of ⟨iN_neg (by omega), iN_neg (by omega), by decide, by rw [k5]; omega, by rw [k7]; omega⟩, iL1, iN_add, ← hg]
        rfl
      rw [hdr, e1, sF_sF]
    · intro b w hb hw
      rw [e2 b w hb hw]
      have hd : dd.pd.drop m = zPd dd m :: dd.pd.drop (m + 1) := by
        rw [List.drop_eq_getElem_cons (by omega)]
        congr 1
        unfold zPd
        rw [List.getD_eq_getElem?_getD, List.getElem?_eq_getElem (by omega)]; rfl
      rw [hd]; rfl
theorem c_flush_8 (K : px_K) (N n sets : Nat) (hN : 2000 ≤ N) (hK : zKc K n sets) (t : px_W) (s : px_S) (p : ZPw) (h : zCw n s p) (hu : p.up = true) (hna : (p.fl 1).na < 2305843009213693952) : wp (f_D_flush_8 K N s t) (zO n none t s (p.fl 1) (fun u => zCw n u (p.fl 1) ∧ zHd s u)) := by
  have hlim := c_lim h (by
    by_cases hl : p.lim = 1
    · rw [ZPw.fl_1 hu hl] at hna; exact hna
    · rw [ZPw.fl_2 hu hl] at hna; exact hna)
  unfold f_D_flush_8
  refine wp_let ?_
  by_cases hl : p.lim = 1
  · rw [ZPw.fl_1 hu hl]
    exact wp_ifn (fun hx => hx (hlim.mpr hl)) ⟨_, rfl, .inr ⟨rfl, _, rfl, c_act1 h hl, zHd_x (zHd_sQ _ _)⟩⟩
  refine wp_if (fun hx => hl (hlim.mp hx)) ?_
  rw [ZPw.fl_2 hu hl]
  have h2 := c_act2 h hl
  have hH := zHd_sQ s (s.2.1 0 + 1)
  obtain ⟨s9, hs9⟩ : ∃ s9, s9 = sQ s 0 (s.2.1 0 + 1) := ⟨_, rfl⟩
  rw [← hs9] at h2 hH
  rw [← hs9]
  have h9 : zCd s9 6 8 ((50 + n)) (p.dv 1) := h2.2.1
  obtain ⟨g1, g2, g3, g4, g5, ⟨f, f1, f2, f3⟩, g7, g8⟩ := h9
  obtain ⟨g, e1, e2⟩ := c_flush_loop_8 K N n sets hK t (p.dv 1) f f1 g1 (p.dv 1).pd.length 0 N s9 (p.dv 1).st f2 g3 f3 g7 (by omega) (by omega)
  refine wp_lp e1 (wp_if rfl (wp_v0 (wp_let (wp_let ?_))))
  refine wp_rO hu ⟨?_, zHd_trans hH ⟨fun a ha => sF_arr_ne (by omega), fun r hr => ?_, fun _ _ => rfl, rfl⟩⟩
  · have hD : zCd (sR (sR (sF s9 12 g) 8 (0 : Int32)) 10 ((sR (sF s9 12 g) 8 (0 : Int32)).1 10 + (1 : Int32))) 6 8 ((50 + n)) (p.dv 1).flush := by
      refine ⟨by show 0 ≤ 64; omega, ?_, ?_, ?_, ?_, ⟨f, f1, ?_, fun j hj => absurd hj (Nat.not_lt_zero _)⟩, ?_, ?_⟩
      · rw [sR_ne (by omega), sR_ne (by omega)]; exact g2
      · rw [sR_ne (by omega), sR_self]; rfl
      · rw [sR_ne (by omega), sR_ne (by omega)]; exact g4
      · rw [sR_self, sR_ne (by omega)]
        show s9.1 10 + 1 = iN ((p.dv 1).fl + 1)
        have g5 : s9.1 10 = iN (p.dv 1).fl := g5
        rw [g5, iL1, iN_add]
      · rw [sR_ne (by omega), sR_ne (by omega)]; exact f2
      · intro b w hb hw
        show (sF s9 12 g).2.2.1 12 _ = _
        rw [sF_arr]; exact e2 b w hb hw
      · intro b w hb hw
        show (sF s9 12 g).2.2.1 11 _ = _
        rw [sF_arr_ne (by omega)]; exact g8 b w hb hw
    refine ⟨zCd_of h2.1 (fun r a b => ?_) (fun a b c => sF_arr_ne (by omega)), hD, h2.2.2⟩
    rw [sR_ne (by omega), sR_ne (by omega)]; rfl
  · rw [sR_ne (by omega), sR_ne (by omega)]; rfl
theorem c_lose_loop_8 (K : px_K) (N n0 sets : Nat) (hK : zKc K n0 sets) (t : px_W) (u : Int64) (dd : ZDv) (f : Nat) (hf : f < 64) (hl : dd.pd.length ≤ 64) : ∀ (d m n : Nat) (s : px_S) (st : ZSt), s.1 7 = iN f → s.1 8 = iN dd.pd.length → (∀ j, j < dd.pd.length → s.2.2.1 9 ((f + j) % 64) = iN (zPd dd j).1 ∧ (zPd dd j).1 < (50 + n0) ∧ ∀ w, w < 16 → s.2.2.1 10 (16 * ((f + j) % 64) + w) = (zPd dd j).2 w) → (∀ b w, b < (50 + n0) → w < 16 → s.2.2.1 12 (16 * b + w) = st b w) → m + d = dd.pd.length → d < n → ∃ g, l_D_losePending_8_2 K N n u (iN m) s t = some (.inl (38, [], sF s 12 g, t)) ∧ ∀ b w, b < (50 + n0) → w < 16 → g (16 * b + w) = zlost u m st (dd.pd.drop m) b w := by
  have hn64 : n0 ≤ 64 := hK.2.2.2.2.2.2.2.2.2.2.2.2.2.2.2.2.2.2.2.2
  have k4 : K.2.2 9 = 64 := hK.2.2.2.2.1
  have k5 : K.2.2 10 = 1024 := hK.2.2.2.2.2.1
  have k7 : K.2.2 12 = 16 * (50 + n0) := hK.2.2.2.2.2.2.2.1
  intro d
  induction d with
  | zero =>
    intro m n s st q1 q2 q3 q4 hm hn
    obtain ⟨n, rfl⟩ : ∃ n', n = n' + 1 := ⟨n - 1, by omega⟩
    refine ⟨s.2.2.1 12, ?_, ?_⟩
    · unfold l_D_losePending_8_2
      rw [q2, if_pos (by rw [iN_le (by omega) (by omega)]; omega), sF_triv]
    · intro b w hb hw
      rw [List.drop_eq_nil_of_le (by omega)]
      exact q4 b w hb hw
  | succ d ih =>
    intro m n s st q1 q2 q3 q4 hm hn
    obtain ⟨n, rfl⟩ : ∃ n', n = n' + 1 := ⟨n - 1, by omega⟩
    obtain ⟨a1, a2, a3⟩ := q3 m (by omega)
    have hq : (f + m) % 64 < 64 := Nat.mod_lt _ (by omega)
    have hd : dd.pd.drop m = zPd dd m :: dd.pd.drop (m + 1) := by
      rw [List.drop_eq_getElem_cons (by omega)]
      congr 1
      unfold zPd
      rw [List.getD_eq_getElem?_getD, List.getElem?_eq_getElem (by omega)]; rfl
    have hbit := c_bit u m (by omega)
    have hz : ∀ st : ZSt, zlost u m st (zPd dd m :: dd.pd.drop (m + 1)) = zlost u (m + 1) (if u.toBitVec.getLsbD m = true then zu st (zPd dd m).1 (zPd dd m).2 else st) (dd.pd.drop (m + 1)) := fun _ => rfl
    rw [hd]
    cases hb0 : u.toBitVec.getLsbD m with
    | false =>
      obtain ⟨g2, e1, e2⟩ := ih (m + 1) n s st q1 q2 q3 q4 (by omega) (by omega)
      refine ⟨g2, ?_, ?_⟩
      · have hdr : l_D_losePending_8_2 K N (n + 1) u (iN m) s t = l_D_losePending_8_2 K N n u (iN (m + 1)) s t := by
          conv => lhs; unfold l_D_losePending_8_2
          rw [q2, if_neg (by rw [iN_le (by omega) (by omega)]; omega)]
          show (if _ then _ else _) = _
          rw [if_pos (hbit.mpr hb0), iL1, iN_add]
        rw [hdr, e1]
      · intro b w hb hw
        rw [e2 b w hb hw, hz, hb0, if_neg Bool.noConfusion]
    | true =>
      obtain ⟨g, hg⟩ : ∃ g, g = va_cpy (s.2.2.1 10) (s.2.2.1 12) (16 * ((f + m) % 64)) (16 * (zPd dd m).1) 16 := ⟨_, rfl⟩
      have hst : ∀ b w, b < (50 + n0) → w < 16 → (sF s 12 g).2.2.1 12 (16 * b + w) = zu st (zPd dd m).1 (zPd dd m).2 b w := by
        intro b w hb hw
        rw [sF_arr, hg]
        by_cases hbe : b = (zPd dd m).1
        · rw [hbe, va_cpy_in hw, zu, if_pos rfl]; exact a3 w hw
        · rw [va_cpy_out hw hbe, zu, if_neg hbe]; exact q4 b w hb hw
      obtain ⟨g2, e1, e2⟩ := ih (m + 1) n (sF s 12 g) (zu st (zPd dd m).1 (zPd dd m).2) q1 q2 (by
        rw [sF_arr_ne (by omega), sF_arr_ne (by omega)]; exact q3) hst (by omega) (by omega)
      refine ⟨g2, ?_, ?_⟩
      · have hdr : l_D_losePending_8_2 K N (n + 1) u (iN m) s t = l_D_losePending_8_2 K N n u (iN (m + 1)) (sF s 12 g) t := by
          conv => lhs; unfold l_D_losePending_8_2
          rw [q2, if_neg (by rw [iN_le (by omega) (by omega)]; omega), q1, ring_q hf (by omega)]
          show (if _ then _ else px_gd _ (px_gd _ _)) = _
          rw [if_neg (fun hx => by have := hbit.mp hx; rw [hb0] at this; cases this), px_gd_of (by rw [k4]; exact iN_in (by omega) hq), iN_nat (a := (f + m) % 64) (by omega), a1, iN_16, iN_16, iN_nat (by omega), iN_nat (by omega), n16, px_gd_of ⟨iN_neg (by omega), iN_neg (by omega), by decide, by rw [k5]; omega, by rw [k7]; omega⟩, iL1, iN_add, ← hg]
          rfl
        rw [hdr, e1, sF_sF]
      · intro b w hb hw
        rw [e2 b w hb hw, hz, hb0, if_pos rfl]
theorem c_lose2_loop_8 (K : px_K) (N n0 sets : Nat) (hK : zKc K n0 sets) (t : px_W) (u : Int64) (dd : ZDv) (f : Nat) (hf : f < 64) (hl : dd.pd.length ≤ 64) (L : ZSt) : ∀ (d m n : Nat) (s : px_S), s.1 7 = iN f → s.1 8 = iN dd.pd.length → (∀ j, j < dd.pd.length → s.2.2.1 9 ((f + j) % 64) = iN (zPd dd j).1 ∧ (zPd dd j).1 < (50 + n0)) → (∀ b w, b < (50 + n0) → w < 16 → s.2.2.1 12 (16 * b + w) = L b w) → (∀ b w, b < (50 + n0) → w < 16 → (∀ e ∈ dd.pd.drop m, e.1 ≠ b) → s.2.2.1 11 (16 * b + w) = L b w) → m + d = dd.pd.length → d < n → ∃ g, l_D_losePending_8_40 K N n u (iN m) s t = some (.inl (66, [], sF s 11 g, t)) ∧ ∀ b w, b < (50 + n0) → w < 16 → g (16 * b + w) = L b w := by
  have hn64 : n0 ≤ 64 := hK.2.2.2.2.2.2.2.2.2.2.2.2.2.2.2.2.2.2.2.2
  have k4 : K.2.2 9 = 64 := hK.2.2.2.2.1
  have k6 : K.2.2 11 = 16 * (50 + n0) := hK.2.2.2.2.2.2.1
  have k7 : K.2.2 12 = 16 * (50 + n0) := hK.2.2.2.2.2.2.2.1
  intro d
  induction d with
  | zero =>
    intro m n s q1 q2 q3 q4 q5 hm hn
    obtain ⟨n, rfl⟩ : ∃ n', n = n' + 1 := ⟨n - 1, by omega⟩
    refine ⟨s.2.2.1 11, ?_, ?_⟩
    · unfold l_D_losePending_8_40
      rw [q2, if_pos (by rw [iN_le (by omega) (by omega)]; omega), sF_triv]
    · intro b w hb hw
      exact q5 b w hb hw (by rw [List.drop_eq_nil_of_le (by omega)]; exact fun _ h => absurd h List.not_mem_nil)
  | succ d ih =>
    intro m n s q1 q2 q3 q4 q5 hm hn
    obtain ⟨n, rfl⟩ : ∃ n', n = n' + 1 := ⟨n - 1, by omega⟩
    obtain ⟨a1, a2⟩ := q3 m (by omega)
    have hq : (f + m) % 64 < 64 := Nat.mod_lt _ (by omega)
    have hd : dd.pd.drop m = zPd dd m :: dd.pd.drop (m + 1) := by
      rw [List.drop_eq_getElem_cons (by omega)]
      congr 1
      unfold zPd
      rw [List.getD_eq_getElem?_getD, List.getElem?_eq_getElem (by omega)]; rfl
    rw [hd] at q5
    obtain ⟨g, hg⟩ : ∃ g, g = va_cpy (s.2.2.1 12) (s.2.2.1 11) (16 * (zPd dd m).1) (16 * (zPd dd m).1) 16 := ⟨_, rfl⟩
    obtain ⟨g2, e1, e2⟩ := ih (m + 1) n (sF s 11 g) q1 q2 (by
      rw [sF_arr_ne (by omega)]; exact q3) (by rw [sF_arr_ne (by omega)]; exact q4) (by
      intro b w hb hw hx
      rw [sF_arr, hg]
      by_cases hbe : b = (zPd dd m).1
      · rw [hbe, va_cpy_in hw]; rw [← hbe]; exact q4 b w hb hw
      · rw [va_cpy_out hw hbe]
        refine q5 b w hb hw (fun e he => ?_)
        rcases List.mem_cons.mp he with h1 | h1
        · rw [h1]; exact fun h2 => hbe h2.symm
        · exact hx e h1) (by omega) (by omega)
    refine ⟨g2, ?_, e2⟩
    have hdr : l_D_losePending_8_40 K N (n + 1) u (iN m) s t = l_D_losePending_8_40 K N n u (iN (m + 1)) (sF s 11 g) t := by
      conv => lhs; unfold l_D_losePending_8_40
      rw [q2, if_neg (by rw [iN_le (by omega) (by omega)]; omega), q1, ring_q hf (by omega)]
      rw [px_gd_of (by rw [k4]; exact iN_in (by omega) hq), iN_nat (a := (f + m) % 64) (by omega), a1, iN_16]
      show px_gd _ _ = _
      rw [iN_nat (by omega), n16, px_gd_of ⟨iN_neg (by omega), iN_neg (by omega), by decide, by rw [k7]; omega, by rw [k6]; omega⟩, iL1, iN_add, ← hg]
      rfl
    rw [hdr, e1, sF_sF]
/-- a device loses what is pending -/
theorem c_lose_8 (K : px_K) (N n sets : Nat) (hN : 2000 ≤ N) (hK : zKc K n sets) (t : px_W) (s : px_S) (m : Int64) (d : ZDv) (h : zCd s 6 8 ((50 + n)) d) : ∃ u, f_D_losePending_8 K N m s t = some (.inl none, u, t) ∧ zCd u 6 8 ((50 + n)) (d.go m) ∧ (∀ r, r ≠ 8 → u.1 r = s.1 r) ∧ u.2.1 = s.2.1 ∧ (∀ c, c ≠ 11 → c ≠ 12 → u.2.2.1 c = s.2.2.1 c) ∧ u.2.2.2 = s.2.2.2 := by
  obtain ⟨g1, g2, g3, g4, g5, ⟨f, f1, f2, f3⟩, g7, g8⟩ := h
  obtain ⟨g, e1, e2⟩ := c_lose_loop_8 K N n sets hK t m d f f1 g1 d.pd.length 0 N s d.st f2 g3 f3 g7 (by omega) (by omega)
  obtain ⟨h, e3, e4⟩ := c_lose2_loop_8 K N n sets hK t m d f f1 g1 (zlost m 0 d.st d.pd) d.pd.length 0 N (sF s 12 g) f2 g3 (fun j hj => by
    rw [sF_arr_ne (by omega)]; exact ⟨(f3 j hj).1, (f3 j hj).2.1⟩) (fun b w hb hw => by rw [sF_arr]; exact e2 b w hb hw) (fun b w hb hw hx => by
    rw [sF_arr_ne (by omega)]
    have e8 : s.2.2.1 11 (16 * b + w) = d.now b w := g8 b w hb hw
    rw [e8]
    have hx : ∀ e ∈ d.pd, e.1 ≠ b := hx
    exact congrFun (ZDv.out_notin (ZDv.out_go d m) hx).symm w) (by omega) (by omega)
  refine ⟨sR (sF (sF s 12 g) 11 h) 8 0, ?_, ?_, fun r hr => sR_ne hr, rfl, ?_, rfl⟩
  · unfold f_D_losePending_8
    have e1 : l_D_losePending_8_2 K N N m 0 s t = _ := e1
    have e3 : l_D_losePending_8_40 K N N m 0 (sF s 12 g) t = _ := e3
    rw [e1]
    show px_lp (l_D_losePending_8_40 K N N m 0 (sF s 12 g) t) _ _ = _
    rw [e3]; rfl
  · refine ⟨by show 0 ≤ 64; omega, ?_, ?_, ?_, ?_, ⟨f, f1, ?_, fun j hj => absurd hj (Nat.not_lt_zero _)⟩, ?_, ?_⟩
    · rw [sR_ne (by omega)]; exact g2
    · rw [sR_self]; rfl
    · rw [sR_ne (by omega)]; exact g4
    · rw [sR_ne (by omega)]; exact g5
    · rw [sR_ne (by omega)]; exact f2
    · intro b w hb hw
      show (sF (sF s 12 g) 11 h).2.2.1 12 _ = _
      rw [sF_arr_ne (by omega), sF_arr]; exact e2 b w hb hw
    · intro b w hb hw
      show (sF (sF s 12 g) 11 h).2.2.1 11 _ = _
      rw [sF_arr]; exact e4 b w hb hw
  · intro c h1 h2
    show (sF (sF s 12 g) 11 h).2.2.1 c = _
    rw [sF_arr_ne h1, sF_arr_ne h2]
/-- a word that is there now -/
theorem c_at_8 (K : px_K) (N n sets : Nat) (hK : zKc K n sets) (t : px_W) (s : px_S) (d : ZDv) (h : zCd s 6 8 ((50 + n)) d) (b w : Nat) (hb : b < (50 + n)) (hw : w < 16) : f_D_at_8 K N (iN b) (iN w) s t = some (.inl (some (.int (d.now b w))), s, t) := by
  have hn64 : n ≤ 64 := hK.2.2.2.2.2.2.2.2.2.2.2.2.2.2.2.2.2.2.2.2
  have k6 : K.2.2 11 = 16 * (50 + n) := hK.2.2.2.2.2.2.1
  obtain ⟨g1, g2, g3, g4, g5, g6, g7, g8⟩ := h
  have hhas : f_D_has_8 K N (iN b) s t = some (.inl (some (.int 1)), s, t) := by
    unfold f_D_has_8
    rw [g2, if_neg (iN_neg (by omega)), if_neg (by rw [iN_le (by omega) (by omega)]; omega), px_gd_of (Or.inr rfl)]
  obtain ⟨r, e1, e2⟩ : wp (f_D_at_8 K N (iN b) (iN w) s t) (fun r => r = (.inl (some (.int (d.now b w))), s, t)) := by
    unfold f_D_at_8
    refine wp_bi hhas (wp_ifn (by decide) (wp_ifn (iN_neg (by omega)) (wp_ifn ?_ ?_)))
    · rw [iL16, iN_le (by omega) (by omega)]; omega
    · rw [iN_16, iN_add, iN_nat (by omega)]
      refine wp_gd (by rw [k6]; exact iN_in (by omega) (by omega)) (wp_some ?_)
      rw [← g8 b w hb hw]
  rw [e1, e2]

