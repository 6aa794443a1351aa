/-! THE WORLD OF A STATE: the cells of the object, of the reference, of the law; exceptions behind them. -/
def px_w (K : px_K) (s : px_S) (t : px_W) : px_W :=
  .inl (0, K.1, .inl K.2.1) ::
  .inr (0, [.ref 2, .ref 3, .ref 8, .ref 13, .ref 22]) ::
  .inr (1, [.int (s.1 0), .long (s.2.1 0), .long (s.2.1 1), .long (s.2.1 2)]) ::
  .inr (2, [.ref 2, .int (s.1 1), .ref 6, .ref 7, .ref 4, .ref 5, .int (s.1 2), .int (s.1 3), .int (s.1 4), .int (s.1 5)]) ::
  .inl (0, K.2.2 4, .inl (s.2.2.1 4)) ::
  .inl (0, K.2.2 5, .inl (s.2.2.1 5)) ::
  .inl (0, K.2.2 6, .inl (s.2.2.1 6)) ::
  .inl (0, K.2.2 7, .inl (s.2.2.1 7)) ::
  .inr (2, [.ref 2, .int (s.1 6), .ref 11, .ref 12, .ref 9, .ref 10, .int (s.1 7), .int (s.1 8), .int (s.1 9), .int (s.1 10)]) ::
  .inl (0, K.2.2 9, .inl (s.2.2.1 9)) ::
  .inl (0, K.2.2 10, .inl (s.2.2.1 10)) ::
  .inl (0, K.2.2 11, .inl (s.2.2.1 11)) ::
  .inl (0, K.2.2 12, .inl (s.2.2.1 12)) ::
  .inr (4, [.ref 3, .ref 8, .ref 14, .int (s.1 11), .ref 20, .ref 21, .int (s.1 12), .int (s.1 13), .int (s.1 14), .int (s.1 15), .int (s.1 16), .int (s.1 17)]) ::
  .inr (3, [.int (s.1 18), .int (s.1 19), .int (s.1 20), .ref 15, .ref 16, .ref 17, .ref 18, .ref 19]) ::
  .inl (0, K.2.2 15, .inl (s.2.2.1 15)) ::
  .inl (0, K.2.2 16, .inl (s.2.2.1 16)) ::
  .inl (0, K.2.2 17, .inl (s.2.2.1 17)) ::
  .inl (0, K.2.2 18, .inl (s.2.2.1 18)) ::
  .inl (0, K.2.2 19, .inl (s.2.2.1 19)) ::
  .inl (0, K.2.2 20, .inl (s.2.2.1 20)) ::
  .inl (0, K.2.2 21, .inl (s.2.2.1 21)) ::
  .inr (5, [.ref 13, .ref 23, .ref 24, .ref 25, .ref 26, .ref 27, .int (s.1 21), .int (s.1 22), .int (s.1 23), .int (s.1 24)]) ::
  .inl (0, K.2.2 23, .inl (s.2.2.1 23)) ::
  .inl (0, K.2.2 24, .inl (s.2.2.1 24)) ::
  .inl (1, K.2.2 25, .inl (s.2.2.1 25)) ::
  .inl (1, K.2.2 26, .inl (s.2.2.1 26)) ::
  .inl (0, K.2.2 27, .inl (s.2.2.1 27)) ::
  .inr (6, [.int (s.1 25), .int (s.1 26), .int (s.1 27), .int (s.1 28), .ref 29, .ref 30, .ref 31, .ref 32, .ref 33, .ref 34, .int (s.1 29), .int (s.1 30), .long (s.2.1 3), .int (s.1 31), .ref 35, .ref 36, .ref 37, .ref 38, .int (s.1 32), .int (s.1 33), .int (s.1 34), .int (s.1 35), .ref 39, .ref 40, .ref 41, .ref 42, .int (s.1 36), .int (s.1 37), .ref 43, .ref 44, .ref 45]) ::
  .inl (0, K.2.2 29, .inl (s.2.2.1 29)) ::
  .inl (0, K.2.2 30, .inl (s.2.2.1 30)) ::
  .inl (0, K.2.2 31, .inl (s.2.2.1 31)) ::
  .inl (0, K.2.2 32, .inl (s.2.2.1 32)) ::
  .inl (0, K.2.2 33, .inl (s.2.2.1 33)) ::
  .inl (0, K.2.2 34, .inl (s.2.2.1 34)) ::
  .inl (0, K.2.2 35, .inl (s.2.2.1 35)) ::
  .inl (0, K.2.2 36, .inl (s.2.2.1 36)) ::
  .inl (1, K.2.2 37, .inl (s.2.2.1 37)) ::
  .inl (0, K.2.2 38, .inl (s.2.2.1 38)) ::
  .inl (0, K.2.2 39, .inl (s.2.2.1 39)) ::
  .inl (0, K.2.2 40, .inl (s.2.2.1 40)) ::
  .inl (1, K.2.2 41, .inl (s.2.2.1 41)) ::
  .inl (1, K.2.2 42, .inl (s.2.2.1 42)) ::
  .inl (0, K.2.2 43, .inl (s.2.2.1 43)) ::
  .inl (0, K.2.2 44, .inl (s.2.2.1 44)) ::
  .inl (0, K.2.2 45, .inl (s.2.2.1 45)) ::
  .inl (2, K.2.2 46, .inr (.inl s.2.2.2)) ::
  t
/-- the exception of class c that the reference a names -/
def px_isx (t : px_W) (a c : Nat) : Prop := ∃ j : Nat, a = j + 47 ∧ t[j]? = some (px_exc c)
theorem px_hnd_of {K : px_K} {s : px_S} {t : px_W} {a c pc h : Nat} {hs : List (Nat × Nat × Nat × Nat)} (h1 : (hs.all fun h => !px_cov pc h) = false) (h2 : px_find pc c hs = some h) (hx : px_isx t a c) : px_hnd pc hs (px_w K s t) a = some (some h) := by
  obtain ⟨j, rfl, hj⟩ := hx
  unfold px_hnd
  rw [if_neg (by rw [h1]; decide)]
  have e : (px_w K s t)[j + 47]? = some (px_exc c) := hj
  rw [e]
  show (match px_find pc c hs with
      | some h => some (some h)
      | none => none) = some (some h)
  rw [h2]
theorem px_tb_at {lo hi : Int} {ts : List Nat} {L : px_L} {x : Int32} {S : List Value} {w : px_W} {v : Int} {T : Nat} (h : x.toInt = v) (hT : (if v < lo ∨ hi < v then ts.getD 0 0 else ts.getD ((v - lo).toNat + 1) 0) = T) : px_tb lo hi ts L (.int x :: S) w = some (T, L, S, w, []) := by
  unfold px_tb px_go
  dsimp only
  rw [h, hT]
theorem px_tb_df {lo hi : Int} {ts : List Nat} {L : px_L} {x : Int32} {S : List Value} {w : px_W} {T : Nat} (h : x.toInt < lo ∨ hi < x.toInt) (hT : ts.getD 0 0 = T) : px_tb lo hi ts L (.int x :: S) w = some (T, L, S, w, []) := by
  unfold px_tb px_go
  dsimp only
  rw [if_pos h, hT]
theorem px_lk_of {ps : Array (Int × Int)} {ts : List Nat} {L : px_L} {x : Int32} {S : List Value} {w : px_W} {v : Int} {T : Nat} (h : x.toInt = v) (hT : px_lkI v (ts.getD 0 0) ps.toList (ts.drop 1) = T) : px_lk ps ts L (.int x :: S) w = some (T, L, S, w, []) := by
  unfold px_lk px_go
  dsimp only
  rw [h, hT]
theorem px_lkI_df {x : Int} {d : Nat} : ∀ (ps : List (Int × Int)) (ts : List Nat), (∀ q ∈ ps, ¬ q.1 = x) → px_lkI x d ps ts = d := by
  intro ps
  induction ps with
  | nil => intro ts _; cases ts <;> rfl
  | cons p ps ih =>
    intro ts h
    cases ts with
    | nil => rfl
    | cons t ts =>
      obtain ⟨k, o⟩ := p
      show (if k = x then t else px_lkI x d ps ts) = d
      rw [if_neg (h (k, o) List.mem_cons_self)]
      exact ih ts (fun q hq => h q (List.mem_cons_of_mem _ hq))
theorem px_lk_df {ps : Array (Int × Int)} {ts : List Nat} {L : px_L} {x : Int32} {S : List Value} {w : px_W} {T : Nat} (h : ∀ q ∈ ps.toList, ¬ q.1 = x.toInt) (hT : ts.getD 0 0 = T) : px_lk ps ts L (.int x :: S) w = some (T, L, S, w, []) := by
  unfold px_lk px_go
  dsimp only
  rw [px_lkI_df _ _ h, hT]
