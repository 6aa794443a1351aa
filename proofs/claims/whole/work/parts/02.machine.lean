/-! THE PURE MACHINE: the instructions that the class, the reference and the law use, over a list of cells; a reference is the number of a cell of the list (0: the script). -/
abbrev px_L : Type := List (Option Value)
abbrev px_W : Type := List va_E
/-- a row of a method: its pc, the instruction, its length, its numbers (targets, field, callee ..), its constant -/
abbrev px_R : Type := Nat × Instr × Nat × List Nat × Value
/-- a method: its name; bytes, locals, what it returns; handlers as the class file has them; handlers (from pc, to pc, row, class); its rows -/
abbrev px_M : Type := MethodName × ByteArray × Nat × Option FieldType × List (Nat × Nat × Nat × Nat) × List (Nat × Nat × Nat × Nat) × List px_R
abbrev px_M.nm (M : px_M) : MethodName := M.1
abbrev px_M.by (M : px_M) : ByteArray := M.2.1
abbrev px_M.ml (M : px_M) : Nat := M.2.2.1
abbrev px_M.rt (M : px_M) : Option FieldType := M.2.2.2.1
abbrev px_M.hf (M : px_M) : List (Nat × Nat × Nat × Nat) := M.2.2.2.2.1
abbrev px_M.hs (M : px_M) : List (Nat × Nat × Nat × Nat) := M.2.2.2.2.2.1
abbrev px_M.cd (M : px_M) : List px_R := M.2.2.2.2.2.2
/-- where it stands: the row, the locals, the operand stack, the cells; what is to be shown of the way there -/
abbrev px_C : Type := Nat × px_L × List Value × px_W × List Prop
def px_lg (L : px_L) (j : Nat) : Option Value := match L[j]? with
  | some (some v) => some v
  | _ => none
/-- the local behind which j stands is no long -/
def px_n2 (L : px_L) : Nat → Bool
  | 0 => true
  | j + 1 => match px_lg L j with
    | some v => v.category == 1
    | none => true
def px_go (i : Nat) (L : px_L) (S : List Value) (w : px_W) : Option px_C := some (i, L, S, w, [])
def px_ldi (j i : Nat) (L : px_L) (S : List Value) (w : px_W) : Option px_C := match px_lg L j with
  | some (.int x) => px_go (i + 1) L (.int x :: S) w
  | _ => none
def px_ldl (j i : Nat) (L : px_L) (S : List Value) (w : px_W) : Option px_C := match px_lg L j with
  | some (.long x) => px_go (i + 1) L (.long x :: S) w
  | _ => none
def px_lda (j i : Nat) (L : px_L) (S : List Value) (w : px_W) : Option px_C := match px_lg L j with
  | some (.ref x) => px_go (i + 1) L (.ref x :: S) w
  | _ => none
def px_sti (j i : Nat) (L : px_L) (S : List Value) (w : px_W) : Option px_C := match S with
  | .int x :: S => if px_n2 L j = true ∧ j < L.length then px_go (i + 1) (L.set j (some (.int x))) S w else none
  | _ => none
def px_sta (j i : Nat) (L : px_L) (S : List Value) (w : px_W) : Option px_C := match S with
  | .ref x :: S => if px_n2 L j = true ∧ j < L.length then px_go (i + 1) (L.set j (some (.ref x))) S w else none
  | _ => none
def px_inc (j : Nat) (v : Value) (i : Nat) (L : px_L) (S : List Value) (w : px_W) : Option px_C := match v, px_lg L j with
  | .int n, some (.int x) => if px_n2 L j = true ∧ j < L.length then px_go (i + 1) (L.set j (some (.int (x + n)))) S w else none
  | _, _ => none
def px_i2 (f : Int32 → Int32 → Int32) (i : Nat) (L : px_L) (S : List Value) (w : px_W) : Option px_C := match S with
  | .int y :: .int x :: S => px_go (i + 1) L (.int (f x y) :: S) w
  | _ => none
/-- a division: the divisor isn't 0 -/
def px_dv (f : Int32 → Int32 → Int32) (i : Nat) (L : px_L) (S : List Value) (w : px_W) : Option px_C := match S with
  | .int y :: .int x :: S => some (i + 1, L, .int (f x y) :: S, w, [¬ y = 0])
  | _ => none
def px_l2 (f : Int64 → Int64 → Int64) (i : Nat) (L : px_L) (S : List Value) (w : px_W) : Option px_C := match S with
  | .long y :: .long x :: S => px_go (i + 1) L (.long (f x y) :: S) w
  | _ => none
/-- a long moved by an int -/
def px_lh (f : Int64 → Int32 → Int64) (i : Nat) (L : px_L) (S : List Value) (w : px_W) : Option px_C := match S with
  | .int y :: .long x :: S => px_go (i + 1) L (.long (f x y) :: S) w
  | _ => none
def px_b1 (f : Int32 → Prop) (hf : ∀ x, Decidable (f x)) (t i : Nat) (L : px_L) (S : List Value) (w : px_W) : Option px_C := match S with
  | .int x :: S => px_go (@ite Nat (f x) (hf x) t (i + 1)) L S w
  | _ => none
def px_b2 (f : Int32 → Int32 → Prop) (hf : ∀ x y, Decidable (f x y)) (t i : Nat) (L : px_L) (S : List Value) (w : px_W) : Option px_C := match S with
  | .int y :: .int x :: S => px_go (@ite Nat (f x y) (hf x y) t (i + 1)) L S w
  | _ => none
/-- a field: class ci, field k -/
def px_gf (ci k i : Nat) (L : px_L) (S : List Value) (w : px_W) : Option px_C := match S with
  | .ref a :: S => match w[a]? with
    | some (.inr (c, fs)) => if c = ci then (match fs[k]? with
      | some v => px_go (i + 1) L (v :: S) w
      | none => none) else none
    | _ => none
  | _ => none
/-- which values a field may take, by its type -/
def px_fit (ty : FieldType) (v : Value) : List Prop := match ty, v with
  | .int, .int _ => []
  | .long, .long _ => []
  | .boolean, .int x => [x = 0 ∨ x = 1]
  | .object _, .ref _ => []
  | .array _, .ref _ => []
  | _, _ => [False]
def px_pf (ty : FieldType) (ci k i : Nat) (L : px_L) (S : List Value) (w : px_W) : Option px_C := match S with
  | v :: .ref a :: S => match a, w[a]? with
    | a + 1, some (.inr (c, fs)) => if c = ci ∧ k < fs.length then some (i + 1, L, S, w.set (a + 1) (.inr (c, fs.set k v)), px_fit ty v) else none
    | _, _ => none
  | _ => none
/-- an element of an array of ints (g = 0) or booleans (g = 1) -/
def px_al (g i : Nat) (L : px_L) (S : List Value) (w : px_W) : Option px_C := match S with
  | .int j :: .ref a :: S => match w[a]? with
    | some (.inl (t, n, .inl f)) => if t = g then some (i + 1, L, .int (f j.toNatClampNeg) :: S, w, [vp_in j n]) else none
    | _ => none
  | _ => none
def px_zb (g : Nat) (x : Int32) : List Prop := match g with
  | 0 => []
  | _ => [x = 0 ∨ x = 1]
def px_as (g i : Nat) (L : px_L) (S : List Value) (w : px_W) : Option px_C := match S with
  | .int x :: .int j :: .ref a :: S => match a, w[a]? with
    | a + 1, some (.inl (t, n, .inl f)) => if t = g then some (i + 1, L, S, w.set (a + 1) (.inl (t, n, .inl (upd f j.toNatClampNeg x))), vp_in j n :: px_zb g x) else none
    | _, _ => none
  | _ => none
/-- an array of longs (the law's own) -/
def px_ll (i : Nat) (L : px_L) (S : List Value) (w : px_W) : Option px_C := match S with
  | .int j :: .ref a :: S => match w[a]? with
    | some (.inl (t, n, .inr (.inl f))) => if t = 2 then some (i + 1, L, .long (f j.toNatClampNeg) :: S, w, [vp_in j n]) else none
    | _ => none
  | _ => none
def px_ls (i : Nat) (L : px_L) (S : List Value) (w : px_W) : Option px_C := match S with
  | .long x :: .int j :: .ref a :: S => match a, w[a]? with
    | a + 1, some (.inl (t, n, .inr (.inl f))) => if t = 2 then some (i + 1, L, S, w.set (a + 1) (.inl (t, n, .inr (.inl (vp_updL f j.toNatClampNeg x)))), [vp_in j n]) else none
    | _, _ => none
  | _ => none
def px_le (i : Nat) (L : px_L) (S : List Value) (w : px_W) : Option px_C := match S with
  | .ref a :: S => match w[a]? with
    | some (.inl (t, n, _)) => if t < 3 then px_go (i + 1) L (.int (Int32.ofNat n) :: S) w else none
    | _ => none
  | _ => none
/-- System.arraycopy of ints -/
def px_cp (i : Nat) (L : px_L) (S : List Value) (w : px_W) : Option px_C := match S with
  | .int n :: .int dp :: .ref a :: .int sp :: .ref b :: S => match a, b, w[b]?, w[a]? with
    | a + 1, _ + 1, some (.inl (t0, n0, .inl f)), some (.inl (t1, n1, .inl g)) => if t0 = 0 ∧ t1 = 0 ∧ (S.map fun v => v.category).sum ≤ 8 then some (i + 1, L, S, w.set (a + 1) (.inl (t1, n1, .inl (va_cpy f g sp.toNatClampNeg dp.toNatClampNeg n.toNatClampNeg))), [¬ sp < 0 ∧ ¬ dp < 0 ∧ ¬ n < 0 ∧ sp.toNatClampNeg + n.toNatClampNeg ≤ n0 ∧ dp.toNatClampNeg + n.toNatClampNeg ≤ n1]) else none
    | _, _, _, _ => none
  | _ => none
def px_z (g : Nat) : (Nat → Int32) ⊕ (Nat → Int64) ⊕ (Nat → UInt32) ⊕ (Nat → UInt64) ⊕ (Nat → Option Nat) := match g with
  | 2 => .inr (.inl (fun _ => 0))
  | _ => .inl (fun _ => 0)
/-- a new array of ints (g = 0), booleans (1), longs (2) -/
def px_na (g i : Nat) (L : px_L) (S : List Value) (w : px_W) : Option px_C := match S with
  | .int n :: S => some (i + 1, L, .ref w.length :: S, w ++ [.inl (g, n.toNatClampNeg, px_z g)], [¬ n < 0 ∧ n.toNatClampNeg ≤ 60000000])
  | _ => none
/-- a new object of class ci with these fields -/
def px_nw (ci : Nat) (fs : List Value) (i : Nat) (L : px_L) (S : List Value) (w : px_W) : Option px_C := px_go (i + 1) L (.ref w.length :: S) (w ++ [.inr (ci, fs)])
/-- a switch by a table: the rows of the targets, the default's first -/
def px_tb (lo hi : Int) (ts : List Nat) (L : px_L) (S : List Value) (w : px_W) : Option px_C := match S with
  | .int x :: S => px_go (if x.toInt < lo ∨ hi < x.toInt then ts.getD 0 0 else ts.getD ((x.toInt - lo).toNat + 1) 0) L S w
  | _ => none
def px_lkI (x : Int) (d : Nat) : List (Int × Int) → List Nat → Nat
  | (k, _) :: ps, t :: ts => if k = x then t else px_lkI x d ps ts
  | _, _ => d
def px_lk (ps : Array (Int × Int)) (ts : List Nat) (L : px_L) (S : List Value) (w : px_W) : Option px_C := match S with
  | .int x :: S => px_go (px_lkI x.toInt (ts.getD 0 0) ps.toList (ts.drop 1)) L S w
  | _ => none
def px_du (i : Nat) (L : px_L) (S : List Value) (w : px_W) : Option px_C := match S with
  | v :: S => if v.category = 1 then px_go (i + 1) L (v :: v :: S) w else none
  | _ => none
def px_d2 (i : Nat) (L : px_L) (S : List Value) (w : px_W) : Option px_C := match S with
  | v :: u :: S => if v.category = 1 ∧ u.category = 1 then px_go (i + 1) L (v :: u :: v :: u :: S) w else none
  | _ => none
def px_po (i : Nat) (L : px_L) (S : List Value) (w : px_W) : Option px_C := match S with
  | v :: S => if v.category = 1 then px_go (i + 1) L S w else none
  | _ => none
/-- Object's constructor -/
def px_oi (i : Nat) (L : px_L) (S : List Value) (w : px_W) : Option px_C := match S with
  | .ref _ :: S => if (S.map fun v => v.category).sum ≤ 8 then px_go (i + 1) L S w else none
  | _ => none
def px_il (i : Nat) (L : px_L) (S : List Value) (w : px_W) : Option px_C := match S with
  | .int x :: S => px_go (i + 1) L (.long x.toInt64 :: S) w
  | _ => none
def px_lc (i : Nat) (L : px_L) (S : List Value) (w : px_W) : Option px_C := match S with
  | .long y :: .long x :: S => px_go (i + 1) L (.int (lg_cmp x y) :: S) w
  | _ => none
def px_nm (r : px_R) (k : Nat) : Nat := r.2.2.2.1.getD k 0
/-- what the tables say: the fields of a new object of a class, a field's type -/
abbrev px_T : Type := (Nat → List Value) × (Nat → Nat → FieldType)
/-- an instruction that is no call, no return, no throw -/
def px_step (E : px_T) (r : px_R) (i : Nat) (L : px_L) (S : List Value) (w : px_W) : Option px_C := match r.2.1 with
  | .iconst _ => px_go (i + 1) L (r.2.2.2.2 :: S) w
  | .bipush _ => px_go (i + 1) L (r.2.2.2.2 :: S) w
  | .sipush _ => px_go (i + 1) L (r.2.2.2.2 :: S) w
  | .lconst _ => px_go (i + 1) L (r.2.2.2.2 :: S) w
  | .ldc _ => px_go (i + 1) L (r.2.2.2.2 :: S) w
  | .ldc_w _ => px_go (i + 1) L (r.2.2.2.2 :: S) w
  | .ldc2_w _ => px_go (i + 1) L (r.2.2.2.2 :: S) w
  | .iload_n j => px_ldi j i L S w
  | .iload j => px_ldi j i L S w
  | .lload_n j => px_ldl j i L S w
  | .lload j => px_ldl j i L S w
  | .aload_n j => px_lda j i L S w
  | .aload j => px_lda j i L S w
  | .istore_n j => px_sti j i L S w
  | .istore j => px_sti j i L S w
  | .astore_n j => px_sta j i L S w
  | .astore j => px_sta j i L S w
  | .iinc j _ => px_inc j r.2.2.2.2 i L S w
  | .iadd => px_i2 (fun x y => x + y) i L S w
  | .isub => px_i2 (fun x y => x - y) i L S w
  | .imul => px_i2 (fun x y => x * y) i L S w
  | .iand => px_i2 (fun x y => x &&& y) i L S w
  | .ior => px_i2 (fun x y => x ||| y) i L S w
  | .ixor => px_i2 (fun x y => x ^^^ y) i L S w
  | .ishl => px_i2 (fun x y => x <<< (y &&& 31)) i L S w
  | .ishr => px_i2 (fun x y => x >>> (y &&& 31)) i L S w
  | .iushr => px_i2 (fun x y => (x.toUInt32 >>> (y.toUInt32 &&& Int32.toUInt32 31)).toInt32) i L S w
  | .idiv => px_dv (fun x y => x / y) i L S w
  | .irem => px_dv (fun x y => x - x / y * y) i L S w
  | .ladd => px_l2 (fun x y => x + y) i L S w
  | .land => px_l2 (fun x y => x &&& y) i L S w
  | .lor => px_l2 (fun x y => x ||| y) i L S w
  | .lshl => px_lh (fun x y => x <<< (y.toInt64 &&& 63)) i L S w
  | .lshr => px_lh (fun x y => x >>> (y.toInt64 &&& 63)) i L S w
  | .lushr => px_lh (fun x y => (x.toUInt64 >>> (y.toInt64.toUInt64 &&& Int64.toUInt64 63)).toInt64) i L S w
  | .i2l => px_il i L S w
  | .lcmp => px_lc i L S w
  | .dup => px_du i L S w
  | .dup2 => px_d2 i L S w
  | .pop => px_po i L S w
  | .goto _ => px_go (px_nm r 0) L S w
  | .ifCond .eq _ => px_b1 (fun x => x = 0) (fun _ => inferInstance) (px_nm r 0) i L S w
  | .ifCond .ne _ => px_b1 (fun x => ¬ x = 0) (fun _ => inferInstance) (px_nm r 0) i L S w
  | .ifCond .lt _ => px_b1 (fun x => x < 0) (fun _ => inferInstance) (px_nm r 0) i L S w
  | .ifCond .ge _ => px_b1 (fun x => 0 ≤ x) (fun _ => inferInstance) (px_nm r 0) i L S w
  | .ifCond .gt _ => px_b1 (fun x => 0 < x) (fun _ => inferInstance) (px_nm r 0) i L S w
  | .ifCond .le _ => px_b1 (fun x => x ≤ 0) (fun _ => inferInstance) (px_nm r 0) i L S w
  | .if_icmp .eq _ => px_b2 (fun x y => x = y) (fun _ _ => inferInstance) (px_nm r 0) i L S w
  | .if_icmp .ne _ => px_b2 (fun x y => ¬ x = y) (fun _ _ => inferInstance) (px_nm r 0) i L S w
  | .if_icmp .lt _ => px_b2 (fun x y => x < y) (fun _ _ => inferInstance) (px_nm r 0) i L S w
  | .if_icmp .ge _ => px_b2 (fun x y => y ≤ x) (fun _ _ => inferInstance) (px_nm r 0) i L S w
  | .if_icmp .gt _ => px_b2 (fun x y => y < x) (fun _ _ => inferInstance) (px_nm r 0) i L S w
  | .if_icmp .le _ => px_b2 (fun x y => x ≤ y) (fun _ _ => inferInstance) (px_nm r 0) i L S w
  | .tableswitch _ lo hi _ => px_tb lo hi r.2.2.2.1 L S w
  | .lookupswitch _ ps => px_lk ps r.2.2.2.1 L S w
  | .getfield _ => px_gf (px_nm r 0) (px_nm r 1) i L S w
  | .putfield _ => px_pf (E.2 (px_nm r 0) (px_nm r 1)) (px_nm r 0) (px_nm r 1) i L S w
  | .iaload => px_al 0 i L S w
  | .baload => px_al 1 i L S w
  | .iastore => px_as 0 i L S w
  | .bastore => px_as 1 i L S w
  | .laload => px_ll i L S w
  | .lastore => px_ls i L S w
  | .arraylength => px_le i L S w
  | .newarray .int => px_na 0 i L S w
  | .newarray .boolean => px_na 1 i L S w
  | .newarray .long => px_na 2 i L S w
  | .invokestatic _ => px_cp i L S w
  | .invokespecial _ => px_oi i L S w
  | .new _ => px_nw (px_nm r 0) (E.1 (px_nm r 0)) i L S w
  | _ => none
/-- 0: a plain step; 1: a return; 2: 'throw new' (the row of its 'new'); 3: a call; else nothing -/
def px_kd (r : px_R) : Nat := match r.2.1 with
  | .ireturn => 1
  | .lreturn => 1
  | .return_ => 1
  | .new _ => px_nm r 1
  | .invokevirtual _ => px_nm r 0
  | .invokestatic _ => px_nm r 0
  | .invokespecial _ => px_nm r 0
  | _ => 0
def px_cov (pc : Nat) (h : Nat × Nat × Nat × Nat) : Bool := decide (h.1 ≤ pc) && decide (pc < h.2.1)
/-- the handler's row for an exception of class c at a pc -/
def px_find (pc c : Nat) : List (Nat × Nat × Nat × Nat) → Option Nat
  | [] => none
  | h :: t => if px_cov pc h = true ∧ h.2.2.2 = c then some h.2.2.1 else px_find pc c t
/-- what becomes of an exception at a pc: it leaves the method, or a handler's row -/
def px_hnd (pc : Nat) (hs : List (Nat × Nat × Nat × Nat)) (w : px_W) (a : Nat) : Option (Option Nat) := if hs.all (fun h => !px_cov pc h) = true then some none else (match a, w[a]? with
  | _ + 1, some (.inr (c, _)) => (match px_find pc c hs with
    | some h => some (some h)
    | none => none)
  | _, _ => none)
/-- the locals with which a method begins -/
def px_en : List Value → px_L
  | [] => []
  | v :: vs => if v.category = 2 then some v :: none :: px_en vs else some v :: px_en vs
def px_ent (ml : Nat) (vs : List Value) : px_L := px_en vs ++ List.replicate (ml - (px_en vs).length) none
abbrev px_O : Type := (Option Value ⊕ Nat) × px_W × List Prop
def px_rt (ty : Option FieldType) (r : px_R) (S : List Value) (w : px_W) : Option px_O := match r.2.1, ty, S with
  | .ireturn, some .int, [.int v] => some (.inl (some (.int v)), w, [])
  | .ireturn, some .boolean, [.int v] => some (.inl (some (.int v)), w, [v = 0 ∨ v = 1])
  | .lreturn, some .long, [.long v] => some (.inl (some (.long v)), w, [])
  | .return_, none, [] => some (.inl none, w, [])
  | _, _, _ => none
def px_exc (c : Nat) : va_E := .inr (c, List.replicate 6 .null)
def px_ad (qs : List Prop) (o : Option px_O) : Option px_O := match o with
  | none => none
  | some (o, w, ps) => some (o, w, qs ++ ps)
/-- the receiver is there (mode 1: a constructor's; 2: an object of class ci; 3: a nest mate's constructor's) -/
def px_rcv (md ci : Nat) (v : Option Value) (w : px_W) : Bool := match md, v with
  | 0, _ => true
  | 1, some (.ref (_ + 1)) => true
  | 2, some (.ref (a + 1)) => (match w[a + 1]? with
    | some (.inr (c, _)) => decide (c = ci)
    | _ => false)
  | 3, some (.ref (_ + 1)) => true
  | _, _ => false
/-- may it be called so: the arguments are there, they fit, the receiver is of its class -/
def px_okc (r : px_R) (N : px_M) (S : List Value) (w : px_W) : Bool :=
  decide (px_nm r 2 ≤ S.length) && decide (((S.drop (px_nm r 2)).map fun v => v.category).sum ≤ 8) && decide ((px_en (S.take (px_nm r 2)).reverse).length ≤ N.ml) && px_rcv (px_nm r 3) (px_nm r 4) (S[px_nm r 2 - 1]?) w
def px_run (E : px_T) (P : List px_M) : Nat → Nat → Nat → Nat → px_L → List Value → px_W → Option px_O
  | 0, _, _, _, _, _, _ => none
  | _ + 1, 0, _, _, _, _, _ => none
  | n + 1, d + 1, mi, i, L, S, w => match P[mi]? with
    | none => none
    | some M => match M.cd[i]? with
      | none => none
      | some r => match px_kd r with
        | 0 => match px_step E r i L S w with
          | none => none
          | some (i', L', S', w', q) => px_ad q (px_run E P n (d + 1) mi i' L' S' w')
        | 1 => px_rt M.rt r S w
        | 2 => if 8 ≤ d ∧ (S.map fun v => v.category).sum ≤ 8 then some (.inr w.length, w ++ [px_exc (px_nm r 0)], []) else none
        | 3 => match P[px_nm r 1]? with
          | none => none
          | some N => if px_okc r N S w = true then (match px_run E P n d (px_nm r 1) 0 (px_ent N.ml (S.take (px_nm r 2)).reverse) [] w with
            | none => none
            | some (.inl v, w', q) => px_ad q (px_run E P n (d + 1) mi (i + 1) L (v.toList ++ S.drop (px_nm r 2)) w')
            | some (.inr a, w', q) => match px_hnd r.1 M.hs w' a with
              | none => none
              | some none => some (.inr a, w', q)
              | some (some h) => px_ad q (px_run E P n (d + 1) mi h L [.ref a] w')) else none
        | _ => none
def px_all : List Prop → Prop
  | [] => True
  | [q] => q
  | q :: qs => q ∧ px_all qs
/-- it ends so: with this outcome and these cells -/
def px_E (E : px_T) (P : List px_M) (d mi i : Nat) (L : px_L) (S : List Value) (w : px_W) (o : Option Value ⊕ Nat) (w' : px_W) : Prop := ∃ (n : Nat) (qs : List Prop), px_run E P n d mi i L S w = some (o, w', qs) ∧ px_all qs
/-- a stretch of plain steps -/
def px_steps (E : px_T) (cd : List px_R) : Nat → px_C → Option px_C
  | 0, c => some c
  | k + 1, (i, L, S, w, q) => match cd[i]? with
    | none => none
    | some r => match px_kd r with
      | 0 => match px_step E r i L S w with
        | none => none
        | some (i', L', S', w', q') => px_steps E cd k (i', L', S', w', q ++ q')
      | _ => none
