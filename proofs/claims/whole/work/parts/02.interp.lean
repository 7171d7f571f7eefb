/-! ===== A small machine of its own over places: what a run of it says is said of the JVM by 03 ===== -/
/-- the heap: shapes (kind, length) by place; ints, longs, references by place and slot -/
abbrev tb_Hp : Type := List (Nat × Nat) × (Nat → Nat → Int32) × (Nat → Nat → Int64) × (Nat → Nat → Option Nat)
/-- an instruction: its pc, itself, its length, what it names, its constant, where the tables speak of it -/
abbrev tb_I : Type := Nat × Instr × Nat × List Nat × Value × List Nat
abbrev tb_L : Type := List (Nat × Value)
/-- index of the instruction, locals, stack, heap -/
abbrev tb_S : Type := Nat × tb_L × List Value × tb_Hp
/-- goes on | calls, and goes on behind | ends -/
abbrev tb_R : Type := tb_S ⊕ ((Nat × List Value × tb_S) ⊕ (Option Value × tb_Hp))
def tb_up2 {α : Type} (f : Nat → Nat → α) (p k : Nat) (v : α) : Nat → Nat → α := fun q => if q = p then (fun j => if j = k then v else f p j) else f q
def tb_up1 {α : Type} (f : Nat → Nat → α) (p : Nat) (g : Nat → α) : Nat → Nat → α := fun q => if q = p then g else f q
def tb_setI (w : tb_Hp) (p k : Nat) (v : Int32) : tb_Hp := (w.1, tb_up2 w.2.1 p k v, w.2.2.1, w.2.2.2)
def tb_setJ (w : tb_Hp) (p k : Nat) (v : Int64) : tb_Hp := (w.1, w.2.1, tb_up2 w.2.2.1 p k v, w.2.2.2)
def tb_setR (w : tb_Hp) (p k : Nat) (v : Option Nat) : tb_Hp := (w.1, w.2.1, w.2.2.1, tb_up2 w.2.2.2 p k v)
def tb_setA (w : tb_Hp) (p : Nat) (f : Nat → Int32) : tb_Hp := (w.1, tb_up1 w.2.1 p f, w.2.2.1, w.2.2.2)
/-- a new cell of kind c with n slots -/
def tb_new (w : tb_Hp) (c n : Nat) : tb_Hp := (w.1 ++ [(c, n)], tb_up1 w.2.1 w.1.length (fun _ => 0), tb_up1 w.2.2.1 w.1.length (fun _ => 0), tb_up1 w.2.2.2 w.1.length (fun _ => none))
def tb_kd (w : tb_Hp) (p : Nat) : Option Nat := (w.1[p]?).map Prod.fst
def tb_ln (w : tb_Hp) (p : Nat) : Nat := ((w.1[p]?).map Prod.snd).getD 0
/-- a slot by its type: 0 int and smaller, 1 long, else a reference -/
def tb_val (t : Nat) (w : tb_Hp) (p k : Nat) : Value := match t with
  | 0 => .int (w.2.1 p k)
  | 1 => .long (w.2.2.1 p k)
  | _ => va_rf (w.2.2.2 p k)
def tb_ld (L : tb_L) (k : Nat) : Option Value := (L.find? (fun q => q.1 == k)).map Prod.snd
def tb_s1 (L : tb_L) (i : Nat) (v : Value) : tb_L := (i, v) :: L.filter (fun q => !(q.1 == i) && !(q.1 + 1 == i && q.2.category == 2))
def tb_s2 (L : tb_L) (i : Nat) (v : Value) : tb_L := (i, v) :: L.filter (fun q => !(q.1 == i) && (!(q.1 == i + 1) && !(q.1 + 1 == i && q.2.category == 2)))
def tb_pick (L : tb_L) (ks : List Nat) : tb_L := ks.filterMap (fun k => L.find? (fun q => q.1 == k))
def tb_psh (v : Value) (i : Nat) (L : tb_L) (S : List Value) (w : tb_Hp) : Option tb_R := some (.inl (i + 1, L, v :: S, w))
def tb_lod (k : Nat) (t : Nat) (i : Nat) (L : tb_L) (S : List Value) (w : tb_Hp) : Option tb_R := match tb_ld L k, t with
  | some (.int x), 0 => some (.inl (i + 1, L, .int x :: S, w))
  | some (.long x), 1 => some (.inl (i + 1, L, .long x :: S, w))
  | some (.ref x), 2 => some (.inl (i + 1, L, .ref x :: S, w))
  | some .null, 2 => some (.inl (i + 1, L, .null :: S, w))
  | some (.retAddr x), 2 => some (.inl (i + 1, L, .retAddr x :: S, w))
  | _, _ => none
def tb_sto (nL : Nat) (k : Nat) (t : Nat) (i : Nat) (L : tb_L) (S : List Value) (w : tb_Hp) : Option tb_R := match S, t with
  | .int x :: S, 0 => if k < nL then some (.inl (i + 1, tb_s1 L k (.int x), S, w)) else none
  | .long x :: S, 1 => if k + 1 < nL then some (.inl (i + 1, tb_s2 L k (.long x), S, w)) else none
  | .ref x :: S, 2 => if k < nL then some (.inl (i + 1, tb_s1 L k (.ref x), S, w)) else none
  | .null :: S, 2 => if k < nL then some (.inl (i + 1, tb_s1 L k .null, S, w)) else none
  | .retAddr x :: S, 2 => if k < nL then some (.inl (i + 1, tb_s1 L k (.retAddr x), S, w)) else none
  | _, _ => none
def tb_bin (f : Int32 → Int32 → Int32) (i : Nat) (L : tb_L) (S : List Value) (w : tb_Hp) : Option tb_R := match S with
  | .int y :: .int x :: S => some (.inl (i + 1, L, .int (f x y) :: S, w))
  | _ => none
def tb_lbn (f : Int64 → Int64 → Int64) (i : Nat) (L : tb_L) (S : List Value) (w : tb_Hp) : Option tb_R := match S with
  | .long y :: .long x :: S => some (.inl (i + 1, L, .long (f x y) :: S, w))
  | _ => none
def tb_dbn (f : Int32 → Int32 → Int32) (i : Nat) (L : tb_L) (S : List Value) (w : tb_Hp) : Option tb_R := match S with
  | .int y :: .int x :: S => if y = 0 then none else some (.inl (i + 1, L, .int (f x y) :: S, w))
  | _ => none
def tb_ldb (f : Int64 → Int64 → Int64) (i : Nat) (L : tb_L) (S : List Value) (w : tb_Hp) : Option tb_R := match S with
  | .long y :: .long x :: S => if y = 0 then none else some (.inl (i + 1, L, .long (f x y) :: S, w))
  | _ => none
def tb_una (f : Int32 → Int32) (i : Nat) (L : tb_L) (S : List Value) (w : tb_Hp) : Option tb_R := match S with
  | .int x :: S => some (.inl (i + 1, L, .int (f x) :: S, w))
  | _ => none
def tb_cnd (c : ClassFile.Cond) (x y : Int32) : Bool := match c with
  | .eq => decide (x = y)
  | .ne => decide (¬ x = y)
  | .lt => decide (x < y)
  | .ge => decide (y ≤ x)
  | .gt => decide (y < x)
  | .le => decide (x ≤ y)
def tb_jmp (b : Bool) (t i : Nat) (L : tb_L) (S : List Value) (w : tb_Hp) : Option tb_R := some (.inl (cond b t (i + 1), L, S, w))
def tb_in (j : Int32) (n : Nat) : Bool := !(decide (j < 0)) && decide (j.toNatClampNeg < n)
def tb_alo (cs : List Nat) (t : Nat) (i : Nat) (L : tb_L) (S : List Value) (w : tb_Hp) : Option tb_R := match S with
  | .int j :: .ref p :: S => match w.1[p]? with
    | some (c, n) => if (cs.contains c && tb_in j n) && (c != 9 || p == 0) then some (.inl (i + 1, L, tb_val t w p j.toNatClampNeg :: S, w)) else none
    | none => none
  | _ => none
def tb_ast (i : Nat) (L : tb_L) (S : List Value) (w : tb_Hp) (kd : Nat) : Option tb_R := match S with
  | .int x :: .int j :: .ref p :: S => match w.1[p]? with
    | some (c, n) => if tb_in j n then (match kd, c with
        | 1, 1 => some (.inl (i + 1, L, S, tb_setI w p j.toNatClampNeg x))
        | 0, 0 => some (.inl (i + 1, L, S, tb_setI w p j.toNatClampNeg x.toInt8.toInt32))
        | 0, 3 => some (.inl (i + 1, L, S, tb_setI w p j.toNatClampNeg (x &&& 1)))
        | _, _ => none) else none
    | none => none
  | .long x :: .int j :: .ref p :: S => match w.1[p]? with
    | some (c, n) => if tb_in j n then (match kd, c with
        | 2, 2 => some (.inl (i + 1, L, S, tb_setJ w p j.toNatClampNeg x))
        | _, _ => none) else none
    | none => none
  | _ => none
/-- a reference into an array of references: the value's kind is the array's component kind -/
def tb_aas (cmp : Nat → Nat) (i : Nat) (L : tb_L) (S : List Value) (w : tb_Hp) : Option tb_R := match S with
  | .ref v :: .int j :: .ref p :: S => match w.1[p]? with
    | some (c, n) => if (decide (4 ≤ c) && decide (c < 7)) && tb_in j n && (tb_kd w v == some (cmp c)) then some (.inl (i + 1, L, S, tb_setR w p j.toNatClampNeg (some v))) else none
    | none => none
  | _ => none
def tb_aln (i : Nat) (L : tb_L) (S : List Value) (w : tb_Hp) : Option tb_R := match S with
  | .ref p :: S => match w.1[p]? with
    | some (c, n) => if (decide (c < 7) || c == 9) && (c != 9 || p == 0) then some (.inl (i + 1, L, .int (Int32.ofNat n) :: S, w)) else none
    | none => none
  | _ => none
def tb_gtf (res : List Nat) (i : Nat) (L : tb_L) (S : List Value) (w : tb_Hp) : Option tb_R := match res, S with
  | [c, k, t], .ref p :: S => if tb_kd w p == some c then some (.inl (i + 1, L, tb_val t w p k :: S, w)) else none
  | _, _ => none
def tb_ptf (res : List Nat) (i : Nat) (L : tb_L) (S : List Value) (w : tb_Hp) : Option tb_R := match res, S with
  | [c, k, 0], .int x :: .ref p :: S => if tb_kd w p == some c then some (.inl (i + 1, L, S, tb_setI w p k x)) else none
  | [c, k, 1], .long x :: .ref p :: S => if tb_kd w p == some c then some (.inl (i + 1, L, S, tb_setJ w p k x)) else none
  | [c, k, 2], .ref x :: .ref p :: S => if tb_kd w p == some c then some (.inl (i + 1, L, S, tb_setR w p k (some x))) else none
  | _, _ => none
def tb_nwo (res : List Nat) (i : Nat) (L : tb_L) (S : List Value) (w : tb_Hp) : Option tb_R := match res with
  | [c, n] => some (.inl (i + 1, L, .ref w.1.length :: S, tb_new w c n))
  | _ => none
def tb_nwa (res : List Nat) (i : Nat) (L : tb_L) (S : List Value) (w : tb_Hp) : Option tb_R := match res, S with
  | [c], .int n :: S => if !(decide (n < 0)) && decide (n.toNatClampNeg ≤ 100000) then some (.inl (i + 1, L, .ref w.1.length :: S, tb_new w c n.toNatClampNeg)) else none
  | _, _ => none
def tb_few (S : List Value) : Bool := decide ((S.map fun v => v.category).sum ≤ 8)
/-- a call with a receiver of kind c (0: any) -/
def tb_ivk (res : List Nat) (i : Nat) (L : tb_L) (S : List Value) (w : tb_Hp) : Option tb_R := match res with
  | [y, n, c] => match S.drop n with
    | .ref p :: S' => if (decide (n ≤ S.length) && tb_few S') && (tb_kd w p == some c) then some (.inr (.inl (y, .ref p :: (S.take n).reverse, (i + 1, L, S', w)))) else none
    | _ => none
  | _ => none
def tb_ivs (res : List Nat) (i : Nat) (L : tb_L) (S : List Value) (w : tb_Hp) : Option tb_R := match res with
  | [y, n] => if decide (n ≤ S.length) && tb_few (S.drop n) then some (.inr (.inl (y, (S.take n).reverse, (i + 1, L, S.drop n, w)))) else none
  | _ => none
def tb_obi (i : Nat) (L : tb_L) (S : List Value) (w : tb_Hp) : Option tb_R := match S with
  | .ref _ :: S' => if tb_few S' then some (.inl (i + 1, L, S', w)) else none
  | _ => none
/-- System.arraycopy of ints -/
def tb_cpy (i : Nat) (L : tb_L) (S : List Value) (w : tb_Hp) : Option tb_R := match S with
  | .int n :: .int dp :: .ref pd :: .int sp :: .ref ps :: S' => match w.1[ps]?, w.1[pd]? with
    | some (1, n0), some (1, n1) => if ((!(decide (sp < 0)) && !(decide (dp < 0))) && !(decide (n < 0))) && ((decide (sp.toNatClampNeg + n.toNatClampNeg ≤ n0) && decide (dp.toNatClampNeg + n.toNatClampNeg ≤ n1)) && tb_few S') then some (.inl (i + 1, L, S', tb_setA w pd (va_cpy (w.2.1 ps) (w.2.1 pd) sp.toNatClampNeg dp.toNatClampNeg n.toNatClampNeg))) else none
    | _, _ => none
  | _ => none
/-- String.length, String.charAt of the texts tx -/
def tb_txl (tx : Nat → List Int32) (i : Nat) (L : tb_L) (S : List Value) (w : tb_Hp) : Option tb_R := match S with
  | .retAddr k :: S' => if !(tx k).isEmpty && tb_few S' then some (.inl (i + 1, L, .int (Int32.ofNat (tx k).length) :: S', w)) else none
  | _ => none
def tb_txc (tx : Nat → List Int32) (i : Nat) (L : tb_L) (S : List Value) (w : tb_Hp) : Option tb_R := match S with
  | .int j :: .retAddr k :: S' => if tb_in j (tx k).length && tb_few S' then some (.inl (i + 1, L, .int ((tx k).getD j.toNatClampNeg 0) :: S', w)) else none
  | _ => none
def tb_ret (res : List Nat) (t : Nat) (S : List Value) (w : tb_Hp) : Option tb_R := match S, t, res with
  | [], 9, _ => some (.inr (.inr (none, w)))
  | [.int x], 0, [] => some (.inr (.inr (some (.int x), w)))
  | [.int x], 0, [1] => if x = 0 ∨ x = 1 then some (.inr (.inr (some (.int x), w))) else none
  | [.long x], 1, _ => some (.inr (.inr (some (.long x), w)))
  | [.ref x], 2, _ => some (.inr (.inr (some (.ref x), w)))
  | [.null], 2, _ => some (.inr (.inr (some .null, w)))
  | [.retAddr x], 2, _ => some (.inr (.inr (some (.retAddr x), w)))
  | _, _, _ => none
def tb_lks : List (Int × Int) → List Nat → Nat → Int → Nat
  | (m, _) :: ps, t :: ts, d, x => if m = x then t else tb_lks ps ts d x
  | _, _, d, _ => d
def tb_tsw (lo hi : Int) (ts : List Nat) (d : Nat) (x : Int) : Nat := if x < lo ∨ hi < x then d else ts.getD (x - lo).toNat d
/-- one instruction -/
def tb_step (cmp : Nat → Nat) (tx : Nat → List Int32) (nL : Nat) (ins : Instr) (res : List Nat) (val : Value) (i : Nat) (L : tb_L) (S : List Value) (w : tb_Hp) : Option tb_R := match ins with
  | .nop => some (.inl (i + 1, tb_pick L res, S, w))
  | .iconst _ => tb_psh val i L S w
  | .bipush _ => tb_psh val i L S w
  | .sipush _ => tb_psh val i L S w
  | .lconst _ => tb_psh val i L S w
  | .ldc _ => tb_psh val i L S w
  | .ldc_w _ => tb_psh val i L S w
  | .ldc2_w _ => tb_psh val i L S w
  | .aconst_null => tb_psh .null i L S w
  | .iload_n k => tb_lod k.val 0 i L S w
  | .iload k => tb_lod k 0 i L S w
  | .lload_n k => tb_lod k.val 1 i L S w
  | .lload k => tb_lod k 1 i L S w
  | .aload_n k => tb_lod k.val 2 i L S w
  | .aload k => tb_lod k 2 i L S w
  | .istore_n k => tb_sto nL k.val 0 i L S w
  | .istore k => tb_sto nL k 0 i L S w
  | .lstore_n k => tb_sto nL k.val 1 i L S w
  | .lstore k => tb_sto nL k 1 i L S w
  | .astore_n k => tb_sto nL k.val 2 i L S w
  | .astore k => tb_sto nL k 2 i L S w
  | .iinc k _ => (match tb_ld L k, val with
    | some (.int x), .int n => if k < nL then some (.inl (i + 1, tb_s1 L k (.int (x + n)), S, w)) else none
    | _, _ => none)
  | .iadd => tb_bin (fun x y => x + y) i L S w
  | .isub => tb_bin (fun x y => x - y) i L S w
  | .imul => tb_bin (fun x y => x * y) i L S w
  | .iand => tb_bin (fun x y => x &&& y) i L S w
  | .ior => tb_bin (fun x y => x ||| y) i L S w
  | .ixor => tb_bin (fun x y => x ^^^ y) i L S w
  | .ishl => tb_bin (fun x y => x <<< (y &&& 31)) i L S w
  | .ishr => tb_bin (fun x y => x >>> (y &&& 31)) i L S w
  | .iushr => tb_bin (fun x y => (x.toUInt32 >>> (y.toUInt32 &&& Int32.toUInt32 31)).toInt32) i L S w
  | .idiv => tb_dbn (fun x y => x / y) i L S w
  | .irem => tb_dbn (fun x y => x - x / y * y) i L S w
  | .ineg => tb_una (fun x => -x) i L S w
  | .i2b => tb_una (fun x => x.toInt8.toInt32) i L S w
  | .ladd => tb_lbn (fun x y => x + y) i L S w
  | .lsub => tb_lbn (fun x y => x - y) i L S w
  | .lmul => tb_lbn (fun x y => x * y) i L S w
  | .land => tb_lbn (fun x y => x &&& y) i L S w
  | .lor => tb_lbn (fun x y => x ||| y) i L S w
  | .ldiv => tb_ldb (fun x y => x / y) i L S w
  | .lrem => tb_ldb (fun x y => x - x / y * y) i L S w
  | .lshl => (match S with
    | .int y :: .long x :: S => some (.inl (i + 1, L, .long (x <<< (y.toInt64 &&& 63)) :: S, w))
    | _ => none)
  | .lcmp => (match S with
    | .long y :: .long x :: S => some (.inl (i + 1, L, .int (lg_cmp x y) :: S, w))
    | _ => none)
  | .i2l => (match S with
    | .int x :: S => some (.inl (i + 1, L, .long x.toInt64 :: S, w))
    | _ => none)
  | .l2i => (match S with
    | .long x :: S => some (.inl (i + 1, L, .int x.toInt32 :: S, w))
    | _ => none)
  | .dup => (match S with
    | .int x :: S => some (.inl (i + 1, L, .int x :: .int x :: S, w))
    | .ref x :: S => some (.inl (i + 1, L, .ref x :: .ref x :: S, w))
    | _ => none)
  | .pop => (match S with
    | .int _ :: S => some (.inl (i + 1, L, S, w))
    | _ => none)
  | .dup2 => (match S with
    | .int x :: .ref y :: S => some (.inl (i + 1, L, .int x :: .ref y :: .int x :: .ref y :: S, w))
    | _ => none)
  | .goto _ => (match res with
    | [t] => some (.inl (t, L, S, w))
    | _ => none)
  | .ifCond c _ => (match res, S with
    | [t], .int x :: S => tb_jmp (tb_cnd c x 0) t i L S w
    | _, _ => none)
  | .if_icmp c _ => (match res, S with
    | [t], .int y :: .int x :: S => tb_jmp (tb_cnd c x y) t i L S w
    | _, _ => none)
  | .ifnull _ => (match res, S with
    | [t], .null :: S => some (.inl (t, L, S, w))
    | [_], .ref _ :: S => some (.inl (i + 1, L, S, w))
    | _, _ => none)
  | .ifnonnull _ => (match res, S with
    | [t], .ref _ :: S => some (.inl (t, L, S, w))
    | [_], .null :: S => some (.inl (i + 1, L, S, w))
    | _, _ => none)
  | .tableswitch _ lo hi _ => (match res, S with
    | d :: ts, .int x :: S => some (.inl (tb_tsw lo hi ts d x.toInt, L, S, w))
    | _, _ => none)
  | .lookupswitch _ ps => (match res, S with
    | d :: ts, .int x :: S => some (.inl (tb_lks ps.toList ts d x.toInt, L, S, w))
    | _, _ => none)
  | .getfield _ => tb_gtf res i L S w
  | .putfield _ => tb_ptf res i L S w
  | .iaload => tb_alo [1, 9] 0 i L S w
  | .baload => tb_alo [0, 3] 0 i L S w
  | .laload => tb_alo [2] 1 i L S w
  | .aaload => tb_alo [4, 5, 6] 2 i L S w
  | .iastore => tb_ast i L S w 1
  | .bastore => tb_ast i L S w 0
  | .lastore => tb_ast i L S w 2
  | .aastore => tb_aas cmp i L S w
  | .arraylength => tb_aln i L S w
  | .new _ => tb_nwo res i L S w
  | .newarray _ => tb_nwa res i L S w
  | .anewarray _ => tb_nwa res i L S w
  | .invokevirtual _ => if res = [901] then tb_txl tx i L S w else if res = [902] then tb_txc tx i L S w else tb_ivk res i L S w
  | .invokespecial _ => if res = [900] then tb_obi i L S w else tb_ivk res i L S w
  | .invokestatic _ => if res = [903] then tb_cpy i L S w else tb_ivs res i L S w
  | .ireturn => tb_ret res 0 S w
  | .lreturn => tb_ret res 1 S w
  | .areturn => tb_ret res 2 S w
  | .return_ => tb_ret res 9 S w
  | _ => none
/-- the locals at a method's entry -/
def tb_ent (args : List Value) : tb_L := lv_args 0 args
/-- a program: code by method; locals by method -/
abbrev tb_Pg : Type := (Nat → List tb_I) × (Nat → Nat) × (Nat → Nat) × (Nat → List Int32)
/-- n steps at most, calls d deep at most -/
def tb_ex (P : tb_Pg) : Nat → Nat → Nat → tb_S → Option (Option Value × tb_Hp)
  | 0, _, _, _ => none
  | n + 1, d, y, s => match (P.1 y)[s.1]? with
    | none => none
    | some q => match tb_step P.2.2.1 P.2.2.2 (P.2.1 y) q.2.1 q.2.2.2.1 q.2.2.2.2.1 s.1 s.2.1 s.2.2.1 s.2.2.2 with
      | none => none
      | some (.inl s') => tb_ex P n d y s'
      | some (.inr (.inl (y', args, s'))) => (match d with
        | 0 => none
        | d' + 1 => if (args.map fun v => v.category).sum ≤ P.2.1 y' then (match tb_ex P n d' y' (0, tb_ent args, [], s'.2.2.2) with
          | none => none
          | some (v, w') => tb_ex P n (d' + 1) y (s'.1, s'.2.1, v.toList ++ s'.2.2.1, w')) else none)
      | some (.inr (.inr (v, w'))) => some (v, w')
