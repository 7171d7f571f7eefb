/-! ===== What is checked of each instruction by program ===== -/
def tb_atp (cd : List tb_I) (i pc : Nat) : Bool := match cd[i]? with
  | some q => decide (q.1 = pc)
  | none => false
def tb_atj (cd : List tb_I) (t pc : Nat) (off : Int) : Bool := match cd[t]? with
  | some q => decide ((pc : Int) + off = (q.1 : Int))
  | none => false
theorem tb_atp_ok {cd : List tb_I} {i pc : Nat} (h : tb_atp cd i pc = true) : ∃ q, cd[i]? = some q ∧ q.1 = pc := by
  unfold tb_atp at h
  split at h
  · rename_i q hq
    exact ⟨q, hq, of_decide_eq_true h⟩
  · cases h
theorem tb_atj_ok {cd : List tb_I} {t pc : Nat} {off : Int} (h : tb_atj cd t pc off = true) : ∃ q, cd[t]? = some q ∧ (pc : Int) + off = (q.1 : Int) := by
  unfold tb_atj at h
  split at h
  · rename_i q hq
    exact ⟨q, hq, of_decide_eq_true h⟩
  · cases h
/-- a word of the tables, by its place -/
def tb_wd (k : Nat) (w : Cond) : Bool := decide (lw_tbl[k]? = some w) && goodWord w
theorem tb_wd_ok {k : Nat} {w : Cond} (h : tb_wd k w = true) : w ∈ tb_Tw := by
  unfold tb_wd at h
  rw [Bool.and_eq_true, decide_eq_true_eq] at h
  exact tb_inTw ⟨List.mem_of_getElem? h.1, h.2⟩
/-- the texts: class, place in its pool, text; their bytes -/
abbrev tb_Sc : Type := List (String × Nat × String)
def tb_ok1 (cd : List tb_I) (i pc len : Nat) : Bool := decide (len = 1) && tb_atp cd (i + 1) (pc + 1)
def tb_ok2 (cd : List tb_I) (i pc len : Nat) : Bool := decide (len = 2) && tb_atp cd (i + 1) (pc + 2)
def tb_ok3 (cd : List tb_I) (i pc len : Nat) : Bool := decide (len = 3) && tb_atp cd (i + 1) (pc + 3)
def tb_okF (own : String) (x : Nat) (res ps : List Nat) (put : Bool) (nm : String) : Bool := match res, ps with
  | [k, f, t], [j] => decide (10 ≤ k) && (match tb_cl[k - 10]? with
    | some r => decide (f < r.2.2) && tb_wd j (.fieldLink own x r.1 (r.2.1 f).2.1 (r.2.1 f).2.2.1) && decide (t = tb_sk (tb_tyk (k - 10) f)) && (!put || ((t != 0 || decide (tb_tyk (k - 10) f = .int)) && (!(r.2.1 f).2.2.2 || (decide (nm = "<init>") && decide (r.1 = own)))))
    | none => false)
  | _, _ => false
def tb_fty (t : FieldType) : Bool := match t with
  | .int => true
  | .long => true
  | .object _ => true
  | .array _ => true
  | _ => false
def tb_okN (own : String) (x : Nat) (res ps : List Nat) : Bool := match res, ps with
  | [k, n], [j1, j2, j3] => decide (10 ≤ k) && (match tb_cl[k - 10]? with
    | some r => decide (r.2.2 = n) && tb_wd j1 (.classLink own x r.1) && tb_wd j2 (.instantiable r.1 n) && tb_wd j3 (.initialized r.1) && (List.range n).all (fun f => tb_fty (tb_tyk (k - 10) f))
    | none => false)
  | _, _ => false
def tb_okA (t : ArrayType) (res ps : List Nat) : Bool := match res, ps with
  | [k], [j] => decide (k < 4) && decide (tb_aty[k]? = some (newarray.typeOf t)) && tb_wd j (.arrayClass (newarray.typeOf t))
  | _, _ => false
def tb_okR (own : String) (x : Nat) (res ps : List Nat) : Bool := match res, ps with
  | [k], [j] => (match tb_aty[k]? with
    | some (.object C) => decide (4 ≤ k) && decide (k < 7) && tb_wd j (.classLink own x C)
    | some (.array t) => decide (4 ≤ k) && decide (k < 7) && tb_wd j (.classLink own x (FieldType.array t).toString)
    | _ => false)
  | _, _ => false
def tb_dsc (d : String) (n : Nat) : Bool := decide ((parseMethodDescriptor d).map (fun d => d.parameters.length) = some n)
/-- the methods that are called by their nest -/
def tb_nst (mi : tb_Mi) : List (String × Nat × Nat) → List Cond := fun l => l.map (fun q => .methodLinkNest q.1 q.2.1 (mi q.2.2).1 "TannerBunting")
def tb_okV (mi : tb_Mi) (own : String) (x : Nat) (res ps : List Nat) : Bool := match res, ps with
  | [y, n, k], [j1, j2, j3, j4] => decide (10 ≤ k) && (match tb_cl[k - 10]? with
    | some r => decide ((mi y).1.cls ≠ "TannerBuntingLaw") && decide ((mi y).1.cls = r.1) && tb_dsc (mi y).1.desc n && tb_wd j1 (.methodLink own x (mi y).1) && tb_wd j2 (.instanceMethod (mi y).1) && tb_wd j3 (.selects r.1 (mi y).1 (mi y).1) && tb_wd j4 (.initialized r.1)
    | none => false)
  | _, _ => false
def tb_okO (own : String) (x : Nat) (ps : List Nat) : Bool := match ps with
  | [j1, j2, j3] => tb_wd j1 (.methodLink own x Lib.objectInit) && tb_wd j2 (.instanceMethod Lib.objectInit) && tb_wd j3 (.code Lib.objectInit ⟨#[0xb1]⟩ 1 none)
  | _ => false
def tb_okCp (own : String) (x : Nat) (ps : List Nat) : Bool := match ps with
  | [j1, j2, j3, j4] => tb_wd j1 (.methodLink own x arraycopyName) && tb_wd j2 (.native arraycopyName) && tb_wd j3 (.static arraycopyName) && tb_wd j4 (.initialized "java/lang/System")
  | _ => false
def tb_okP (mi : tb_Mi) (own : String) (x : Nat) (res ps : List Nat) : Bool := match res, ps with
  | [y, n, k], [j1, j2, j3] => decide (10 ≤ k) && (match tb_cl[k - 10]? with
    | some r => decide ((mi y).1.cls ≠ "TannerBuntingLaw") && decide ((mi y).1.cls = r.1) && decide ((mi y).1.name = "<init>") && decide ((mi y).2.2.2 = none) && tb_dsc (mi y).1.desc n && tb_wd j1 (.methodLink own x (mi y).1) && tb_wd j2 (.instanceMethod (mi y).1) && tb_wd j3 (.initialized (mi y).1.cls)
    | none => false)
  | _, _ => false
def tb_okS (mi : tb_Mi) (ns : List (String × Nat × Nat)) (own : String) (x : Nat) (res ps : List Nat) : Bool := match res, ps with
  | [y, n], [j1, j2, j3] => decide ((mi y).1.cls ≠ "TannerBuntingLaw") && tb_dsc (mi y).1.desc n && tb_wd j1 (.methodLink own x (mi y).1) && tb_wd j2 (.static (mi y).1) && tb_wd j3 (.initialized (mi y).1.cls)
  | [y, n], [j2, j3] => decide ((mi y).1.cls ≠ "TannerBuntingLaw") && tb_dsc (mi y).1.desc n && decide ((own, x, y) ∈ ns) && tb_wd j2 (.static (mi y).1) && tb_wd j3 (.initialized (mi y).1.cls)
  | _, _ => false
def tb_strLen : MethodName := ⟨"java/lang/String", "length", "()I"⟩
def tb_strChar : MethodName := ⟨"java/lang/String", "charAt", "(I)C"⟩
def tb_okT (own : String) (x : Nat) (ps : List Nat) (t : MethodName) : Bool := match ps with
  | [j1] => tb_wd j1 (.methodLink own x t)
  | _ => false
def tb_okRet (t : Option FieldType) (k : Nat) (res : List Nat) : Bool := match k, t, res with
  | 9, none, _ => true
  | 0, some .int, [] => true
  | 0, some .boolean, [1] => true
  | 1, some .long, _ => true
  | 2, some (.object _), _ => true
  | 2, some (.array _), _ => true
  | _, _, _ => false
def tb_okT1 (cd : List tb_I) (res : List Nat) (pc : Nat) (off : Int) : Bool := match res with
  | [t] => tb_atj cd t pc off
  | _ => false
theorem tb_okT1_ok {cd : List tb_I} {res : List Nat} {pc : Nat} {off : Int} (h : tb_okT1 cd res pc off = true) : ∃ t q, res = [t] ∧ cd[t]? = some q ∧ (pc : Int) + off = (q.1 : Int) := by
  unfold tb_okT1 at h
  split at h
  · rename_i t
    obtain ⟨q, h1, h2⟩ := tb_atj_ok h
    exact ⟨t, q, rfl, h1, h2⟩
  · cases h
def tb_okC1 (sc : tb_Sc) (own : String) (x : Nat) (val : Value) (ps : List Nat) : Bool := match val, ps with
  | .int v, [j] => tb_wd j (.constant own x v)
  | .retAddr k, [] => (match sc[k]? with
    | some q => decide (q.1 = own) && decide (q.2.1 = x)
    | none => false)
  | _, _ => false
def tb_okC2 (own : String) (x : Nat) (val : Value) (ps : List Nat) : Bool := match val, ps with
  | .long v, [j] => tb_wd j (.constantLong own x v)
  | _, _ => false
def tb_okSw (cd : List tb_I) (pc : Nat) (res : List Nat) (d : Int) (offs : List Int) : Bool := match res with
  | t :: ts => tb_atj cd t pc d && decide (ts.length = offs.length) && (ts.zip offs).all (fun q => tb_atj cd q.1 pc q.2)
  | _ => false
def tb_okJ (mi : tb_Mi) (sc : tb_Sc) (ns : List (String × Nat × Nat)) (cd : List tb_I) (y i pc : Nat) (ins : Instr) (len : Nat) (res : List Nat) (val : Value) (ps : List Nat) : Bool := match ins with
  | .iconst n => tb_ok1 cd i pc len && decide (val = .int (Int32.ofInt n))
  | .bipush n => tb_ok2 cd i pc len && decide (val = .int (Int8.ofInt n).toInt32)
  | .sipush n => tb_ok3 cd i pc len && decide (val = .int (Int16.ofInt n).toInt32)
  | .lconst n => tb_ok1 cd i pc len && decide (val = .long (Int64.ofNat (n : Nat)))
  | .ldc x => tb_ok2 cd i pc len && tb_okC1 sc (mi y).1.cls x val ps
  | .ldc_w x => tb_ok3 cd i pc len && tb_okC1 [] (mi y).1.cls x val ps
  | .ldc2_w x => tb_ok3 cd i pc len && tb_okC2 (mi y).1.cls x val ps
  | .aconst_null => tb_ok1 cd i pc len
  | .iload_n _ => tb_ok1 cd i pc len
  | .lload_n _ => tb_ok1 cd i pc len
  | .aload_n _ => tb_ok1 cd i pc len
  | .istore_n _ => tb_ok1 cd i pc len
  | .lstore_n _ => tb_ok1 cd i pc len
  | .astore_n _ => tb_ok1 cd i pc len
  | .iload _ => tb_ok2 cd i pc len
  | .lload _ => tb_ok2 cd i pc len
  | .aload _ => tb_ok2 cd i pc len
  | .istore _ => tb_ok2 cd i pc len
  | .lstore _ => tb_ok2 cd i pc len
  | .astore _ => tb_ok2 cd i pc len
  | .iinc _ n => tb_ok3 cd i pc len && decide (val = .int (Int32.ofInt n))
  | .goto off => decide (len = 3) && tb_okT1 cd res pc off
  | .ifCond _ off => tb_ok3 cd i pc len && tb_okT1 cd res pc off
  | .if_icmp _ off => tb_ok3 cd i pc len && tb_okT1 cd res pc off
  | .ifnull off => tb_ok3 cd i pc len && tb_okT1 cd res pc off
  | .ifnonnull off => tb_ok3 cd i pc len && tb_okT1 cd res pc off
  | .tableswitch d lo hi offs => tb_okSw cd pc res d offs.toList && decide (hi - lo + 1 = (offs.toList.length : Int))
  | .lookupswitch d prs => tb_okSw cd pc res d (prs.toList.map Prod.snd) && (prs.toList.zip (prs.toList.drop 1)).all (fun (a, next) => a.1 < next.1)
  | .getfield x => tb_ok3 cd i pc len && tb_okF (mi y).1.cls x res ps false (mi y).1.name
  | .putfield x => tb_ok3 cd i pc len && tb_okF (mi y).1.cls x res ps true (mi y).1.name
  | .new x => tb_ok3 cd i pc len && tb_okN (mi y).1.cls x res ps
  | .newarray t => tb_ok2 cd i pc len && tb_okA t res ps
  | .anewarray x => tb_ok3 cd i pc len && tb_okR (mi y).1.cls x res ps
  | .invokevirtual x => tb_ok3 cd i pc len && (if res = [901] then tb_okT (mi y).1.cls x ps tb_strLen else if res = [902] then tb_okT (mi y).1.cls x ps tb_strChar else tb_okV mi (mi y).1.cls x res ps)
  | .invokespecial x => tb_ok3 cd i pc len && (if res = [900] then tb_okO (mi y).1.cls x ps else tb_okP mi (mi y).1.cls x res ps)
  | .invokestatic x => tb_ok3 cd i pc len && (if res = [903] then tb_okCp (mi y).1.cls x ps else tb_okS mi ns (mi y).1.cls x res ps)
  | .ireturn => decide (len = 1) && tb_okRet (mi y).2.2.2 0 res
  | .lreturn => decide (len = 1) && tb_okRet (mi y).2.2.2 1 res
  | .areturn => decide (len = 1) && tb_okRet (mi y).2.2.2 2 res
  | .return_ => decide (len = 1) && tb_okRet (mi y).2.2.2 9 res
  | _ => tb_ok1 cd i pc len
def tb_okI (mi : tb_Mi) (sc : tb_Sc) (ns : List (String × Nat × Nat)) (cd : List tb_I) (y i : Nat) (q : tb_I) : Bool := match q.2.1 with
  | .nop => tb_atp cd (i + 1) q.1
  | .athrow => true
  | ins => decide (decode (mi y).2.1 q.1 = .ok (ins, q.2.2.1)) && tb_okJ mi sc ns cd y i q.1 ins q.2.2.1 q.2.2.2.1 q.2.2.2.2.1 q.2.2.2.2.2
def tb_okL (mi : tb_Mi) (sc : tb_Sc) (ns : List (String × Nat × Nat)) (cd : List tb_I) (y : Nat) : Nat → List tb_I → Bool
  | _, [] => true
  | i, q :: l => tb_okI mi sc ns cd y i q && tb_okL mi sc ns cd y (i + 1) l
theorem tb_okL_at {mi : tb_Mi} {sc : tb_Sc} {ns : List (String × Nat × Nat)} {cd : List tb_I} {y : Nat} : ∀ (l : List tb_I) (i : Nat), tb_okL mi sc ns cd y i l = true → ∀ (j : Nat) (q : tb_I), l[j]? = some q → tb_okI mi sc ns cd y (i + j) q = true := by
  intro l
  induction l with
  | nil => intro i _ j q h; simp at h
  | cons a l ih =>
    intro i h j q hj
    unfold tb_okL at h
    rw [Bool.and_eq_true] at h
    cases j with
    | zero =>
      simp at hj
      subst hj
      exact h.1
    | succ j =>
      have := ih (i + 1) h.2 j q (by simpa using hj)
      rw [show i + 1 + j = i + (j + 1) by omega] at this
      exact this
