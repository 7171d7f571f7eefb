/-! ===== The texts: String.length and String.charAt of a literal ===== -/
def tb_St (N : Nat) (len : List Nat) (byt : List (List Int32)) (adK adV : Nat → Nat) (base : Nat) (U : State) : Prop :=
  vk_S N len byt adK adV (tb_A base) U U.heap ∧ va_Z "java/lang/String" "COMPACT_STRINGS" "Z" (.int 1) (tb_A base) U U.heap ∧ va_Zq "jdk/internal/util/Preconditions" "SIOOBE_FORMATTER" "Ljava/util/function/BiFunction;" (tb_A base) U U.heap
def tb_SP (N : Nat) (len : List Nat) (byt : List (List Int32)) (adK adV : Nat → Nat) (base : Nat) (as : List Value) : Array Value → State → Prop := fun a U => a = as.toArray ∧ tb_St N len byt adK adV base U
def tb_SQ (rv : Option Value) : Array Value → State → Outcome → State → Prop := fun _ st o t => o = .returned rv ∧ t.heap = st.heap
section TBT
variable {l : Launch} {N : Nat} {len : List Nat} {byt : List (List Int32)} {adK adV : Nat → Nat} {base : Nat}
theorem tb_St.to {U V : State} (hvm : U.vm.Alike V.vm) (hz : ∀ a : Nat, a < U.heap.size → ¬ tb_A base a → V.heap[a]? = U.heap[a]?) (h : tb_St N len byt adK adV base U) : tb_St N len byt adK adV base V :=
  ⟨(h.1.kept hz).moved hvm, (h.2.1.kept hz).moved hvm, (h.2.2.kept hz).moved hvm⟩
def tb_srm (n : Nat) : Room := { frames := n, cells := 0, slots := 0, locals := 60 * n }
variable {p : Program} {e : Env} {R : Room} {s : State} {m : MethodId} {args : Array Value} {below : List Frame} {meth : Method} {c : Code} {H : Heap} {locs : List Loc} {cells slots : Nat} {Q : State → Prop}
theorem tb_q_run {rv : Option Value} {rest st0 : List Value} {aa : Array Value} {pc : Nat} {ls : Array Slot} (run : va_Run p l e R s m args below meth c H locs cells slots 0 0 (F0 m pc ls st0) rest (tb_SQ rv aa) (fun _ => False)) (k : W p l e R s m args below meth c H locs cells slots Q (F0 m (pc + 3) ls (rv.toList ++ rest))) : W p l e R s m args below meth c H locs cells slots Q (F0 m pc ls st0) := by
  intro T hT X
  obtain ⟨v, st₀, t, T', L, h0, X', hL, e1, e2, ⟨hv, hh⟩, st⟩ := run T hT X
  cases hv
  have hLn : L = [] := by
    cases L with
    | nil => rfl
    | cons q L => exact (hL q List.mem_cons_self).elim
  subst hLn
  rw [List.append_nil] at X'
  obtain ⟨t2, a1, b1⟩ := k T' (by rw [e1, hh, h0]) X'
  exact ⟨t2, st t2 a1, b1⟩
theorem tb_s_V {cc : ByteArray} {nL : Nat} {own : String} {index n q pc : Nat} {y : MethodName} {bytes : ByteArray} {maxL : Nat} {ret : Option FieldType} {rv : Option Value} {Pc : Array Value → State → Prop} {as rest : List Value} {f : Nat} {ls : Array Slot}
    (S : CallFix p m c cc nL s args tb_Tw own) (hM : Met l y (.code y bytes maxL ret :: tb_Tw) (tb_srm f) Pc (tb_SQ rv) 0 0 (fun _ => False))
    (v0 : Cond.code y bytes maxL ret ∈ tb_Tw) (v1 : Cond.methodLink own index y ∈ tb_Tw) (v2 : Cond.instanceMethod y ∈ tb_Tw) (v3 : Cond.selects y.cls y y ∈ tb_Tw) (v4 : Cond.initialized y.cls ∈ tb_Tw)
    (hd : y.cls ≠ "java/lang/invoke/MethodHandle" ∧ y.cls ≠ "java/lang/invoke/VarHandle" ∧ (parseMethodDescriptor y.desc).map (fun d => d.parameters.length) = some n)
    (hR : f + 1 ≤ R.frames ∧ 8 + (maxL + 11) + 60 * f ≤ R.locals) (hp : PreV s H y.cls q Pc as) (hn : as.length = n) (hsize : ls.size = nL) (hW : (rest.map fun v => v.category).sum ≤ 8) (hdg : decode cc pc = .ok (.invokevirtual index, 3)) (hf : cells ≤ R.cells ∧ slots ≤ R.slots)
    (k : W p l e R s m args below meth c H locs cells slots Q (F0 m (pc + 3) ls (rv.toList ++ rest))) : W p l e R s m args below meth c H locs cells slots Q (F0 m pc ls (as.reverse ++ .ref q :: rest)) :=
  tb_q_run (aa := (Value.ref q :: as).toArray) (va_runV (As := as) (Ts := tb_Tw) (C := y.cls) (n := n) S hM (cwV n S.2.2.2.2 (tb_goodW (fun z hz => by
          unfold wsV at hz
          rcases List.mem_append.mp hz with hz | hz
          · simp only [List.mem_cons, List.not_mem_nil, or_false] at hz
            rcases hz with rfl | rfl | rfl | rfl
            · exact v1
            · exact v2
            · exact v3
            · exact v4
          · rcases List.mem_cons.mp hz with rfl | hz
            · exact v0
            · exact hz)) rfl rfl rfl ⟨rfl, hd⟩ hR) hp rfl hn hsize rfl (by show 2 * 0 + _ ≤ 8; rw [Nat.mul_zero, Nat.zero_add]; exact hW) hdg hf) k
theorem tb_St.pre {i : Nat} (h : tb_St N len byt adK adV base s) (hS : va_S (tb_A base) s.heap H locs) (hE : vk_S N len byt adK adV (tb_A base) s s.heap) (hi : i < N) (as : List Value) : PreV s H "java/lang/String" (adK i) (tb_SP N len byt adK adV base (.ref (adK i) :: as)) as := by
  refine ⟨?_, vk_recv hE hi hS, fun U hU hW => ⟨rfl, h.to hW.alike (fun a h1 h2 => by rw [hU]; exact hS.2.1 a h1 h2)⟩⟩
  intro a U g mk hh
  exact ⟨hh.1, hh.2.to (V := U.calling g mk a) (Vm.Alike.refl U.vm) (fun _ _ _ => rfl)⟩
theorem st_coder {i : Nat} (hi : i < N) (rm : Room) : Met l ⟨"java/lang/String", "coder", "()B"⟩ (.code ⟨"java/lang/String", "coder", "()B"⟩ prog_18_method_152_code 1 (some .byte) :: tb_Tw) rm (tb_SP N len byt adK adV base [.ref (adK i)]) (tb_SQ (some (.int 0))) 0 0 (fun _ => False) := by
  refine tb_ofW (cc := prog_18_method_152_code) (maxL := 1) (ret := (some .byte)) (by decide +kernel) rfl ?_
  intro p e s m args below meth c s₁ B hml hv
  obtain ⟨rfl, hS, hZ, hF⟩ := hv
  have hts : ∀ w ∈ tb_Tw, w.before _ s = true := fun w hw => atoms_spec (ws := _ :: tb_Tw) B.pre w (List.mem_cons_of_mem _ hw)
  have hown : s.vm.findClass "java/lang/String" = some m.cls := findClass_of_methodNamed B.named
  have hx := B.exec
  have hb := B.bytes
  have hl := lv_entry ([.ref (adK i)] : List Value) (n := 1) (show 1 ≤ 1 by decide)
  rw [lg_entry_eq]
  obtain ⟨h1, h2, h3, h4⟩ := hS.1 i hi
  refine va_gets (index := 38) hx hb hZ va_S.rf hown (hts _ (tb_wd_ok (k := 592) (by decide +kernel))) (fun _ h => h) (show decode prog_18_method_152_code 0 = .ok (.getstatic 38, 3) by decide +kernel) ?_
  refine lv_if_eq hx hb (tgt := 13) (show decode prog_18_method_152_code 3 = .ok (.ifCond .eq 10, 3) by decide +kernel) (by decide) (fun h => absurd h (by decide)) (fun _ => ?_)
  refine lv_aload_n hx hb (i := 0) (x := adK i) (show decode prog_18_method_152_code 6 = .ok (.aload_n 0, 1) by decide +kernel) rfl rfl ?_
  refine vk_getf (index := 15) hx hb h2 va_S.rf hown (hts _ (tb_wd_ok (k := 1926) (by decide +kernel))) (fun _ h => h) (show decode prog_18_method_152_code 7 = .ok (.getfield 15, 3) by decide +kernel) ?_
  refine lv_goto hx hb (tgt := 14) (show decode prog_18_method_152_code 10 = .ok (.goto 4, 3) by decide +kernel) (by decide) ?_
  exact W.zret hx hb B.returns rfl (fun t ht _ => ⟨rfl, ht⟩) (fun q hq => by cases hq) (show decode prog_18_method_152_code 14 = .ok (.ireturn, 1) by decide +kernel) B.notSynchronized
theorem st_isLatin1 {i : Nat} (hi : i < N) (rm : Room) : Met l ⟨"java/lang/String", "isLatin1", "()Z"⟩ (.code ⟨"java/lang/String", "isLatin1", "()Z"⟩ prog_18_method_154_code 1 (some .boolean) :: tb_Tw) rm (tb_SP N len byt adK adV base [.ref (adK i)]) (tb_SQ (some (.int 1))) 0 0 (fun _ => False) := by
  refine tb_ofW (cc := prog_18_method_154_code) (maxL := 1) (ret := (some .boolean)) (by decide +kernel) rfl ?_
  intro p e s m args below meth c s₁ B hml hv
  obtain ⟨rfl, hS, hZ, hF⟩ := hv
  have hts : ∀ w ∈ tb_Tw, w.before _ s = true := fun w hw => atoms_spec (ws := _ :: tb_Tw) B.pre w (List.mem_cons_of_mem _ hw)
  have hown : s.vm.findClass "java/lang/String" = some m.cls := findClass_of_methodNamed B.named
  have hx := B.exec
  have hb := B.bytes
  have hl := lv_entry ([.ref (adK i)] : List Value) (n := 1) (show 1 ≤ 1 by decide)
  rw [lg_entry_eq]
  obtain ⟨h1, h2, h3, h4⟩ := hS.1 i hi
  refine va_gets (index := 38) hx hb hZ va_S.rf hown (hts _ (tb_wd_ok (k := 592) (by decide +kernel))) (fun _ h => h) (show decode prog_18_method_154_code 0 = .ok (.getstatic 38, 3) by decide +kernel) ?_
  refine lv_if_eq hx hb (tgt := 17) (show decode prog_18_method_154_code 3 = .ok (.ifCond .eq 14, 3) by decide +kernel) (by decide) (fun h => absurd h (by decide)) (fun _ => ?_)
  refine lv_aload_n hx hb (i := 0) (x := adK i) (show decode prog_18_method_154_code 6 = .ok (.aload_n 0, 1) by decide +kernel) rfl rfl ?_
  refine vk_getf (index := 15) hx hb h2 va_S.rf hown (hts _ (tb_wd_ok (k := 1926) (by decide +kernel))) (fun _ h => h) (show decode prog_18_method_154_code 7 = .ok (.getfield 15, 3) by decide +kernel) ?_
  refine lv_if_ne hx hb (tgt := 17) (show decode prog_18_method_154_code 10 = .ok (.ifCond .ne 7, 3) by decide +kernel) (by decide) (fun h => absurd rfl h) (fun _ => ?_)
  refine lv_iconst hx hb (show decode prog_18_method_154_code 13 = .ok (.iconst 1, 1) by decide +kernel) rfl ?_
  refine lv_goto hx hb (tgt := 18) (show decode prog_18_method_154_code 14 = .ok (.goto 4, 3) by decide +kernel) (by decide) ?_
  exact W.zret hx hb B.returns rfl (fun t ht _ => ⟨rfl, ht⟩) (fun q hq => by cases hq) (show decode prog_18_method_154_code 18 = .ok (.ireturn, 1) by decide +kernel) B.notSynchronized
theorem st_length {i : Nat} (hi : i < N) : Met l ⟨"java/lang/String", "length", "()I"⟩ (.code ⟨"java/lang/String", "length", "()I"⟩ prog_18_method_54_code 1 (some .int) :: tb_Tw) (tb_srm 1) (tb_SP N len byt adK adV base [.ref (adK i)]) (tb_SQ (some (.int (Int32.ofNat (len.getD i 0) >>> ((0 : Int32) &&& 31))))) 0 0 (fun _ => False) := by
  refine tb_ofW (cc := prog_18_method_54_code) (maxL := 1) (ret := (some .int)) (by decide +kernel) rfl ?_
  intro p e s m args below meth c s₁ B hml hv
  obtain ⟨rfl, hS, hZ, hF⟩ := hv
  have hts : ∀ w ∈ tb_Tw, w.before _ s = true := fun w hw => atoms_spec (ws := _ :: tb_Tw) B.pre w (List.mem_cons_of_mem _ hw)
  have hown : s.vm.findClass "java/lang/String" = some m.cls := findClass_of_methodNamed B.named
  have hx := B.exec
  have hb := B.bytes
  have hl := lv_entry ([.ref (adK i)] : List Value) (n := 1) (show 1 ≤ 1 by decide)
  rw [lg_entry_eq]
  have hSt : tb_St N len byt adK adV base s := ⟨hS, hZ, hF⟩
  obtain ⟨h1, h2, h3, h4⟩ := hS.1 i hi
  refine lv_aload_n hx hb (i := 0) (x := adK i) (show decode prog_18_method_54_code 0 = .ok (.aload_n 0, 1) by decide +kernel) rfl rfl ?_
  refine vk_getf (index := 9) hx hb h3 va_S.rf hown (hts _ (tb_wd_ok (k := 1925) (by decide +kernel))) (fun _ h => h) (show decode prog_18_method_54_code 1 = .ok (.getfield 9, 3) by decide +kernel) ?_
  refine va_tlen hx hb h4 va_S.rf rfl (show decode prog_18_method_54_code 4 = .ok (.arraylength, 1) by decide +kernel) ?_
  refine lv_aload_n hx hb (i := 0) (x := adK i) (show decode prog_18_method_54_code 5 = .ok (.aload_n 0, 1) by decide +kernel) rfl rfl ?_
  refine tb_s_V (y := ⟨"java/lang/String", "coder", "()B"⟩) (index := 335) (as := []) (n := 0) ⟨hx, hb, hml, hown, hts⟩ (st_coder hi (tb_srm 0)) (tb_wd_ok (k := 591) (by decide +kernel)) (tb_wd_ok (k := 588) (by decide +kernel)) (tb_wd_ok (k := 589) (by decide +kernel)) (tb_wd_ok (k := 590) (by decide +kernel)) (tb_wd_ok (k := 136) (by decide +kernel)) ⟨by decide, by decide, by decide +kernel⟩ ⟨by decide, by decide⟩ (hSt.pre va_S.rf hS hi []) rfl rfl (show 1 ≤ 8 by decide) (show decode prog_18_method_54_code 6 = .ok (.invokevirtual 335, 3) by decide +kernel) ⟨Nat.zero_le _, Nat.zero_le _⟩ ?_
  refine lv_ishr hx hb (show decode prog_18_method_54_code 9 = .ok (.ishr, 1) by decide +kernel) ?_
  exact W.iret hx hb B.returns (fun t ht _ => ⟨rfl, ht⟩) (fun q hq => by cases hq) (show decode prog_18_method_54_code 10 = .ok (.ireturn, 1) by decide +kernel) B.notSynchronized
theorem st_pre {i n : Int32} {v : Value} (h0 : ¬ i < 0) (h1 : i < n) (hc : v.category = 1) (rm : Room) : Met l ⟨"jdk/internal/util/Preconditions", "checkIndex", "(IILjava/util/function/BiFunction;)I"⟩ (.code ⟨"jdk/internal/util/Preconditions", "checkIndex", "(IILjava/util/function/BiFunction;)I"⟩ prog_23_method_11_code 3 (some .int) :: tb_Tw) rm (tb_SP N len byt adK adV base [.int i, .int n, v]) (tb_SQ (some (.int i))) 0 0 (fun _ => False) := by
  refine tb_ofW (cc := prog_23_method_11_code) (maxL := 3) (ret := (some .int)) (by decide +kernel) rfl ?_
  intro p e s m args below meth c s₁ B hml hv
  obtain ⟨rfl, hS, hZ, hF⟩ := hv
  have hts : ∀ w ∈ tb_Tw, w.before _ s = true := fun w hw => atoms_spec (ws := _ :: tb_Tw) B.pre w (List.mem_cons_of_mem _ hw)
  have hown : s.vm.findClass "jdk/internal/util/Preconditions" = some m.cls := findClass_of_methodNamed B.named
  have hx := B.exec
  have hb := B.bytes
  have hl := lv_entry ([.int i, .int n, v] : List Value) (n := 3) (by rw [tb_sl_len]; show 1 + (1 + (v.category + 0)) ≤ 3; rw [hc]; decide)
  rw [lg_entry_eq]
  generalize (lg_sl ([.int i, .int n, v] : List Value) ++ List.replicate (3 - (lg_sl ([.int i, .int n, v] : List Value)).length) Slot.unset).toArray = ls at hl ⊢
  have g0 : ls[0]? = some (.val (.int i)) := hl.2.2 (0, .int i) (by simp [lv_args, Value.category])
  have g1 : ls[1]? = some (.val (.int n)) := hl.2.2 (1, .int n) (by simp [lv_args, Value.category])
  refine lv_iload_n hx hb (show decode prog_23_method_11_code 0 = .ok (.iload_n 0, 1) by decide +kernel) rfl g0 ?_
  refine lv_if_lt hx hb (tgt := 9) (show decode prog_23_method_11_code 1 = .ok (.ifCond .lt 8, 3) by decide +kernel) (by decide) (fun h => absurd h h0) (fun _ => ?_)
  refine lv_iload_n hx hb (show decode prog_23_method_11_code 4 = .ok (.iload_n 0, 1) by decide +kernel) rfl g0 ?_
  refine lv_iload_n hx hb (show decode prog_23_method_11_code 5 = .ok (.iload_n 1, 1) by decide +kernel) rfl g1 ?_
  refine lv_icmp_lt hx hb (tgt := 16) (show decode prog_23_method_11_code 6 = .ok (.if_icmp .lt 10, 3) by decide +kernel) (by decide) (fun _ => ?_) (fun h => absurd h1 h)
  refine lv_iload_n hx hb (show decode prog_23_method_11_code 16 = .ok (.iload_n 0, 1) by decide +kernel) rfl g0 ?_
  exact W.iret hx hb B.returns (fun t ht _ => ⟨rfl, ht⟩) (fun q hq => by cases hq) (show decode prog_23_method_11_code 17 = .ok (.ireturn, 1) by decide +kernel) B.notSynchronized
theorem tb_s_S {cc : ByteArray} {nL : Nat} {own : String} {index n pc : Nat} {y : MethodName} {bytes : ByteArray} {maxL : Nat} {ret : Option FieldType} {rv : Option Value} {Pc : Array Value → State → Prop} {as rest : List Value} {f : Nat} {ls : Array Slot}
    (S : CallFix p m c cc nL s args tb_Tw own) (hM : Met l y (.code y bytes maxL ret :: tb_Tw) (tb_srm f) Pc (tb_SQ rv) 0 0 (fun _ => False))
    (v0 : Cond.code y bytes maxL ret ∈ tb_Tw) (v1 : Cond.methodLink own index y ∈ tb_Tw) (v2 : Cond.static y ∈ tb_Tw) (v4 : Cond.initialized y.cls ∈ tb_Tw)
    (hd : y.cls ≠ "java/lang/invoke/MethodHandle" ∧ y.cls ≠ "java/lang/invoke/VarHandle" ∧ (parseMethodDescriptor y.desc).map (fun d => d.parameters.length) = some n)
    (hR : f + 1 ≤ R.frames ∧ 8 + (maxL + 11) + 60 * f ≤ R.locals) (hp : PreS s H Pc as) (hn : as.length = n) (hsize : ls.size = nL) (hW : (rest.map fun v => v.category).sum ≤ 8) (hdg : decode cc pc = .ok (.invokestatic index, 3)) (hf : cells ≤ R.cells ∧ slots ≤ R.slots)
    (k : W p l e R s m args below meth c H locs cells slots Q (F0 m (pc + 3) ls (rv.toList ++ rest))) : W p l e R s m args below meth c H locs cells slots Q (F0 m pc ls (as.reverse ++ rest)) :=
  tb_q_run (aa := as.toArray) (va_runS (As := as) (Ts := tb_Tw) (n := n) S hM ⟨callB_of n S.2.2.2.2 (tb_goodW (fun z hz => by
          rcases List.mem_cons.mp hz with rfl | hz
          · exact v0
          · exact hz)) rfl rfl rfl (S.2.2.2.2 _ v4) (S.2.2.2.2 _ v1) hd hR, S.2.2.2.2 _ v2⟩ hp rfl hn hsize rfl (by show 2 * 0 + _ ≤ 8; rw [Nat.mul_zero, Nat.zero_add]; exact hW) hdg hf) k
theorem tb_St.preS (h : tb_St N len byt adK adV base s) (hS : va_S (tb_A base) s.heap H locs) (as : List Value) : PreS s H (tb_SP N len byt adK adV base as) as := by
  refine ⟨?_, fun U hU hW => ⟨rfl, h.to hW.alike (fun a h1 h2 => by rw [hU]; exact hS.2.1 a h1 h2)⟩⟩
  intro a U g mk hh
  exact ⟨hh.1, hh.2.to (V := U.calling g mk a) (Vm.Alike.refl U.vm) (fun _ _ _ => rfl)⟩
theorem st_check {i n : Int32} (h0 : ¬ i < 0) (h1 : i < n) : Met l ⟨"java/lang/String", "checkIndex", "(II)V"⟩ (.code ⟨"java/lang/String", "checkIndex", "(II)V"⟩ prog_18_method_155_code 2 none :: tb_Tw) (tb_srm 1) (tb_SP N len byt adK adV base [.int i, .int n]) (tb_SQ none) 0 0 (fun _ => False) := by
  refine tb_ofW (cc := prog_18_method_155_code) (maxL := 2) (ret := none) (by decide +kernel) rfl ?_
  intro p e s m args below meth c s₁ B hml hv
  obtain ⟨rfl, hS, hZ, hF⟩ := hv
  have hts : ∀ w ∈ tb_Tw, w.before _ s = true := fun w hw => atoms_spec (ws := _ :: tb_Tw) B.pre w (List.mem_cons_of_mem _ hw)
  have hown : s.vm.findClass "java/lang/String" = some m.cls := findClass_of_methodNamed B.named
  have hx := B.exec
  have hb := B.bytes
  have hl := lv_entry ([.int i, .int n] : List Value) (n := 2) (show 2 ≤ 2 by decide)
  rw [lg_entry_eq]
  have hSt : tb_St N len byt adK adV base s := ⟨hS, hZ, hF⟩
  generalize (lg_sl ([.int i, .int n] : List Value) ++ List.replicate (2 - (lg_sl ([.int i, .int n] : List Value)).length) Slot.unset).toArray = ls at hl ⊢
  have g0 : ls[0]? = some (.val (.int i)) := lv_at hl 0 rfl
  have g1 : ls[1]? = some (.val (.int n)) := lv_at hl 1 rfl
  refine lv_iload_n hx hb (show decode prog_18_method_155_code 0 = .ok (.iload_n 0, 1) by decide +kernel) rfl g0 ?_
  refine lv_iload_n hx hb (show decode prog_18_method_155_code 1 = .ok (.iload_n 1, 1) by decide +kernel) rfl g1 ?_
  rcases hF with hF | ⟨t, hF⟩
  · refine va_gets (index := 1053) hx hb hF va_S.rf hown (hts _ (tb_wd_ok (k := 608) (by decide +kernel))) (fun _ h => h) (show decode prog_18_method_155_code 2 = .ok (.getstatic 1053, 3) by decide +kernel) ?_
    refine tb_s_S (y := ⟨"jdk/internal/util/Preconditions", "checkIndex", "(IILjava/util/function/BiFunction;)I"⟩) (index := 1059) (as := [.int i, .int n, .null]) (n := 3) ⟨hx, hb, hml, hown, hts⟩ (st_pre h0 h1 rfl (tb_srm 0)) (tb_wd_ok (k := 612) (by decide +kernel)) (tb_wd_ok (k := 610) (by decide +kernel)) (tb_wd_ok (k := 611) (by decide +kernel)) (tb_wd_ok (k := 138) (by decide +kernel)) ⟨by decide, by decide, by decide +kernel⟩ ⟨by decide, by decide⟩ (hSt.preS va_S.rf _) rfl hl.1 (by decide) (show decode prog_18_method_155_code 5 = .ok (.invokestatic 1059, 3) by decide +kernel) ⟨Nat.zero_le _, Nat.zero_le _⟩ ?_
    refine lv_pop hx hb (show decode prog_18_method_155_code 8 = .ok (.pop, 1) by decide +kernel) rfl ?_
    exact W.vret hx hb B.returns (fun t ht _ => ⟨rfl, ht⟩) (fun q hq => by cases hq) (show decode prog_18_method_155_code 9 = .ok (.return_, 1) by decide +kernel) B.notSynchronized
  · refine va_gets (index := 1053) hx hb hF va_S.rf hown (hts _ (tb_wd_ok (k := 608) (by decide +kernel))) (fun _ h => h) (show decode prog_18_method_155_code 2 = .ok (.getstatic 1053, 3) by decide +kernel) ?_
    refine tb_s_S (y := ⟨"jdk/internal/util/Preconditions", "checkIndex", "(IILjava/util/function/BiFunction;)I"⟩) (index := 1059) (as := [.int i, .int n, .ref t]) (n := 3) ⟨hx, hb, hml, hown, hts⟩ (st_pre h0 h1 rfl (tb_srm 0)) (tb_wd_ok (k := 612) (by decide +kernel)) (tb_wd_ok (k := 610) (by decide +kernel)) (tb_wd_ok (k := 611) (by decide +kernel)) (tb_wd_ok (k := 138) (by decide +kernel)) ⟨by decide, by decide, by decide +kernel⟩ ⟨by decide, by decide⟩ (hSt.preS va_S.rf _) rfl hl.1 (by decide) (show decode prog_18_method_155_code 5 = .ok (.invokestatic 1059, 3) by decide +kernel) ⟨Nat.zero_le _, Nat.zero_le _⟩ ?_
    refine lv_pop hx hb (show decode prog_18_method_155_code 8 = .ok (.pop, 1) by decide +kernel) rfl ?_
    exact W.vret hx hb B.returns (fun t ht _ => ⟨rfl, ht⟩) (fun q hq => by cases hq) (show decode prog_18_method_155_code 9 = .ok (.return_, 1) by decide +kernel) B.notSynchronized
theorem st_l1 {i : Nat} (hi : i < N) {k : Int32} (h0 : ¬ k < 0) (h1 : k < Int32.ofNat (len.getD i 0)) (hin : vp_in k (len.getD i 0)) (hn : narrow .char (.int (((((byt.getD i []).getD k.toNatClampNeg 0) &&& 255).toUInt32 % 65536).toInt32)) = .int (((((byt.getD i []).getD k.toNatClampNeg 0) &&& 255).toUInt32 % 65536).toInt32)) : Met l ⟨"java/lang/StringLatin1", "charAt", "([BI)C"⟩ (.code ⟨"java/lang/StringLatin1", "charAt", "([BI)C"⟩ prog_19_method_2_code 2 (some .char) :: tb_Tw) (tb_srm 2) (tb_SP N len byt adK adV base [.ref (adV i), .int k]) (tb_SQ (some (.int (((((byt.getD i []).getD k.toNatClampNeg 0) &&& 255).toUInt32 % 65536).toInt32)))) 0 0 (fun _ => False) := by
  refine tb_ofW (cc := prog_19_method_2_code) (maxL := 2) (ret := (some .char)) (by decide +kernel) rfl ?_
  intro p e s m args below meth c s₁ B hml hv
  obtain ⟨rfl, hS, hZ, hF⟩ := hv
  have hts : ∀ w ∈ tb_Tw, w.before _ s = true := fun w hw => atoms_spec (ws := _ :: tb_Tw) B.pre w (List.mem_cons_of_mem _ hw)
  have hown : s.vm.findClass "java/lang/StringLatin1" = some m.cls := findClass_of_methodNamed B.named
  have hx := B.exec
  have hb := B.bytes
  have hl := lv_entry ([.ref (adV i), .int k] : List Value) (n := 2) (show 2 ≤ 2 by decide)
  rw [lg_entry_eq]
  have hSt : tb_St N len byt adK adV base s := ⟨hS, hZ, hF⟩
  obtain ⟨e1, e2, e3, e4⟩ := hS.1 i hi
  generalize (lg_sl ([.ref (adV i), .int k] : List Value) ++ List.replicate (2 - (lg_sl ([.ref (adV i), .int k] : List Value)).length) Slot.unset).toArray = ls at hl ⊢
  have g0 : ls[0]? = some (.val (.ref (adV i))) := lv_at hl 0 rfl
  have g1 : ls[1]? = some (.val (.int k)) := lv_at hl 1 rfl
  refine lv_iload_n hx hb (show decode prog_19_method_2_code 0 = .ok (.iload_n 1, 1) by decide +kernel) rfl g1 ?_
  refine lv_aload_n hx hb (show decode prog_19_method_2_code 1 = .ok (.aload_n 0, 1) by decide +kernel) rfl g0 ?_
  refine va_tlen hx hb e4 va_S.rf rfl (show decode prog_19_method_2_code 2 = .ok (.arraylength, 1) by decide +kernel) ?_
  refine tb_s_S (y := ⟨"java/lang/String", "checkIndex", "(II)V"⟩) (index := 9) (as := [.int k, .int (Int32.ofNat (len.getD i 0))]) (n := 2) ⟨hx, hb, hml, hown, hts⟩ (st_check h0 h1) (tb_wd_ok (k := 607) (by decide +kernel)) (tb_wd_ok (k := 605) (by decide +kernel)) (tb_wd_ok (k := 606) (by decide +kernel)) (tb_wd_ok (k := 136) (by decide +kernel)) ⟨by decide, by decide, by decide +kernel⟩ ⟨by decide, by decide⟩ (hSt.preS va_S.rf _) rfl hl.1 (by decide) (show decode prog_19_method_2_code 3 = .ok (.invokestatic 9, 3) by decide +kernel) ⟨Nat.zero_le _, Nat.zero_le _⟩ ?_
  refine lv_aload_n hx hb (show decode prog_19_method_2_code 6 = .ok (.aload_n 0, 1) by decide +kernel) rfl g0 ?_
  refine lv_iload_n hx hb (show decode prog_19_method_2_code 7 = .ok (.iload_n 1, 1) by decide +kernel) rfl g1 ?_
  refine va_tb hx hb e4 va_S.rf hin rfl (show decode prog_19_method_2_code 8 = .ok (.baload, 1) by decide +kernel) ?_
  refine lv_sipush hx hb (show decode prog_19_method_2_code 9 = .ok (.sipush 255, 3) by decide +kernel) rfl ?_
  refine lv_iand hx hb (show decode prog_19_method_2_code 12 = .ok (.iand, 1) by decide +kernel) ?_
  refine lv_i2c hx hb (show decode prog_19_method_2_code 13 = .ok (.i2c, 1) by decide +kernel) rfl ?_
  exact W.zret hx hb B.returns hn (fun t ht _ => ⟨rfl, ht⟩) (fun q hq => by cases hq) (show decode prog_19_method_2_code 14 = .ok (.ireturn, 1) by decide +kernel) B.notSynchronized
theorem st_charAt {i : Nat} (hi : i < N) {k : Int32} (h0 : ¬ k < 0) (h1 : k < Int32.ofNat (len.getD i 0)) (hin : vp_in k (len.getD i 0)) (hn : narrow .char (.int (((((byt.getD i []).getD k.toNatClampNeg 0) &&& 255).toUInt32 % 65536).toInt32)) = .int (((((byt.getD i []).getD k.toNatClampNeg 0) &&& 255).toUInt32 % 65536).toInt32)) : Met l ⟨"java/lang/String", "charAt", "(I)C"⟩ (.code ⟨"java/lang/String", "charAt", "(I)C"⟩ prog_18_method_56_code 2 (some .char) :: tb_Tw) (tb_srm 3) (tb_SP N len byt adK adV base [.ref (adK i), .int k]) (tb_SQ (some (.int (((((byt.getD i []).getD k.toNatClampNeg 0) &&& 255).toUInt32 % 65536).toInt32)))) 0 0 (fun _ => False) := by
  refine tb_ofW (cc := prog_18_method_56_code) (maxL := 2) (ret := (some .char)) (by decide +kernel) rfl ?_
  intro p e s m args below meth c s₁ B hml hv
  obtain ⟨rfl, hS, hZ, hF⟩ := hv
  have hts : ∀ w ∈ tb_Tw, w.before _ s = true := fun w hw => atoms_spec (ws := _ :: tb_Tw) B.pre w (List.mem_cons_of_mem _ hw)
  have hown : s.vm.findClass "java/lang/String" = some m.cls := findClass_of_methodNamed B.named
  have hx := B.exec
  have hb := B.bytes
  have hl := lv_entry ([.ref (adK i), .int k] : List Value) (n := 2) (show 2 ≤ 2 by decide)
  rw [lg_entry_eq]
  have hSt : tb_St N len byt adK adV base s := ⟨hS, hZ, hF⟩
  obtain ⟨e1, e2, e3, e4⟩ := hS.1 i hi
  generalize (lg_sl ([.ref (adK i), .int k] : List Value) ++ List.replicate (2 - (lg_sl ([.ref (adK i), .int k] : List Value)).length) Slot.unset).toArray = ls at hl ⊢
  have g0 : ls[0]? = some (.val (.ref (adK i))) := lv_at hl 0 rfl
  have g1 : ls[1]? = some (.val (.int k)) := lv_at hl 1 rfl
  refine lv_aload_n hx hb (show decode prog_18_method_56_code 0 = .ok (.aload_n 0, 1) by decide +kernel) rfl g0 ?_
  refine tb_s_V (y := ⟨"java/lang/String", "isLatin1", "()Z"⟩) (index := 492) (as := []) (n := 0) ⟨hx, hb, hml, hown, hts⟩ (st_isLatin1 hi (tb_srm 2)) (tb_wd_ok (k := 601) (by decide +kernel)) (tb_wd_ok (k := 598) (by decide +kernel)) (tb_wd_ok (k := 599) (by decide +kernel)) (tb_wd_ok (k := 600) (by decide +kernel)) (tb_wd_ok (k := 136) (by decide +kernel)) ⟨by decide, by decide, by decide +kernel⟩ ⟨by decide, by decide⟩ (hSt.pre va_S.rf hS hi []) rfl hl.1 (by decide) (show decode prog_18_method_56_code 1 = .ok (.invokevirtual 492, 3) by decide +kernel) ⟨Nat.zero_le _, Nat.zero_le _⟩ ?_
  refine lv_if_eq hx hb (tgt := 16) (show decode prog_18_method_56_code 4 = .ok (.ifCond .eq 12, 3) by decide +kernel) (by decide) (fun h => absurd h (by decide)) (fun _ => ?_)
  refine lv_aload_n hx hb (show decode prog_18_method_56_code 7 = .ok (.aload_n 0, 1) by decide +kernel) rfl g0 ?_
  refine vk_getf (index := 9) hx hb e3 va_S.rf hown (hts _ (tb_wd_ok (k := 1925) (by decide +kernel))) (fun _ h => h) (show decode prog_18_method_56_code 8 = .ok (.getfield 9, 3) by decide +kernel) ?_
  refine lv_iload_n hx hb (show decode prog_18_method_56_code 11 = .ok (.iload_n 1, 1) by decide +kernel) rfl g1 ?_
  refine tb_s_S (y := ⟨"java/lang/StringLatin1", "charAt", "([BI)C"⟩) (index := 495) (as := [.ref (adV i), .int k]) (n := 2) ⟨hx, hb, hml, hown, hts⟩ (st_l1 hi h0 h1 hin hn) (tb_wd_ok (k := 604) (by decide +kernel)) (tb_wd_ok (k := 602) (by decide +kernel)) (tb_wd_ok (k := 603) (by decide +kernel)) (tb_wd_ok (k := 137) (by decide +kernel)) ⟨by decide, by decide, by decide +kernel⟩ ⟨by decide, by decide⟩ (hSt.preS va_S.rf _) rfl hl.1 (by decide) (show decode prog_18_method_56_code 12 = .ok (.invokestatic 495, 3) by decide +kernel) ⟨Nat.zero_le _, Nat.zero_le _⟩ ?_
  exact W.zret hx hb B.returns hn (fun t ht _ => ⟨rfl, ht⟩) (fun q hq => by cases hq) (show decode prog_18_method_56_code 15 = .ok (.ireturn, 1) by decide +kernel) B.notSynchronized
end TBT
