/-! ===== The texts: String.length and String.charAt of a literal ===== -/
def tb_St (N : Nat) (len : List Nat) (byt : List (List Int32)) (adK adV : Nat → Nat) (base : Nat) (U : State) : Prop :=
  vk_S N len byt adK adV (tb_A base) U U.heap ∧ va_Z "java/lang/String" "COMPACT_STRINGS" "Z" (.int 1) (tb_A base) U U.heap ∧ va_Zq "jdk/internal/util/Preconditions" "SIOOBE_FORMATTER" "Ljava/util/function/BiFunction;" (tb_A base) U U.heap
def tb_SP (N : Nat) (len : List Nat) (byt : List (List Int32)) (adK adV : Nat → Nat) (base : Nat) (as : List Value) : Array Value → State → Prop := fun a U => a = as.toArray ∧ tb_St N len byt adK adV base U
def tb_SQ (rv : Option Value) : Array Value → State → Outcome → State → Prop := fun _ st o t => o = .returned rv ∧ t.heap = st.heap
section TBT
variable {l : Launch} {N : Nat} {len : List Nat} {byt : List (List Int32)} {adK adV : Nat → Nat} {base : Nat}
theorem tb_St.to {U V : State} (hvm : U.vm.Alike V.vm) (hz : ∀ a : Nat, a < U.heap.size → ¬ tb_A base a → V.heap[a]? = U.heap[a]?) (h : tb_St N len byt adK adV base U) : tb_St N len byt adK adV base V :=
  ⟨(h.1.kept hz).moved hvm, (h.2.1.kept hz).moved hvm, (h.2.2.kept hz).moved hvm⟩
def tb_srm (n : Nat) : Room := { frames := n, cells := 0, slots := 0, locals := 60 * n }
variable {p : Program} {e : Env} {R : Room} {s : State} {m : MethodId} {args : Array Value} {below : List Frame} {meth : Method} {c : Code} {H : Heap} {locs : List Loc} {cells slots : Nat} {Q : State → Prop}
theorem tb_q_run {rv : Option Value} {rest st0 : List Value} {aa : Array Value} {pc : Nat} {ls : Array Slot} (run : va_Run p l e R s m args below meth c H locs cells slots 0 0 (F0 m pc ls st0) rest (tb_SQ rv aa) (fun _ => False)) (k : W p l e R s m args below meth c H locs cells slots Q (F0 m (pc + 3) ls (rv.toList ++ rest))) : W p l e R s m args below meth c H locs cells slots Q (F0 m pc ls st0) := by
  intro T hT X
  obtain ⟨v, st₀, t, T', L, h0, X', hL, e1, e2, ⟨hv, hh⟩, st⟩ := run T hT X
  cases hv
  have hLn : L = [] := by
    cases L with
    | nil => rfl
    | cons q L => exact (hL q List.mem_cons_self).elim
  subst hLn
  rw [List.append_nil] at X'
  obtain ⟨t2, a1, b1⟩ := k T' (by rw [e1, hh, h0]) X'
  exact ⟨t2, st t2 a1, b1⟩
theorem tb_s_V {cc : ByteArray} {nL : Nat} {own : String} {index n q pc : Nat} {y : MethodName} {bytes : ByteArray} {maxL : Nat} {ret : Option FieldType} {rv : Option Value} {Pc : Array Value → State → Prop} {as rest : List Value} {f : Nat} {ls : Array Slot}
    (S : CallFix p m c cc nL s args tb_Tw own) (hM : Met l y (.code y bytes maxL ret :: tb_Tw) (tb_srm f) Pc (tb_SQ rv) 0 0 (fun _ => False))
    (v0 : Cond.code y bytes maxL ret ∈ tb_Tw) (v1 : Cond.methodLink own index y ∈ tb_Tw) (v2 : Cond.instanceMethod y ∈ tb_Tw) (v3 : Cond.selects y.cls y y ∈ tb_Tw) (v4 : Cond.initialized y.cls ∈ tb_Tw)
    (hd : y.cls ≠ "java/lang/invoke/MethodHandle" ∧ y.cls ≠ "java/lang/invoke/VarHandle" ∧ (parseMethodDescriptor y.desc).map (fun d => d.parameters.length) = some n)
    (hR : f + 1 ≤ R.frames ∧ 8 + (maxL + 11) + 60 * f ≤ R.locals) (hp : PreV s H y.cls q Pc as) (hn : as.length = n) (hsize : ls.size = nL) (hW : (rest.map fun v => v.category).sum ≤ 8) (hdg : decode cc pc = .ok (.invokevirtual index, 3)) (hf : cells ≤ R.cells ∧ slots ≤ R.slots)
    (k : W p l e R s m args below meth c H locs cells slots Q (F0 m (pc + 3) ls (rv.toList ++ rest))) : W p l e R s m args below meth c H locs cells slots Q (F0 m pc ls (as.reverse ++ .ref q :: rest)) :=
  tb_q_run (aa := (Value.ref q :: as).toArray) (va_runV (As := as) (Ts := tb_Tw) (C := y.cls) (n := n) S hM (cwV n S.2.2.2.2 (tb_goodW (fun z hz => by
          unfold wsV at hz
          rcases List.mem_append.mp hz with hz | hz
          · simp only [List.mem_cons, List.not_mem_nil, or_false] at hz
            rcases hz with rfl | rfl | rfl | rfl
            · exact v1
            · exact v2
            · exact v3
            · exact v4
          · rcases List.mem_cons.mp hz with rfl | hz
            · exact v0
            · exact hz)) rfl rfl rfl ⟨rfl, hd⟩ hR) hp rfl hn hsize rfl (by show 2 * 0 + _ ≤ 8; rw [Nat.mul_zero, Nat.zero_add]; exact hW) hdg hf) k
theorem tb_St.pre {i : Nat} (h : tb_St N len byt adK adV base s) (hS : va_S (tb_A base) s.heap H locs) (hE : vk_S N len byt adK adV (tb_A base) s s.heap) (hi : i < N) (as : List Value) : PreV s H "java/lang/String" (adK i) (tb_SP N len byt adK adV base (.ref (adK i) :: as)) as := by
  refine ⟨?_, vk_recv hE hi hS, fun U hU hW => ⟨rfl, h.to hW.alike (fun a h1 h2 => by rw [hU]; exact hS.2.1 a h1 h2)⟩⟩
  intro a U g mk hh
  exact ⟨hh.1, hh.2.to (V := U.calling g mk a) (Vm.Alike.refl U.vm) (fun _ _ _ => rfl)⟩
theorem st_coder {i : Nat} (hi : i < N) (rm : Room) : Met l ⟨"java/lang/String", "coder", "()B"⟩ (.code ⟨"java/lang/String", "coder", "()B"⟩ prog_18_method_152_code 1 (some .byte) :: tb_Tw) rm (tb_SP N len byt adK adV base [.ref (adK i)]) (tb_SQ (some (.int 0))) 0 0 (fun _ => False) := by
  refine tb_ofW (cc := prog_18_method_152_code) (maxL := 1) (ret := (some .byte)) (by decide +kernel) rfl ?_
  intro p e s m args below meth c s₁ B hml hv
  obtain ⟨rfl, hS, hZ, hF⟩ := hv
  have hts : ∀ w ∈ tb_Tw, w.before _ s = true := fun w hw => atoms_spec (ws := _ :: tb_Tw) B.pre w (List.mem_cons_of_mem _ hw)
  have hown : s.vm.findClass "java/lang/String" = some m.cls := findClass_of_methodNamed B.named
  have hx := B.exec
  have hb := B.bytes
  have hl := lv_entry ([.ref (adK i)] : List Value) (n := 1) (show 1 ≤ 1 by decide)
  rw [lg_entry_eq]
  obtain ⟨h1, h2, h3, h4⟩ := hS.1 i hi
  refine va_gets (index := 38) hx hb hZ va_S.rf hown (hts _ (tb_wd_ok (k := 591) (by decide +kernel))) (fun _ h => h) (show decode prog_18_method_152_code 0 = .ok (.getstatic 38, 3) by decide +kernel) ?_
  refine lv_if_eq hx hb (tgt := 13) (show decode prog_18_method_152_code 3 = .ok (.ifCond .eq 10, 3) by decide +kernel) (by decide) (fun h => absurd h (by decide)) (fun _ => ?_)
  refine lv_aload_n hx hb (i := 0) (x := adK i) (show decode prog_18_method_152_code 6 = .ok (.aload_n 0, 1) by decide +kernel) rfl rfl ?_
  refine vk_getf (index := 15) hx hb h2 va_S.rf hown (hts _ (tb_wd_ok (k := 1925) (by decide +kernel))) (fun _ h => h) (show decode prog_18_method_152_code 7 = .ok (.getfield 15, 3) by decide +kernel) ?_
  refine lv_goto hx hb (tgt := 14) (show decode prog_18_method_152_code 10 = .ok (.goto 4, 3) by decide +kernel) (by decide) ?_
  exact W.zret hx hb B.returns rfl (fun t ht _ => ⟨rfl, ht⟩) (fun q hq => by cases hq) (show decode prog_18_method_152_code 14 = .ok (.ireturn, 1) by decide +kernel) B.notSynchronized
theorem st_isLatin1 {i : Nat} (hi : i < N) (rm : Room) : Met l ⟨"java/lang/String", "isLatin1", "()Z"⟩ (.code ⟨"java/lang/String", "isLatin1", "()Z"⟩ prog_18_method_154_code 1 (some .boolean) :: tb_Tw) rm (tb_SP N len byt adK adV base [.ref (adK i)]) (tb_SQ (some (.int 1))) 0 0 (fun _ => False) := by
  refine tb_ofW (cc := prog_18_method_154_code) (maxL := 1) (ret := (some .boolean)) (by decide +kernel) rfl ?_
  intro p e s m args below meth c s₁ B hml hv
  obtain ⟨rfl, hS, hZ, hF⟩ := hv
  have hts : ∀ w ∈ tb_Tw, w.before _ s = true := fun w hw => atoms_spec (ws := _ :: tb_Tw) B.pre w (List.mem_cons_of_mem _ hw)
  have hown : s.vm.findClass "java/lang/String" = some m.cls := findClass_of_methodNamed B.named
  have hx := B.exec
  have hb := B.bytes
  have hl := lv_entry ([.ref (adK i)] : List Value) (n := 1) (show 1 ≤ 1 by decide)
  rw [lg_entry_eq]
  obtain ⟨h1, h2, h3, h4⟩ := hS.1 i hi
  refine va_gets (index := 38) hx hb hZ va_S.rf hown (hts _ (tb_wd_ok (k := 591) (by decide +kernel))) (fun _ h => h) (show decode prog_18_method_154_code 0 = .ok (.getstatic 38, 3) by decide +kernel) ?_
  refine lv_if_eq hx hb (tgt := 17) (show decode prog_18_method_154_code 3 = .ok (.ifCond .eq 14, 3) by decide +kernel) (by decide) (fun h => absurd h (by decide)) (fun _ => ?_)
  refine lv_aload_n hx hb (i := 0) (x := adK i) (show decode prog_18_method_154_code 6 = .ok (.aload_n 0, 1) by decide +kernel) rfl rfl ?_
  refine vk_getf (index := 15) hx hb h2 va_S.rf hown (hts _ (tb_wd_ok (k := 1925) (by decide +kernel))) (fun _ h => h) (show decode prog_18_method_154_code 7 = .ok (.getfield 15, 3) by decide +kernel) ?_
  refine lv_if_ne hx hb (tgt := 17) (show decode prog_18_method_154_code 10 = .ok (.ifCond .ne 7, 3) by decide +kernel) (by decide) (fun h => absurd rfl h) (fun _ => ?_)
  refine lv_iconst hx hb (show decode prog_18_method_154_code 13 = .ok (.iconst 1, 1) by decide +kernel) rfl ?_
  refine lv_goto hx hb (tgt := 18) (show decode prog_18_method_154_code 14 = .ok (.goto 4, 3) by decide +kernel) (by decide) ?_
  exact W.zret hx hb B.returns rfl (fun t ht _ => ⟨rfl, ht⟩) (fun q hq => by cases hq) (show decode prog_18_method_154_code 18 = .ok (.ireturn, 1) by decide +kernel) B.notSynchronized
theorem st_length {i : Nat} (hi : i < N) : Met l ⟨"java/lang/String", "length", "()I"⟩ (.code ⟨"java/lang/String", "length", "()I"⟩ prog_18_method_54_code 1 (some .int) :: tb_Tw) (tb_srm 1) (tb_SP N len byt adK adV base [.ref (adK i)]) (tb_SQ (some (.int (Int32.ofNat (len.getD i 0) >>> ((0 : Int32) &&& 31))))) 0 0 (fun _ => False) := by
  refine tb_ofW (cc := prog_18_method_54_code) (maxL := 1) (ret := (some .int)) (by decide +kernel) rfl ?_
  intro p e s m args below meth c s₁ B hml hv
  obtain ⟨rfl, hS, hZ, hF⟩ := hv
  have hts : ∀ w ∈ tb_Tw, w.before _ s = true := fun w hw => atoms_spec (ws := _ :: tb_Tw) B.pre w (List.mem_cons_of_mem _ hw)
  have hown : s.vm.findClass "java/lang/String" = some m.cls := findClass_of_methodNamed B.named
  have hx := B.exec
  have hb := B.bytes
  have hl := lv_entry ([.ref (adK i)] : List Value) (n := 1) (show 1 ≤ 1 by decide)
  rw [lg_entry_eq]
  have hSt : tb_St N len byt adK adV base s := ⟨hS, hZ, hF⟩
  obtain ⟨h1, h2, h3, h4⟩ := hS.1 i hi
  refine lv_aload_n hx hb (i := 0) (x := adK i) (show decode prog_18_method_54_code 0 = .ok (.aload_n 0, 1) by decide +kernel) rfl rfl ?_
  refine vk_getf (index := 9) hx hb h3 va_S.rf hown (hts _ (tb_wd_ok (k := 1924) (by decide +kernel))) (fun _ h => h) (show decode prog_18_method_54_code 1 = .ok (.getfield 9, 3) by decide +kernel) ?_
  refine va_tlen hx hb h4 va_S.rf rfl (show decode prog_18_method_54_code 4 = .ok (.arraylength, 1) by decide +kernel) ?_
  refine lv_aload_n hx hb (i := 0) (x := adK i) (show decode prog_18_method_54_code 5 = .ok (.aload_n 0, 1) by decide +kernel) rfl rfl ?_
  refine tb_s_V (y := ⟨"java/lang/String", "coder", "()B"⟩) (index := 335) (as := []) (n := 0) ⟨hx, hb, hml, hown, hts⟩ (st_coder hi (tb_srm 0)) (tb_wd_ok (k := 590) (by decide +kernel)) (tb_wd_ok (k := 587) (by decide +kernel)) (tb_wd_ok (k := 588) (by decide +kernel)) (tb_wd_ok (k := 589) (by decide +kernel)) (tb_wd_ok (k := 136) (by decide +kernel)) ⟨by decide, by decide, by decide +kernel⟩ ⟨by decide, by decide⟩ (hSt.pre va_S.rf hS hi []) rfl rfl (show 1 ≤ 8 by decide) (show decode prog_18_method_54_code 6 = .ok (.invokevirtual 335, 3) by decide +kernel) ⟨Nat.zero_le _, Nat.zero_le _⟩ ?_
  refine lv_ishr hx hb (show decode prog_18_method_54_code 9 = .ok (.ishr, 1) by decide +kernel) ?_
  exact W.iret hx hb B.returns (fun t ht _ => ⟨rfl, ht⟩) (fun q hq => by cases hq) (show decode prog_18_method_54_code 10 = .ok (.ireturn, 1) by decide +kernel) B.notSynchronized
end TBT
