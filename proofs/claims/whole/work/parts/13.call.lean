/-! ===== Calls: a run of the callee is its contract ===== -/
theorem tb_goodT : ∀ w ∈ tb_Tw, w ∈ tb_Tw ∧ ((w.onTables && w.keeps) = true ∨ ∃ ty, w = .arrayClass ty) := fun w hw => ⟨hw, good_of_word (List.mem_filter.mp hw).2⟩
theorem tb_goodW {ws : List Cond} (h : ∀ w ∈ ws, w ∈ tb_Tw) : GoodIn tb_Tw ws := fun w hw => tb_goodT w (h w hw)
theorem tb_sl_len (vs : List Value) : (lg_sl vs).length = (vs.map fun v => v.category).sum := by
  unfold lg_sl
  induction vs with
  | nil => rfl
  | cons v vs ih =>
    rw [List.flatMap_cons, List.length_append, ih, List.map_cons, List.sum_cons]
    congr 1
    rcases lv_cat v with h | h <;> simp [h]
theorem tb_cat_sum (ad sa : Nat → Nat) (vs : List Value) : ((vs.map (tb_cv ad sa)).map fun v => v.category).sum = (vs.map fun v => v.category).sum := by
  rw [List.map_map, show ((fun v : Value => v.category) ∘ tb_cv ad sa) = (fun v : Value => v.category) from funext (fun v => tb_cat ad v)]
theorem tb_args_cv (ad sa : Nat → Nat) : ∀ (vs : List Value) (k : Nat), lv_args k (vs.map (tb_cv ad sa)) = tb_cl2 ad sa (lv_args k vs) := by
  intro vs
  induction vs with
  | nil => intro k; rfl
  | cons v vs ih =>
    intro k
    rw [List.map_cons, lv_args, lv_args, tb_cat, ih]
    rfl
/-- a method whose name has no row among the natives, by its walk -/
theorem tb_ofW {l : Launch} {y : MethodName} {ws ws' : List Cond} {rm : Room} {Pc : Array Value → State → Prop} {Qc : Array Value → State → Outcome → State → Prop} {mc ms : Nat} {free : Addr → Prop} {cc : ByteArray} {maxL : Nat} {ret : Option FieldType}
    (hy : plainFor y = true) (hw : ws = Cond.code y cc maxL ret :: ws')
    (body : ∀ p e s m args below meth c s₁, BodyLoose p l y (headSpec ws rm) cc maxL ret e s m args below meth c s₁ → c.maxLocals = maxL → Pc args s →
      W p l e (headSpec ws rm).room s m args below meth c s.heap [] 0 0 (MQ below Qc args s mc ms free) (entryFrame m args maxL)) : Met l y ws rm Pc Qc mc ms free := by
  refine MetFree.of_bodySF (code := cc) (maxLocals := maxL) (ret := ret) hy ?_ ?_
  · intro a u k h hn
    obtain ⟨g, d, h1, h2, h3, h4, h5, h6, -, -⟩ := Cond.code_spec hn (atoms_spec (ws := ws) h _ (by rw [hw]; exact List.mem_cons_self))
    exact ⟨g, d, h1, h2, h3, h4, h5, h6⟩
  · intro p e u k a below g d u₁ B hml hP _
    have hh0 : u₁.heap = u.heap := by rw [B.state]; rfl
    obtain ⟨t, a1, o, b1, b2, b3⟩ := body p e u k a below g d u₁ B hml hP u₁ hh0 (Stand.of_body B)
    exact ⟨t, o, a1, b1, b2, ⟨b3.1, b3.2⟩⟩
section TBC
variable {X : State → Prop} {P : tb_Pg} {mi : tb_Mi} {sc : tb_Sc} {ns : List (String × Nat × Nat)} {D : va_G} {dA : Nat → ClassId} {b base Ls : Nat} {xs : Nat → Int32} {sa : Nat → Nat}
variable {p : Program} {l : Launch} {e : Env} {R : Room} {s : State} {m : MethodId} {args : Array Value} {below : List Frame} {meth : Method} {c : Code} {Q : State → Prop} {y : Nat} {w0 : tb_Hp}
variable {i pc len : Nat} {res ps : List Nat} {val : Value} {L : tb_L} {S : List Value} {w : tb_Hp} {st' : tb_S}
theorem tb_met {d mc ms y : Nat} {as : List Value} {w w' : tb_Hp} {rv : Option Value} (hbb : b < base) (hy : plainFor (mi y).1 = true) (hpc0 : ∃ q, (P.1 y)[0]? = some q ∧ q.1 = 0) (hnl : P.2.1 y = (mi y).2.2.1) (hlen : (as.map fun v => v.category).sum ≤ P.2.1 y)
    (hgo : ∀ (p : Program) (e : Env) (s : State) (m : MethodId) (args : Array Value) (below : List Frame) (meth : Method) (c : Code), tb_cx X mi D dA b base Ls xs p s m args meth c y → tb_Go P D dA b base Ls xs sa p l e (tb_rm d mc ms) s m args below meth c (MQ below (tb_Qc D dA b base Ls xs sa rv w') args s mc ms (tb_A base)) y w (0, tb_ent as, [], w)) :
    Met l (mi y).1 (tb_wds mi y) (tb_rm d mc ms) (tb_Pc X D dA b base Ls xs sa as w) (tb_Qc D dA b base Ls xs sa rv w') mc ms (tb_A base) := by
  refine tb_ofW (cc := (mi y).2.1) (maxL := (mi y).2.2.1) (ret := (mi y).2.2.2) hy rfl ?_
  intro p e s m args below meth c s₁ B hml hv
  obtain ⟨rfl, hR, hK, hX, hbs⟩ := hv
  have hpre := atoms_spec (ws := tb_wds mi y) B.pre
  have C : tb_cx X mi D dA b base Ls xs p s m (as.map (tb_cv (tb_ad b base) sa)).toArray meth c y := ⟨B.exec, B.bytes, hml, B.returns, B.notSynchronized, findClass_of_methodNamed B.named, fun w hw => hpre w (List.mem_cons_of_mem _ hw), hK, (name_of_methodNamed B.named B.method).1, hbb, hbs, hX⟩
  obtain ⟨q, hq, hq0⟩ := hpc0
  have hl := lv_entry (as.map (tb_cv (tb_ad b base) sa)) (n := (mi y).2.2.1) (by rw [tb_sl_len, tb_cat_sum, ← hnl]; exact hlen)
  rw [lg_entry_eq]
  generalize (lg_sl (as.map (tb_cv (tb_ad b base) sa)) ++ List.replicate ((mi y).2.2.1 - (lg_sl (as.map (tb_cv (tb_ad b base) sa))).length) Slot.unset).toArray = ls at hl ⊢
  have g := hgo p e s m (as.map (tb_cv (tb_ad b base) sa)).toArray below meth c C q hq s.heap [] ls hR va_S.rf (by rw [hnl]; unfold tb_ent; rw [← tb_args_cv]; exact hl)
  rw [hq0] at g
  simp only [Nat.sub_self] at g
  exact g
theorem tb_g_call {mc ms : Nat} {S2 : List Value} {rv : Option Value} {w' : tb_Hp} {q q' : tb_I} {aa : Array Value} (hq : (P.1 y)[i]? = some q) (hq' : (P.1 y)[i + 1]? = some q') (hpc : q'.1 = q.1 + 3) (hg0 : tb_gr w0 w) (hg1 : tb_gr w w') (hmc : mc = w'.1.length - w.1.length) (hms : ms = tb_sum w' - tb_sum w)
    (run : ∀ (H : Heap) (locs : List Loc) (ls : Array Slot), tb_Rel D dA b base Ls xs sa w H → va_S (tb_A base) s.heap H locs → lv_has ls (P.2.1 y) (tb_cl2 (tb_ad b base) sa L) → va_Run p l e R s m args below meth c H locs (w.1.length - w0.1.length) (tb_sum w - tb_sum w0) mc ms (F0 m q.1 ls (S.map (tb_cv (tb_ad b base) sa))) (S2.map (tb_cv (tb_ad b base) sa)) (tb_Qc D dA b base Ls xs sa rv w' aa) (tb_A base))
    (k : tb_Go P D dA b base Ls xs sa p l e R s m args below meth c Q y w0 (i + 1, L, rv.toList ++ S2, w')) : tb_Go P D dA b base Ls xs sa p l e R s m args below meth c Q y w0 (i, L, S, w) := by
  intro q0 h0 H locs ls h1 h2 h3
  have e0 : q0 = q := Option.some.inj (h0.symm.trans hq)
  subst e0
  intro T hT X1
  obtain ⟨v, st₀, t, T', L1, g0, X', hL, e1, e2, ⟨hv, hR', hF⟩, st⟩ := run H locs ls h1 h2 h3 T hT X1
  cases hv
  have hS' : va_S (tb_A base) s.heap t.heap (locs ++ L1) := by
    refine ⟨Nat.le_trans h2.1 (by rw [← g0]; exact hF.1), fun z hz1 hz2 => ?_, fun z hz => ?_⟩
    · rw [hF.2 z (by rw [g0]; exact Nat.lt_of_lt_of_le hz1 h2.1) hz2, g0]
      exact h2.2.1 z hz1 hz2
    · rcases List.mem_append.mp hz with hh | hh
      · exact h2.2.2 z hh
      · exact hL z hh
  have kk := k q' hq' t.heap (locs ++ L1) ls hR' hS' h3
  rw [hpc] at kk
  have ec : w'.1.length - w0.1.length = w.1.length - w0.1.length + mc := by have := hg0.1; have := hg1.1; omega
  have es : tb_sum w' - tb_sum w0 = tb_sum w - tb_sum w0 + ms := by have := hg0.2; have := hg1.2; omega
  have kk2 : W p l e R s m args below meth c t.heap (locs ++ L1) (w.1.length - w0.1.length + mc) (tb_sum w - tb_sum w0 + ms) Q (F0 m (q0.1 + 3) ls ((rv.map (tb_cv (tb_ad b base) sa)).toList ++ S2.map (tb_cv (tb_ad b base) sa))) := by
    have e3 : (rv.map (tb_cv (tb_ad b base) sa)).toList ++ S2.map (tb_cv (tb_ad b base) sa) = (rv.toList ++ S2).map (tb_cv (tb_ad b base) sa) := by cases rv <;> simp
    rw [e3, ← ec, ← es]
    exact kk
  obtain ⟨t2, a1, b1⟩ := kk2 T' e1 X'
  exact ⟨t2, st t2 a1, b1⟩
/-- what is asked of the state's own part: it stays -/
def tb_Xok (X : State → Prop) (base : Nat) : Prop := ∀ u U : State, X u → u.WarmedH U.vm → u.heap.size ≤ U.heap.size → (∀ q : Nat, q < u.heap.size → ¬ tb_A base q → U.heap[q]? = u.heap[q]?) → X U
theorem tb_blind {as : List Value} {w : tb_Hp} (hX1 : ∀ u U : State, X u → u.vm = U.vm → u.heap = U.heap → X U) : FrameBlind (tb_Pc X D dA b base Ls xs sa as w) := by
  intro a U g mk h
  obtain ⟨h1, h2, h3, h4, h5⟩ := h
  exact ⟨h1, h2, ⟨va_K.moved (u := U) (U := U.calling g mk a) (Vm.Alike.refl U.vm) h3.1, va_X.moved (u := U) (U := U.calling g mk a) (Vm.Alike.refl U.vm) h3.2⟩, hX1 U _ h4 rfl rfl, h5⟩
theorem tb_pre {as : List Value} {H : Heap} {locs : List Loc} (C : tb_cx X mi D dA b base Ls xs p s m args meth c y) (hX2 : tb_Xok X base) (hR : tb_Rel D dA b base Ls xs sa w H) (hS : va_S (tb_A base) s.heap H locs) (U : State) (hU : U.heap = H) (hW : s.WarmedH U.vm) : tb_Pc X D dA b base Ls xs sa as w (as.map (tb_cv (tb_ad b base) sa)).toArray U := by
  obtain ⟨hx, hb, hml, hr, hlk, hown, hts, hK, hnm, hbb, hbs, hX⟩ := C
  refine ⟨rfl, by rw [hU]; exact hR, ⟨va_K.moved hW.alike hK.1, ?_⟩, hX2 s U hX hW (by rw [hU]; exact hS.1) (fun z h1 h2 => by rw [hU]; exact hS.2.1 z h1 h2), by rw [hU]; exact Nat.le_trans hbs hS.1⟩
  have hlb : b < s.heap.size := Nat.lt_of_lt_of_le hbb hbs
  exact va_X.moved hW.alike (hK.2.kept (by rw [hU]; exact hS.2.1 b hlb (Nat.not_le.mpr hbb)))
theorem tb_okV_ok {mi : tb_Mi} {own : String} {x : Nat} {res ps : List Nat} (h : tb_okV mi own x res ps = true) : ∃ (y n k : Nat) (r : vw_C), res = [y, n, k] ∧ 10 ≤ k ∧ tb_cl[k - 10]? = some r ∧ (mi y).1.cls = r.1 ∧ (parseMethodDescriptor (mi y).1.desc).map (fun d => d.parameters.length) = some n ∧ Cond.methodLink own x (mi y).1 ∈ tb_Tw ∧ Cond.instanceMethod (mi y).1 ∈ tb_Tw ∧ Cond.selects r.1 (mi y).1 (mi y).1 ∈ tb_Tw ∧ Cond.initialized r.1 ∈ tb_Tw ∧ (mi y).1.cls ≠ "TannerBuntingLaw" := by
  unfold tb_okV at h
  split at h
  · rename_i y n k j1 j2 j3 j4
    rw [Bool.and_eq_true, decide_eq_true_eq] at h
    obtain ⟨h1, h2⟩ := h
    split at h2
    · rename_i r hr
      simp only [Bool.and_eq_true, decide_eq_true_eq, tb_dsc] at h2
      exact ⟨y, n, k, r, rfl, h1, hr, h2.1.1.1.1.1.2, h2.1.1.1.1.2, tb_wd_ok h2.1.1.1.2, tb_wd_ok h2.1.1.2, tb_wd_ok h2.1.2, tb_wd_ok h2.2, h2.1.1.1.1.1.1⟩
    · cases h2
  · cases h
theorem tb_okP_ok {mi : tb_Mi} {own : String} {x : Nat} {res ps : List Nat} (h : tb_okP mi own x res ps = true) : ∃ (y n k : Nat) (r : vw_C), res = [y, n, k] ∧ 10 ≤ k ∧ tb_cl[k - 10]? = some r ∧ (mi y).1.cls = r.1 ∧ (mi y).1.name = "<init>" ∧ (mi y).2.2.2 = none ∧ (parseMethodDescriptor (mi y).1.desc).map (fun d => d.parameters.length) = some n ∧ Cond.methodLink own x (mi y).1 ∈ tb_Tw ∧ Cond.instanceMethod (mi y).1 ∈ tb_Tw ∧ Cond.initialized (mi y).1.cls ∈ tb_Tw ∧ (mi y).1.cls ≠ "TannerBuntingLaw" := by
  unfold tb_okP at h
  split at h
  · rename_i y n k j1 j2 j3
    rw [Bool.and_eq_true, decide_eq_true_eq] at h
    obtain ⟨h1, h2⟩ := h
    split at h2
    · rename_i r hr
      simp only [Bool.and_eq_true, decide_eq_true_eq, tb_dsc] at h2
      exact ⟨y, n, k, r, rfl, h1, hr, h2.1.1.1.1.1.1.2, h2.1.1.1.1.1.2, h2.1.1.1.1.2, h2.1.1.1.2, tb_wd_ok h2.1.1.2, tb_wd_ok h2.1.2, tb_wd_ok h2.2, h2.1.1.1.1.1.1.1⟩
    · cases h2
  · cases h
theorem tb_okS_ok {mi : tb_Mi} {ns : List (String × Nat × Nat)} {own : String} {x : Nat} {res ps : List Nat} (h : tb_okS mi ns own x res ps = true) : ∃ (y n : Nat), res = [y, n] ∧ (parseMethodDescriptor (mi y).1.desc).map (fun d => d.parameters.length) = some n ∧ (Cond.methodLink own x (mi y).1 ∈ tb_Tw ∨ (own, x, y) ∈ ns) ∧ Cond.static (mi y).1 ∈ tb_Tw ∧ Cond.initialized (mi y).1.cls ∈ tb_Tw ∧ (mi y).1.cls ≠ "TannerBuntingLaw" := by
  unfold tb_okS at h
  split at h
  · simp only [Bool.and_eq_true, decide_eq_true_eq, tb_dsc] at h
    exact ⟨_, _, rfl, h.1.1.1.2, Or.inl (tb_wd_ok h.1.1.2), tb_wd_ok h.1.2, tb_wd_ok h.2, h.1.1.1.1⟩
  · simp only [Bool.and_eq_true, decide_eq_true_eq, tb_dsc] at h
    exact ⟨_, _, rfl, h.1.1.1.2, Or.inr h.1.1.2, tb_wd_ok h.1.2, tb_wd_ok h.2, h.1.1.1.1⟩
  · cases h
end TBC
