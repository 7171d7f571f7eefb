/-! ===== From a run of the small machine to the JVM: instructions that leave the heap ===== -/
abbrev tb_Mi : Type := Nat → MethodName × ByteArray × Nat × Option FieldType
/-- the locals, by their addresses -/
def tb_cl2 (ad sa : Nat → Nat) (L : tb_L) : tb_L := L.map (fun q => (q.1, tb_cv ad sa q.2))
def tb_sum (w : tb_Hp) : Nat := (w.1.map Prod.snd).sum
def tb_cx (X : State → Prop) (mi : tb_Mi) (D : va_G) (dA : Nat → ClassId) (b base Ls : Nat) (xs : Nat → Int32) (p : Program) (s : State) (m : MethodId) (args : Array Value) (meth : Method) (c : Code) (y : Nat) : Prop :=
  p.tables.exec = Jvm.exec ∧ c.code = (mi y).2.1 ∧ c.maxLocals = (mi y).2.2.1 ∧ meth.sig.returnType = (mi y).2.2.2 ∧ meth.locks = false ∧ s.vm.findClass (mi y).1.cls = some m.cls ∧ (∀ w ∈ tb_Tw, w.before args s = true) ∧ tb_K D dA b Ls xs s ∧ meth.name = (mi y).1.name ∧ b < base ∧ base ≤ s.heap.size ∧ X s
section TBG
variable {X : State → Prop} {P : tb_Pg} {mi : tb_Mi} {D : va_G} {dA : Nat → ClassId} {b base Ls : Nat} {xs : Nat → Int32} {sa : Nat → Nat}
variable {p : Program} {l : Launch} {e : Env} {R : Room} {s : State} {m : MethodId} {args : Array Value} {below : List Frame} {meth : Method} {c : Code} {Q : State → Prop} {y : Nat} {w0 : tb_Hp}
/-- the machine, at this state of the small one, comes to Q -/
def tb_Go (P : tb_Pg) (D : va_G) (dA : Nat → ClassId) (b base Ls : Nat) (xs : Nat → Int32) (sa : Nat → Nat) (p : Program) (l : Launch) (e : Env) (R : Room) (s : State) (m : MethodId) (args : Array Value) (below : List Frame) (meth : Method) (c : Code) (Q : State → Prop) (y : Nat) (w0 : tb_Hp) (st : tb_S) : Prop :=
  ∀ (q : tb_I), (P.1 y)[st.1]? = some q → ∀ (H : Heap) (locs : List Loc) (ls : Array Slot), tb_Rel D dA b base Ls xs sa st.2.2.2 H → va_S (tb_A base) s.heap H locs → lv_has ls (P.2.1 y) (tb_cl2 (tb_ad b base) sa st.2.1) →
    W p l e R s m args below meth c H locs (st.2.2.2.1.length - w0.1.length) (tb_sum st.2.2.2 - tb_sum w0) Q (F0 m q.1 ls (st.2.2.1.map (tb_cv (tb_ad b base) sa)))
theorem tb_g_same {i j : Nat} {L : tb_L} {S S' : List Value} {w : tb_Hp} {q q' : tb_I} (hq : (P.1 y)[i]? = some q) (hq' : (P.1 y)[j]? = some q')
    (row : ∀ (H : Heap) (locs : List Loc) (cells slots : Nat) (ls : Array Slot), W p l e R s m args below meth c H locs cells slots Q (F0 m q'.1 ls (S'.map (tb_cv (tb_ad b base) sa))) → W p l e R s m args below meth c H locs cells slots Q (F0 m q.1 ls (S.map (tb_cv (tb_ad b base) sa))))
    (k : tb_Go P D dA b base Ls xs sa p l e R s m args below meth c Q y w0 (j, L, S', w)) : tb_Go P D dA b base Ls xs sa p l e R s m args below meth c Q y w0 (i, L, S, w) := by
  intro q0 h0 H locs ls h1 h2 h3
  have e0 : q0 = q := Option.some.inj (h0.symm.trans hq)
  subst e0
  exact row H locs _ _ ls (k q' hq' H locs ls h1 h2 h3)
theorem tb_g_bin {f : Int32 → Int32 → Int32} {i : Nat} {L : tb_L} {S : List Value} {w : tb_Hp} {q q' : tb_I} {st' : tb_S} (hq : (P.1 y)[i]? = some q) (hq' : (P.1 y)[i + 1]? = some q') (hpc : q'.1 = q.1 + 1)
    (row : ∀ (H : Heap) (locs : List Loc) (cells slots : Nat) (ls : Array Slot) (rest : List Value) (u v : Int32), W p l e R s m args below meth c H locs cells slots Q (F0 m (q.1 + 1) ls (.int (f u v) :: rest)) → W p l e R s m args below meth c H locs cells slots Q (F0 m q.1 ls (.int v :: .int u :: rest)))
    (h : tb_bin f i L S w = some (.inl st')) (k : tb_Go P D dA b base Ls xs sa p l e R s m args below meth c Q y w0 st') : tb_Go P D dA b base Ls xs sa p l e R s m args below meth c Q y w0 (i, L, S, w) := by
  unfold tb_bin at h
  split at h
  · cases h
    refine tb_g_same hq hq' (fun H locs cells slots ls kk => ?_) k
    rw [hpc] at kk
    exact row H locs cells slots ls _ _ _ kk
  · cases h
theorem tb_g_lbn {f : Int64 → Int64 → Int64} {i : Nat} {L : tb_L} {S : List Value} {w : tb_Hp} {q q' : tb_I} {st' : tb_S} (hq : (P.1 y)[i]? = some q) (hq' : (P.1 y)[i + 1]? = some q') (hpc : q'.1 = q.1 + 1)
    (row : ∀ (H : Heap) (locs : List Loc) (cells slots : Nat) (ls : Array Slot) (rest : List Value) (u v : Int64), W p l e R s m args below meth c H locs cells slots Q (F0 m (q.1 + 1) ls (.long (f u v) :: rest)) → W p l e R s m args below meth c H locs cells slots Q (F0 m q.1 ls (.long v :: .long u :: rest)))
    (h : tb_lbn f i L S w = some (.inl st')) (k : tb_Go P D dA b base Ls xs sa p l e R s m args below meth c Q y w0 st') : tb_Go P D dA b base Ls xs sa p l e R s m args below meth c Q y w0 (i, L, S, w) := by
  unfold tb_lbn at h
  split at h
  · cases h
    refine tb_g_same hq hq' (fun H locs cells slots ls kk => ?_) k
    rw [hpc] at kk
    exact row H locs cells slots ls _ _ _ kk
  · cases h
theorem tb_g_dbn {f : Int32 → Int32 → Int32} {i : Nat} {L : tb_L} {S : List Value} {w : tb_Hp} {q q' : tb_I} {st' : tb_S} (hq : (P.1 y)[i]? = some q) (hq' : (P.1 y)[i + 1]? = some q') (hpc : q'.1 = q.1 + 1)
    (row : ∀ (H : Heap) (locs : List Loc) (cells slots : Nat) (ls : Array Slot) (rest : List Value) (u v : Int32), ¬ v = 0 → W p l e R s m args below meth c H locs cells slots Q (F0 m (q.1 + 1) ls (.int (f u v) :: rest)) → W p l e R s m args below meth c H locs cells slots Q (F0 m q.1 ls (.int v :: .int u :: rest)))
    (h : tb_dbn f i L S w = some (.inl st')) (k : tb_Go P D dA b base Ls xs sa p l e R s m args below meth c Q y w0 st') : tb_Go P D dA b base Ls xs sa p l e R s m args below meth c Q y w0 (i, L, S, w) := by
  unfold tb_dbn at h
  split at h
  · split at h
    · cases h
    · rename_i hne
      cases h
      refine tb_g_same hq hq' (fun H locs cells slots ls kk => ?_) k
      rw [hpc] at kk
      exact row H locs cells slots ls _ _ _ hne kk
  · cases h
theorem tb_g_ldb {f : Int64 → Int64 → Int64} {i : Nat} {L : tb_L} {S : List Value} {w : tb_Hp} {q q' : tb_I} {st' : tb_S} (hq : (P.1 y)[i]? = some q) (hq' : (P.1 y)[i + 1]? = some q') (hpc : q'.1 = q.1 + 1)
    (row : ∀ (H : Heap) (locs : List Loc) (cells slots : Nat) (ls : Array Slot) (rest : List Value) (u v : Int64), ¬ v = 0 → W p l e R s m args below meth c H locs cells slots Q (F0 m (q.1 + 1) ls (.long (f u v) :: rest)) → W p l e R s m args below meth c H locs cells slots Q (F0 m q.1 ls (.long v :: .long u :: rest)))
    (h : tb_ldb f i L S w = some (.inl st')) (k : tb_Go P D dA b base Ls xs sa p l e R s m args below meth c Q y w0 st') : tb_Go P D dA b base Ls xs sa p l e R s m args below meth c Q y w0 (i, L, S, w) := by
  unfold tb_ldb at h
  split at h
  · split at h
    · cases h
    · rename_i hne
      cases h
      refine tb_g_same hq hq' (fun H locs cells slots ls kk => ?_) k
      rw [hpc] at kk
      exact row H locs cells slots ls _ _ _ hne kk
  · cases h
theorem tb_g_una {f : Int32 → Int32} {i : Nat} {L : tb_L} {S : List Value} {w : tb_Hp} {q q' : tb_I} {st' : tb_S} (hq : (P.1 y)[i]? = some q) (hq' : (P.1 y)[i + 1]? = some q') (hpc : q'.1 = q.1 + 1)
    (row : ∀ (H : Heap) (locs : List Loc) (cells slots : Nat) (ls : Array Slot) (rest : List Value) (u : Int32), W p l e R s m args below meth c H locs cells slots Q (F0 m (q.1 + 1) ls (.int (f u) :: rest)) → W p l e R s m args below meth c H locs cells slots Q (F0 m q.1 ls (.int u :: rest)))
    (h : tb_una f i L S w = some (.inl st')) (k : tb_Go P D dA b base Ls xs sa p l e R s m args below meth c Q y w0 st') : tb_Go P D dA b base Ls xs sa p l e R s m args below meth c Q y w0 (i, L, S, w) := by
  unfold tb_una at h
  split at h
  · cases h
    refine tb_g_same hq hq' (fun H locs cells slots ls kk => ?_) k
    rw [hpc] at kk
    exact row H locs cells slots ls _ _ kk
  · cases h
/-- what a local holds -/
theorem tb_ld_at {L : tb_L} {k : Nat} {v : Value} {ls : Array Slot} {nL : Nat} {ad : Nat → Nat} (h : tb_ld L k = some v) (hl : lv_has ls nL (tb_cl2 ad sa L)) : ls[k]? = some (.val (tb_cv ad sa v)) := by
  unfold tb_ld at h
  obtain ⟨r, h1, h2⟩ := Option.map_eq_some_iff.mp h
  have hm := List.mem_of_find?_eq_some h1
  have hk := List.find?_some h1
  have hk : r.1 = k := by simpa using hk
  have := hl.2.2 (r.1, tb_cv ad sa r.2) (List.mem_map.mpr ⟨r, hm, rfl⟩)
  rw [hk, h2] at this
  exact this
theorem tb_cat (ad : Nat → Nat) (v : Value) : (tb_cv ad sa v).category = v.category := by cases v <;> rfl
theorem tb_s1_cv (ad : Nat → Nat) (L : tb_L) (i : Nat) (v : Value) : (i, tb_cv ad sa v) :: (tb_cl2 ad sa L).filter (fun q => !(q.1 == i) && !(q.1 + 1 == i && q.2.category == 2)) = tb_cl2 ad sa (tb_s1 L i v) := by
  unfold tb_s1 tb_cl2
  rw [List.filter_map, List.map_cons]
  congr 2
  exact List.filter_congr (fun q _ => by simp [tb_cat])
theorem tb_s2_cv (ad : Nat → Nat) (L : tb_L) (i : Nat) (v : Value) : (i, tb_cv ad sa v) :: (tb_cl2 ad sa L).filter (fun q => !(q.1 == i) && (!(q.1 == i + 1) && !(q.1 + 1 == i && q.2.category == 2))) = tb_cl2 ad sa (tb_s2 L i v) := by
  unfold tb_s2 tb_cl2
  rw [List.filter_map, List.map_cons]
  congr 2
  exact List.filter_congr (fun q _ => by simp [tb_cat])
theorem tb_g_lod {k t i : Nat} {L : tb_L} {S : List Value} {w : tb_Hp} {q q' : tb_I} {st' : tb_S} (hq : (P.1 y)[i]? = some q) (hq' : (P.1 y)[i + 1]? = some q')
    (rowi : t = 0 → ∀ (H : Heap) (locs : List Loc) (cells slots : Nat) (ls : Array Slot) (rest : List Value) (x : Int32), ls[k]? = some (.val (.int x)) → W p l e R s m args below meth c H locs cells slots Q (F0 m q'.1 ls (.int x :: rest)) → W p l e R s m args below meth c H locs cells slots Q (F0 m q.1 ls rest))
    (rowl : t = 1 → ∀ (H : Heap) (locs : List Loc) (cells slots : Nat) (ls : Array Slot) (rest : List Value) (x : Int64), ls[k]? = some (.val (.long x)) → W p l e R s m args below meth c H locs cells slots Q (F0 m q'.1 ls (.long x :: rest)) → W p l e R s m args below meth c H locs cells slots Q (F0 m q.1 ls rest))
    (rowr : t = 2 → ∀ (H : Heap) (locs : List Loc) (cells slots : Nat) (ls : Array Slot) (rest : List Value) (x : Nat), ls[k]? = some (.val (.ref x)) → W p l e R s m args below meth c H locs cells slots Q (F0 m q'.1 ls (.ref x :: rest)) → W p l e R s m args below meth c H locs cells slots Q (F0 m q.1 ls rest))
    (rown : t = 2 → ∀ (H : Heap) (locs : List Loc) (cells slots : Nat) (ls : Array Slot) (rest : List Value), ls[k]? = some (.val .null) → W p l e R s m args below meth c H locs cells slots Q (F0 m q'.1 ls (.null :: rest)) → W p l e R s m args below meth c H locs cells slots Q (F0 m q.1 ls rest))
    (h : tb_lod k t i L S w = some (.inl st')) (kk : tb_Go P D dA b base Ls xs sa p l e R s m args below meth c Q y w0 st') : tb_Go P D dA b base Ls xs sa p l e R s m args below meth c Q y w0 (i, L, S, w) := by
  intro q0 h0 H locs ls h1 h2 h3
  have e0 : q0 = q := Option.some.inj (h0.symm.trans hq)
  subst e0
  unfold tb_lod at h
  split at h
  · rename_i x hld
    cases h
    exact rowi rfl H locs _ _ ls _ x (tb_ld_at hld h3) (kk q' hq' H locs ls h1 h2 h3)
  · rename_i x hld
    cases h
    exact rowl rfl H locs _ _ ls _ x (tb_ld_at hld h3) (kk q' hq' H locs ls h1 h2 h3)
  · rename_i x hld
    cases h
    exact rowr rfl H locs _ _ ls _ _ (tb_ld_at hld h3) (kk q' hq' H locs ls h1 h2 h3)
  · rename_i hld
    cases h
    exact rown rfl H locs _ _ ls _ (tb_ld_at hld h3) (kk q' hq' H locs ls h1 h2 h3)
  · rename_i x hld
    cases h
    exact rowr rfl H locs _ _ ls _ _ (tb_ld_at hld h3) (kk q' hq' H locs ls h1 h2 h3)
  · cases h
theorem tb_g_sto {k t i : Nat} {L : tb_L} {S : List Value} {w : tb_Hp} {q q' : tb_I} {st' : tb_S} (hq : (P.1 y)[i]? = some q) (hq' : (P.1 y)[i + 1]? = some q')
    (rowi : t = 0 → ∀ (H : Heap) (locs : List Loc) (cells slots : Nat) (ls : Array Slot) (rest : List Value) (x : Int32) (lv lv' : tb_L), lv_has ls (P.2.1 y) lv → k < P.2.1 y → (k, Value.int x) :: lv.filter (fun q => !(q.1 == k) && !(q.1 + 1 == k && q.2.category == 2)) = lv' → (∀ ls' : Array Slot, lv_has ls' (P.2.1 y) lv' → W p l e R s m args below meth c H locs cells slots Q (F0 m q'.1 ls' rest)) → W p l e R s m args below meth c H locs cells slots Q (F0 m q.1 ls (.int x :: rest)))
    (rowl : t = 1 → ∀ (H : Heap) (locs : List Loc) (cells slots : Nat) (ls : Array Slot) (rest : List Value) (x : Int64) (lv lv' : tb_L), lv_has ls (P.2.1 y) lv → k + 1 < P.2.1 y → (k, Value.long x) :: lv.filter (fun q => !(q.1 == k) && (!(q.1 == k + 1) && !(q.1 + 1 == k && q.2.category == 2))) = lv' → (∀ ls' : Array Slot, lv_has ls' (P.2.1 y) lv' → W p l e R s m args below meth c H locs cells slots Q (F0 m q'.1 ls' rest)) → W p l e R s m args below meth c H locs cells slots Q (F0 m q.1 ls (.long x :: rest)))
    (rowr : t = 2 → ∀ (H : Heap) (locs : List Loc) (cells slots : Nat) (ls : Array Slot) (rest : List Value) (x : Nat) (lv lv' : tb_L), lv_has ls (P.2.1 y) lv → k < P.2.1 y → (k, Value.ref x) :: lv.filter (fun q => !(q.1 == k) && !(q.1 + 1 == k && q.2.category == 2)) = lv' → (∀ ls' : Array Slot, lv_has ls' (P.2.1 y) lv' → W p l e R s m args below meth c H locs cells slots Q (F0 m q'.1 ls' rest)) → W p l e R s m args below meth c H locs cells slots Q (F0 m q.1 ls (.ref x :: rest)))
    (rown : t = 2 → ∀ (H : Heap) (locs : List Loc) (cells slots : Nat) (ls : Array Slot) (rest : List Value) (lv lv' : tb_L), lv_has ls (P.2.1 y) lv → k < P.2.1 y → (k, Value.null) :: lv.filter (fun q => !(q.1 == k) && !(q.1 + 1 == k && q.2.category == 2)) = lv' → (∀ ls' : Array Slot, lv_has ls' (P.2.1 y) lv' → W p l e R s m args below meth c H locs cells slots Q (F0 m q'.1 ls' rest)) → W p l e R s m args below meth c H locs cells slots Q (F0 m q.1 ls (.null :: rest)))
    (h : tb_sto (P.2.1 y) k t i L S w = some (.inl st')) (kk : tb_Go P D dA b base Ls xs sa p l e R s m args below meth c Q y w0 st') : tb_Go P D dA b base Ls xs sa p l e R s m args below meth c Q y w0 (i, L, S, w) := by
  intro q0 h0 H locs ls h1 h2 h3
  have e0 : q0 = q := Option.some.inj (h0.symm.trans hq)
  subst e0
  unfold tb_sto at h
  split at h
  · split at h
    · rename_i hlt
      cases h
      exact rowi rfl H locs _ _ ls _ _ _ _ h3 hlt (tb_s1_cv (sa := sa) (tb_ad b base) L k (.int _)) (fun ls' h' => kk q' hq' H locs ls' h1 h2 h')
    · cases h
  · split at h
    · rename_i hlt
      cases h
      exact rowl rfl H locs _ _ ls _ _ _ _ h3 hlt (tb_s2_cv (sa := sa) (tb_ad b base) L k (.long _)) (fun ls' h' => kk q' hq' H locs ls' h1 h2 h')
    · cases h
  · split at h
    · rename_i hlt
      cases h
      exact rowr rfl H locs _ _ ls _ _ _ _ h3 hlt (tb_s1_cv (sa := sa) (tb_ad b base) L k (.ref _)) (fun ls' h' => kk q' hq' H locs ls' h1 h2 h')
    · cases h
  · split at h
    · rename_i hlt
      cases h
      exact rown rfl H locs _ _ ls _ _ _ h3 hlt (tb_s1_cv (sa := sa) (tb_ad b base) L k .null) (fun ls' h' => kk q' hq' H locs ls' h1 h2 h')
    · cases h
  · split at h
    · rename_i hlt
      cases h
      exact rowr rfl H locs _ _ ls _ _ _ _ h3 hlt (tb_s1_cv (sa := sa) (tb_ad b base) L k (.retAddr _)) (fun ls' h' => kk q' hq' H locs ls' h1 h2 h')
    · cases h
  · cases h
end TBG
