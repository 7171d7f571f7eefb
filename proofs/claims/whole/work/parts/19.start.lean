/-! ===== The law's entry, by a run of the small machine ===== -/
def R_law : String := "TannerBuntingLaw"
def lw_P (b : Addr) (xs : List Int32) (args : Array Value) (s : State) : Prop := args = #[.ref b] ∧ s.IntsAt b xs ∧ xs.length ≤ 3072 ∧ (Jvm.Cond.and given_1 narrow_1).before args s = true
def lw_Q (_ : Array Value) (s : State) (o : Outcome) (t : State) : Prop := o = .returned (some (.int 1)) ∧ Framed s o t [] room_1.cells room_1.slots
def lw_Z (below : List Frame) (a : Array Value) (s : State) : State → Prop := fun t => ∃ o, t.status = .running ∧ Ended t below o ∧ lw_Q a s o t
/-- what holds at the law's entry; the method's own name with it -/
def tb_At (p : Program) (s : State) (m : MethodId) (meth : Method) (c : Code) (b L : Nat) (xs : Nat → Int32) : Prop :=
  p.tables.exec = Jvm.exec ∧ c.code = code ∧ meth.sig.returnType = ret ∧ c.maxLocals = 4 ∧ s.vm.findClass R_law = some m.cls ∧ (∀ w ∈ lw_tbl, w.before #[Value.ref b] s = true) ∧ va_X b L xs s s.heap ∧ b < s.heap.size ∧ meth.locks = false ∧ (Jvm.Cond.and given_1 narrow_1).before #[Value.ref b] s = true ∧ meth.name = x.name
def tb_w0 (L : Nat) (xs : Nat → Int32) : tb_Hp := ([(9, L)], fun p => if p = 0 then xs else fun _ => 0, fun _ _ => 0, fun _ _ => none)
theorem tb_Rel0 {D : va_G} {dA : Nat → ClassId} {b L : Nat} {xs : Nat → Int32} {sa : Nat → Nat} {H : Heap} : tb_Rel D dA b H.size L xs sa (tb_w0 L xs) H := by
  refine ⟨?_, rfl, rfl, rfl⟩
  intro k q hq
  cases hq
theorem tb_start {X : State → Prop} {D : va_G} {dA : Nat → ClassId} {b L : Nat} {xs : Nat → Int32} {sa : Nat → Nat} {l : Launch} {p : Program} {e : Env} {s : State} {m : MethodId} {below : List Frame} {meth : Method} {c : Code}
    (hP1 : ∀ (y i : Nat) (q : tb_I), (tb_P.1 y)[i]? = some q → tb_okI tb_mi tb_sc tb_ns (tb_P.1 y) y i q = true) (hP2 : ∀ (y i : Nat) (q : tb_I), (tb_P.1 y)[i]? = some q → tb_okM tb_P tb_mi y)
    (C0 : tb_At p s m meth c b L xs) (hK : va_K D tb_cl (tb_tys dA) s) (hX : X s)
    (hX1 : ∀ u U : State, X u → u.vm = U.vm → u.heap = U.heap → X U) (hX2 : tb_Xok X s.heap.size) (hXo : ∀ s, X s → va_AO "TannerBunting$Scene" s ∧ va_AO "TannerBunting$Street" s ∧ tb_AOA s) (hXs : ∀ s, X s → ∀ (k : Nat) (q : String × Nat × String), tb_sc[k]? = some q → vk_R q.1 q.2.1 q.2.2 (sa k) s) (hXn : ∀ s, X s → ∀ q ∈ tb_ns, va_Nw (.methodLinkNest q.1 q.2.1 (tb_mi q.2.2).1 "TannerBunting") s) (hTX : tb_TX X tb_P tb_mi tb_sc tb_ns D dA b s.heap.size L xs sa l)
    {d : Nat} {w' : tb_Hp} (hrun : tb_Ev tb_P d tb_ly (0, tb_ent [.ref 0], [], tb_w0 L xs) (some (.int 1), w')) (hd : d < 1000) (hc : w'.1.length ≤ 2000) (hs : tb_sum w' ≤ 200000) :
    W p l e room_1 s m #[Value.ref b] below meth c s.heap [] 0 0 (lw_Z below #[Value.ref b] s) (entryFrame m ([Value.ref b] : List Value).toArray 4) := by
  obtain ⟨hx, hb, hr, hml, hown, hts, hXX, hbs, hlk, hgv, hnm⟩ := C0
  obtain ⟨n, hn⟩ := hrun
  have hrs : 200000 ≤ room_1.slots := by decide
  have hrc : 2000 ≤ room_1.cells := by decide
  have C : tb_cx X tb_mi D dA b s.heap.size L xs p s m #[Value.ref b] meth c tb_ly := ⟨hx, hb, hml, hr, hlk, hown, fun w hw => hts w (List.mem_filter.mp hw).1, ⟨hK, hXX⟩, hnm, hbs, Nat.le_refl _, hX⟩
  have g := tb_sound hbs hP1 hP2 ⟨rfl, rfl, rfl⟩ hX1 hX2 hXo hXs hXn hTX n d tb_ly _ _ hn p e room_1 s m #[Value.ref b] below meth c (tb_w0 L xs) C ⟨by show d + 6 ≤ 2048; omega, by show 60 * (d + 6) ≤ 84000; omega, by show w'.1.length - _ ≤ room_1.cells; exact Nat.le_trans (Nat.sub_le _ _) (Nat.le_trans hc hrc), by show tb_sum w' - _ ≤ room_1.slots; exact Nat.le_trans (Nat.sub_le _ _) (Nat.le_trans hs hrs)⟩ (tb_gr.rf _)
  have hl := lv_entry ([Value.ref b] : List Value) (n := 4) (show 1 ≤ 4 by decide)
  rw [lg_entry_eq]
  generalize (lg_sl ([Value.ref b] : List Value) ++ List.replicate (4 - (lg_sl ([Value.ref b] : List Value)).length) Slot.unset).toArray = ls at hl ⊢
  obtain ⟨q, hq, hq0⟩ := (hP2 tb_ly 0 _ rfl).1
  have g2 := g q hq s.heap [] ls tb_Rel0 va_S.rf hl
  rw [hq0] at g2
  simp only [Nat.sub_self] at g2
  intro T hT X0
  obtain ⟨t, a1, o, b1, b2, ⟨e1, -, -⟩, L1, ⟨f1, f2, f3⟩, hfree⟩ := g2 T hT X0
  exact ⟨t, a1, o, b1, b2, e1, f1, f2, f3.weaken (fun y hy hlt => absurd hlt (Nat.not_lt.mpr (hfree y hy))) (by omega) (by omega)⟩
