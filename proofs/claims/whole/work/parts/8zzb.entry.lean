/-! ===== What holds at the law's entry ===== -/
theorem tb_AOA.moved {u U : State} (hvm : u.vm.Alike U.vm) (h : tb_AOA u) : tb_AOA U := by
  have h2 : (Cond.arrayOver (.array .int)).before #[] (u.setVm U.vm) = true := by rw [Cond.arrayOver_setVmC hvm]; exact h
  unfold tb_AOA
  unfold Cond.before Cond.holds at h2 ⊢
  simp only [Cond.value] at h2 ⊢
  exact h2
/-- what every state of the run keeps -/
def tb_X (sa adV : Nat → Nat) (base : Nat) (U : State) : Prop := tb_St 20 tb_len tb_byt sa adV base U ∧ (va_AO "TannerBunting$Scene" U ∧ va_AO "TannerBunting$Street" U ∧ tb_AOA U) ∧ (∀ q ∈ tb_ns, va_Nw (.methodLinkNest q.1 q.2.1 (tb_mi q.2.2).1 "TannerBunting") U) ∧ (∀ (k : Nat) (q : String × Nat × String), tb_sc[k]? = some q → vk_R q.1 q.2.1 q.2.2 (sa k) U)
theorem tb_X.same {sa adV : Nat → Nat} {base : Nat} {u U : State} (h : tb_X sa adV base u) (hv : u.vm = U.vm) (hh : u.heap = U.heap) : tb_X sa adV base U := by
  have al : u.vm.Alike U.vm := by rw [hv]; exact Vm.Alike.refl _
  obtain ⟨h1, ⟨h2, h3, h4⟩, h5, h6⟩ := h
  exact ⟨h1.to al (fun a _ _ => by rw [hh]), ⟨h2.moved al, h3.moved al, h4.moved al⟩, fun q hq => (h5 q hq).same rfl hv, fun k q hq => (h6 k q hq).same hv.symm⟩
theorem tb_X.ok {sa adV : Nat → Nat} {base : Nat} : tb_Xok (tb_X sa adV base) base := by
  intro u U h hW hs hh
  obtain ⟨h1, ⟨h2, h3, h4⟩, h5, h6⟩ := h
  exact ⟨h1.to hW.alike hh, ⟨h2.moved hW.alike, h3.moved hW.alike, h4.moved hW.alike⟩, fun q hq => (h5 q hq).warmM hW, fun k q hq => (h6 k q hq).warm hW⟩
theorem tb_inst : ∀ (c : Nat) (q : vw_C), tb_cl[c]? = some q → Cond.instantiable q.1 q.2.2 ∈ tb_Tw := by
  intro c q h
  match c, h with
  | 0, h => cases h; exact tb_wd_ok (k := 386) (by decide +kernel)
  | 1, h => cases h; exact tb_wd_ok (k := 372) (by decide +kernel)
  | 2, h => cases h; exact tb_wd_ok (k := 306) (by decide +kernel)
  | 3, h => cases h; exact tb_wd_ok (k := 353) (by decide +kernel)
  | 4, h => cases h; exact tb_wd_ok (k := 277) (by decide +kernel)
  | 5, h => cases h; exact tb_wd_ok (k := 298) (by decide +kernel)
  | 6, h => cases h; exact tb_wd_ok (k := 442) (by decide +kernel)
  | 7, h => cases h; exact tb_wd_ok (k := 203) (by decide +kernel)
  | 8, h => cases h; exact tb_wd_ok (k := 197) (by decide +kernel)
  | 9, h => cases h; exact tb_wd_ok (k := 152) (by decide +kernel)
  | 10, h => cases h; exact tb_wd_ok (k := 404) (by decide +kernel)
  | 11, h => cases h; exact tb_wd_ok (k := 144) (by decide +kernel)
  | 12, h => cases h; exact tb_wd_ok (k := 1270) (by decide +kernel)
  | n + 13, h => simp [tb_cl] at h
theorem tb_known {s : State} {args : Array Value} (hts0 : ∀ w ∈ lw_tbl, w.before args s = true) (hts : ∀ w ∈ tb_Tw, w.before args s = true) : ∃ (D : va_G) (dA : Nat → ClassId), va_K D tb_cl (tb_tys dA) s := by
  have h0 : ∀ c : Nat, ∃ d : ClassId × (Nat → Nat), ∀ q, tb_cl[c]? = some q → u_Kn s q.1 q.2.1 q.2.2 d.1 d.2 := by
    intro c
    cases hc : tb_cl[c]? with
    | none => exact ⟨(0, fun _ => 0), fun q h => by cases h⟩
    | some q =>
      obtain ⟨cC, iS, hK⟩ := u_known hts (tb_clok c q hc).1 (hts _ (tb_inst c q hc))
      exact ⟨(cC, iS), fun q' h => by cases h; exact hK⟩
  obtain ⟨d, hd⟩ := Classical.axiomOfChoice h0
  obtain ⟨c0, k0, p0, a0, b0, e0⟩ := Cond.arrayClass_spec (hts (.arrayClass .byte) (tb_wd_ok (k := 710) (by decide +kernel)))
  obtain ⟨c1, k1, p1, a1, b1, e1⟩ := Cond.arrayClass_spec (hts (.arrayClass .int) (tb_wd_ok (k := 195) (by decide +kernel)))
  obtain ⟨c2, k2, p2, a2, b2, e2⟩ := Cond.arrayClass_spec (hts (.arrayClass .long) (tb_wd_ok (k := 384) (by decide +kernel)))
  obtain ⟨c3, k3, p3, a3, b3, e3⟩ := Cond.arrayClass_spec (hts (.arrayClass .boolean) (tb_wd_ok (k := 1384) (by decide +kernel)))
  obtain ⟨p4, c4, k4, f4, g4, b4, e4, a4⟩ := arrayOverA_spec (hts0 (.arrayOver (.array .int)) (List.mem_of_getElem? (i := 296) (by decide +kernel)))
  obtain ⟨p5, c5, k5, f5, g5, b5, e5, a5⟩ := Cond.arrayOver_spec (hts0 (.arrayOver (.object "TannerBunting$Scene")) (List.mem_of_getElem? (i := 351) (by decide +kernel)))
  obtain ⟨p6, c6, k6, f6, g6, b6, e6, a6⟩ := Cond.arrayOver_spec (hts0 (.arrayOver (.object "TannerBunting$Street")) (List.mem_of_getElem? (i := 359) (by decide +kernel)))
  refine ⟨(fun c => (d c).1, fun c => (d c).2), fun k => ([c0, c1, c2, c3, c4, c5, c6] : List ClassId).getD k c0, fun c q h => hd c q h, ?_⟩
  intro k q hq
  match k, hq with
  | 0, hq => cases hq; exact ⟨fun N z => ⟨(fun k h => by cases h), k0, b0, p0, e0⟩, a0⟩
  | 1, hq => cases hq; exact ⟨fun N z => ⟨(fun k h => by cases h), k1, b1, p1, e1⟩, a1⟩
  | 2, hq => cases hq; exact ⟨fun N z => ⟨(fun k h => by cases h), k2, b2, p2, e2⟩, a2⟩
  | 3, hq => cases hq; exact ⟨fun N z => ⟨(fun k h => by cases h), k3, b3, p3, e3⟩, a3⟩
  | 4, hq => cases hq; exact ⟨fun N z => ⟨(fun k h => by cases h), k4, b4, p4, e4⟩, a4⟩
  | 5, hq => cases hq; exact ⟨fun N z => ⟨(fun k h => by cases h), k5, b5, p5, e5⟩, k5, p5, b5, e5, f5, a5⟩
  | 6, hq => cases hq; exact ⟨fun N z => ⟨(fun k h => by cases h), k6, b6, p6, e6⟩, k6, p6, b6, e6, f6, a6⟩
  | n + 7, hq => simp [tb_tys] at hq
