/-! ===== The claim: the law's entry by the small machine's run; the rest out of the kit's skeleton ===== -/
theorem tb_nsw : ∀ q ∈ tb_ns, Cond.methodLinkNest q.1 q.2.1 (tb_mi q.2.2).1 "TannerBunting" ∈ lw_tbl := by
  intro q hq
  simp only [tb_ns, List.mem_cons, List.not_mem_nil, or_false] at hq
  rcases hq with rfl | rfl | rfl | rfl
  · exact List.mem_of_getElem? (i := 656) (by decide +kernel)
  · exact List.mem_of_getElem? (i := 730) (by decide +kernel)
  · exact List.mem_of_getElem? (i := 879) (by decide +kernel)
  · exact List.mem_of_getElem? (i := 1202) (by decide +kernel)
theorem tb_scA : ∀ k, k < 20 → lw_tbl[560 + k]? = (tb_sc[k]?).map (fun q => Cond.stringRef q.1 q.2.1 q.2.2) ∧ (tb_sc[k]?).map (fun q => Term.string q.1 q.2.1) = some (tb_tm k) := by decide +kernel
theorem tb_scw : ∀ (k : Nat) (q : String × Nat × String), tb_sc[k]? = some q → k < 20 ∧ tb_tm k = Term.string q.1 q.2.1 ∧ Cond.stringRef q.1 q.2.1 q.2.2 ∈ lw_tbl := by
  intro k q hq
  have hk : k < 20 := by
    rcases Nat.lt_or_ge k 20 with x | x
    · exact x
    · rw [List.getElem?_eq_none (show tb_sc.length ≤ k from x)] at hq; cases hq
  obtain ⟨h1, h2⟩ := tb_scA k hk
  rw [hq] at h1 h2
  exact ⟨hk, (Option.some.inj h2).symm, List.mem_of_getElem? h1⟩
theorem tb_whole {p : Program} {e : Env} {s : State} {m : MethodId} {below : List Frame} {meth : Method} {c : Code} (l : Launch) {b L : Nat} {xs : Nat → Int32} (hL : L ≤ 3072) (C0 : tb_At p s m meth c b L xs) : W p l e room_1 s m #[Value.ref b] below meth c s.heap [] 0 0 (lw_Z below #[Value.ref b] s) (entryFrame m ([Value.ref b] : List Value).toArray 4) := by
  obtain ⟨w', hw, hc, hs⟩ := pu_whole (xs := xs) hL
  have hrun := dc_lw_law hw
  have C1 := C0
  obtain ⟨hx, hb, hr, hml, hown, hts, hXX, hbs, hlk, hgv, hnm⟩ := C1
  have htw : ∀ w ∈ tb_Tw, w.before #[Value.ref b] s = true := fun w hw => hts w (List.mem_filter.mp hw).1
  obtain ⟨D, dA, hK⟩ := tb_known hts htw
  have hg : ∀ c ∈ tb_gv, c.before #[Value.ref b] s = true := flat_of_before _ hgv
  have hA : ∀ a : Nat, a < s.heap.size → ¬ tb_A s.heap.size a := fun a h1 h2 => absurd h1 (Nat.not_lt.mpr h2)
  obtain ⟨sa, adV, hS, hev⟩ := vk_Sof (args := #[Value.ref b]) (s := s) (N := 20) (tm := tb_tm) (len := tb_len) (byt := tb_byt) (A := tb_A s.heap.size) (fun i hi => by have := (tb_lenE i hi).2.2; omega) (fun i hi => hg _ (tb_g1 i hi)) (fun i hi => hg _ (tb_g2 i hi)) (fun i hi => hg _ (tb_g3 i hi)) (fun i hi => hg _ (tb_g4 i hi)) (fun i hi j hj => hg _ (tb_g5 i hi j hj)) (fun i j hi hj hij => by
    rcases Nat.lt_or_gt_of_ne hij with h | h
    · exact Or.inl (hg _ (tb_g6 j hj i h))
    · exact Or.inr (hg _ (tb_g6 i hi j h))) hA
  have hX : tb_X sa adV s.heap.size s := ⟨⟨hS, va_Zof (hts _ (List.mem_of_getElem? (i := 593) (by decide +kernel))) (hts _ (List.mem_of_getElem? (i := 136) (by decide +kernel))) (va_eqt (hg _ tb_g7.1)) hA, va_Zqof (hts _ (List.mem_of_getElem? (i := 609) (by decide +kernel))) (hts _ (List.mem_of_getElem? (i := 138) (by decide +kernel))) (hg _ tb_g7.2) hA⟩, ⟨va_AO.of (hts _ (List.mem_of_getElem? (i := 351) (by decide +kernel))), va_AO.of (hts _ (List.mem_of_getElem? (i := 359) (by decide +kernel))), hts (.arrayOver (.array .int)) (List.mem_of_getElem? (i := 296) (by decide +kernel))⟩, fun q hq => va_Nw.of rfl (hts _ (tb_nsw q hq)), fun k q hq => vk_R.of (hts _ (tb_scw k q hq).2.2) (by rw [← (tb_scw k q hq).2.1]; exact hev k (tb_scw k q hq).1)⟩
  exact tb_start tb_hP1 tb_hP2 C0 hK hX (fun u U h h1 h2 => h.same h1 h2) tb_X.ok (fun s h => h.2.1) (fun s h => h.2.2.2) (fun s h => h.2.2.1) (tb_text (fun s h => h.1)) hrun (by decide) hc hs
set_option maxHeartbeats 4000000 in
theorem lw_walk (l : Launch) (hflags : l.flags = flags0) (b : Addr) (xs : List Int32) : MetFree l x (headSpec (Jvm.Cond.code x code maxLocals ret :: tables_1) room_1) (lw_P b xs) (fun _ _ _ _ _ => True) lw_Q := by
  refine MetFree.of_bodyS (code := code) (maxLocals := maxLocals) (ret := ret) (by decide) ?_ ?_
  · intro args s m h hn
    obtain ⟨meth, c, h1, h2, h3, h4, h5, h6, -, -⟩ := Cond.code_spec hn (atoms_spec (ws := Jvm.Cond.code x code maxLocals ret :: tables_1) h _ List.mem_cons_self)
    exact ⟨meth, c, h1, h2, h3, h4, h5, h6⟩
  · intro p e s m args below meth c s₁ B hml0 hP _
    obtain ⟨rfl, hx, hbd, hgv⟩ := hP
    obtain ⟨scr, harrAt, hlist, hof, hsmall⟩ := hx
    obtain ⟨hcb, hkn, -, -⟩ := State.arrayAt?_spec harrAt
    have hown : s.vm.findClass R_law = some m.cls := findClass_of_methodNamed B.named
    have hts0 : ∀ c ∈ (Jvm.Cond.code x code maxLocals ret :: tables_1), c.before #[Value.ref b] s = true := atoms_spec (ws := Jvm.Cond.code x code maxLocals ret :: tables_1) B.pre
    have hts : ∀ w ∈ lw_tbl, w.before #[Value.ref b] s = true := k2_hts_sels lw_privs (fun w hw => hts0 w (List.mem_cons_of_mem _ hw)) lw_privs_ok
    have hml : c.maxLocals = 4 := B.maxLocals_eq (hts0 _ List.mem_cons_self)
    have X₀ : Stand p l e room_1 s m #[Value.ref b] below meth c s₁ [] 0 0 := Stand.of_body B
    have hh0 : s₁.heap = s.heap := by rw [B.state]; rfl
    have hsz : scr.slots.size = xs.length := by rw [← Array.length_toList, hlist, List.length_map]
    have hval : ∀ j : Nat, j < xs.length → scr.slots[j]? = some (.int (xs.getD j 0)) := fun j hj => by
      rw [← Array.getElem?_toList, hlist]
      simp [hj]
    have hbl : b < s.heap.size := (Array.getElem?_eq_some_iff.mp hcb).1
    have hX : va_X b xs.length (fun j => xs.getD j 0) s s.heap := ⟨scr, hcb, hof, hkn, hsz, hval⟩
    have K : W p l e room_1 s m #[Value.ref b] below meth c s₁.heap [] 0 0 (lw_Z below #[Value.ref b] s) (entryFrame m ([Value.ref b] : List Value).toArray 4) := by
      rw [hh0]
      exact tb_whole l hbd ⟨B.exec, B.bytes, B.returns, hml, hown, hts, hX, hbl, B.notSynchronized, hgv, (name_of_methodNamed B.named B.method).1⟩
    obtain ⟨t, a1, o, b1, b2, b3⟩ := K s₁ rfl X₀
    exact ⟨t, o, a1, b1, b2, b3⟩
theorem lw_pre_spec {args : Array Value} {s : State} (h : (Jvm.Cond.and given_1 narrow_1).before args s = true) (hr : rest_1_c.before args s = true) : ∃ (b : Addr) (xs : List Int32), lw_P b xs args s := by
  have hs := flat_of_before _ h
  have hq := flat_of_before _ hr
  have hc : (Cond.count 1).before args s = true := hs _ (by decide +kernel)
  have harr : (Cond.arrayOf (.arg 0) .int).before args s = true := hs _ (by decide +kernel)
  have hle : (Cond.le (.length (.arg 0)) (.int 3072)).before args s = true := hs _ (by decide +kernel)
  have hlen : (Cond.isInt (.length (.arg 0))).before args s = true := hq _ (by decide +kernel)
  have hall : (Cond.all (.arg 0) (.isInt (.elem (.arg 0) (.index 0)))).before args s = true := hq _ (by decide +kernel)
  obtain ⟨b, xs, hb, hx⟩ := State.ints_of_pre rfl harr hlen hall
  have hsm : xs.length < 2 ^ 31 := hx.choose_spec.2.2.2
  have hev : (Term.length (.arg 0)).eval args s none [] s = some (.int xs.length.toInt32) := hx.length_eval hb
  have hv := Cond.le_ints hev (show (Term.int 3072).eval args s none [] s = some (.int 3072) from rfl)
  have hd : xs.length.toInt32 ≤ 3072 := by
    simpa [Cond.before, Cond.holds, hv] using hle
  have hN : xs.length ≤ 3072 := (Int32.ofNat_le_ofNat hsm (by decide)).mp (show Int32.ofNat xs.length ≤ Int32.ofNat 3072 from hd)
  exact ⟨b, xs, Cond.one_arg hc (show args[0]? = some (.ref b) from hb), hx, hN, h⟩
theorem lw_comes (l : Launch) (hflags : l.flags = flags0) : Comes l x (Jvm.Cond.code x code maxLocals ret :: tables_1) room_1 (fun tb e args s => Calls_1 tb e args s ∧ rest_1 tb e args s ∧ Pre_1 tb e args s)
    (fun _ _ args s o t => lw_Q args s o t) := by
  intro p e ha hc hk s m args below hf hfit hheap happ hpre
  obtain ⟨b, xs, hP⟩ := lw_pre_spec hpre.2.2 hpre.2.1
  obtain ⟨k, o, h1, h2, h3, hQ⟩ := lw_walk l hflags b xs p e ha hc hk s m args below hf ((Spec.applies_iff_loose hf).mp happ).1 hP trivial
  exact ⟨k, o, h1, h2, h3, hQ⟩
theorem lw_frame {s t : State} {o : Outcome} {args : Array Value} (h : Framed s o t [] 600000 7302250) :
    Framed s o t (fieldLocs frame_1_writes args s ++ arrayLocs frame_1_arrays args s ++ staticLocs frame_1_statics s) 600000 7302250 := h
theorem lw_limb (L : Cond) (hL : ∀ (args : Array Value) (s t : State), L.after args s (.returned (some (.int 1))) t = true) :
    ArmFor flags0 classFile x code maxLocals ret World_1 tables_1 room_1 Calls_1 rest_1 Pre_1
      (fun tb e a s o t => postC L tb e a s o t ∧ Framed s o t (fieldLocs frame_1_writes a s ++ arrayLocs frame_1_arrays a s ++ staticLocs frame_1_statics s) 600000 7302250) := by
  intro l hflags _ _ p e ha hc hk s m args below hf hfit hheap happ hpre
  obtain ⟨k, o, h1, h2, h3, rfl, hF⟩ := lw_comes l hflags p e ha hc hk s m args below hf hfit hheap happ hpre
  exact ⟨k, _, h1, h2, h3, hL args s _, lw_frame hF⟩
theorem i_vc : Claimed_1_1 ∧ Claimed_1_2 := ⟨lw_limb limb_1_1 (fun args s t => by simp [limb_1_1, Cond.after, Cond.holds, Cond.value]), lw_limb limb_1_2 (fun args s t => Cond.after_iff.mpr (by
  first | (rw [show limb_1_2 = Cond.eq .result (.int 1) from rfl, Cond.eq_ints (x := 1) (y := 1) rfl rfl]; simp; done) | (simp [limb_1_2, Cond.value, Term.eval]; done)))⟩
