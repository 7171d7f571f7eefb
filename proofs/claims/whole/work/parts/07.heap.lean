/-! ===== Switches; instructions that read or write the heap ===== -/
theorem tb_lks_ok {cd : List tb_I} {pc : Nat} {d : Int} {t0 : Nat} {q0 : tb_I} (h0 : cd[t0]? = some q0) (h0' : (pc : Int) + d = (q0.1 : Int)) (x : Int) : ∀ (ps : List (Int × Int)) (ts : List Nat), ts.length = (ps.map Prod.snd).length → (ts.zip (ps.map Prod.snd)).all (fun q => tb_atj cd q.1 pc q.2) = true → ∃ q, cd[tb_lks ps ts t0 x]? = some q ∧ (pc : Int) + Op.lookupswitch.offset ps d x = (q.1 : Int) := by
  intro ps
  induction ps with
  | nil =>
    intro ts _ _
    cases ts <;> exact ⟨q0, h0, h0'⟩
  | cons a ps ih =>
    intro ts hl ha
    obtain ⟨a1, a2⟩ := a
    cases ts with
    | nil => simp at hl
    | cons t ts =>
      simp only [List.map_cons, List.zip_cons_cons, List.all_cons, Bool.and_eq_true] at ha
      simp only [List.map_cons, List.length_cons, Nat.add_right_cancel_iff] at hl
      unfold tb_lks Op.lookupswitch.offset
      by_cases hx : a1 = x
      · rw [if_pos hx, if_pos hx]
        exact tb_atj_ok ha.1
      · rw [if_neg hx, if_neg hx]
        exact ih ts hl ha.2
theorem tb_zipAt {cd : List tb_I} {pc : Nat} : ∀ (ts : List Nat) (os : List Int), ts.length = os.length → (ts.zip os).all (fun q => tb_atj cd q.1 pc q.2) = true → ∀ (j : Nat) (o : Int), os[j]? = some o → ∀ d : Nat, ∃ q, cd[ts.getD j d]? = some q ∧ (pc : Int) + o = (q.1 : Int) := by
  intro ts
  induction ts with
  | nil =>
    intro os hl _ j o ho
    cases os with
    | nil => simp at ho
    | cons _ _ => simp at hl
  | cons t ts ih =>
    intro os hl ha j o ho d
    cases os with
    | nil => simp at hl
    | cons o1 os =>
      simp only [List.zip_cons_cons, List.all_cons, Bool.and_eq_true] at ha
      cases j with
      | zero =>
        simp at ho
        subst ho
        exact tb_atj_ok ha.1
      | succ j => exact ih os (by simpa using hl) ha.2 j o (by simpa using ho) d
theorem tb_okSw_ok {cd : List tb_I} {pc : Nat} {res : List Nat} {d : Int} {offs : List Int} (h : tb_okSw cd pc res d offs = true) : ∃ t ts q, res = t :: ts ∧ cd[t]? = some q ∧ (pc : Int) + d = (q.1 : Int) ∧ ts.length = offs.length ∧ (ts.zip offs).all (fun q => tb_atj cd q.1 pc q.2) = true := by
  unfold tb_okSw at h
  split at h
  · simp only [Bool.and_eq_true, decide_eq_true_eq] at h
    obtain ⟨q, h1, h2⟩ := tb_atj_ok h.1.1
    exact ⟨_, _, q, rfl, h1, h2, h.1.2, h.2⟩
  · cases h
theorem tb_okF_ok {own : String} {x : Nat} {res ps : List Nat} {put : Bool} {nm : String} (h : tb_okF own x res ps put nm = true) : ∃ (k f t : Nat) (r : vw_C), res = [k, f, t] ∧ 10 ≤ k ∧ tb_cl[k - 10]? = some r ∧ f < r.2.2 ∧ Cond.fieldLink own x r.1 (r.2.1 f).2.1 (r.2.1 f).2.2.1 ∈ tb_Tw ∧ t = tb_sk (tb_tyk (k - 10) f) ∧ (put = true → (t = 0 → tb_tyk (k - 10) f = .int) ∧ ((r.2.1 f).2.2.2 = true → nm = "<init>" ∧ r.1 = own)) := by
  unfold tb_okF at h
  split at h
  · rename_i k f t j
    rw [Bool.and_eq_true, decide_eq_true_eq] at h
    obtain ⟨h1, h2⟩ := h
    split at h2
    · rename_i r hr
      simp only [Bool.and_eq_true, decide_eq_true_eq] at h2
      obtain ⟨⟨⟨g1, g2⟩, g3⟩, g4⟩ := h2
      refine ⟨k, f, t, r, rfl, h1, hr, g1, tb_wd_ok g2, g3, fun hp => ?_⟩
      rw [hp] at g4
      simp only [Bool.not_true, Bool.false_or, Bool.and_eq_true, Bool.or_eq_true, Bool.not_eq_true', decide_eq_true_eq, bne_iff_ne] at g4
      refine ⟨fun ht => ?_, fun hf => ?_⟩
      · rcases g4.1 with z | z
        · exact absurd ht z
        · exact z
      · rcases g4.2 with z | z
        · rw [hf] at z; cases z
        · exact z
    · cases h2
  · cases h
theorem tb_kd_at {w : tb_Hp} {p k : Nat} (h : (tb_kd w p == some k) = true) : ∃ n, w.1[p]? = some (k, n) := by
  have h := eq_of_beq h
  unfold tb_kd at h
  obtain ⟨q, h1, h2⟩ := Option.map_eq_some_iff.mp h
  exact ⟨q.2, by rw [h1, ← h2]⟩
theorem tb_pos {w : tb_Hp} {p k n Ls : Nat} (h : w.1[p]? = some (k, n)) (h0 : w.1[0]? = some (9, Ls)) (hk : k ≠ 9) : ∃ j, p = j + 1 := by
  cases p with
  | zero =>
    rw [h0] at h
    cases h
    exact absurd rfl hk
  | succ j => exact ⟨j, rfl⟩
theorem tb_map_set {N f : Nat} {g g' : Nat → Value} {v : Value} (hv : g' f = v) (ho : ∀ j, j ≠ f → g' j = g j) : ((List.range N).map g).set f v = (List.range N).map g' := by
  apply List.ext_getElem?
  intro j
  by_cases hj : j = f
  · subst hj
    by_cases hl : j < N
    · rw [List.getElem?_set_self (by simpa using hl), List.getElem?_map, List.getElem?_range hl, Option.map_some, hv]
    · rw [List.getElem?_eq_none (by simpa using Nat.le_of_not_lt hl), List.getElem?_eq_none (by simpa using Nat.le_of_not_lt hl)]
  · rw [List.getElem?_set_ne (fun e => hj e.symm), List.getElem?_map, List.getElem?_map]
    by_cases hl : j < N
    · rw [List.getElem?_range hl, Option.map_some, Option.map_some, ho j hj]
    · rw [List.getElem?_eq_none (by simpa using Nat.le_of_not_lt hl)]
      rfl
/-- one cell of the world changed -/
theorem tb_rel_set {D : va_G} {dA : Nat → ClassId} {b base Ls : Nat} {xs : Nat → Int32} {sa : Nat → Nat} {w w' : tb_Hp} {j : Nat} {q : Nat × Nat} {H H' : Heap} (hsh : w.1[j + 1]? = some q) (hs1 : w'.1 = w.1) (ho : ∀ z, z ≠ j + 1 → w'.2.1 z = w.2.1 z ∧ w'.2.2.1 z = w.2.2.1 z ∧ w'.2.2.2 z = w.2.2.2 z)
    (hR : tb_Rel D dA b base Ls xs sa w H) (hz : H'.size = H.size) (hoth : ∀ z : Nat, z ≠ base + j → H'[z]? = H[z]?) (hat : va_at D tb_cl (base + j, tb_cell dA (tb_ad b base) sa w' (j + 1) q) H') : tb_Rel D dA b base Ls xs sa w' H' := by
  refine ⟨?_, by rw [hz, hs1]; exact hR.2.1, by rw [hs1]; exact hR.2.2.1, by rw [(ho 0 (by omega)).1]; exact hR.2.2.2⟩
  rw [← tb_ws_set (dA := dA) (b := b) (base := base) (sa := sa) hsh hs1 ho]
  exact hR.1.set tb_ws_D (tb_ws_get hsh) hat hoth
theorem tb_nar_ref {t : FieldType} (h : tb_sk t = 2) (a : Nat) : narrow t (.ref a) = .ref a ∧ fits t (.ref a) = true := by
  cases t <;> simp [tb_sk] at h <;> exact ⟨rfl, rfl⟩
theorem tb_nar_long {t : FieldType} (h : tb_sk t = 1) (x : Int64) : narrow t (.long x) = .long x ∧ fits t (.long x) = true := by
  cases t <;> simp [tb_sk] at h <;> exact ⟨rfl, rfl⟩
section TBH
variable {X : State → Prop} {P : tb_Pg} {mi : tb_Mi} {sc : tb_Sc} {ns : List (String × Nat × Nat)} {D : va_G} {dA : Nat → ClassId} {b base Ls : Nat} {xs : Nat → Int32} {sa : Nat → Nat}
variable {p : Program} {l : Launch} {e : Env} {R : Room} {s : State} {m : MethodId} {args : Array Value} {below : List Frame} {meth : Method} {c : Code} {Q : State → Prop} {y : Nat} {w0 : tb_Hp}
variable {i pc len : Nat} {res ps : List Nat} {val : Value} {L : tb_L} {S : List Value} {w : tb_Hp} {st' : tb_S}
theorem tb_x_tableswitch {d lo hi : Int} {offs : Array Int} (C : tb_cx X mi D dA b base Ls xs p s m args meth c y) (hq : (P.1 y)[i]? = some (pc, (.tableswitch d lo hi offs), len, res, val, ps)) (hok : tb_okI mi sc ns (P.1 y) y i (pc, (.tableswitch d lo hi offs), len, res, val, ps) = true)
    (hst : tb_step P.2.2.1 P.2.2.2 (P.2.1 y) (.tableswitch d lo hi offs) res val i L S w = some (.inl st')) (k : tb_Go P D dA b base Ls xs sa p l e R s m args below meth c Q y w0 st') : tb_Go P D dA b base Ls xs sa p l e R s m args below meth c Q y w0 (i, L, S, w) := by
  obtain ⟨hx, hb, hml, hr, hlk, hown, hts, hK, hnm, hbb, hbs, hX⟩ := C
  obtain ⟨hd, hsw, hhi⟩ : decode (mi y).2.1 pc = .ok ((.tableswitch d lo hi offs), len) ∧ tb_okSw (P.1 y) pc res d offs.toList = true ∧ hi - lo + 1 = (offs.toList.length : Int) := by simpa [tb_okI, tb_okJ] using hok
  obtain ⟨t, ts, qd, rfl, hqd, hpd, hlen, hall⟩ := tb_okSw_ok hsw
  simp only [tb_step] at hst
  split at hst
  · rename_i t2 ts2 x S2 hres
    cases hres
    cases hst
    unfold tb_tsw at k
    by_cases hz : x.toInt < lo ∨ hi < x.toInt
    · rw [if_pos hz] at k
      exact tb_g_same hq hqd (fun H locs cells slots ls kk => lv_tableOut hx hb hd hz hpd kk) k
    · rw [if_neg hz] at k
      have hz1 : ¬ x.toInt < lo := fun g => hz (Or.inl g)
      have hz2 : ¬ hi < x.toInt := fun g => hz (Or.inr g)
      have hjl : (x.toInt - lo).toNat < offs.toList.length := by omega
      obtain ⟨o, ho⟩ : ∃ o, offs.toList[(x.toInt - lo).toNat]? = some o := ⟨_, List.getElem?_eq_getElem hjl⟩
      obtain ⟨qt, hqt, hpt⟩ := tb_zipAt ts offs.toList hlen hall _ o ho t
      exact tb_g_same hq hqt (fun H locs cells slots ls kk => lv_tableIn hx hb hd hz1 hz2 (by rw [← ho, Array.getElem?_toList]) hpt kk) k
  · cases hst
theorem tb_x_lookupswitch {d : Int} {prs : Array (Int × Int)} (C : tb_cx X mi D dA b base Ls xs p s m args meth c y) (hq : (P.1 y)[i]? = some (pc, (.lookupswitch d prs), len, res, val, ps)) (hok : tb_okI mi sc ns (P.1 y) y i (pc, (.lookupswitch d prs), len, res, val, ps) = true)
    (hst : tb_step P.2.2.1 P.2.2.2 (P.2.1 y) (.lookupswitch d prs) res val i L S w = some (.inl st')) (k : tb_Go P D dA b base Ls xs sa p l e R s m args below meth c Q y w0 st') : tb_Go P D dA b base Ls xs sa p l e R s m args below meth c Q y w0 (i, L, S, w) := by
  obtain ⟨hx, hb, hml, hr, hlk, hown, hts, hK, hnm, hbb, hbs, hX⟩ := C
  simp only [tb_okI, tb_okJ, Bool.and_eq_true, decide_eq_true_eq] at hok
  obtain ⟨hd, hsw, hsort⟩ := hok
  obtain ⟨t, ts, qd, rfl, hqd, hpd, hlen, hall⟩ := tb_okSw_ok hsw
  simp only [tb_step] at hst
  split at hst
  · rename_i t2 ts2 x S2 hres
    cases hres
    cases hst
    obtain ⟨qt, hqt, hpt⟩ := tb_lks_ok hqd hpd x.toInt prs.toList ts hlen hall
    exact tb_g_same hq hqt (fun H locs cells slots ls kk => lv_lookup hx hb hd hsort rfl hpt kk) k
  · cases hst
theorem tb_x_getfield {x : Nat} (C : tb_cx X mi D dA b base Ls xs p s m args meth c y) (hq : (P.1 y)[i]? = some (pc, (.getfield x), len, res, val, ps)) (hok : tb_okI mi sc ns (P.1 y) y i (pc, (.getfield x), len, res, val, ps) = true)
    (hst : tb_step P.2.2.1 P.2.2.2 (P.2.1 y) (.getfield x) res val i L S w = some (.inl st')) (k : tb_Go P D dA b base Ls xs sa p l e R s m args below meth c Q y w0 st') : tb_Go P D dA b base Ls xs sa p l e R s m args below meth c Q y w0 (i, L, S, w) := by
  obtain ⟨hx, hb, hml, hr, hlk, hown, hts, hK, hnm, hbb, hbs, hX⟩ := C
  obtain ⟨hd, ⟨hl, hn⟩, hF⟩ : decode (mi y).2.1 pc = .ok ((.getfield x), len) ∧ (len = 3 ∧ tb_atp (P.1 y) (i + 1) (pc + 3) = true) ∧ tb_okF (mi y).1.cls x res ps false (mi y).1.name = true := by simpa [tb_okI, tb_okJ, tb_ok3] using hok
  subst hl
  obtain ⟨q', hq', hpc⟩ := tb_atp_ok hn
  obtain ⟨kd, f, t, r, rfl, h10, hr', hf, hlink, ht, -⟩ := tb_okF_ok hF
  obtain ⟨c1, c2, c3, c4⟩ := tb_clok _ _ hr'
  simp only [tb_step, tb_gtf] at hst
  split at hst
  · rename_i hres
    cases hres
    split at hst
    · rename_i pl S2 hkd
      cases hst
      obtain ⟨n, hsh⟩ := tb_kd_at hkd
      intro q0 h0 H locs ls h1 h2 h3
      have e0 : q0 = _ := Option.some.inj (h0.symm.trans hq)
      subst e0
      obtain ⟨j, rfl⟩ := tb_pos hsh h1.2.2.1 (by omega)
      have kk := k q' hq' H locs ls h1 h2 h3
      rw [hpc] at kk
      have he := tb_ws_get (dA := dA) (b := b) (base := base) (sa := sa) hsh
      unfold tb_cell at he
      rw [if_pos h10] at he
      refine va_get (D := D) (cl := tb_cl) (C := r.1) (T := r.2.1) (N := r.2.2) hx hb hts c1 hown hK.1 h1.1 j he hr' f hf (hts _ hlink) (fun z hz => by rw [c4 f hf] at hz; exact hz) ?_ hd kk
      rw [List.getElem?_map, List.getElem?_range (by unfold tb_nf; rw [hr']; exact hf), Option.map_some, ht]
    · cases hst
  · cases hst
/-- a field written: the machine's own row, with the size of the heap -/
theorem tb_put {x kd f j n : Nat} {r : vw_C} {v : Value} {rest : List Value} {H : Heap} {locs : List Loc} {ls : Array Slot} {w w' : tb_Hp} {cells slots : Nat} (C : tb_cx X mi D dA b base Ls xs p s m args meth c y) (hd : decode (mi y).2.1 pc = .ok ((.putfield x), 3)) (h10 : 10 ≤ kd) (hr' : tb_cl[kd - 10]? = some r) (hf : f < r.2.2)
    (hlink : Cond.fieldLink (mi y).1.cls x r.1 (r.2.1 f).2.1 (r.2.1 f).2.2.1 ∈ tb_Tw) (hfin : (r.2.1 f).2.2.2 = true → (mi y).1.name = "<init>" ∧ r.1 = (mi y).1.cls) (hsh : w.1[j + 1]? = some (kd, n)) (hs1 : w'.1 = w.1) (ho : ∀ z, z ≠ j + 1 → w'.2.1 z = w.2.1 z ∧ w'.2.2.1 z = w.2.2.1 z ∧ w'.2.2.2 z = w.2.2.2 z)
    (hsame : ∀ z tt, z ≠ f → tb_val tt w' (j + 1) z = tb_val tt w (j + 1) z) (hval : tb_val (tb_sk (tb_tyk (kd - 10) f)) w' (j + 1) f = v) (hnar : narrow (tb_tyk (kd - 10) f) (tb_cv (tb_ad b base) sa v) = tb_cv (tb_ad b base) sa v) (hfit : fits (tb_tyk (kd - 10) f) (tb_cv (tb_ad b base) sa v) = true)
    (hR : tb_Rel D dA b base Ls xs sa w H) (hS : va_S (tb_A base) s.heap H locs) (kk : ∀ (H1 : Heap) (locs1 : List Loc), tb_Rel D dA b base Ls xs sa w' H1 → va_S (tb_A base) s.heap H1 locs1 → W p l e R s m args below meth c H1 locs1 cells slots Q (F0 m (pc + 3) ls rest)) :
    W p l e R s m args below meth c H locs cells slots Q (F0 m pc ls (tb_cv (tb_ad b base) sa v :: .ref (base + j) :: rest)) := by
  obtain ⟨hx, hb, hml, hr, hlk, hown, hts, hK, hnm, hbb, hbs, hX⟩ := C
  obtain ⟨c1, c2, c3, c4⟩ := tb_clok _ _ hr'
  have he := tb_ws_get (dA := dA) (b := b) (base := base) (sa := sa) hsh
  unfold tb_cell at he
  rw [if_pos h10] at he
  have hap := va_apart (own := (mi y).1.cls) hts c1 (tb_tyk (kd - 10)) c2 c3 hK.1 hr'
  obtain ⟨r2, g1, cell, q1, q2, q3, q4⟩ := hR.1 j _ he
  have er : r2 = r := Option.some.inj (g1.symm.trans hr')
  subst er
  obtain ⟨hSl, hfc, kC, hkC, hkind⟩ := hK.1.1 _ _ hr'
  obtain ⟨cf, kf, fi, fd, hi, hsl⟩ := hSl f hf
  have hlay := hts _ (c1 _ (u_in_lay hf))
  have hst := (u_facts hfc hkC (u_lays hts c1 hf) hi).1
  have hi' : s.fieldFound? r2.1 (r2.2.1 f).2.1 (r2.2.1 f).2.2.1 = some (cf, kf, fi, fd) := by rw [← c4 f hf]; exact hi
  have hsub : fd.slot < cell.slots.size := by rw [hsl]; exact k2_hasslot (q4 f hf)
  have after : ∀ H' : Heap, H'[base + j]? = some (cell.setSlot fd.slot (tb_cv (tb_ad b base) sa v)) → H'.size = H.size → (∀ z : Nat, z ≠ base + j → H'[z]? = H[z]?) → tb_Rel D dA b base Ls xs sa w' H' := by
    intro H' e1 e2 e3
    refine tb_rel_set hsh hs1 ho hR e2 e3 ?_
    unfold tb_cell
    rw [if_pos h10]
    rw [hsl] at e1
    refine ⟨r2, hr', t_OB.to (V := updV (vp_V ((List.range (tb_nf (kd - 10))).map (fun z => tb_cv (tb_ad b base) sa (tb_val (tb_sk (tb_tyk (kd - 10) z)) w (j + 1) z)))) f (tb_cv (tb_ad b base) sa v)) ⟨_, e1, q2, q3, t_set q4 hap hf _⟩ (fun z hz => ?_)⟩
    have hms := tb_map_set (N := tb_nf (kd - 10)) (f := f) (g := fun z => tb_cv (tb_ad b base) sa (tb_val (tb_sk (tb_tyk (kd - 10) z)) w (j + 1) z)) (g' := fun z => tb_cv (tb_ad b base) sa (tb_val (tb_sk (tb_tyk (kd - 10) z)) w' (j + 1) z)) (v := tb_cv (tb_ad b base) sa v) (by show tb_cv _ _ (tb_val _ _ _ _) = _; rw [hval]) (fun z hz => by show tb_cv _ _ (tb_val _ _ _ _) = tb_cv _ _ (tb_val _ _ _ _); rw [hsame z _ hz])
    have hle : f < ((List.range (tb_nf (kd - 10))).map (fun z => tb_cv (tb_ad b base) sa (tb_val (tb_sk (tb_tyk (kd - 10) z)) w (j + 1) z))).length := by
      rw [List.length_map, List.length_range]
      unfold tb_nf
      rw [hr']
      exact hf
    have hup := vp_updV_set hle (tb_cv (tb_ad b base) sa v) z
    rw [hms] at hup
    exact hup
  by_cases hff : (r2.2.1 f).2.2.2 = true
  · obtain ⟨hin, hcls⟩ := hfin hff
    unfold u_lay at hlay
    rw [if_pos hff] at hlay
    have hcf : m.cls = cf := by
      obtain ⟨_, _, c', _, _, _, -, -, hf', -, -, -, hown2, -⟩ := Cond.laysFinal_spec hlay
      have e1 : c' = cf := by have := hi.symm.trans hf'; simp at this; exact this.1.symm
      rw [c4 f hf, hcls] at hown2
      rw [← e1]; exact Option.some.inj (hown.symm.trans hown2)
    have h6 := u_fits hfc hkC hkind (Or.inr hlay) hi (c2 f hf) hnar hfit
    refine W.putFinK hx hb hown (hts _ hlink) hi' hst hcf (by rw [hnm]; exact hin) (by rw [q2]; exact h6) q1 q3 hsub rfl rfl hd fun H' e1 e2 e3 => ?_
    exact kk H' _ (after H' e1 e2 e3) (hS.put e2 e3 (Nat.le_add_right _ _))
  · unfold u_lay at hlay
    rw [if_neg hff] at hlay
    have h6 := u_store hfc hkC hkind hlay hi (c2 f hf) hnar hfit
    refine W.putK hx hb (f := fd) ⟨hown, hts _ hlink, ⟨_, _, _, hi'⟩, hst⟩ (by rw [q2]; exact h6) q1 q3 hsub rfl rfl hd fun H' e1 e2 e3 => ?_
    exact kk H' _ (after H' e1 e2 e3) (hS.put e2 e3 (Nat.le_add_right _ _))
theorem tb_x_putfield {x : Nat} (C : tb_cx X mi D dA b base Ls xs p s m args meth c y) (hq : (P.1 y)[i]? = some (pc, (.putfield x), len, res, val, ps)) (hok : tb_okI mi sc ns (P.1 y) y i (pc, (.putfield x), len, res, val, ps) = true)
    (hst : tb_step P.2.2.1 P.2.2.2 (P.2.1 y) (.putfield x) res val i L S w = some (.inl st')) (k : tb_Go P D dA b base Ls xs sa p l e R s m args below meth c Q y w0 st') : tb_Go P D dA b base Ls xs sa p l e R s m args below meth c Q y w0 (i, L, S, w) := by
  obtain ⟨hd, ⟨hl, hn⟩, hF⟩ : decode (mi y).2.1 pc = .ok ((.putfield x), len) ∧ (len = 3 ∧ tb_atp (P.1 y) (i + 1) (pc + 3) = true) ∧ tb_okF (mi y).1.cls x res ps true (mi y).1.name = true := by simpa [tb_okI, tb_okJ, tb_ok3] using hok
  subst hl
  obtain ⟨q', hq', hpc⟩ := tb_atp_ok hn
  obtain ⟨kd, f, t, r, rfl, h10, hr', hf, hlink, ht, hput⟩ := tb_okF_ok hF
  obtain ⟨hint, hfin⟩ := hput rfl
  simp only [tb_step, tb_ptf] at hst
  split at hst
  · rename_i v pl S2 hres
    cases hres
    split at hst
    · rename_i hkd
      cases hst
      obtain ⟨n, hsh⟩ := tb_kd_at hkd
      intro q0 h0 H locs ls h1 h2 h3
      have e0 : q0 = _ := Option.some.inj (h0.symm.trans hq)
      subst e0
      obtain ⟨j, rfl⟩ := tb_pos hsh h1.2.2.1 (by omega)
      refine tb_put (v := .int v) C hd h10 hr' hf hlink hfin hsh (w' := tb_setI w (j + 1) f v) rfl (fun z hz => ⟨by unfold tb_setI tb_up2; simp [hz], rfl, rfl⟩) (fun z tt hz => by unfold tb_val tb_setI tb_up2; simp [hz]) (by rw [← ht]; unfold tb_val tb_setI tb_up2; simp) (by rw [hint rfl]; rfl) (by rw [hint rfl]; rfl) h1 h2 (fun H1 locs1 g1 g2 => ?_)
      have kk := k q' hq' H1 locs1 ls g1 g2 h3
      rw [hpc] at kk
      exact kk
    · cases hst
  · rename_i v pl S2 hres
    cases hres
    split at hst
    · rename_i hkd
      cases hst
      obtain ⟨n, hsh⟩ := tb_kd_at hkd
      intro q0 h0 H locs ls h1 h2 h3
      have e0 : q0 = _ := Option.some.inj (h0.symm.trans hq)
      subst e0
      obtain ⟨j, rfl⟩ := tb_pos hsh h1.2.2.1 (by omega)
      refine tb_put (v := .long v) C hd h10 hr' hf hlink hfin hsh (w' := tb_setJ w (j + 1) f v) rfl (fun z hz => ⟨rfl, by unfold tb_setJ tb_up2; simp [hz], rfl⟩) (fun z tt hz => by unfold tb_val tb_setJ tb_up2; simp [hz]) (by rw [← ht]; unfold tb_val tb_setJ tb_up2; simp) (tb_nar_long ht.symm v).1 (tb_nar_long ht.symm v).2 h1 h2 (fun H1 locs1 g1 g2 => ?_)
      have kk := k q' hq' H1 locs1 ls g1 g2 h3
      rw [hpc] at kk
      exact kk
    · cases hst
  · rename_i v pl S2 hres
    cases hres
    split at hst
    · rename_i hkd
      cases hst
      obtain ⟨n, hsh⟩ := tb_kd_at hkd
      intro q0 h0 H locs ls h1 h2 h3
      have e0 : q0 = _ := Option.some.inj (h0.symm.trans hq)
      subst e0
      obtain ⟨j, rfl⟩ := tb_pos hsh h1.2.2.1 (by omega)
      refine tb_put (v := .ref v) C hd h10 hr' hf hlink hfin hsh (w' := tb_setR w (j + 1) f (some v)) rfl (fun z hz => ⟨rfl, rfl, by unfold tb_setR tb_up2; simp [hz]⟩) (fun z tt hz => by unfold tb_val tb_setR tb_up2; simp [hz]) (by rw [← ht]; unfold tb_val tb_setR tb_up2; simp [va_rf]) (tb_nar_ref ht.symm _).1 (tb_nar_ref ht.symm _).2 h1 h2 (fun H1 locs1 g1 g2 => ?_)
      have kk := k q' hq' H1 locs1 ls g1 g2 h3
      rw [hpc] at kk
      exact kk
    · cases hst
  · cases hst
end TBH
