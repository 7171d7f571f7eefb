/-! ===== Cells made; references stored ===== -/
theorem tb_ad_new {b base : Nat} {n : Nat} (h : 1 ≤ n) : tb_ad b base n = base + (n - 1) := by
  cases n with
  | zero => omega
  | succ n => rfl
theorem tb_rel_new {D : va_G} {dA : Nat → ClassId} {b base Ls : Nat} {xs : Nat → Int32} {sa : Nat → Nat} {w : tb_Hp} {kd n : Nat} {H H' : Heap} (hR : tb_Rel D dA b base Ls xs sa w H) (hz : H'.size = H.size + 1) (hoth : ∀ z : Nat, z < H.size → H'[z]? = H[z]?) (hat : va_at D tb_cl (H.size, tb_cell dA (tb_ad b base) sa (tb_new w kd n) w.1.length (kd, n)) H') : tb_Rel D dA b base Ls xs sa (tb_new w kd n) H' := by
  have h1 : 1 ≤ w.1.length := by
    have := (List.getElem?_eq_some_iff.mp hR.2.2.1).1
    omega
  have hl : (tb_new w kd n).1.length = w.1.length + 1 := by simp [tb_new]
  refine ⟨?_, by rw [hz, hR.2.1, hl]; omega, ?_, ?_⟩
  · rw [tb_ws_new h1]
    refine va_P.app (hR.1.kept (fun k q hk => hoth q.1 ((hR.1 k q hk).lt))) (fun k q hk => ?_)
    have hk0 : k = 0 := by
      have := (List.getElem?_eq_some_iff.mp hk).1
      simp at this
      exact this
    subst hk0
    cases hk
    rw [← hR.2.1]
    exact hat
  · unfold tb_new
    rw [List.getElem?_append_left (by omega)]
    exact hR.2.2.1
  · show (if 0 = w.1.length then (fun _ => (0 : Int32)) else w.2.1 0) = xs
    rw [if_neg (by omega)]
    exact hR.2.2.2
theorem tb_one {D : va_G} {dA : Nat → ClassId} {b base Ls : Nat} {xs : Nat → Int32} {sa : Nat → Nat} {w : tb_Hp} {H : Heap} (hR : tb_Rel D dA b base Ls xs sa w H) : 1 ≤ w.1.length := by
  have := (List.getElem?_eq_some_iff.mp hR.2.2.1).1
  omega
theorem tb_sum_new (w : tb_Hp) (kd n : Nat) : tb_sum (tb_new w kd n) = tb_sum w + n := by
  unfold tb_sum tb_new
  simp
theorem tb_okN_ok {own : String} {x : Nat} {res ps : List Nat} (h : tb_okN own x res ps = true) : ∃ (k n : Nat) (r : vw_C), res = [k, n] ∧ 10 ≤ k ∧ tb_cl[k - 10]? = some r ∧ r.2.2 = n ∧ Cond.classLink own x r.1 ∈ tb_Tw ∧ Cond.instantiable r.1 n ∈ tb_Tw ∧ Cond.initialized r.1 ∈ tb_Tw ∧ (∀ f, f < n → tb_fty (tb_tyk (k - 10) f) = true) := by
  unfold tb_okN at h
  split at h
  · rename_i k n j1 j2 j3
    rw [Bool.and_eq_true, decide_eq_true_eq] at h
    obtain ⟨h1, h2⟩ := h
    split at h2
    · rename_i r hr
      simp only [Bool.and_eq_true, decide_eq_true_eq] at h2
      exact ⟨k, n, r, rfl, h1, hr, h2.1.1.1.1, tb_wd_ok h2.1.1.1.2, tb_wd_ok h2.1.1.2, tb_wd_ok h2.1.2, fun f hf => List.all_eq_true.mp h2.2 f (List.mem_range.mpr hf)⟩
    · cases h2
  · cases h
theorem tb_okA_ok {t : ArrayType} {res ps : List Nat} (h : tb_okA t res ps = true) : ∃ k, res = [k] ∧ k < 4 ∧ tb_aty[k]? = some (newarray.typeOf t) ∧ Cond.arrayClass (newarray.typeOf t) ∈ tb_Tw := by
  unfold tb_okA at h
  split at h
  · simp only [Bool.and_eq_true, decide_eq_true_eq] at h
    exact ⟨_, rfl, h.1.1, h.1.2, tb_wd_ok h.2⟩
  · cases h
/-- arrays of int arrays: what the tables say -/
def tb_AOA (U : State) : Prop := (Cond.arrayOver (.array .int)).before #[] U = true
theorem tb_okR_ok {own : String} {x : Nat} {res ps : List Nat} (h : tb_okR own x res ps = true) : ∃ k, res = [k] ∧ ((k = 4 ∧ Cond.classLink own x (FieldType.array .int).toString ∈ tb_Tw) ∨ (k = 5 ∧ Cond.classLink own x "TannerBunting$Scene" ∈ tb_Tw) ∨ (k = 6 ∧ Cond.classLink own x "TannerBunting$Street" ∈ tb_Tw)) := by
  unfold tb_okR at h
  split at h
  · rename_i k j
    refine ⟨k, rfl, ?_⟩
    split at h
    · rename_i C hC
      simp only [Bool.and_eq_true, decide_eq_true_eq] at h
      match k, h, hC with
      | 4, h, hC => cases hC
      | 5, h, hC => cases hC; exact Or.inr (Or.inl ⟨rfl, tb_wd_ok h.2⟩)
      | 6, h, hC => cases hC; exact Or.inr (Or.inr ⟨rfl, tb_wd_ok h.2⟩)
      | 0, h, hC => omega
      | 1, h, hC => omega
      | 2, h, hC => omega
      | 3, h, hC => omega
      | n + 7, h, hC => omega
    · rename_i t hC
      simp only [Bool.and_eq_true, decide_eq_true_eq] at h
      match k, h, hC with
      | 4, h, hC => cases hC; exact Or.inl ⟨rfl, tb_wd_ok h.2⟩
      | 5, h, hC => cases hC
      | 6, h, hC => cases hC
      | 0, h, hC => omega
      | 1, h, hC => omega
      | 2, h, hC => omega
      | 3, h, hC => omega
      | n + 7, h, hC => omega
    · cases h
  · cases h
section TBM
variable {X : State → Prop} {P : tb_Pg} {mi : tb_Mi} {sc : tb_Sc} {ns : List (String × Nat × Nat)} {D : va_G} {dA : Nat → ClassId} {b base Ls : Nat} {xs : Nat → Int32} {sa : Nat → Nat}
variable {p : Program} {l : Launch} {e : Env} {R : Room} {s : State} {m : MethodId} {args : Array Value} {below : List Frame} {meth : Method} {c : Code} {Q : State → Prop} {y : Nat} {w0 : tb_Hp}
variable {i pc len : Nat} {res ps : List Nat} {val : Value} {L : tb_L} {S : List Value} {w : tb_Hp} {st' : tb_S}
theorem tb_x_new {x : Nat} (C : tb_cx X mi D dA b base Ls xs p s m args meth c y) (hq : (P.1 y)[i]? = some (pc, (.new x), len, res, val, ps)) (hok : tb_okI mi sc ns (P.1 y) y i (pc, (.new x), len, res, val, ps) = true)
    (hst : tb_step P.2.2.1 P.2.2.2 (P.2.1 y) (.new x) res val i L S w = some (.inl st')) (hw0 : w0.1.length ≤ w.1.length ∧ tb_sum w0 ≤ tb_sum w) (hrm : st'.2.2.2.1.length - w0.1.length ≤ R.cells ∧ tb_sum st'.2.2.2 - tb_sum w0 ≤ R.slots) (k : tb_Go P D dA b base Ls xs sa p l e R s m args below meth c Q y w0 st') : tb_Go P D dA b base Ls xs sa p l e R s m args below meth c Q y w0 (i, L, S, w) := by
  obtain ⟨hx, hb, hml, hr, hlk, hown, hts, hK, hnm, hbb, hbs, hX⟩ := C
  obtain ⟨hd, ⟨hl, hn⟩, hF⟩ : decode (mi y).2.1 pc = .ok ((.new x), len) ∧ (len = 3 ∧ tb_atp (P.1 y) (i + 1) (pc + 3) = true) ∧ tb_okN (mi y).1.cls x res ps = true := by simpa [tb_okI, tb_okJ, tb_ok3] using hok
  subst hl
  obtain ⟨q', hq', hpc⟩ := tb_atp_ok hn
  obtain ⟨kd, n, r, rfl, h10, hr', hrn, g1, g2, g3, hfty⟩ := tb_okN_ok hF
  obtain ⟨c1, c2, c3, c4⟩ := tb_clok _ _ hr'
  simp only [tb_step, tb_nwo, Option.some.injEq, Sum.inl.injEq] at hst
  subst hst
  intro q0 h0 H locs ls h1 h2 h3
  have e0 : q0 = _ := Option.some.inj (h0.symm.trans hq)
  subst e0
  have hlw : 1 ≤ w.1.length := tb_one h1
  have hll : (tb_new w kd n).1.length = w.1.length + 1 := by simp [tb_new]
  have hKn := hK.1.1 _ _ hr'
  simp only [hll, tb_sum_new] at hrm
  refine W.newcK hx hb hown (hts _ g1) (hts _ g2) (hts _ g3) rfl hd (by show w.1.length - w0.1.length + 1 ≤ _; omega) (by show tb_sum w - tb_sum w0 + n ≤ _; omega) hKn.2.1 rfl (fun H1 kC hkC e1 z1 o1 => ?_)
  have hbn := u_born (tb_tyk (kd - 10)) hts c1 hKn hkC e1 c2
  have hrel : tb_Rel D dA b base Ls xs sa (tb_new w kd n) H1 := by
    refine tb_rel_new h1 z1 o1 ?_
    unfold tb_cell
    rw [if_pos h10]
    refine ⟨r, hr', t_OB.to hbn (fun z hz => ?_)⟩
    unfold vp_V
    rw [List.getD_eq_getElem?_getD, List.getElem?_map, List.getElem?_range (by unfold tb_nf; rw [hr']; exact hz)]
    simp only [Option.map_some, Option.getD_some]
    unfold tb_val tb_new tb_up1
    have hft := hfty z (by omega)
    cases htk : tb_tyk (kd - 10) z <;> rw [htk] at hft <;> first | (cases hft; done) | simp [tb_sk, defaultValue, tb_cv, va_rf]
  have kk := k q' hq' H1 locs ls hrel ⟨Nat.le_trans h2.1 (by rw [z1]; omega), fun z hz1 hz2 => (o1 z (Nat.lt_of_lt_of_le hz1 h2.1)).trans (h2.2.1 z hz1 hz2), h2.2.2⟩ h3
  rw [hpc] at kk
  have ead : tb_ad b base w.1.length = H.size := by rw [tb_ad_new hlw, h1.2.1]
  simp only [List.map_cons, tb_cv, hll, tb_sum_new, ead] at kk
  rw [show w.1.length + 1 - w0.1.length = w.1.length - w0.1.length + 1 by omega, show tb_sum w + n - tb_sum w0 = tb_sum w - tb_sum w0 + n by omega] at kk
  exact kk
theorem tb_x_newarray {at_ : ArrayType} (C : tb_cx X mi D dA b base Ls xs p s m args meth c y) (hq : (P.1 y)[i]? = some (pc, (.newarray at_), len, res, val, ps)) (hok : tb_okI mi sc ns (P.1 y) y i (pc, (.newarray at_), len, res, val, ps) = true)
    (hst : tb_step P.2.2.1 P.2.2.2 (P.2.1 y) (.newarray at_) res val i L S w = some (.inl st')) (hw0 : w0.1.length ≤ w.1.length ∧ tb_sum w0 ≤ tb_sum w) (hrm : st'.2.2.2.1.length - w0.1.length ≤ R.cells ∧ tb_sum st'.2.2.2 - tb_sum w0 ≤ R.slots) (k : tb_Go P D dA b base Ls xs sa p l e R s m args below meth c Q y w0 st') : tb_Go P D dA b base Ls xs sa p l e R s m args below meth c Q y w0 (i, L, S, w) := by
  obtain ⟨hx, hb, hml, hr, hlk, hown, hts, hK, hnm, hbb, hbs, hX⟩ := C
  obtain ⟨hd, ⟨hl, hn⟩, hF⟩ : decode (mi y).2.1 pc = .ok ((.newarray at_), len) ∧ (len = 2 ∧ tb_atp (P.1 y) (i + 1) (pc + 2) = true) ∧ tb_okA at_ res ps = true := by simpa [tb_okI, tb_okJ, tb_ok2] using hok
  subst hl
  obtain ⟨q', hq', hpc⟩ := tb_atp_ok hn
  obtain ⟨kd, rfl, h4, hty, hcl⟩ := tb_okA_ok hF
  simp only [tb_step, tb_nwa] at hst
  split at hst
  · rename_i kd2 n S2 hres
    cases hres
    split at hst
    · rename_i hg
      simp only [Bool.and_eq_true, Bool.not_eq_true', decide_eq_false_iff_not, decide_eq_true_eq] at hg
      cases hst
      intro q0 h0 H locs ls h1 h2 h3
      have e0 : q0 = _ := Option.some.inj (h0.symm.trans hq)
      subst e0
      have hlw : 1 ≤ w.1.length := tb_one h1
      have hll : (tb_new w kd n.toNatClampNeg).1.length = w.1.length + 1 := by simp [tb_new]
      simp only [hll, tb_sum_new] at hrm
      have hcb : componentBytes (newarray.typeOf at_) ≤ 8 := by cases at_ <;> decide
      refine va_newaK hx hb (hts _ hcl) rfl hd rfl hg.1 rfl (by have := Nat.mul_le_mul hg.2 hcb; omega) (by show w.1.length - w0.1.length + 1 ≤ _; omega) (by show tb_sum w - tb_sum w0 + _ ≤ _; omega) rfl (fun H1 cA e1 z1 o1 hAr hNm => ?_)
      have hdA : cA = dA kd ∧ ∀ z, defaultValue (newarray.typeOf at_) = tb_cv (tb_ad b base) sa (tb_val (tb_tt kd) (tb_new w kd n.toNatClampNeg) w.1.length z) := by
        have hv : ∀ z, (tb_new w kd n.toNatClampNeg).2.1 w.1.length z = 0 ∧ (tb_new w kd n.toNatClampNeg).2.2.1 w.1.length z = 0 := by
          intro z
          unfold tb_new tb_up1
          simp
        match kd, h4, hty with
        | 0, _, hty =>
          have e : FieldType.byte = newarray.typeOf at_ := Option.some.inj hty
          rw [← e] at hNm ⊢
          exact ⟨Option.some.inj (hNm.symm.trans (hK.1.2 0 _ rfl).2), fun z => by unfold tb_tt tb_val; simp [(hv z).1, defaultValue, tb_cv]⟩
        | 1, _, hty =>
          have e : FieldType.int = newarray.typeOf at_ := Option.some.inj hty
          rw [← e] at hNm ⊢
          exact ⟨Option.some.inj (hNm.symm.trans (hK.1.2 1 _ rfl).2), fun z => by unfold tb_tt tb_val; simp [(hv z).1, defaultValue, tb_cv]⟩
        | 2, _, hty =>
          have e : FieldType.long = newarray.typeOf at_ := Option.some.inj hty
          rw [← e] at hNm ⊢
          exact ⟨Option.some.inj (hNm.symm.trans (hK.1.2 2 _ rfl).2), fun z => by unfold tb_tt tb_val; simp [(hv z).2, defaultValue, tb_cv]⟩
        | 3, _, hty =>
          have e : FieldType.boolean = newarray.typeOf at_ := Option.some.inj hty
          rw [← e] at hNm ⊢
          exact ⟨Option.some.inj (hNm.symm.trans (hK.1.2 3 _ rfl).2), fun z => by unfold tb_tt tb_val; simp [(hv z).1, defaultValue, tb_cv]⟩
        | n + 4, h, _ => omega
      obtain ⟨rfl, hdef⟩ := hdA
      have hrel : tb_Rel D dA b base Ls xs sa (tb_new w kd n.toNatClampNeg) H1 := by
        refine tb_rel_new h1 z1 o1 ((tb_at_arr (by omega)).mpr ?_)
        rw [e1]
        congr 2
        funext z
        exact hdef z
      have kk := k q' hq' H1 locs ls hrel ⟨Nat.le_trans h2.1 (by rw [z1]; omega), fun z hz1 hz2 => (o1 z (Nat.lt_of_lt_of_le hz1 h2.1)).trans (h2.2.1 z hz1 hz2), h2.2.2⟩ h3
      rw [hpc] at kk
      have ead : tb_ad b base w.1.length = H.size := by rw [tb_ad_new hlw, h1.2.1]
      simp only [List.map_cons, tb_cv, hll, tb_sum_new, ead] at kk
      rw [show w.1.length + 1 - w0.1.length = w.1.length - w0.1.length + 1 by omega, show tb_sum w + n.toNatClampNeg - tb_sum w0 = tb_sum w - tb_sum w0 + n.toNatClampNeg by omega] at kk
      exact kk
    · cases hst
  · cases hst
theorem tb_x_anewarray {x : Nat} (C : tb_cx X mi D dA b base Ls xs p s m args meth c y) (hXo : X s → va_AO "TannerBunting$Scene" s ∧ va_AO "TannerBunting$Street" s ∧ tb_AOA s) (hq : (P.1 y)[i]? = some (pc, (.anewarray x), len, res, val, ps)) (hok : tb_okI mi sc ns (P.1 y) y i (pc, (.anewarray x), len, res, val, ps) = true)
    (hst : tb_step P.2.2.1 P.2.2.2 (P.2.1 y) (.anewarray x) res val i L S w = some (.inl st')) (hw0 : w0.1.length ≤ w.1.length ∧ tb_sum w0 ≤ tb_sum w) (hrm : st'.2.2.2.1.length - w0.1.length ≤ R.cells ∧ tb_sum st'.2.2.2 - tb_sum w0 ≤ R.slots) (k : tb_Go P D dA b base Ls xs sa p l e R s m args below meth c Q y w0 st') : tb_Go P D dA b base Ls xs sa p l e R s m args below meth c Q y w0 (i, L, S, w) := by
  obtain ⟨hx, hb, hml, hr, hlk, hown, hts, hK, hnm, hbb, hbs, hX⟩ := C
  obtain ⟨hd, ⟨hl, hn⟩, hF⟩ : decode (mi y).2.1 pc = .ok ((.anewarray x), len) ∧ (len = 3 ∧ tb_atp (P.1 y) (i + 1) (pc + 3) = true) ∧ tb_okR (mi y).1.cls x res ps = true := by simpa [tb_okI, tb_okJ, tb_ok3] using hok
  subst hl
  obtain ⟨q', hq', hpc⟩ := tb_atp_ok hn
  obtain ⟨kd, rfl, hcase⟩ := tb_okR_ok hF
  obtain ⟨o5, o6, o4⟩ := hXo hX
  simp only [tb_step, tb_nwa] at hst
  split at hst
  · rename_i kd2 n S2 hres
    cases hres
    split at hst
    · rename_i hg
      simp only [Bool.and_eq_true, Bool.not_eq_true', decide_eq_false_iff_not, decide_eq_true_eq] at hg
      cases hst
      intro q0 h0 H locs ls h1 h2 h3
      have e0 : q0 = _ := Option.some.inj (h0.symm.trans hq)
      subst e0
      have hlw : 1 ≤ w.1.length := tb_one h1
      have hll : (tb_new w kd n.toNatClampNeg).1.length = w.1.length + 1 := by simp [tb_new]
      simp only [hll, tb_sum_new] at hrm
      have hrc : w.1.length - w0.1.length + 1 ≤ R.cells := by omega
      have hrs : tb_sum w - tb_sum w0 + n.toNatClampNeg ≤ R.slots := by omega
      have hv : ∀ z, (tb_new w kd n.toNatClampNeg).2.2.2 w.1.length z = none := by
        intro z
        unfold tb_new tb_up1
        simp
      have fin : ∀ (H1 : Heap), 4 ≤ kd → kd < 7 → H1 = H.push { cls := dA kd, slots := Array.replicate n.toNatClampNeg .null, vm := .none } → W p l e R s m args below meth c H1 locs (w.1.length - w0.1.length + 1) (tb_sum w - tb_sum w0 + n.toNatClampNeg) Q (F0 m (pc + 3) ls (.ref H.size :: S2.map (tb_cv (tb_ad b base) sa))) := by
        intro H1 hk4 hk7 hH1
        have z1 : H1.size = H.size + 1 := by rw [hH1, Array.size_push]
        have o1 : ∀ z : Nat, z < H.size → H1[z]? = H[z]? := fun z hz => by rw [hH1, Array.getElem?_push, if_neg (Nat.ne_of_lt hz)]
        have e1 : H1[H.size]? = some (arrV (dA kd) n.toNatClampNeg (fun _ => .null)) := by rw [hH1, Array.getElem?_push_size, ← arrV_new]
        have hrel : tb_Rel D dA b base Ls xs sa (tb_new w kd n.toNatClampNeg) H1 := by
          refine tb_rel_new h1 z1 o1 ((tb_at_arr (by omega)).mpr ?_)
          rw [e1]
          congr 2
          funext z
          have ett : tb_tt kd = 2 := by unfold tb_tt; rw [if_neg (by omega), if_pos hk4]
          rw [ett]
          unfold tb_val
          rw [hv z]
          rfl
        have kk := k q' hq' H1 locs ls hrel ⟨Nat.le_trans h2.1 (by rw [z1]; omega), fun z hz1 hz2 => (o1 z (Nat.lt_of_lt_of_le hz1 h2.1)).trans (h2.2.1 z hz1 hz2), h2.2.2⟩ h3
        rw [hpc] at kk
        have ead : tb_ad b base w.1.length = H.size := by rw [tb_ad_new hlw, h1.2.1]
        simp only [List.map_cons, tb_cv, hll, tb_sum_new, ead] at kk
        rw [show w.1.length + 1 - w0.1.length = w.1.length - w0.1.length + 1 by omega, show tb_sum w + n.toNatClampNeg - tb_sum w0 = tb_sum w - tb_sum w0 + n.toNatClampNeg by omega] at kk
        exact kk
      rcases hcase with ⟨rfl, hcl⟩ | ⟨rfl, hcl⟩ | ⟨rfl, hcl⟩
      · refine W.anewA hx hb hown (hts _ hcl) o4 rfl hd rfl hg.1 (by omega) hrc hrs (fun cA kA comp f1 f2 f3 f4 => ?_)
        have ec : cA = dA 4 := Option.some.inj (f1.symm.trans (hK.1.2 4 _ rfl).2)
        subst ec
        exact fin _ (by omega) (by omega) rfl
      · refine W.anew hx hb hown (hts _ hcl) (va_AO.use o5) rfl hd rfl hg.1 (by omega) hrc hrs (fun cA kA comp f1 f2 f3 f4 => ?_)
        obtain ⟨kA', comp', g1, g2, g3, g4⟩ := (hK.1.2 5 _ rfl).2
        have ec : cA = dA 5 := Option.some.inj (f1.symm.trans g4)
        subst ec
        exact fin _ (by omega) (by omega) rfl
      · refine W.anew hx hb hown (hts _ hcl) (va_AO.use o6) rfl hd rfl hg.1 (by omega) hrc hrs (fun cA kA comp f1 f2 f3 f4 => ?_)
        obtain ⟨kA', comp', g1, g2, g3, g4⟩ := (hK.1.2 6 _ rfl).2
        have ec : cA = dA 6 := Option.some.inj (f1.symm.trans g4)
        subst ec
        exact fin _ (by omega) (by omega) rfl
    · cases hst
  · cases hst
theorem tb_x_aastore (C : tb_cx X mi D dA b base Ls xs p s m args meth c y) (hXo : X s → tb_AOA s) (hcmp : P.2.2.1 4 = 1 ∧ P.2.2.1 5 = 15 ∧ P.2.2.1 6 = 17) (hq : (P.1 y)[i]? = some (pc, .aastore, len, res, val, ps)) (hok : tb_okI mi sc ns (P.1 y) y i (pc, .aastore, len, res, val, ps) = true)
    (hst : tb_step P.2.2.1 P.2.2.2 (P.2.1 y) .aastore res val i L S w = some (.inl st')) (k : tb_Go P D dA b base Ls xs sa p l e R s m args below meth c Q y w0 st') : tb_Go P D dA b base Ls xs sa p l e R s m args below meth c Q y w0 (i, L, S, w) := by
  obtain ⟨hx, hb, hml, hr, hlk, hown, hts, hK, hnm, hbb, hbs, hX⟩ := C
  obtain ⟨hd, hl, hn⟩ : decode (mi y).2.1 pc = .ok (.aastore, len) ∧ len = 1 ∧ tb_atp (P.1 y) (i + 1) (pc + 1) = true := by simpa [tb_okI, tb_okJ, tb_ok1] using hok
  subst hl
  obtain ⟨q', hq', hpc⟩ := tb_atp_ok hn
  simp only [tb_step, tb_aas] at hst
  split at hst
  · rename_i v z pl S2
    split at hst
    · rename_i kd n hsh
      split at hst
      · rename_i hg
        simp only [Bool.and_eq_true, decide_eq_true_eq] at hg
        obtain ⟨⟨⟨hk4, hk7⟩, hin0⟩, hkv⟩ := hg
        have hin := tb_in_ok hin0
        cases hst
        obtain ⟨nv, hshv⟩ := tb_kd_at hkv
        intro q0 h0 H locs ls h1 h2 h3
        have e0 : q0 = _ := Option.some.inj (h0.symm.trans hq)
        subst e0
        obtain ⟨j, rfl⟩ := tb_pos hsh h1.2.2.1 (by omega)
        have hkv9 : P.2.2.1 kd ≠ 9 := by
          rcases (show kd = 4 ∨ kd = 5 ∨ kd = 6 by omega) with rfl | rfl | rfl
          · rw [hcmp.1]; decide
          · rw [hcmp.2.1]; decide
          · rw [hcmp.2.2]; decide
        obtain ⟨jv, rfl⟩ := tb_pos hshv h1.2.2.1 hkv9
        have hc := tb_arr h1 hsh (by omega)
        have fin : ∀ H' : Heap, H'[base + j]? = some ((arrV (dA kd) n (fun u => tb_cv (tb_ad b base) sa (tb_val (tb_tt kd) w (j + 1) u))).setSlot z.toNatClampNeg (.ref (base + jv))) → H'.size = H.size → (∀ u, u ≠ base + j → H'[u]? = H[u]?) → W p l e R s m args below meth c H' (locs ++ [⟨base + j, z.toNatClampNeg⟩]) (w.1.length - w0.1.length) (tb_sum w - tb_sum w0) Q (F0 m (pc + 1) ls (S2.map (tb_cv (tb_ad b base) sa))) := by
          intro H' e1 e2 e3
          have ett : tb_tt kd = 2 := by unfold tb_tt; rw [if_neg (by omega), if_pos hk4]
          have kk := k q' hq' H' (locs ++ [⟨base + j, z.toNatClampNeg⟩]) ls (tb_rel_arr (z := z.toNatClampNeg) (v := .ref (jv + 1)) (by omega) hsh rfl (fun u hu => ⟨rfl, rfl, by unfold tb_setR tb_up2; simp [hu]⟩) h1 e2 e3 (fun u => by rw [ett]; unfold tb_val tb_setR tb_up2; simp; by_cases hu : u = z.toNatClampNeg <;> simp [hu, va_rf]) e1) (h2.put e2 e3 (Nat.le_add_right _ _)) h3
          rw [hpc] at kk
          exact kk
        have hidx : ¬ z < 0 ∧ z.toNatClampNeg < (arrV (dA kd) n (fun u => tb_cv (tb_ad b base) sa (tb_val (tb_tt kd) w (j + 1) u))).slots.size := ⟨fun g => hin (Or.inl g), by rw [arrV_size]; exact Nat.not_le.mp fun g => hin (Or.inr g)⟩
        rcases (show kd = 4 ∨ kd = 5 ∨ kd = 6 by omega) with rfl | rfl | rfl
        · rw [hcmp.1] at hshv
          have hcv := tb_arr h1 hshv (by omega)
          obtain ⟨comp, cc, kc, f1, f2, f3, f4, f5⟩ := arrayOverA_spec (hXo hX)
          have e4 : cc = dA 4 := Option.some.inj (f5.symm.trans (hK.1.2 4 _ rfl).2)
          have e1 : comp = dA 1 := Option.some.inj (f1.symm.trans (hK.1.2 1 _ rfl).2)
          subst e4
          subst e1
          obtain ⟨-, k1, hk1, -⟩ := (hK.1.2 1 _ rfl).1 0 (fun _ => .null)
          refine W.aast hx hb hc (fun g h => by cases h) (fun h => by cases h) f3 f4 rfl hk1 hidx hcv (fun g h => by cases h) hk1 (va_asg _ _) rfl rfl hd fin
        · rw [hcmp.2.1] at hshv
          have he := tb_ws_get (dA := dA) (b := b) (base := base) (sa := sa) hshv
          unfold tb_cell at he
          rw [if_pos (show 10 ≤ 15 by decide)] at he
          obtain ⟨r2, g1, cell, q1, q2, q3, q4⟩ := h1.1 jv _ he
          have hcls := (hK.1.1 5 _ rfl).2
          obtain ⟨kA, comp, k1, k2, k3, -⟩ := (hK.1.2 5 _ rfl).2
          have hcomp : comp = D.1 5 := Option.some.inj (k3.symm.trans hcls.1)
          subst hcomp
          obtain ⟨kC, hkC, -⟩ := hcls.2
          exact W.aast hx hb hc (fun g h => by cases h) (fun h => by cases h) k1 k2 rfl hkC hidx q1 (fun g h => by rw [q3] at h; cases h) (by rw [q2]; exact hkC) (by rw [q2]; exact va_asg _ _) rfl rfl hd fin
        · rw [hcmp.2.2] at hshv
          have he := tb_ws_get (dA := dA) (b := b) (base := base) (sa := sa) hshv
          unfold tb_cell at he
          rw [if_pos (show 10 ≤ 17 by decide)] at he
          obtain ⟨r2, g1, cell, q1, q2, q3, q4⟩ := h1.1 jv _ he
          have hcls := (hK.1.1 7 _ rfl).2
          obtain ⟨kA, comp, k1, k2, k3, -⟩ := (hK.1.2 6 _ rfl).2
          have hcomp : comp = D.1 7 := Option.some.inj (k3.symm.trans hcls.1)
          subst hcomp
          obtain ⟨kC, hkC, -⟩ := hcls.2
          exact W.aast hx hb hc (fun g h => by cases h) (fun h => by cases h) k1 k2 rfl hkC hidx q1 (fun g h => by rw [q3] at h; cases h) (by rw [q2]; exact hkC) (by rw [q2]; exact va_asg _ _) rfl rfl hd fin
      · cases hst
    · cases hst
  · cases hst
end TBM
