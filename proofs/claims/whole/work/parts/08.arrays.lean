/-! ===== Arrays ===== -/
def tb_tt (k : Nat) : Nat := if k = 2 then 1 else if 4 ≤ k then 2 else 0
theorem tb_cv_rf (ad sa : Nat → Nat) (o : Option Nat) : va_rf (o.map ad) = tb_cv ad sa (va_rf o) := by cases o <;> rfl
theorem tb_at_arr {D : va_G} {dA : Nat → ClassId} {ad sa : Nat → Nat} {w : tb_Hp} {pl a k n : Nat} {H : Heap} (hk : k < 10) : va_at D tb_cl (a, tb_cell dA ad sa w pl (k, n)) H ↔ H[a]? = some (arrV (dA k) n (fun z => tb_cv ad sa (tb_val (tb_tt k) w pl z))) := by
  unfold tb_cell
  rw [if_neg (by show ¬ 10 ≤ k; omega)]
  by_cases h2 : k = 2
  · subst h2
    rw [if_pos rfl]
    exact Iff.rfl
  · rw [if_neg h2]
    by_cases h4 : 4 ≤ k
    · rw [if_pos h4]
      have e1 : tb_tt k = 2 := by unfold tb_tt; rw [if_neg h2, if_pos h4]
      have e2 : vp_cell (dA k) (n, .inr (.inr (.inr (.inr (fun z => (w.2.2.2 pl z).map ad))))) = arrV (dA k) n (fun z => tb_cv ad sa (tb_val (tb_tt k) w pl z)) := by
        rw [vp_cell_q, e1]
        congr 1
        funext z
        exact tb_cv_rf ad sa _
      show H[a]? = some (vp_cell (dA k) (n, .inr (.inr (.inr (.inr (fun z => (w.2.2.2 pl z).map ad)))))) ↔ _
      rw [e2]
    · rw [if_neg h4]
      have e1 : tb_tt k = 0 := by unfold tb_tt; rw [if_neg h2, if_neg h4]
      rw [e1]
      exact Iff.rfl
theorem tb_arr {D : va_G} {dA : Nat → ClassId} {b base Ls : Nat} {xs : Nat → Int32} {sa : Nat → Nat} {w : tb_Hp} {j k n : Nat} {H : Heap} (hR : tb_Rel D dA b base Ls xs sa w H) (hsh : w.1[j + 1]? = some (k, n)) (hk : k < 10) : H[base + j]? = some (arrV (dA k) n (fun z => tb_cv (tb_ad b base) sa (tb_val (tb_tt k) w (j + 1) z))) :=
  (tb_at_arr hk).mp (hR.1 j _ (tb_ws_get hsh))
theorem tb_in_ok {j : Int32} {n : Nat} (h : tb_in j n = true) : ¬ (j < 0 ∨ n ≤ j.toNatClampNeg) := by
  unfold tb_in at h
  simp only [Bool.and_eq_true, Bool.not_eq_true', decide_eq_false_iff_not, decide_eq_true_eq] at h
  rintro (g | g)
  · exact h.1 g
  · omega
/-- one slot of an array written -/
theorem tb_rel_arr {D : va_G} {dA : Nat → ClassId} {b base Ls : Nat} {xs : Nat → Int32} {sa : Nat → Nat} {w w' : tb_Hp} {j k n z : Nat} {v : Value} {H H' : Heap} (hk : k < 10) (hsh : w.1[j + 1]? = some (k, n)) (hs1 : w'.1 = w.1) (ho : ∀ z, z ≠ j + 1 → w'.2.1 z = w.2.1 z ∧ w'.2.2.1 z = w.2.2.1 z ∧ w'.2.2.2 z = w.2.2.2 z)
    (hR : tb_Rel D dA b base Ls xs sa w H) (hz : H'.size = H.size) (hoth : ∀ z : Nat, z ≠ base + j → H'[z]? = H[z]?) (hv : ∀ u, tb_val (tb_tt k) w' (j + 1) u = if u = z then v else tb_val (tb_tt k) w (j + 1) u) (hc : H'[base + j]? = some ((arrV (dA k) n (fun u => tb_cv (tb_ad b base) sa (tb_val (tb_tt k) w (j + 1) u))).setSlot z (tb_cv (tb_ad b base) sa v))) : tb_Rel D dA b base Ls xs sa w' H' := by
  refine tb_rel_set hsh hs1 ho hR hz hoth ((tb_at_arr hk).mpr ?_)
  rw [hc, arrV_store]
  congr 2
  funext u
  unfold updV
  rw [hv u]
  by_cases hu : u = z
  · rw [if_pos hu, if_pos hu]
  · rw [if_neg hu, if_neg hu]
section TBA
variable {X : State → Prop} {P : tb_Pg} {mi : tb_Mi} {sc : tb_Sc} {ns : List (String × Nat × Nat)} {D : va_G} {dA : Nat → ClassId} {b base Ls : Nat} {xs : Nat → Int32} {sa : Nat → Nat}
variable {p : Program} {l : Launch} {e : Env} {R : Room} {s : State} {m : MethodId} {args : Array Value} {below : List Frame} {meth : Method} {c : Code} {Q : State → Prop} {y : Nat} {w0 : tb_Hp}
variable {i pc len : Nat} {res ps : List Nat} {val : Value} {L : tb_L} {S : List Value} {w : tb_Hp} {st' : tb_S}
/-- a slot of an array read; kind 9 is the script -/
theorem tb_g_alo {cs : List Nat} {t : Nat} {q q' : tb_I} (C : tb_cx X mi D dA b base Ls xs p s m args meth c y) (hq : (P.1 y)[i]? = some q) (hq' : (P.1 y)[i + 1]? = some q') (hpc : q'.1 = q.1 + 1)
    (hcs : ∀ k, cs.contains k = true → (k = 9 ∧ t = 0 ∧ decode (mi y).2.1 q.1 = .ok (.iaload, 1)) ∨ (k < 9 ∧ tb_tt k = t))
    (row : ∀ (k : Nat), cs.contains k = true → k < 9 → ∀ (H : Heap) (locs : List Loc) (cells slots : Nat) (ls : Array Slot) (rest : List Value) (a n : Nat) (z : Int32) (f : Nat → Value), H[a]? = some (arrV (dA k) n f) → ¬ (z < 0 ∨ (arrV (dA k) n f).slots.size ≤ z.toNatClampNeg) → (arrV (dA k) n f).slots[z.toNatClampNeg]? = some (f z.toNatClampNeg) → W p l e R s m args below meth c H locs cells slots Q (F0 m (q.1 + 1) ls (f z.toNatClampNeg :: rest)) → W p l e R s m args below meth c H locs cells slots Q (F0 m q.1 ls (.int z :: .ref a :: rest)))
    (h : tb_alo cs t i L S w = some (.inl st')) (k : tb_Go P D dA b base Ls xs sa p l e R s m args below meth c Q y w0 st') : tb_Go P D dA b base Ls xs sa p l e R s m args below meth c Q y w0 (i, L, S, w) := by
  obtain ⟨hx, hb, hml, hr, hlk, hown, hts, hK, hnm, hbb, hbs, hX⟩ := C
  unfold tb_alo at h
  split at h
  · rename_i z pl S2
    split at h
    · rename_i kd n hsh
      split at h
      · rename_i hg
        rw [Bool.and_eq_true, Bool.and_eq_true] at hg
        obtain ⟨hg, hg9⟩ := hg
        cases h
        have hin := tb_in_ok hg.2
        intro q0 h0 H locs ls h1 h2 h3
        have e0 : q0 = _ := Option.some.inj (h0.symm.trans hq)
        subst e0
        have kk := k q' hq' H locs ls h1 h2 h3
        rw [hpc] at kk
        rcases hcs kd hg.1 with ⟨rfl, rfl, hd⟩ | ⟨h9, htt⟩
        · have e1 : pl = 0 := by simpa using hg9
          subst e1
          have e2 : (9, n) = (9, Ls) := Option.some.inj (hsh.symm.trans h1.2.2.1)
          cases e2
          refine va_sld hx hb hK.2 (Nat.lt_of_lt_of_le hbb hbs) (Nat.not_le.mpr hbb) h2 hin hd ?_
          rw [← h1.2.2.2]
          exact kk
        · obtain ⟨j, rfl⟩ := tb_pos hsh h1.2.2.1 (by omega)
          have hc := tb_arr h1 hsh (by omega)
          rw [htt] at hc
          exact row kd hg.1 h9 H locs _ _ ls _ _ n z _ hc (by rw [arrV_size]; exact hin) (arrV_read _ _ (Nat.not_le.mp fun g => hin (Or.inr g))) kk
      · cases h
    · cases h
  · cases h
theorem tb_x_iaload (C : tb_cx X mi D dA b base Ls xs p s m args meth c y) (hq : (P.1 y)[i]? = some (pc, .iaload, len, res, val, ps)) (hok : tb_okI mi sc ns (P.1 y) y i (pc, .iaload, len, res, val, ps) = true)
    (hst : tb_step P.2.2.1 P.2.2.2 (P.2.1 y) .iaload res val i L S w = some (.inl st')) (k : tb_Go P D dA b base Ls xs sa p l e R s m args below meth c Q y w0 st') : tb_Go P D dA b base Ls xs sa p l e R s m args below meth c Q y w0 (i, L, S, w) := by
  obtain ⟨hd, hl, hn⟩ : decode (mi y).2.1 pc = .ok (.iaload, len) ∧ len = 1 ∧ tb_atp (P.1 y) (i + 1) (pc + 1) = true := by simpa [tb_okI, tb_okJ, tb_ok1] using hok
  subst hl
  obtain ⟨q', hq', hpc⟩ := tb_atp_ok hn
  refine tb_g_alo C hq hq' hpc (fun kd h => ?_) (fun kd h h9 H locs cells slots ls rest a n z f h1 h2 h3 kk => ?_) hst k
  · rcases (show kd = 1 ∨ kd = 9 by simpa using h) with rfl | rfl
    · exact Or.inr ⟨by decide, rfl⟩
    · exact Or.inl ⟨rfl, rfl, hd⟩
  · rcases (show kd = 1 ∨ kd = 9 by simpa using h) with rfl | rfl
    · exact W.iald C.1 C.2.1 h1 ((C.2.2.2.2.2.2.2.1.1.2 1 _ rfl).1 n f) (fun g => by cases g) h2 h3 rfl rfl hd kk
    · omega
theorem tb_x_baload (C : tb_cx X mi D dA b base Ls xs p s m args meth c y) (hq : (P.1 y)[i]? = some (pc, .baload, len, res, val, ps)) (hok : tb_okI mi sc ns (P.1 y) y i (pc, .baload, len, res, val, ps) = true)
    (hst : tb_step P.2.2.1 P.2.2.2 (P.2.1 y) .baload res val i L S w = some (.inl st')) (k : tb_Go P D dA b base Ls xs sa p l e R s m args below meth c Q y w0 st') : tb_Go P D dA b base Ls xs sa p l e R s m args below meth c Q y w0 (i, L, S, w) := by
  obtain ⟨hd, hl, hn⟩ : decode (mi y).2.1 pc = .ok (.baload, len) ∧ len = 1 ∧ tb_atp (P.1 y) (i + 1) (pc + 1) = true := by simpa [tb_okI, tb_okJ, tb_ok1] using hok
  subst hl
  obtain ⟨q', hq', hpc⟩ := tb_atp_ok hn
  refine tb_g_alo C hq hq' hpc (fun kd h => ?_) (fun kd h h9 H locs cells slots ls rest a n z f h1 h2 h3 kk => ?_) hst k
  · rcases (show kd = 0 ∨ kd = 3 by simpa using h) with rfl | rfl
    · exact Or.inr ⟨by decide, rfl⟩
    · exact Or.inr ⟨by decide, rfl⟩
  · rcases (show kd = 0 ∨ kd = 3 by simpa using h) with rfl | rfl
    · exact W.bald C.1 C.2.1 h1 ((C.2.2.2.2.2.2.2.1.1.2 0 _ rfl).1 n f) (fun g => by cases g) h2 h3 rfl rfl hd kk
    · exact W.zald C.1 C.2.1 h1 ((C.2.2.2.2.2.2.2.1.1.2 3 _ rfl).1 n f) (fun g => by cases g) h2 h3 rfl rfl hd kk
theorem tb_x_laload (C : tb_cx X mi D dA b base Ls xs p s m args meth c y) (hq : (P.1 y)[i]? = some (pc, .laload, len, res, val, ps)) (hok : tb_okI mi sc ns (P.1 y) y i (pc, .laload, len, res, val, ps) = true)
    (hst : tb_step P.2.2.1 P.2.2.2 (P.2.1 y) .laload res val i L S w = some (.inl st')) (k : tb_Go P D dA b base Ls xs sa p l e R s m args below meth c Q y w0 st') : tb_Go P D dA b base Ls xs sa p l e R s m args below meth c Q y w0 (i, L, S, w) := by
  obtain ⟨hd, hl, hn⟩ : decode (mi y).2.1 pc = .ok (.laload, len) ∧ len = 1 ∧ tb_atp (P.1 y) (i + 1) (pc + 1) = true := by simpa [tb_okI, tb_okJ, tb_ok1] using hok
  subst hl
  obtain ⟨q', hq', hpc⟩ := tb_atp_ok hn
  refine tb_g_alo C hq hq' hpc (fun kd h => ?_) (fun kd h h9 H locs cells slots ls rest a n z f h1 h2 h3 kk => ?_) hst k
  · have e : kd = 2 := by simpa using h
    subst e
    exact Or.inr ⟨by decide, rfl⟩
  · have e : kd = 2 := by simpa using h
    subst e
    exact W.lald C.1 C.2.1 h1 ((C.2.2.2.2.2.2.2.1.1.2 2 _ rfl).1 n f) (fun g => by cases g) h2 h3 rfl rfl hd kk
theorem tb_x_aaload (C : tb_cx X mi D dA b base Ls xs p s m args meth c y) (hq : (P.1 y)[i]? = some (pc, .aaload, len, res, val, ps)) (hok : tb_okI mi sc ns (P.1 y) y i (pc, .aaload, len, res, val, ps) = true)
    (hst : tb_step P.2.2.1 P.2.2.2 (P.2.1 y) .aaload res val i L S w = some (.inl st')) (k : tb_Go P D dA b base Ls xs sa p l e R s m args below meth c Q y w0 st') : tb_Go P D dA b base Ls xs sa p l e R s m args below meth c Q y w0 (i, L, S, w) := by
  obtain ⟨hd, hl, hn⟩ : decode (mi y).2.1 pc = .ok (.aaload, len) ∧ len = 1 ∧ tb_atp (P.1 y) (i + 1) (pc + 1) = true := by simpa [tb_okI, tb_okJ, tb_ok1] using hok
  subst hl
  obtain ⟨q', hq', hpc⟩ := tb_atp_ok hn
  refine tb_g_alo C hq hq' hpc (fun kd h => ?_) (fun kd h h9 H locs cells slots ls rest a n z f h1 h2 h3 kk => ?_) hst k
  · rcases (show kd = 4 ∨ kd = 5 ∨ kd = 6 by simpa using h) with rfl | rfl | rfl <;> exact Or.inr ⟨by decide, rfl⟩
  · rcases (show kd = 4 ∨ kd = 5 ∨ kd = 6 by simpa using h) with rfl | rfl | rfl
    · exact W.aald C.1 C.2.1 h1 ((C.2.2.2.2.2.2.2.1.1.2 4 _ rfl).1 n f) rfl (fun g => by cases g) h2 h3 rfl rfl hd kk
    · exact W.aald C.1 C.2.1 h1 ((C.2.2.2.2.2.2.2.1.1.2 5 _ rfl).1 n f) rfl (fun g => by cases g) h2 h3 rfl rfl hd kk
    · exact W.aald C.1 C.2.1 h1 ((C.2.2.2.2.2.2.2.1.1.2 6 _ rfl).1 n f) rfl (fun g => by cases g) h2 h3 rfl rfl hd kk
theorem tb_x_arraylength (C : tb_cx X mi D dA b base Ls xs p s m args meth c y) (hq : (P.1 y)[i]? = some (pc, .arraylength, len, res, val, ps)) (hok : tb_okI mi sc ns (P.1 y) y i (pc, .arraylength, len, res, val, ps) = true)
    (hst : tb_step P.2.2.1 P.2.2.2 (P.2.1 y) .arraylength res val i L S w = some (.inl st')) (k : tb_Go P D dA b base Ls xs sa p l e R s m args below meth c Q y w0 st') : tb_Go P D dA b base Ls xs sa p l e R s m args below meth c Q y w0 (i, L, S, w) := by
  obtain ⟨hx, hb, hml, hr, hlk, hown, hts, hK, hnm, hbb, hbs, hX⟩ := C
  obtain ⟨hd, hl, hn⟩ : decode (mi y).2.1 pc = .ok (.arraylength, len) ∧ len = 1 ∧ tb_atp (P.1 y) (i + 1) (pc + 1) = true := by simpa [tb_okI, tb_okJ, tb_ok1] using hok
  subst hl
  obtain ⟨q', hq', hpc⟩ := tb_atp_ok hn
  simp only [tb_step, tb_aln] at hst
  split at hst
  · rename_i pl S2
    split at hst
    · rename_i kd n hsh
      split at hst
      · rename_i hg
        simp only [Bool.and_eq_true, Bool.or_eq_true, decide_eq_true_eq, beq_iff_eq, bne_iff_ne] at hg
        cases hst
        intro q0 h0 H locs ls h1 h2 h3
        have e0 : q0 = _ := Option.some.inj (h0.symm.trans hq)
        subst e0
        have kk := k q' hq' H locs ls h1 h2 h3
        rw [hpc] at kk
        by_cases h9 : kd = 9
        · subst h9
          have e1 : pl = 0 := by simpa using hg.2
          subst e1
          have e2 : (9, n) = (9, Ls) := Option.some.inj (hsh.symm.trans h1.2.2.1)
          cases e2
          exact va_slen hx hb hK.2 (Nat.lt_of_lt_of_le hbb hbs) (Nat.not_le.mpr hbb) h2 hd kk
        · obtain ⟨j, rfl⟩ := tb_pos hsh h1.2.2.1 h9
          have h7 : kd < 7 := by omega
          have hc := tb_arr h1 hsh (by omega)
          obtain ⟨ty, hty⟩ : ∃ ty, (tb_tys dA)[kd]? = some (dA kd, ty) := by
            match kd, h7 with
            | 0, _ => exact ⟨_, rfl⟩
            | 1, _ => exact ⟨_, rfl⟩
            | 2, _ => exact ⟨_, rfl⟩
            | 3, _ => exact ⟨_, rfl⟩
            | 4, _ => exact ⟨_, rfl⟩
            | 5, _ => exact ⟨_, rfl⟩
            | 6, _ => exact ⟨_, rfl⟩
            | n + 7, h => omega
          exact W.alen (n := Int32.ofNat n) hx hb hc ((hK.1.2 kd _ hty).1 n _) (by rw [arrV_size]) rfl rfl hd kk
      · cases hst
    · cases hst
  · cases hst
theorem tb_x_ast {ins : Instr} {kn : Nat} (C : tb_cx X mi D dA b base Ls xs p s m args meth c y) (hins : (ins = .iastore ∧ kn = 1) ∨ (ins = .bastore ∧ kn = 0) ∨ (ins = .lastore ∧ kn = 2)) (hq : (P.1 y)[i]? = some (pc, ins, len, res, val, ps)) (hok : tb_okI mi sc ns (P.1 y) y i (pc, ins, len, res, val, ps) = true)
    (hst : tb_ast i L S w kn = some (.inl st')) (k : tb_Go P D dA b base Ls xs sa p l e R s m args below meth c Q y w0 st') : tb_Go P D dA b base Ls xs sa p l e R s m args below meth c Q y w0 (i, L, S, w) := by
  obtain ⟨hx, hb, hml, hr, hlk, hown, hts, hK, hnm, hbb, hbs, hX⟩ := C
  obtain ⟨hd, hl, hn⟩ : decode (mi y).2.1 pc = .ok (ins, len) ∧ len = 1 ∧ tb_atp (P.1 y) (i + 1) (pc + 1) = true := by
    rcases hins with ⟨rfl, -⟩ | ⟨rfl, -⟩ | ⟨rfl, -⟩ <;> simpa [tb_okI, tb_okJ, tb_ok1] using hok
  subst hl
  obtain ⟨q', hq', hpc⟩ := tb_atp_ok hn
  unfold tb_ast at hst
  split at hst
  · rename_i v z pl S2
    split at hst
    · rename_i kd n hsh
      split at hst
      · rename_i hg
        have hin := tb_in_ok hg
        split at hst
        · cases hst
          have e1 : ins = .iastore := by rcases hins with ⟨g, -⟩ | ⟨-, g⟩ | ⟨-, g⟩ <;> first | exact g | cases g
          subst e1
          intro q0 h0 H locs ls h1 h2 h3
          have e0 : q0 = _ := Option.some.inj (h0.symm.trans hq)
          subst e0
          obtain ⟨j, rfl⟩ := tb_pos hsh h1.2.2.1 (by omega)
          refine W.iast hx hb (tb_arr h1 hsh (by omega)) ((hK.1.2 1 _ rfl).1 n _) (fun g => by cases g) (by rw [arrV_size]; exact hin) rfl rfl hd (fun H' e1 e2 e3 => ?_)
          have kk := k q' hq' H' (locs ++ [⟨base + j, z.toNatClampNeg⟩]) ls (tb_rel_arr (z := z.toNatClampNeg) (v := .int v) (by omega) hsh rfl (fun u hu => ⟨by unfold tb_setI tb_up2; simp [hu], rfl, rfl⟩) h1 e2 e3 (fun u => by unfold tb_tt tb_val tb_setI tb_up2; simp; by_cases hu : u = z.toNatClampNeg <;> simp [hu]) e1) (h2.put e2 e3 (Nat.le_add_right _ _)) h3
          rw [hpc] at kk
          exact kk
        · cases hst
          have e1 : ins = .bastore := by rcases hins with ⟨-, g⟩ | ⟨g, -⟩ | ⟨-, g⟩ <;> first | exact g | cases g
          subst e1
          intro q0 h0 H locs ls h1 h2 h3
          have e0 : q0 = _ := Option.some.inj (h0.symm.trans hq)
          subst e0
          obtain ⟨j, rfl⟩ := tb_pos hsh h1.2.2.1 (by omega)
          refine W.bast hx hb (tb_arr h1 hsh (by omega)) ((hK.1.2 0 _ rfl).1 n _) (fun g => by cases g) (by rw [arrV_size]; exact hin) rfl rfl hd (fun H' e1 e2 e3 => ?_)
          have kk := k q' hq' H' (locs ++ [⟨base + j, z.toNatClampNeg⟩]) ls (tb_rel_arr (z := z.toNatClampNeg) (v := .int v.toInt8.toInt32) (by omega) hsh rfl (fun u hu => ⟨by unfold tb_setI tb_up2; simp [hu], rfl, rfl⟩) h1 e2 e3 (fun u => by unfold tb_tt tb_val tb_setI tb_up2; simp; by_cases hu : u = z.toNatClampNeg <;> simp [hu]) e1) (h2.put e2 e3 (Nat.le_add_right _ _)) h3
          rw [hpc] at kk
          exact kk
        · cases hst
          have e1 : ins = .bastore := by rcases hins with ⟨-, g⟩ | ⟨g, -⟩ | ⟨-, g⟩ <;> first | exact g | cases g
          subst e1
          intro q0 h0 H locs ls h1 h2 h3
          have e0 : q0 = _ := Option.some.inj (h0.symm.trans hq)
          subst e0
          obtain ⟨j, rfl⟩ := tb_pos hsh h1.2.2.1 (by omega)
          refine W.zast hx hb (tb_arr h1 hsh (by omega)) ((hK.1.2 3 _ rfl).1 n _) (fun g => by cases g) (by rw [arrV_size]; exact hin) rfl rfl hd (fun H' e1 e2 e3 => ?_)
          have kk := k q' hq' H' (locs ++ [⟨base + j, z.toNatClampNeg⟩]) ls (tb_rel_arr (z := z.toNatClampNeg) (v := .int (v &&& 1)) (by omega) hsh rfl (fun u hu => ⟨by unfold tb_setI tb_up2; simp [hu], rfl, rfl⟩) h1 e2 e3 (fun u => by unfold tb_tt tb_val tb_setI tb_up2; simp; by_cases hu : u = z.toNatClampNeg <;> simp [hu]) e1) (h2.put e2 e3 (Nat.le_add_right _ _)) h3
          rw [hpc] at kk
          exact kk
        · cases hst
      · cases hst
    · cases hst
  · rename_i v z pl S2
    split at hst
    · rename_i kd n hsh
      split at hst
      · rename_i hg
        have hin := tb_in_ok hg
        split at hst
        · cases hst
          have e1 : ins = .lastore := by rcases hins with ⟨-, g⟩ | ⟨-, g⟩ | ⟨g, -⟩ <;> first | exact g | cases g
          subst e1
          intro q0 h0 H locs ls h1 h2 h3
          have e0 : q0 = _ := Option.some.inj (h0.symm.trans hq)
          subst e0
          obtain ⟨j, rfl⟩ := tb_pos hsh h1.2.2.1 (by omega)
          refine W.last hx hb (tb_arr h1 hsh (by omega)) ((hK.1.2 2 _ rfl).1 n _) (fun g => by cases g) (by rw [arrV_size]; exact hin) rfl rfl hd (fun H' e1 e2 e3 => ?_)
          have kk := k q' hq' H' (locs ++ [⟨base + j, z.toNatClampNeg⟩]) ls (tb_rel_arr (z := z.toNatClampNeg) (v := .long v) (by omega) hsh rfl (fun u hu => ⟨rfl, by unfold tb_setJ tb_up2; simp [hu], rfl⟩) h1 e2 e3 (fun u => by unfold tb_tt tb_val tb_setJ tb_up2; simp; by_cases hu : u = z.toNatClampNeg <;> simp [hu]) e1) (h2.put e2 e3 (Nat.le_add_right _ _)) h3
          rw [hpc] at kk
          exact kk
        · cases hst
      · cases hst
    · cases hst
  · cases hst
end TBA
