/-! ===== Constants of the pool, Object's constructor, arraycopy, ends ===== -/
section TBO
variable {X : State → Prop} {P : tb_Pg} {mi : tb_Mi} {sc : tb_Sc} {ns : List (String × Nat × Nat)} {D : va_G} {dA : Nat → ClassId} {b base Ls : Nat} {xs : Nat → Int32} {sa : Nat → Nat}
variable {p : Program} {l : Launch} {e : Env} {R : Room} {s : State} {m : MethodId} {args : Array Value} {below : List Frame} {meth : Method} {c : Code} {Q : State → Prop} {y : Nat} {w0 : tb_Hp}
variable {i pc len : Nat} {res ps : List Nat} {val : Value} {L : tb_L} {S : List Value} {w : tb_Hp} {st' : tb_S}
theorem tb_x_ldc {x : Nat} (C : tb_cx X mi D dA b base Ls xs p s m args meth c y) (hXs : X s → ∀ (k : Nat) (q : String × Nat × String), sc[k]? = some q → vk_R q.1 q.2.1 q.2.2 (sa k) s) (hq : (P.1 y)[i]? = some (pc, (.ldc x), len, res, val, ps)) (hok : tb_okI mi sc ns (P.1 y) y i (pc, (.ldc x), len, res, val, ps) = true)
    (hst : tb_step P.2.2.1 P.2.2.2 (P.2.1 y) (.ldc x) res val i L S w = some (.inl st')) (k : tb_Go P D dA b base Ls xs sa p l e R s m args below meth c Q y w0 st') : tb_Go P D dA b base Ls xs sa p l e R s m args below meth c Q y w0 (i, L, S, w) := by
  obtain ⟨hx, hb, hml, hr, hlk, hown, hts, hK, hnm, hbb, hbs, hX⟩ := C
  obtain ⟨hd, ⟨hl, hn⟩, hF⟩ : decode (mi y).2.1 pc = .ok ((.ldc x), len) ∧ (len = 2 ∧ tb_atp (P.1 y) (i + 1) (pc + 2) = true) ∧ tb_okC1 sc (mi y).1.cls x val ps = true := by simpa [tb_okI, tb_okJ, tb_ok2] using hok
  subst hl
  obtain ⟨q', hq', hpc⟩ := tb_atp_ok hn
  simp only [tb_step, tb_psh] at hst
  cases hst
  refine tb_g_same hq hq' (fun H locs cells slots ls kk => ?_) k
  rw [hpc] at kk
  unfold tb_okC1 at hF
  split at hF
  · exact lv_ldc hx hb hown (hts _ (tb_wd_ok hF)) hd kk
  · split at hF
    · rename_i q hsq
      simp only [Bool.and_eq_true, decide_eq_true_eq] at hF
      have hv := hXs hX _ q hsq
      rw [hF.1, hF.2] at hv
      exact va_ldcS hx hb hown hv hd kk
    · cases hF
  · cases hF
theorem tb_x_ldcw {x : Nat} (C : tb_cx X mi D dA b base Ls xs p s m args meth c y) (hq : (P.1 y)[i]? = some (pc, (.ldc_w x), len, res, val, ps)) (hok : tb_okI mi sc ns (P.1 y) y i (pc, (.ldc_w x), len, res, val, ps) = true)
    (hst : tb_step P.2.2.1 P.2.2.2 (P.2.1 y) (.ldc_w x) res val i L S w = some (.inl st')) (k : tb_Go P D dA b base Ls xs sa p l e R s m args below meth c Q y w0 st') : tb_Go P D dA b base Ls xs sa p l e R s m args below meth c Q y w0 (i, L, S, w) := by
  obtain ⟨hx, hb, hml, hr, hlk, hown, hts, hK, hnm, hbb, hbs, hX⟩ := C
  obtain ⟨hd, ⟨hl, hn⟩, hF⟩ : decode (mi y).2.1 pc = .ok ((.ldc_w x), len) ∧ (len = 3 ∧ tb_atp (P.1 y) (i + 1) (pc + 3) = true) ∧ tb_okC1 [] (mi y).1.cls x val ps = true := by simpa [tb_okI, tb_okJ, tb_ok3] using hok
  subst hl
  obtain ⟨q', hq', hpc⟩ := tb_atp_ok hn
  simp only [tb_step, tb_psh] at hst
  cases hst
  refine tb_g_same hq hq' (fun H locs cells slots ls kk => ?_) k
  rw [hpc] at kk
  unfold tb_okC1 at hF
  split at hF
  · exact lv_ldcw hx hb hown (hts _ (tb_wd_ok hF)) hd kk
  · simp at hF
  · cases hF
theorem tb_few_ok {S : List Value} {ad : Nat → Nat} (h : tb_few S = true) : ((S.map (tb_cv ad sa)).map fun v => v.category).sum ≤ 8 := by
  unfold tb_few at h
  rw [List.map_map, show ((fun v : Value => v.category) ∘ tb_cv ad sa) = (fun v : Value => v.category) from funext (fun v => tb_cat ad v)]
  exact of_decide_eq_true h
theorem tb_x_obi {x : Nat} (C : tb_cx X mi D dA b base Ls xs p s m args meth c y) (hnl : P.2.1 y = (mi y).2.2.1) (hrf : 1 ≤ R.frames ∧ 60 ≤ R.locals) (hres : res = [900]) (hq : (P.1 y)[i]? = some (pc, (.invokespecial x), len, res, val, ps)) (hok : tb_okI mi sc ns (P.1 y) y i (pc, (.invokespecial x), len, res, val, ps) = true)
    (hst : tb_obi i L S w = some (.inl st')) (k : tb_Go P D dA b base Ls xs sa p l e R s m args below meth c Q y w0 st') : tb_Go P D dA b base Ls xs sa p l e R s m args below meth c Q y w0 (i, L, S, w) := by
  obtain ⟨hx, hb, hml, hr, hlk, hown, hts, hK, hnm, hbb, hbs, hX⟩ := C
  subst hres
  obtain ⟨hd, ⟨hl, hn⟩, hF⟩ : decode (mi y).2.1 pc = .ok ((.invokespecial x), len) ∧ (len = 3 ∧ tb_atp (P.1 y) (i + 1) (pc + 3) = true) ∧ tb_okO (mi y).1.cls x ps = true := by simpa [tb_okI, tb_okJ, tb_ok3] using hok
  subst hl
  obtain ⟨q', hq', hpc⟩ := tb_atp_ok hn
  unfold tb_obi at hst
  split at hst
  · rename_i pl S2
    split at hst
    · rename_i hfew
      cases hst
      intro q0 h0 H locs ls h1 h2 h3
      have e0 : q0 = _ := Option.some.inj (h0.symm.trans hq)
      subst e0
      have kk := k q' hq' H locs ls h1 h2 h3
      rw [hpc] at kk
      unfold tb_okO at hF
      split at hF
      · simp only [Bool.and_eq_true] at hF
        have hf := tb_few_ok (sa := sa) (ad := tb_ad b base) hfew
        refine W.objInit hx hb hown (hts _ (tb_wd_ok hF.1.1)) (hts _ (tb_wd_ok hF.1.2)) (hts _ (tb_wd_ok hF.2)) rfl (by rw [hml, ← hnl]; exact h3.1) rfl hd hrf.1 (by show 2 * 0 + _ + 12 ≤ _; omega) kk
      · cases hF
    · cases hst
  · cases hst
theorem tb_x_cpy {x : Nat} (C : tb_cx X mi D dA b base Ls xs p s m args meth c y) (hnl : P.2.1 y = (mi y).2.2.1) (hrf : 1 ≤ R.frames ∧ 60 ≤ R.locals) (hres : res = [903]) (hq : (P.1 y)[i]? = some (pc, (.invokestatic x), len, res, val, ps)) (hok : tb_okI mi sc ns (P.1 y) y i (pc, (.invokestatic x), len, res, val, ps) = true)
    (hst : tb_cpy i L S w = some (.inl st')) (k : tb_Go P D dA b base Ls xs sa p l e R s m args below meth c Q y w0 st') : tb_Go P D dA b base Ls xs sa p l e R s m args below meth c Q y w0 (i, L, S, w) := by
  obtain ⟨hx, hb, hml, hr, hlk, hown, hts, hK, hnm, hbb, hbs, hX⟩ := C
  subst hres
  obtain ⟨hd, ⟨hl, hn⟩, hF⟩ : decode (mi y).2.1 pc = .ok ((.invokestatic x), len) ∧ (len = 3 ∧ tb_atp (P.1 y) (i + 1) (pc + 3) = true) ∧ tb_okCp (mi y).1.cls x ps = true := by simpa [tb_okI, tb_okJ, tb_ok3] using hok
  subst hl
  obtain ⟨q', hq', hpc⟩ := tb_atp_ok hn
  unfold tb_okCp at hF
  split at hF
  · simp only [Bool.and_eq_true] at hF
    obtain ⟨⟨⟨w1, w2⟩, w3⟩, w4⟩ := hF
    unfold tb_cpy at hst
    split at hst
    · rename_i n dp pd sp ps0 S2
      split at hst
      · rename_i n0 n1 hs0 hs1
        split at hst
        · rename_i hg
          simp only [Bool.and_eq_true, Bool.not_eq_true', decide_eq_false_iff_not, decide_eq_true_eq] at hg
          obtain ⟨⟨⟨g1, g2⟩, g3⟩, ⟨g4, g5⟩, hfew⟩ := hg
          cases hst
          intro q0 h0 H locs ls h1 h2 h3
          have e0 : q0 = _ := Option.some.inj (h0.symm.trans hq)
          subst e0
          obtain ⟨j0, rfl⟩ := tb_pos hs0 h1.2.2.1 (by omega)
          obtain ⟨j1, rfl⟩ := tb_pos hs1 h1.2.2.1 (by omega)
          have hc0 : H[base + j0]? = some (vp_cell (dA 1) (n0, .inl (w.2.1 (j0 + 1)))) := tb_arr h1 hs0 (by omega)
          have hc1 : H[base + j1]? = some (vp_cell (dA 1) (n1, .inl (w.2.1 (j1 + 1)))) := tb_arr h1 hs1 (by omega)
          have nn : ∀ z : Int32, ¬ z < 0 → z.toInt = (z.toNatClampNeg : Int) := by
            intro z hz
            have hz0 : (0 : Int) ≤ z.toInt := by simpa using Int32.le_iff_toInt_le.mp (Int32.not_lt.mp hz)
            show z.toInt = ((z.toInt.toNat : Nat) : Int)
            omega
          intro T hT XX
          obtain ⟨-, k0, hk0, cm0, hkk0⟩ := (hK.1.2 1 _ rfl).1 n0 (fun j => .int (w.2.1 (j0 + 1) j))
          obtain ⟨-, k1, hk1, cm1, hkk1⟩ := (hK.1.2 1 _ rfl).1 n1 (fun j => .int (w.2.1 (j1 + 1) j))
          have hf := tb_few_ok (sa := sa) (ad := tb_ad b base) hfew
          have hnw : nativeFrameWords "java/lang/System" "arraycopy" 5 ≤ 40 := by decide
          have hrl := hrf.2
          obtain ⟨vm', X', step⟩ := XX.arraycopy hx hown (hts _ (tb_wd_ok w1)) (hts _ (tb_wd_ok w2)) (hts _ (tb_wd_ok w3)) (hts _ (tb_wd_ok w4)) (src := base + j0) (dst := base + j1) (cs := vp_cell (dA 1) (n0, .inl (w.2.1 (j0 + 1)))) (cd := vp_cell (dA 1) (n1, .inl (w.2.1 (j1 + 1)))) (srcPos := sp) (destPos := dp) (n := n) (by rw [hT]; exact hc0) (by rw [hT]; exact hc1)
            (fun _ h => by cases h) (fun _ h => by cases h) (fun h => by cases h) (fun h => by cases h) hk0 hk1 hkk0 hkk1 (by simp [show refKind FieldType.int = false from rfl]) g1 g2 g3
            (by rw [nn sp g1, nn n g3]; show ¬ _ > ((arrV (dA 1) n0 (fun j => .int (w.2.1 (j0 + 1) j))).slots.size : Int); rw [arrV_size]; omega)
            (by rw [nn dp g2, nn n g3]; show ¬ _ > ((arrV (dA 1) n1 (fun j => .int (w.2.1 (j1 + 1) j))).slots.size : Int); rw [arrV_size]; omega)
            (fun vm₁ _ z hz => by
              have ee : (vp_cell (dA 1) (n0, .inl (w.2.1 (j0 + 1)))).slots.getD (sp.toNatClampNeg + z) .null = .int (w.2.1 (j0 + 1) (sp.toNatClampNeg + z)) := by
                show (arrV (dA 1) n0 (fun j => .int (w.2.1 (j0 + 1) j))).slots.getD _ _ = _
                rw [Array.getD_eq_getD_getElem?, arrV_read _ _ (by omega)]
                rfl
              refine ⟨?_, ?_⟩
              · rw [ee]; rfl
              · rw [ee]; exact trivial)
            (g := F0 m pc ls (.int n :: .int dp :: .ref (base + j1) :: .int sp :: .ref (base + j0) :: S2.map (tb_cv (tb_ad b base) sa))) rfl (by rw [hml, ← hnl]; exact h3.1) (rest := S2.map (tb_cv (tb_ad b base) sa)) rfl (by rw [hb]; exact hd) hrf.1 (by show 2 * 0 + _ + (nativeFrameWords "java/lang/System" "arraycopy" 5 + 11) ≤ _; omega)
          have e1 : copied (vp_cell (dA 1) (n0, .inl (w.2.1 (j0 + 1)))) (vp_cell (dA 1) (n1, .inl (w.2.1 (j1 + 1)))) sp dp n = vp_cell (dA 1) (n1, .inl (va_cpy (w.2.1 (j0 + 1)) (w.2.1 (j1 + 1)) sp.toNatClampNeg dp.toNatClampNeg n.toNatClampNeg)) := va_copied (fun z => .int z) (dA 1) (dA 1) (w.2.1 (j0 + 1)) (w.2.1 (j1 + 1)) g4
          rw [e1] at X' step
          have hl : base + j1 < H.size := (Array.getElem?_eq_some_iff.mp hc1).1
          have hheap : ((T.setVm vm').setCell (base + j1) (vp_cell (dA 1) (n1, .inl (va_cpy (w.2.1 (j0 + 1)) (w.2.1 (j1 + 1)) sp.toNatClampNeg dp.toNatClampNeg n.toNatClampNeg)))).heap = H.setIfInBounds (base + j1) (vp_cell (dA 1) (n1, .inl (va_cpy (w.2.1 (j0 + 1)) (w.2.1 (j1 + 1)) sp.toNatClampNeg dp.toNatClampNeg n.toNatClampNeg))) := by rw [← hT]; rfl
          have oq : ∀ z : Nat, z ≠ base + j1 → (H.setIfInBounds (base + j1) (vp_cell (dA 1) (n1, .inl (va_cpy (w.2.1 (j0 + 1)) (w.2.1 (j1 + 1)) sp.toNatClampNeg dp.toNatClampNeg n.toNatClampNeg))))[z]? = H[z]? := fun z hz => by simp [Array.getElem?_setIfInBounds, Ne.symm hz]
          have hself : (H.setIfInBounds (base + j1) (vp_cell (dA 1) (n1, .inl (va_cpy (w.2.1 (j0 + 1)) (w.2.1 (j1 + 1)) sp.toNatClampNeg dp.toNatClampNeg n.toNatClampNeg))))[base + j1]? = some (vp_cell (dA 1) (n1, .inl (va_cpy (w.2.1 (j0 + 1)) (w.2.1 (j1 + 1)) sp.toNatClampNeg dp.toNatClampNeg n.toNatClampNeg))) := by simp [Array.getElem?_setIfInBounds, hl]
          have hrel : tb_Rel D dA b base Ls xs sa (tb_setA w (j1 + 1) (va_cpy (w.2.1 (j0 + 1)) (w.2.1 (j1 + 1)) sp.toNatClampNeg dp.toNatClampNeg n.toNatClampNeg)) (H.setIfInBounds (base + j1) (vp_cell (dA 1) (n1, .inl (va_cpy (w.2.1 (j0 + 1)) (w.2.1 (j1 + 1)) sp.toNatClampNeg dp.toNatClampNeg n.toNatClampNeg)))) := by
            refine tb_rel_set hs1 rfl (fun z hz => ⟨by unfold tb_setA tb_up1; simp [hz], rfl, rfl⟩) h1 (by simp) oq ((tb_at_arr (by omega)).mpr ?_)
            rw [hself, vp_cell_i]
            congr 2
            funext z
            unfold tb_tt tb_val tb_setA tb_up1
            simp [tb_cv]
          obtain ⟨t, a1, b1⟩ := k q' hq' _ _ ls hrel ⟨by simp; exact h2.1, fun z gz1 gz2 => by
              rw [oq z (fun ez => gz2 (by rw [ez]; exact Nat.le_add_right _ _))]
              exact h2.2.1 z gz1 gz2, fun z hz => by
              rcases List.mem_append.mp hz with hh | hh
              · exact h2.2.2 z hh
              · obtain ⟨u, -, hu⟩ := List.mem_map.mp hh
                rw [← hu]
                exact Nat.le_add_right _ _⟩ h3 _ hheap X'
          rw [hpc] at a1
          exact ⟨t, step t a1, b1⟩
        · cases hst
      · cases hst
    · cases hst
  · cases hF
end TBO
