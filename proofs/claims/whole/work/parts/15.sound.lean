/-! ===== The whole of it: a run of the small machine is met by the JVM ===== -/
theorem tb_sound {X : State → Prop} {P : tb_Pg} {mi : tb_Mi} {sc : tb_Sc} {ns : List (String × Nat × Nat)} {D : va_G} {dA : Nat → ClassId} {b base Ls : Nat} {xs : Nat → Int32} {sa : Nat → Nat} {l : Launch} (hbb : b < base)
    (hP1 : ∀ (y i : Nat) (q : tb_I), (P.1 y)[i]? = some q → tb_okI mi sc ns (P.1 y) y i q = true) (hP2 : ∀ (y i : Nat) (q : tb_I), (P.1 y)[i]? = some q → tb_okM P mi y) (hcmp : P.2.2.1 4 = 1 ∧ P.2.2.1 5 = 15 ∧ P.2.2.1 6 = 17)
    (hX1 : ∀ u U : State, X u → u.vm = U.vm → u.heap = U.heap → X U) (hX2 : tb_Xok X base) (hXo : ∀ s, X s → va_AO "TannerBunting$Scene" s ∧ va_AO "TannerBunting$Street" s ∧ tb_AOA s) (hXs : ∀ s, X s → ∀ (k : Nat) (q : String × Nat × String), sc[k]? = some q → vk_R q.1 q.2.1 q.2.2 (sa k) s) (hXn : ∀ s, X s → ∀ q ∈ ns, va_Nw (.methodLinkNest q.1 q.2.1 (mi q.2.2).1 "TannerBunting") s) (hTX : tb_TX X P mi sc ns D dA b base Ls xs sa l) :
    ∀ (n d y : Nat) (st : tb_S) (out : Option Value × tb_Hp), tb_ex P n d y st = some out → ∀ (p : Program) (e : Env) (R : Room) (s : State) (m : MethodId) (args : Array Value) (below : List Frame) (meth : Method) (c : Code) (w0 : tb_Hp), tb_cx X mi D dA b base Ls xs p s m args meth c y → d + 6 ≤ R.frames ∧ 60 * (d + 6) ≤ R.locals ∧ out.2.1.length - w0.1.length ≤ R.cells ∧ tb_sum out.2 - tb_sum w0 ≤ R.slots → tb_gr w0 st.2.2.2 →
      tb_Go P D dA b base Ls xs sa p l e R s m args below meth c (MQ below (tb_Qc D dA b base Ls xs sa out.1 out.2) args s (out.2.1.length - w0.1.length) (tb_sum out.2 - tb_sum w0) (tb_A base)) y w0 st := by
  intro n
  induction n with
  | zero => intro d y st out h; cases h
  | succ n ih =>
    intro d y st out h p e R s m args below meth c w0 C hrm hg
    obtain ⟨i, L, S, w⟩ := st
    unfold tb_ex at h
    split at h
    · cases h
    · rename_i q hq
      have hok := hP1 y i q hq
      have hM := hP2 y i q hq
      have hrf : 6 ≤ R.frames ∧ 360 ≤ R.locals := ⟨by omega, by omega⟩
      split at h
      · cases h
      · rename_i s' hs
        have hg1 : tb_gr w s'.2.2.2 := tb_gr_step hs
        have hg2 := tb_gr_ex n d y s' out h
        have hg3 := hg1.1
        have hg4 := hg1.2
        have hg5 := hg2.1
        have hg6 := hg2.2
        exact tb_next C (hXo s) (hXs s) hTX hcmp hM.2.2.1 hrf hq hok hs hg ⟨by omega, by omega⟩ (ih d y s' out h p e R s m args below meth c w0 C hrm (hg.tr hg1))
      · rename_i y' as s' hs
        split at h
        · cases h
        · rename_i d'
          split at h
          · rename_i hlen
            split at h
            · cases h
            · rename_i v w' hw
              have hm' : tb_okM P mi y' := by
                cases n with
                | zero => cases hw
                | succ n =>
                  unfold tb_ex at hw
                  split at hw
                  · cases hw
                  · rename_i q2 hq2
                    exact hP2 y' 0 q2 hq2
              obtain ⟨pc, ins, len, res, val, ps⟩ := q
              have hs2 : tb_step P.2.2.1 P.2.2.2 (P.2.1 y) ins res val i L S w = some (.inr (.inl (y', as, s'))) := hs
              have hwe : s'.2.2.2 = w := by
                rcases tb_k_step hs2 with g | ⟨-, g⟩ | ⟨-, g⟩ | ⟨-, g⟩ | ⟨t, -, g⟩
                · cases g
                · unfold tb_ivk at g
                  split at g
                  · split at g
                    · split at g <;> cases g
                      rfl
                    · cases g
                  · cases g
                · unfold tb_ivk at g
                  split at g
                  · split at g
                    · split at g <;> cases g
                      rfl
                    · cases g
                  · cases g
                · unfold tb_ivs at g
                  split at g
                  · split at g <;> cases g
                    rfl
                  · cases g
                · unfold tb_ret at g
                  split at g <;> (try split at g) <;> cases g
              rw [hwe] at hw
              have hg1 : tb_gr w w' := tb_gr_ex n d' y' _ _ hw
              have hg2 : tb_gr w' out.2 := tb_gr_ex n (d' + 1) y _ out h
              have q1 := hg1.1
              have q2 := hg1.2
              have q3 := hg2.1
              have q4 := hg2.2
              have hMet := tb_met (X := X) (P := P) (mi := mi) (D := D) (dA := dA) (Ls := Ls) (xs := xs) (sa := sa) (l := l) (d := d') (mc := w'.1.length - w.1.length) (ms := tb_sum w' - tb_sum w) (rv := v) (w' := w') (as := as) (w := w) hbb hm'.2.1 hm'.1 hm'.2.2.1 hlen (fun p e s m args below meth c C' => ih d' y' (0, tb_ent as, [], w) (v, w') hw p e (tb_rm d' (w'.1.length - w.1.length) (tb_sum w' - tb_sum w)) s m args below meth c w C' ⟨Nat.le_refl _, Nat.le_refl _, Nat.le_refl _, Nat.le_refl _⟩ (tb_gr.rf w))
              have kk := ih (d' + 1) y _ out h p e R s m args below meth c w0 C hrm (hg.tr hg1)
              have hrm' : d' + 7 ≤ R.frames ∧ 60 * (d' + 7) ≤ R.locals ∧ w'.1.length - w0.1.length ≤ R.cells ∧ tb_sum w' - tb_sum w0 ≤ R.slots := ⟨by omega, by omega, by omega, by omega⟩
              rcases tb_k_step hs2 with g | ⟨⟨x, rfl, n1, n2⟩, g⟩ | ⟨⟨x, rfl, n1⟩, g⟩ | ⟨⟨x, rfl, n1⟩, g⟩ | ⟨t, -, g⟩
              · cases g
              · exact tb_x_ivkV C hX1 hX2 hM.2.2.1 hm' ⟨n1, n2⟩ hq hok g hg hg1 hrm' hMet kk
              · exact tb_x_ivkI C hX1 hX2 hM.2.2.1 hm' n1 hq hok g hg hg1 hrm' hMet kk
              · exact tb_x_ivs C hX1 hX2 (hXn s) hM.2.2.1 hm' n1 hq hok g hg hg1 hrm' hMet kk
              · unfold tb_ret at g
                split at g <;> (try split at g) <;> cases g
          · cases h
      · rename_i v w' hs
        cases h
        obtain ⟨pc, ins, len, res, val, ps⟩ := q
        have hs2 : tb_step P.2.2.1 P.2.2.2 (P.2.1 y) ins res val i L S w = some (.inr (.inr (v, w'))) := hs
        rcases tb_k_step hs2 with g | ⟨-, g⟩ | ⟨-, g⟩ | ⟨-, g⟩ | ⟨t, ht, g⟩
        · cases g
        · unfold tb_ivk at g
          split at g
          · split at g
            · split at g <;> cases g
            · cases g
          · cases g
        · unfold tb_ivk at g
          split at g
          · split at g
            · split at g <;> cases g
            · cases g
          · cases g
        · unfold tb_ivs at g
          split at g
          · split at g <;> cases g
          · cases g
        · exact tb_x_ret C ht hq hok g
