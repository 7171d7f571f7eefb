/-! ===== A run of the small machine is a run of the JVM ===== -/
/-- what is known of a method that has code -/
def tb_okM (P : tb_Pg) (mi : tb_Mi) (y : Nat) : Prop := (∃ q, (P.1 y)[0]? = some q ∧ q.1 = 0) ∧ plainFor (mi y).1 = true ∧ P.2.1 y = (mi y).2.2.1 ∧ (mi y).2.2.1 ≤ 41 ∧ (mi y).1.cls ≠ "java/lang/invoke/MethodHandle" ∧ (mi y).1.cls ≠ "java/lang/invoke/VarHandle" ∧ ((mi y).1.cls ≠ "TannerBuntingLaw" → Cond.code (mi y).1 (mi y).2.1 (mi y).2.2.1 (mi y).2.2.2 ∈ tb_Tw)
section TBR
variable {X : State → Prop} {P : tb_Pg} {mi : tb_Mi} {sc : tb_Sc} {ns : List (String × Nat × Nat)} {D : va_G} {dA : Nat → ClassId} {b base Ls : Nat} {xs : Nat → Int32} {sa : Nat → Nat}
variable {p : Program} {l : Launch} {e : Env} {R : Room} {s : State} {m : MethodId} {args : Array Value} {below : List Frame} {meth : Method} {c : Code} {Q : State → Prop} {y : Nat} {w0 : tb_Hp}
variable {i pc len : Nat} {res ps : List Nat} {val : Value} {L : tb_L} {S : List Value} {w : tb_Hp} {st' : tb_S}
theorem tb_x_ivkV {x y' d' : Nat} {as : List Value} {s' : tb_S} {rv : Option Value} {w' : tb_Hp} (C : tb_cx X mi D dA b base Ls xs p s m args meth c y) (hX1 : ∀ u U : State, X u → u.vm = U.vm → u.heap = U.heap → X U) (hX2 : tb_Xok X base) (hnl : P.2.1 y = (mi y).2.2.1) (hm' : tb_okM P mi y') (hne : res ≠ [901] ∧ res ≠ [902]) (hq : (P.1 y)[i]? = some (pc, (.invokevirtual x), len, res, val, ps)) (hok : tb_okI mi sc ns (P.1 y) y i (pc, (.invokevirtual x), len, res, val, ps) = true)
    (hst : tb_ivk res i L S w = some (.inr (.inl (y', as, s')))) (hg0 : tb_gr w0 w) (hg1 : tb_gr w w') (hrm : d' + 7 ≤ R.frames ∧ 60 * (d' + 7) ≤ R.locals ∧ w'.1.length - w0.1.length ≤ R.cells ∧ tb_sum w' - tb_sum w0 ≤ R.slots)
    (hM : Met l (mi y').1 (tb_wds mi y') (tb_rm d' (w'.1.length - w.1.length) (tb_sum w' - tb_sum w)) (tb_Pc X D dA b base Ls xs sa as w) (tb_Qc D dA b base Ls xs sa rv w') (w'.1.length - w.1.length) (tb_sum w' - tb_sum w) (tb_A base))
    (k : tb_Go P D dA b base Ls xs sa p l e R s m args below meth c Q y w0 (s'.1, s'.2.1, rv.toList ++ s'.2.2.1, w')) : tb_Go P D dA b base Ls xs sa p l e R s m args below meth c Q y w0 (i, L, S, w) := by
  have CC := C
  obtain ⟨hx, hb, hml, hr, hlk, hown, hts, hK, hnm, hbb, hbs, hX⟩ := C
  obtain ⟨hd, ⟨hl, hn⟩, hF⟩ : decode (mi y).2.1 pc = .ok ((.invokevirtual x), len) ∧ (len = 3 ∧ tb_atp (P.1 y) (i + 1) (pc + 3) = true) ∧ tb_okV mi (mi y).1.cls x res ps = true := by simpa [tb_okI, tb_okJ, tb_ok3, hne.1, hne.2] using hok
  subst hl
  obtain ⟨q', hq', hpc⟩ := tb_atp_ok hn
  obtain ⟨y2, n, kd, r, rfl, h10, hr', hcls, hdsc, v1, v2, v3, v4, hnlaw⟩ := tb_okV_ok hF
  simp only [tb_ivk] at hst
  split at hst
  · rename_i pl S2 hdrop
    split at hst
    · rename_i hg
      simp only [Bool.and_eq_true, decide_eq_true_eq] at hg
      obtain ⟨⟨hlen, hfew⟩, hkd⟩ := hg
      cases hst
      obtain ⟨n0, hsh⟩ := tb_kd_at hkd
      refine tb_g_call (aa := ((Value.ref pl :: (S.take n).reverse).map (tb_cv (tb_ad b base) sa)).toArray) hq hq' hpc hg0 hg1 rfl rfl (fun H locs ls h1 h2 h3 => ?_) k
      obtain ⟨j, rfl⟩ := tb_pos hsh h1.2.2.1 (by omega)
      have he := tb_ws_get (dA := dA) (b := b) (base := base) (sa := sa) hsh
      unfold tb_cell at he
      rw [if_pos h10] at he
      obtain ⟨-, hpl, hnl', hmx, hmh, hvh, hcd⟩ := hm'
      have hS : S.map (tb_cv (tb_ad b base) sa) = (((S.take n).reverse).map (tb_cv (tb_ad b base) sa)).reverse ++ .ref (base + j) :: S2.map (tb_cv (tb_ad b base) sa) := by
        conv => lhs; rw [← List.take_append_drop n S, hdrop]
        simp [tb_cv, tb_ad]
      have hf := tb_few_ok (sa := sa) (ad := tb_ad b base) hfew
      have hg1' := hg1.1
      have hg2' := hg1.2
      have hg3' := hg0.1
      have hg4' := hg0.2
      exact va_runV (As := ((S.take n).reverse).map (tb_cv (tb_ad b base) sa)) (Ts := tb_Tw) (C := r.1) (n := n) ⟨hx, hb, hml, hown, hts⟩ hM
        (cwV n hts (tb_goodW (fun z hz => by
          unfold wsV tb_wds at hz
          rcases List.mem_append.mp hz with hz | hz
          · simp only [List.mem_cons, List.not_mem_nil, or_false] at hz
            rcases hz with rfl | rfl | rfl | rfl
            · exact v1
            · exact v2
            · exact v3
            · exact v4
          · rcases List.mem_cons.mp hz with rfl | hz
            · exact hcd hnlaw
            · exact hz)) rfl rfl rfl ⟨hcls, hmh, hvh, hdsc⟩ ⟨hrm.1, by show 8 + ((mi y').2.2.1 + 11) + 60 * (d' + 6) ≤ _; omega⟩)
        ⟨tb_blind hX1, va_recv hK.1 h1.1 hr' he, fun U hU hW => tb_pre CC hX2 h1 h2 U hU hW⟩ rfl (by simp; omega) (by rw [← hnl]; exact h3.1) hS (by show 2 * 0 + _ ≤ 8; rw [Nat.mul_zero, Nat.zero_add]; exact hf) hd ⟨by show _ + (w'.1.length - w.1.length) ≤ _; omega, by show _ + (tb_sum w' - tb_sum w) ≤ _; omega⟩
    · cases hst
  · cases hst
theorem tb_x_ivkI {x y' d' : Nat} {as : List Value} {s' : tb_S} {rv : Option Value} {w' : tb_Hp} (C : tb_cx X mi D dA b base Ls xs p s m args meth c y) (hX1 : ∀ u U : State, X u → u.vm = U.vm → u.heap = U.heap → X U) (hX2 : tb_Xok X base) (hnl : P.2.1 y = (mi y).2.2.1) (hm' : tb_okM P mi y') (hne : res ≠ [900]) (hq : (P.1 y)[i]? = some (pc, (.invokespecial x), len, res, val, ps)) (hok : tb_okI mi sc ns (P.1 y) y i (pc, (.invokespecial x), len, res, val, ps) = true)
    (hst : tb_ivk res i L S w = some (.inr (.inl (y', as, s')))) (hg0 : tb_gr w0 w) (hg1 : tb_gr w w') (hrm : d' + 7 ≤ R.frames ∧ 60 * (d' + 7) ≤ R.locals ∧ w'.1.length - w0.1.length ≤ R.cells ∧ tb_sum w' - tb_sum w0 ≤ R.slots)
    (hM : Met l (mi y').1 (tb_wds mi y') (tb_rm d' (w'.1.length - w.1.length) (tb_sum w' - tb_sum w)) (tb_Pc X D dA b base Ls xs sa as w) (tb_Qc D dA b base Ls xs sa rv w') (w'.1.length - w.1.length) (tb_sum w' - tb_sum w) (tb_A base))
    (k : tb_Go P D dA b base Ls xs sa p l e R s m args below meth c Q y w0 (s'.1, s'.2.1, rv.toList ++ s'.2.2.1, w')) : tb_Go P D dA b base Ls xs sa p l e R s m args below meth c Q y w0 (i, L, S, w) := by
  have CC := C
  obtain ⟨hx, hb, hml, hr, hlk, hown, hts, hK, hnm, hbb, hbs, hX⟩ := C
  obtain ⟨hd, ⟨hl, hn⟩, hF⟩ : decode (mi y).2.1 pc = .ok ((.invokespecial x), len) ∧ (len = 3 ∧ tb_atp (P.1 y) (i + 1) (pc + 3) = true) ∧ tb_okP mi (mi y).1.cls x res ps = true := by simpa [tb_okI, tb_okJ, tb_ok3, hne] using hok
  subst hl
  obtain ⟨q', hq', hpc⟩ := tb_atp_ok hn
  obtain ⟨y2, n, kd, r, rfl, h10, hr', hcls, hin, hrn, hdsc, v1, v2, v3, hnlaw⟩ := tb_okP_ok hF
  simp only [tb_ivk] at hst
  split at hst
  · rename_i pl S2 hdrop
    split at hst
    · rename_i hg
      simp only [Bool.and_eq_true, decide_eq_true_eq] at hg
      obtain ⟨⟨hlen, hfew⟩, hkd⟩ := hg
      cases hst
      obtain ⟨n0, hsh⟩ := tb_kd_at hkd
      refine tb_g_call (aa := ((Value.ref pl :: (S.take n).reverse).map (tb_cv (tb_ad b base) sa)).toArray) hq hq' hpc hg0 hg1 rfl rfl (fun H locs ls h1 h2 h3 => ?_) k
      obtain ⟨j, rfl⟩ := tb_pos hsh h1.2.2.1 (by omega)
      obtain ⟨-, hpl, hnl', hmx, hmh, hvh, hcd⟩ := hm'
      have hS : S.map (tb_cv (tb_ad b base) sa) = (((S.take n).reverse).map (tb_cv (tb_ad b base) sa)).reverse ++ .ref (base + j) :: S2.map (tb_cv (tb_ad b base) sa) := by
        conv => lhs; rw [← List.take_append_drop n S, hdrop]
        simp [tb_cv, tb_ad]
      have hf := tb_few_ok (sa := sa) (ad := tb_ad b base) hfew
      have hg1' := hg1.1
      have hg2' := hg1.2
      have hg3' := hg0.1
      have hg4' := hg0.2
      have hwds : tb_wds mi y' = Cond.code (mi y').1 (mi y').2.1 (mi y').2.2.1 none :: tb_Tw := by unfold tb_wds; rw [hrn]
      exact va_runI (As := ((S.take n).reverse).map (tb_cv (tb_ad b base) sa)) (Ts := tb_Tw) (n := n) (bytes := (mi y').2.1) (maxL := (mi y').2.2.1) ⟨hx, hb, hml, hown, hts⟩ hM
        (cwI n hts (tb_goodW (fun z hz => by
          unfold tb_wds at hz
          rcases List.mem_cons.mp hz with rfl | hz
          · exact hcd hnlaw
          · exact hz)) hwds rfl rfl (hts _ v3) (hts _ v1) (hts _ v2) hin ⟨hmh, hvh, hdsc⟩ ⟨hrm.1, by show 8 + ((mi y').2.2.1 + 11) + 60 * (d' + 6) ≤ _; omega⟩)
        ⟨tb_blind hX1, fun U hU hW => tb_pre CC hX2 h1 h2 U hU hW⟩ rfl (by simp; omega) (by rw [← hnl]; exact h3.1) hS (by show 2 * 0 + _ ≤ 8; rw [Nat.mul_zero, Nat.zero_add]; exact hf) hd ⟨by show _ + (w'.1.length - w.1.length) ≤ _; omega, by show _ + (tb_sum w' - tb_sum w) ≤ _; omega⟩
    · cases hst
  · cases hst
theorem tb_x_ivs {x y' d' : Nat} {as : List Value} {s' : tb_S} {rv : Option Value} {w' : tb_Hp} (C : tb_cx X mi D dA b base Ls xs p s m args meth c y) (hX1 : ∀ u U : State, X u → u.vm = U.vm → u.heap = U.heap → X U) (hX2 : tb_Xok X base) (hXn : X s → ∀ q ∈ ns, va_Nw (.methodLinkNest q.1 q.2.1 (mi q.2.2).1 "TannerBunting") s) (hnl : P.2.1 y = (mi y).2.2.1) (hm' : tb_okM P mi y') (hne : res ≠ [903]) (hq : (P.1 y)[i]? = some (pc, (.invokestatic x), len, res, val, ps)) (hok : tb_okI mi sc ns (P.1 y) y i (pc, (.invokestatic x), len, res, val, ps) = true)
    (hst : tb_ivs res i L S w = some (.inr (.inl (y', as, s')))) (hg0 : tb_gr w0 w) (hg1 : tb_gr w w') (hrm : d' + 7 ≤ R.frames ∧ 60 * (d' + 7) ≤ R.locals ∧ w'.1.length - w0.1.length ≤ R.cells ∧ tb_sum w' - tb_sum w0 ≤ R.slots)
    (hM : Met l (mi y').1 (tb_wds mi y') (tb_rm d' (w'.1.length - w.1.length) (tb_sum w' - tb_sum w)) (tb_Pc X D dA b base Ls xs sa as w) (tb_Qc D dA b base Ls xs sa rv w') (w'.1.length - w.1.length) (tb_sum w' - tb_sum w) (tb_A base))
    (k : tb_Go P D dA b base Ls xs sa p l e R s m args below meth c Q y w0 (s'.1, s'.2.1, rv.toList ++ s'.2.2.1, w')) : tb_Go P D dA b base Ls xs sa p l e R s m args below meth c Q y w0 (i, L, S, w) := by
  have CC := C
  obtain ⟨hx, hb, hml, hr, hlk, hown, hts, hK, hnm, hbb, hbs, hX⟩ := C
  obtain ⟨hd, ⟨hl, hn⟩, hF⟩ : decode (mi y).2.1 pc = .ok ((.invokestatic x), len) ∧ (len = 3 ∧ tb_atp (P.1 y) (i + 1) (pc + 3) = true) ∧ tb_okS mi ns (mi y).1.cls x res ps = true := by simpa [tb_okI, tb_okJ, tb_ok3, hne] using hok
  subst hl
  obtain ⟨q', hq', hpc⟩ := tb_atp_ok hn
  obtain ⟨y2, n, rfl, hdsc, v1, v2, v3, hnlaw⟩ := tb_okS_ok hF
  simp only [tb_ivs] at hst
  split at hst
  · rename_i hg
    simp only [Bool.and_eq_true, decide_eq_true_eq] at hg
    obtain ⟨hlen, hfew⟩ := hg
    cases hst
    refine tb_g_call (aa := (((S.take n).reverse).map (tb_cv (tb_ad b base) sa)).toArray) hq hq' hpc hg0 hg1 rfl rfl (fun H locs ls h1 h2 h3 => ?_) k
    obtain ⟨-, hpl, hnl', hmx, hmh, hvh, hcd⟩ := hm'
    have hS : S.map (tb_cv (tb_ad b base) sa) = (((S.take n).reverse).map (tb_cv (tb_ad b base) sa)).reverse ++ (S.drop n).map (tb_cv (tb_ad b base) sa) := by
      conv => lhs; rw [← List.take_append_drop n S]
      simp
    have hf := tb_few_ok (sa := sa) (ad := tb_ad b base) hfew
    have hg1' := hg1.1
    have hg2' := hg1.2
    have hg3' := hg0.1
    have hg4' := hg0.2
    have hgood : GoodIn tb_Tw (tb_wds mi y') := tb_goodW (fun z hz => by
          unfold tb_wds at hz
          rcases List.mem_cons.mp hz with rfl | hz
          · exact hcd hnlaw
          · exact hz)
    rcases v1 with v1 | v1
    · exact va_runS (As := ((S.take n).reverse).map (tb_cv (tb_ad b base) sa)) (Ts := tb_Tw) (n := n) (bytes := (mi y').2.1) (maxL := (mi y').2.2.1) (ret := (mi y').2.2.2) ⟨hx, hb, hml, hown, hts⟩ hM
        ⟨callB_of n hts hgood rfl rfl rfl (hts _ v3) (hts _ v1) ⟨hmh, hvh, hdsc⟩ ⟨hrm.1, by show 8 + ((mi y').2.2.1 + 11) + 60 * (d' + 6) ≤ _; omega⟩, hts _ v2⟩
        ⟨tb_blind hX1, fun U hU hW => tb_pre CC hX2 h1 h2 U hU hW⟩ rfl (by simp; omega) (by rw [← hnl]; exact h3.1) hS (by show 2 * 0 + _ ≤ 8; rw [Nat.mul_zero, Nat.zero_add]; exact hf) hd ⟨by show _ + (w'.1.length - w.1.length) ≤ _; omega, by show _ + (tb_sum w' - tb_sum w) ≤ _; omega⟩
    · exact va_runSN (As := ((S.take n).reverse).map (tb_cv (tb_ad b base) sa)) (Ts := tb_Tw) (n := n) (host := "TannerBunting") (bytes := (mi y').2.1) (maxL := (mi y').2.2.1) (ret := (mi y').2.2.2) ⟨hx, hb, hml, hown, hts⟩ hM
        ⟨va_cnB n hts hgood rfl rfl rfl (hXn hX _ v1) (hts _ v3) ⟨hmh, hvh, hdsc⟩ ⟨hrm.1, by show 8 + ((mi y').2.2.1 + 11) + 60 * (d' + 6) ≤ _; omega⟩, hts _ v2, trivial⟩
        ⟨tb_blind hX1, fun U hU hW => tb_pre CC hX2 h1 h2 U hU hW⟩ rfl (by simp; omega) (by rw [← hnl]; exact h3.1) hS (by show 2 * 0 + _ ≤ 8; rw [Nat.mul_zero, Nat.zero_add]; exact hf) hd ⟨by show _ + (w'.1.length - w.1.length) ≤ _; omega, by show _ + (tb_sum w' - tb_sum w) ≤ _; omega⟩
  · cases hst
/-- String.length and String.charAt of the texts -/
def tb_TX (X : State → Prop) (P : tb_Pg) (mi : tb_Mi) (sc : tb_Sc) (ns : List (String × Nat × Nat)) (D : va_G) (dA : Nat → ClassId) (b base Ls : Nat) (xs : Nat → Int32) (sa : Nat → Nat) (l : Launch) : Prop :=
  ∀ (p : Program) (e : Env) (R : Room) (s : State) (m : MethodId) (args : Array Value) (below : List Frame) (meth : Method) (c : Code) (Q : State → Prop) (y : Nat) (w0 : tb_Hp) (i pc len x : Nat) (res ps : List Nat) (val : Value) (L : tb_L) (S : List Value) (w : tb_Hp) (st' : tb_S), tb_cx X mi D dA b base Ls xs p s m args meth c y → P.2.1 y = (mi y).2.2.1 → 6 ≤ R.frames ∧ 360 ≤ R.locals → (st'.2.2.2.1.length - w0.1.length ≤ R.cells ∧ tb_sum st'.2.2.2 - tb_sum w0 ≤ R.slots) → res = [901] ∨ res = [902] → (P.1 y)[i]? = some (pc, (.invokevirtual x), len, res, val, ps) → tb_okI mi sc ns (P.1 y) y i (pc, (.invokevirtual x), len, res, val, ps) = true →
    tb_step P.2.2.1 P.2.2.2 (P.2.1 y) (.invokevirtual x) res val i L S w = some (.inl st') → tb_Go P D dA b base Ls xs sa p l e R s m args below meth c Q y w0 st' → tb_Go P D dA b base Ls xs sa p l e R s m args below meth c Q y w0 (i, L, S, w)
/-- every instruction that goes on -/
theorem tb_next {q : tb_I} (C : tb_cx X mi D dA b base Ls xs p s m args meth c y) (hXo : X s → va_AO "TannerBunting$Scene" s ∧ va_AO "TannerBunting$Street" s ∧ tb_AOA s) (hXs : X s → ∀ (k : Nat) (q : String × Nat × String), sc[k]? = some q → vk_R q.1 q.2.1 q.2.2 (sa k) s) (hTX : tb_TX X P mi sc ns D dA b base Ls xs sa l) (hcmp : P.2.2.1 4 = 1 ∧ P.2.2.1 5 = 15 ∧ P.2.2.1 6 = 17) (hnl : P.2.1 y = (mi y).2.2.1) (hrf : 6 ≤ R.frames ∧ 360 ≤ R.locals)
    (hq : (P.1 y)[i]? = some q) (hok : tb_okI mi sc ns (P.1 y) y i q = true) (hst : tb_step P.2.2.1 P.2.2.2 (P.2.1 y) q.2.1 q.2.2.2.1 q.2.2.2.2.1 i L S w = some (.inl st')) (hw0 : tb_gr w0 w) (hrm : st'.2.2.2.1.length - w0.1.length ≤ R.cells ∧ tb_sum st'.2.2.2 - tb_sum w0 ≤ R.slots)
    (k : tb_Go P D dA b base Ls xs sa p l e R s m args below meth c Q y w0 st') : tb_Go P D dA b base Ls xs sa p l e R s m args below meth c Q y w0 (i, L, S, w) := by
  obtain ⟨pc, ins, len, res, val, ps⟩ := q
  cases ins with
  | nop => exact tb_x_nop C hnl hq hok hst k
  | iconst n => exact tb_x_iconst C hnl hq hok hst k
  | bipush n => exact tb_x_bipush C hnl hq hok hst k
  | sipush n => exact tb_x_sipush C hnl hq hok hst k
  | lconst n => exact tb_x_lconst C hnl hq hok hst k
  | ldc n => exact tb_x_ldc C hXs hq hok hst k
  | ldc_w n => exact tb_x_ldcw C hq hok hst k
  | ldc2_w n => exact tb_x_ldc2 C hnl hq hok hst k
  | aconst_null => exact tb_x_null C hnl hq hok hst k
  | iload_n n => exact tb_x_iload_n C hnl hq hok hst k
  | iload n => exact tb_x_iload C hnl hq hok hst k
  | lload_n n => exact tb_x_lload_n C hnl hq hok hst k
  | lload n => exact tb_x_lload C hnl hq hok hst k
  | aload_n n => exact tb_x_aload_n C hnl hq hok hst k
  | aload n => exact tb_x_aload C hnl hq hok hst k
  | istore_n n => exact tb_x_istore_n C hnl hq hok hst k
  | istore n => exact tb_x_istore C hnl hq hok hst k
  | lstore_n n => exact tb_x_lstore_n C hnl hq hok hst k
  | lstore n => exact tb_x_lstore C hnl hq hok hst k
  | astore_n n => exact tb_x_astore_n C hnl hq hok hst k
  | astore n => exact tb_x_astore C hnl hq hok hst k
  | iinc n z => exact tb_x_iinc C hnl hq hok hst k
  | iadd => exact tb_x_iadd C hnl hq hok hst k
  | isub => exact tb_x_isub C hnl hq hok hst k
  | imul => exact tb_x_imul C hnl hq hok hst k
  | iand => exact tb_x_iand C hnl hq hok hst k
  | ior => exact tb_x_ior C hnl hq hok hst k
  | ixor => exact tb_x_ixor C hnl hq hok hst k
  | ishl => exact tb_x_ishl C hnl hq hok hst k
  | ishr => exact tb_x_ishr C hnl hq hok hst k
  | iushr => exact tb_x_iushr C hnl hq hok hst k
  | idiv => exact tb_x_idiv C hnl hq hok hst k
  | irem => exact tb_x_irem C hnl hq hok hst k
  | ineg => exact tb_x_ineg C hnl hq hok hst k
  | i2b => exact tb_x_i2b C hnl hq hok hst k
  | ladd => exact tb_x_ladd C hnl hq hok hst k
  | lsub => exact tb_x_lsub C hnl hq hok hst k
  | lmul => exact tb_x_lmul C hnl hq hok hst k
  | land => exact tb_x_land C hnl hq hok hst k
  | lor => exact tb_x_lor C hnl hq hok hst k
  | ldiv => exact tb_x_ldiv C hnl hq hok hst k
  | lrem => exact tb_x_lrem C hnl hq hok hst k
  | lshl => exact tb_x_lshl C hnl hq hok hst k
  | lcmp => exact tb_x_lcmp C hnl hq hok hst k
  | i2l => exact tb_x_i2l C hnl hq hok hst k
  | l2i => exact tb_x_l2i C hnl hq hok hst k
  | dup => exact tb_x_dup C hnl hq hok hst k
  | pop => exact tb_x_pop C hnl hq hok hst k
  | dup2 => exact tb_x_dup2 C hnl hq hok hst k
  | goto off => exact tb_x_goto C hnl hq hok hst k
  | ifCond cn off => exact tb_x_ifCond C hnl hq hok hst k
  | if_icmp cn off => exact tb_x_if_icmp C hnl hq hok hst k
  | ifnull off => exact tb_x_ifnull C hnl hq hok hst k
  | ifnonnull off => exact tb_x_ifnonnull C hnl hq hok hst k
  | tableswitch d lo hi offs => exact tb_x_tableswitch C hq hok hst k
  | lookupswitch d prs => exact tb_x_lookupswitch C hq hok hst k
  | getfield x => exact tb_x_getfield C hq hok hst k
  | putfield x => exact tb_x_putfield C hq hok hst k
  | iaload => exact tb_x_iaload C hq hok hst k
  | baload => exact tb_x_baload C hq hok hst k
  | laload => exact tb_x_laload C hq hok hst k
  | aaload => exact tb_x_aaload C hq hok hst k
  | iastore => exact tb_x_ast C (Or.inl ⟨rfl, rfl⟩) hq hok hst k
  | bastore => exact tb_x_ast C (Or.inr (Or.inl ⟨rfl, rfl⟩)) hq hok hst k
  | lastore => exact tb_x_ast C (Or.inr (Or.inr ⟨rfl, rfl⟩)) hq hok hst k
  | aastore => exact tb_x_aastore C (fun h => (hXo h).2.2) hcmp hq hok hst k
  | arraylength => exact tb_x_arraylength C hq hok hst k
  | new x => exact tb_x_new C hq hok hst hw0 hrm k
  | newarray t => exact tb_x_newarray C hq hok hst hw0 hrm k
  | anewarray x => exact tb_x_anewarray C hXo hq hok hst hw0 hrm k
  | invokevirtual x =>
    by_cases h1 : res = [901]
    · exact hTX p e R s m args below meth c Q y w0 i pc len x res ps val L S w st' C hnl hrf hrm (Or.inl h1) hq hok hst k
    · by_cases h2 : res = [902]
      · exact hTX p e R s m args below meth c Q y w0 i pc len x res ps val L S w st' C hnl hrf hrm (Or.inr h2) hq hok hst k
      · simp only [tb_step, if_neg h1, if_neg h2, tb_ivk] at hst
        split at hst
        · split at hst
          · split at hst <;> cases hst
          · cases hst
        · cases hst
  | invokespecial x =>
    by_cases h1 : res = [900]
    · simp only [tb_step, if_pos h1] at hst
      exact tb_x_obi C hnl ⟨by omega, by omega⟩ h1 hq hok hst k
    · simp only [tb_step, if_neg h1, tb_ivk] at hst
      split at hst
      · split at hst
        · split at hst <;> cases hst
        · cases hst
      · cases hst
  | invokestatic x =>
    by_cases h1 : res = [903]
    · simp only [tb_step, if_pos h1] at hst
      exact tb_x_cpy C hnl ⟨by omega, by omega⟩ h1 hq hok hst k
    · simp only [tb_step, if_neg h1, tb_ivs] at hst
      split at hst
      · split at hst <;> cases hst
      · cases hst
  | ireturn => simp only [tb_step, tb_ret] at hst; split at hst <;> (try split at hst) <;> cases hst
  | lreturn => simp only [tb_step, tb_ret] at hst; split at hst <;> (try split at hst) <;> cases hst
  | areturn => simp only [tb_step, tb_ret] at hst; split at hst <;> (try split at hst) <;> cases hst
  | return_ => simp only [tb_step, tb_ret] at hst; split at hst <;> (try split at hst) <;> cases hst
  | _ => cases hst
end TBR
