/-! ===== Each instruction that leaves the heap ===== -/
section TBN
variable {X : State → Prop} {P : tb_Pg} {mi : tb_Mi} {sc : tb_Sc} {ns : List (String × Nat × Nat)} {D : va_G} {dA : Nat → ClassId} {b base Ls : Nat} {xs : Nat → Int32} {sa : Nat → Nat}
variable {p : Program} {l : Launch} {e : Env} {R : Room} {s : State} {m : MethodId} {args : Array Value} {below : List Frame} {meth : Method} {c : Code} {Q : State → Prop} {y : Nat} {w0 : tb_Hp}
variable {i pc len : Nat} {res ps : List Nat} {val : Value} {L : tb_L} {S : List Value} {w : tb_Hp} {st' : tb_S}

theorem tb_x_iadd (C : tb_cx X mi D dA b base Ls xs p s m args meth c y) (hnl : P.2.1 y = (mi y).2.2.1) (hq : (P.1 y)[i]? = some (pc, .iadd, len, res, val, ps)) (hok : tb_okI mi sc ns (P.1 y) y i (pc, .iadd, len, res, val, ps) = true)
    (hst : tb_step P.2.2.1 P.2.2.2 (P.2.1 y) .iadd res val i L S w = some (.inl st')) (k : tb_Go P D dA b base Ls xs sa p l e R s m args below meth c Q y w0 st') : tb_Go P D dA b base Ls xs sa p l e R s m args below meth c Q y w0 (i, L, S, w) := by
  obtain ⟨hx, hb, hml, hr, hlk, hown, hts, hK, hnm, hbb, hbs, hX⟩ := C
  obtain ⟨hd, hl, hn⟩ : decode (mi y).2.1 pc = .ok (.iadd, len) ∧ len = 1 ∧ tb_atp (P.1 y) (i + 1) (pc + 1) = true := by simpa [tb_okI, tb_okJ, tb_ok1] using hok
  subst hl
  obtain ⟨q', hq', hpc⟩ := tb_atp_ok hn
  exact tb_g_bin hq hq' hpc (fun H locs cells slots ls rest u v kk => lv_iadd hx hb hd kk) hst k

theorem tb_x_isub (C : tb_cx X mi D dA b base Ls xs p s m args meth c y) (hnl : P.2.1 y = (mi y).2.2.1) (hq : (P.1 y)[i]? = some (pc, .isub, len, res, val, ps)) (hok : tb_okI mi sc ns (P.1 y) y i (pc, .isub, len, res, val, ps) = true)
    (hst : tb_step P.2.2.1 P.2.2.2 (P.2.1 y) .isub res val i L S w = some (.inl st')) (k : tb_Go P D dA b base Ls xs sa p l e R s m args below meth c Q y w0 st') : tb_Go P D dA b base Ls xs sa p l e R s m args below meth c Q y w0 (i, L, S, w) := by
  obtain ⟨hx, hb, hml, hr, hlk, hown, hts, hK, hnm, hbb, hbs, hX⟩ := C
  obtain ⟨hd, hl, hn⟩ : decode (mi y).2.1 pc = .ok (.isub, len) ∧ len = 1 ∧ tb_atp (P.1 y) (i + 1) (pc + 1) = true := by simpa [tb_okI, tb_okJ, tb_ok1] using hok
  subst hl
  obtain ⟨q', hq', hpc⟩ := tb_atp_ok hn
  exact tb_g_bin hq hq' hpc (fun H locs cells slots ls rest u v kk => lv_isub hx hb hd kk) hst k

theorem tb_x_imul (C : tb_cx X mi D dA b base Ls xs p s m args meth c y) (hnl : P.2.1 y = (mi y).2.2.1) (hq : (P.1 y)[i]? = some (pc, .imul, len, res, val, ps)) (hok : tb_okI mi sc ns (P.1 y) y i (pc, .imul, len, res, val, ps) = true)
    (hst : tb_step P.2.2.1 P.2.2.2 (P.2.1 y) .imul res val i L S w = some (.inl st')) (k : tb_Go P D dA b base Ls xs sa p l e R s m args below meth c Q y w0 st') : tb_Go P D dA b base Ls xs sa p l e R s m args below meth c Q y w0 (i, L, S, w) := by
  obtain ⟨hx, hb, hml, hr, hlk, hown, hts, hK, hnm, hbb, hbs, hX⟩ := C
  obtain ⟨hd, hl, hn⟩ : decode (mi y).2.1 pc = .ok (.imul, len) ∧ len = 1 ∧ tb_atp (P.1 y) (i + 1) (pc + 1) = true := by simpa [tb_okI, tb_okJ, tb_ok1] using hok
  subst hl
  obtain ⟨q', hq', hpc⟩ := tb_atp_ok hn
  exact tb_g_bin hq hq' hpc (fun H locs cells slots ls rest u v kk => lv_imul hx hb hd kk) hst k

theorem tb_x_iand (C : tb_cx X mi D dA b base Ls xs p s m args meth c y) (hnl : P.2.1 y = (mi y).2.2.1) (hq : (P.1 y)[i]? = some (pc, .iand, len, res, val, ps)) (hok : tb_okI mi sc ns (P.1 y) y i (pc, .iand, len, res, val, ps) = true)
    (hst : tb_step P.2.2.1 P.2.2.2 (P.2.1 y) .iand res val i L S w = some (.inl st')) (k : tb_Go P D dA b base Ls xs sa p l e R s m args below meth c Q y w0 st') : tb_Go P D dA b base Ls xs sa p l e R s m args below meth c Q y w0 (i, L, S, w) := by
  obtain ⟨hx, hb, hml, hr, hlk, hown, hts, hK, hnm, hbb, hbs, hX⟩ := C
  obtain ⟨hd, hl, hn⟩ : decode (mi y).2.1 pc = .ok (.iand, len) ∧ len = 1 ∧ tb_atp (P.1 y) (i + 1) (pc + 1) = true := by simpa [tb_okI, tb_okJ, tb_ok1] using hok
  subst hl
  obtain ⟨q', hq', hpc⟩ := tb_atp_ok hn
  exact tb_g_bin hq hq' hpc (fun H locs cells slots ls rest u v kk => lv_iand hx hb hd kk) hst k

theorem tb_x_ior (C : tb_cx X mi D dA b base Ls xs p s m args meth c y) (hnl : P.2.1 y = (mi y).2.2.1) (hq : (P.1 y)[i]? = some (pc, .ior, len, res, val, ps)) (hok : tb_okI mi sc ns (P.1 y) y i (pc, .ior, len, res, val, ps) = true)
    (hst : tb_step P.2.2.1 P.2.2.2 (P.2.1 y) .ior res val i L S w = some (.inl st')) (k : tb_Go P D dA b base Ls xs sa p l e R s m args below meth c Q y w0 st') : tb_Go P D dA b base Ls xs sa p l e R s m args below meth c Q y w0 (i, L, S, w) := by
  obtain ⟨hx, hb, hml, hr, hlk, hown, hts, hK, hnm, hbb, hbs, hX⟩ := C
  obtain ⟨hd, hl, hn⟩ : decode (mi y).2.1 pc = .ok (.ior, len) ∧ len = 1 ∧ tb_atp (P.1 y) (i + 1) (pc + 1) = true := by simpa [tb_okI, tb_okJ, tb_ok1] using hok
  subst hl
  obtain ⟨q', hq', hpc⟩ := tb_atp_ok hn
  exact tb_g_bin hq hq' hpc (fun H locs cells slots ls rest u v kk => lv_ior hx hb hd kk) hst k

theorem tb_x_ixor (C : tb_cx X mi D dA b base Ls xs p s m args meth c y) (hnl : P.2.1 y = (mi y).2.2.1) (hq : (P.1 y)[i]? = some (pc, .ixor, len, res, val, ps)) (hok : tb_okI mi sc ns (P.1 y) y i (pc, .ixor, len, res, val, ps) = true)
    (hst : tb_step P.2.2.1 P.2.2.2 (P.2.1 y) .ixor res val i L S w = some (.inl st')) (k : tb_Go P D dA b base Ls xs sa p l e R s m args below meth c Q y w0 st') : tb_Go P D dA b base Ls xs sa p l e R s m args below meth c Q y w0 (i, L, S, w) := by
  obtain ⟨hx, hb, hml, hr, hlk, hown, hts, hK, hnm, hbb, hbs, hX⟩ := C
  obtain ⟨hd, hl, hn⟩ : decode (mi y).2.1 pc = .ok (.ixor, len) ∧ len = 1 ∧ tb_atp (P.1 y) (i + 1) (pc + 1) = true := by simpa [tb_okI, tb_okJ, tb_ok1] using hok
  subst hl
  obtain ⟨q', hq', hpc⟩ := tb_atp_ok hn
  exact tb_g_bin hq hq' hpc (fun H locs cells slots ls rest u v kk => lv_ixor hx hb hd kk) hst k

theorem tb_x_ishl (C : tb_cx X mi D dA b base Ls xs p s m args meth c y) (hnl : P.2.1 y = (mi y).2.2.1) (hq : (P.1 y)[i]? = some (pc, .ishl, len, res, val, ps)) (hok : tb_okI mi sc ns (P.1 y) y i (pc, .ishl, len, res, val, ps) = true)
    (hst : tb_step P.2.2.1 P.2.2.2 (P.2.1 y) .ishl res val i L S w = some (.inl st')) (k : tb_Go P D dA b base Ls xs sa p l e R s m args below meth c Q y w0 st') : tb_Go P D dA b base Ls xs sa p l e R s m args below meth c Q y w0 (i, L, S, w) := by
  obtain ⟨hx, hb, hml, hr, hlk, hown, hts, hK, hnm, hbb, hbs, hX⟩ := C
  obtain ⟨hd, hl, hn⟩ : decode (mi y).2.1 pc = .ok (.ishl, len) ∧ len = 1 ∧ tb_atp (P.1 y) (i + 1) (pc + 1) = true := by simpa [tb_okI, tb_okJ, tb_ok1] using hok
  subst hl
  obtain ⟨q', hq', hpc⟩ := tb_atp_ok hn
  exact tb_g_bin hq hq' hpc (fun H locs cells slots ls rest u v kk => lv_ishl hx hb hd kk) hst k

theorem tb_x_ishr (C : tb_cx X mi D dA b base Ls xs p s m args meth c y) (hnl : P.2.1 y = (mi y).2.2.1) (hq : (P.1 y)[i]? = some (pc, .ishr, len, res, val, ps)) (hok : tb_okI mi sc ns (P.1 y) y i (pc, .ishr, len, res, val, ps) = true)
    (hst : tb_step P.2.2.1 P.2.2.2 (P.2.1 y) .ishr res val i L S w = some (.inl st')) (k : tb_Go P D dA b base Ls xs sa p l e R s m args below meth c Q y w0 st') : tb_Go P D dA b base Ls xs sa p l e R s m args below meth c Q y w0 (i, L, S, w) := by
  obtain ⟨hx, hb, hml, hr, hlk, hown, hts, hK, hnm, hbb, hbs, hX⟩ := C
  obtain ⟨hd, hl, hn⟩ : decode (mi y).2.1 pc = .ok (.ishr, len) ∧ len = 1 ∧ tb_atp (P.1 y) (i + 1) (pc + 1) = true := by simpa [tb_okI, tb_okJ, tb_ok1] using hok
  subst hl
  obtain ⟨q', hq', hpc⟩ := tb_atp_ok hn
  exact tb_g_bin hq hq' hpc (fun H locs cells slots ls rest u v kk => lv_ishr hx hb hd kk) hst k

theorem tb_x_iushr (C : tb_cx X mi D dA b base Ls xs p s m args meth c y) (hnl : P.2.1 y = (mi y).2.2.1) (hq : (P.1 y)[i]? = some (pc, .iushr, len, res, val, ps)) (hok : tb_okI mi sc ns (P.1 y) y i (pc, .iushr, len, res, val, ps) = true)
    (hst : tb_step P.2.2.1 P.2.2.2 (P.2.1 y) .iushr res val i L S w = some (.inl st')) (k : tb_Go P D dA b base Ls xs sa p l e R s m args below meth c Q y w0 st') : tb_Go P D dA b base Ls xs sa p l e R s m args below meth c Q y w0 (i, L, S, w) := by
  obtain ⟨hx, hb, hml, hr, hlk, hown, hts, hK, hnm, hbb, hbs, hX⟩ := C
  obtain ⟨hd, hl, hn⟩ : decode (mi y).2.1 pc = .ok (.iushr, len) ∧ len = 1 ∧ tb_atp (P.1 y) (i + 1) (pc + 1) = true := by simpa [tb_okI, tb_okJ, tb_ok1] using hok
  subst hl
  obtain ⟨q', hq', hpc⟩ := tb_atp_ok hn
  exact tb_g_bin hq hq' hpc (fun H locs cells slots ls rest u v kk => lv_iushr hx hb hd rfl kk) hst k

theorem tb_x_idiv (C : tb_cx X mi D dA b base Ls xs p s m args meth c y) (hnl : P.2.1 y = (mi y).2.2.1) (hq : (P.1 y)[i]? = some (pc, .idiv, len, res, val, ps)) (hok : tb_okI mi sc ns (P.1 y) y i (pc, .idiv, len, res, val, ps) = true)
    (hst : tb_step P.2.2.1 P.2.2.2 (P.2.1 y) .idiv res val i L S w = some (.inl st')) (k : tb_Go P D dA b base Ls xs sa p l e R s m args below meth c Q y w0 st') : tb_Go P D dA b base Ls xs sa p l e R s m args below meth c Q y w0 (i, L, S, w) := by
  obtain ⟨hx, hb, hml, hr, hlk, hown, hts, hK, hnm, hbb, hbs, hX⟩ := C
  obtain ⟨hd, hl, hn⟩ : decode (mi y).2.1 pc = .ok (.idiv, len) ∧ len = 1 ∧ tb_atp (P.1 y) (i + 1) (pc + 1) = true := by simpa [tb_okI, tb_okJ, tb_ok1] using hok
  subst hl
  obtain ⟨q', hq', hpc⟩ := tb_atp_ok hn
  exact tb_g_dbn hq hq' hpc (fun H locs cells slots ls rest u v hne kk => lv_idiv hx hb hd hne kk) hst k

theorem tb_x_irem (C : tb_cx X mi D dA b base Ls xs p s m args meth c y) (hnl : P.2.1 y = (mi y).2.2.1) (hq : (P.1 y)[i]? = some (pc, .irem, len, res, val, ps)) (hok : tb_okI mi sc ns (P.1 y) y i (pc, .irem, len, res, val, ps) = true)
    (hst : tb_step P.2.2.1 P.2.2.2 (P.2.1 y) .irem res val i L S w = some (.inl st')) (k : tb_Go P D dA b base Ls xs sa p l e R s m args below meth c Q y w0 st') : tb_Go P D dA b base Ls xs sa p l e R s m args below meth c Q y w0 (i, L, S, w) := by
  obtain ⟨hx, hb, hml, hr, hlk, hown, hts, hK, hnm, hbb, hbs, hX⟩ := C
  obtain ⟨hd, hl, hn⟩ : decode (mi y).2.1 pc = .ok (.irem, len) ∧ len = 1 ∧ tb_atp (P.1 y) (i + 1) (pc + 1) = true := by simpa [tb_okI, tb_okJ, tb_ok1] using hok
  subst hl
  obtain ⟨q', hq', hpc⟩ := tb_atp_ok hn
  exact tb_g_dbn hq hq' hpc (fun H locs cells slots ls rest u v hne kk => lv_irem hx hb hd hne kk) hst k

theorem tb_x_ladd (C : tb_cx X mi D dA b base Ls xs p s m args meth c y) (hnl : P.2.1 y = (mi y).2.2.1) (hq : (P.1 y)[i]? = some (pc, .ladd, len, res, val, ps)) (hok : tb_okI mi sc ns (P.1 y) y i (pc, .ladd, len, res, val, ps) = true)
    (hst : tb_step P.2.2.1 P.2.2.2 (P.2.1 y) .ladd res val i L S w = some (.inl st')) (k : tb_Go P D dA b base Ls xs sa p l e R s m args below meth c Q y w0 st') : tb_Go P D dA b base Ls xs sa p l e R s m args below meth c Q y w0 (i, L, S, w) := by
  obtain ⟨hx, hb, hml, hr, hlk, hown, hts, hK, hnm, hbb, hbs, hX⟩ := C
  obtain ⟨hd, hl, hn⟩ : decode (mi y).2.1 pc = .ok (.ladd, len) ∧ len = 1 ∧ tb_atp (P.1 y) (i + 1) (pc + 1) = true := by simpa [tb_okI, tb_okJ, tb_ok1] using hok
  subst hl
  obtain ⟨q', hq', hpc⟩ := tb_atp_ok hn
  exact tb_g_lbn hq hq' hpc (fun H locs cells slots ls rest u v kk => lv_ladd hx hb hd kk) hst k

theorem tb_x_lsub (C : tb_cx X mi D dA b base Ls xs p s m args meth c y) (hnl : P.2.1 y = (mi y).2.2.1) (hq : (P.1 y)[i]? = some (pc, .lsub, len, res, val, ps)) (hok : tb_okI mi sc ns (P.1 y) y i (pc, .lsub, len, res, val, ps) = true)
    (hst : tb_step P.2.2.1 P.2.2.2 (P.2.1 y) .lsub res val i L S w = some (.inl st')) (k : tb_Go P D dA b base Ls xs sa p l e R s m args below meth c Q y w0 st') : tb_Go P D dA b base Ls xs sa p l e R s m args below meth c Q y w0 (i, L, S, w) := by
  obtain ⟨hx, hb, hml, hr, hlk, hown, hts, hK, hnm, hbb, hbs, hX⟩ := C
  obtain ⟨hd, hl, hn⟩ : decode (mi y).2.1 pc = .ok (.lsub, len) ∧ len = 1 ∧ tb_atp (P.1 y) (i + 1) (pc + 1) = true := by simpa [tb_okI, tb_okJ, tb_ok1] using hok
  subst hl
  obtain ⟨q', hq', hpc⟩ := tb_atp_ok hn
  exact tb_g_lbn hq hq' hpc (fun H locs cells slots ls rest u v kk => lv_lsub hx hb hd kk) hst k

theorem tb_x_lmul (C : tb_cx X mi D dA b base Ls xs p s m args meth c y) (hnl : P.2.1 y = (mi y).2.2.1) (hq : (P.1 y)[i]? = some (pc, .lmul, len, res, val, ps)) (hok : tb_okI mi sc ns (P.1 y) y i (pc, .lmul, len, res, val, ps) = true)
    (hst : tb_step P.2.2.1 P.2.2.2 (P.2.1 y) .lmul res val i L S w = some (.inl st')) (k : tb_Go P D dA b base Ls xs sa p l e R s m args below meth c Q y w0 st') : tb_Go P D dA b base Ls xs sa p l e R s m args below meth c Q y w0 (i, L, S, w) := by
  obtain ⟨hx, hb, hml, hr, hlk, hown, hts, hK, hnm, hbb, hbs, hX⟩ := C
  obtain ⟨hd, hl, hn⟩ : decode (mi y).2.1 pc = .ok (.lmul, len) ∧ len = 1 ∧ tb_atp (P.1 y) (i + 1) (pc + 1) = true := by simpa [tb_okI, tb_okJ, tb_ok1] using hok
  subst hl
  obtain ⟨q', hq', hpc⟩ := tb_atp_ok hn
  exact tb_g_lbn hq hq' hpc (fun H locs cells slots ls rest u v kk => lv_lmul hx hb hd kk) hst k

theorem tb_x_land (C : tb_cx X mi D dA b base Ls xs p s m args meth c y) (hnl : P.2.1 y = (mi y).2.2.1) (hq : (P.1 y)[i]? = some (pc, .land, len, res, val, ps)) (hok : tb_okI mi sc ns (P.1 y) y i (pc, .land, len, res, val, ps) = true)
    (hst : tb_step P.2.2.1 P.2.2.2 (P.2.1 y) .land res val i L S w = some (.inl st')) (k : tb_Go P D dA b base Ls xs sa p l e R s m args below meth c Q y w0 st') : tb_Go P D dA b base Ls xs sa p l e R s m args below meth c Q y w0 (i, L, S, w) := by
  obtain ⟨hx, hb, hml, hr, hlk, hown, hts, hK, hnm, hbb, hbs, hX⟩ := C
  obtain ⟨hd, hl, hn⟩ : decode (mi y).2.1 pc = .ok (.land, len) ∧ len = 1 ∧ tb_atp (P.1 y) (i + 1) (pc + 1) = true := by simpa [tb_okI, tb_okJ, tb_ok1] using hok
  subst hl
  obtain ⟨q', hq', hpc⟩ := tb_atp_ok hn
  exact tb_g_lbn hq hq' hpc (fun H locs cells slots ls rest u v kk => lv_land hx hb hd kk) hst k

theorem tb_x_lor (C : tb_cx X mi D dA b base Ls xs p s m args meth c y) (hnl : P.2.1 y = (mi y).2.2.1) (hq : (P.1 y)[i]? = some (pc, .lor, len, res, val, ps)) (hok : tb_okI mi sc ns (P.1 y) y i (pc, .lor, len, res, val, ps) = true)
    (hst : tb_step P.2.2.1 P.2.2.2 (P.2.1 y) .lor res val i L S w = some (.inl st')) (k : tb_Go P D dA b base Ls xs sa p l e R s m args below meth c Q y w0 st') : tb_Go P D dA b base Ls xs sa p l e R s m args below meth c Q y w0 (i, L, S, w) := by
  obtain ⟨hx, hb, hml, hr, hlk, hown, hts, hK, hnm, hbb, hbs, hX⟩ := C
  obtain ⟨hd, hl, hn⟩ : decode (mi y).2.1 pc = .ok (.lor, len) ∧ len = 1 ∧ tb_atp (P.1 y) (i + 1) (pc + 1) = true := by simpa [tb_okI, tb_okJ, tb_ok1] using hok
  subst hl
  obtain ⟨q', hq', hpc⟩ := tb_atp_ok hn
  exact tb_g_lbn hq hq' hpc (fun H locs cells slots ls rest u v kk => lv_lor hx hb hd kk) hst k

theorem tb_x_ldiv (C : tb_cx X mi D dA b base Ls xs p s m args meth c y) (hnl : P.2.1 y = (mi y).2.2.1) (hq : (P.1 y)[i]? = some (pc, .ldiv, len, res, val, ps)) (hok : tb_okI mi sc ns (P.1 y) y i (pc, .ldiv, len, res, val, ps) = true)
    (hst : tb_step P.2.2.1 P.2.2.2 (P.2.1 y) .ldiv res val i L S w = some (.inl st')) (k : tb_Go P D dA b base Ls xs sa p l e R s m args below meth c Q y w0 st') : tb_Go P D dA b base Ls xs sa p l e R s m args below meth c Q y w0 (i, L, S, w) := by
  obtain ⟨hx, hb, hml, hr, hlk, hown, hts, hK, hnm, hbb, hbs, hX⟩ := C
  obtain ⟨hd, hl, hn⟩ : decode (mi y).2.1 pc = .ok (.ldiv, len) ∧ len = 1 ∧ tb_atp (P.1 y) (i + 1) (pc + 1) = true := by simpa [tb_okI, tb_okJ, tb_ok1] using hok
  subst hl
  obtain ⟨q', hq', hpc⟩ := tb_atp_ok hn
  exact tb_g_ldb hq hq' hpc (fun H locs cells slots ls rest u v hne kk => lv_ldiv hx hb hd hne kk) hst k

theorem tb_x_lrem (C : tb_cx X mi D dA b base Ls xs p s m args meth c y) (hnl : P.2.1 y = (mi y).2.2.1) (hq : (P.1 y)[i]? = some (pc, .lrem, len, res, val, ps)) (hok : tb_okI mi sc ns (P.1 y) y i (pc, .lrem, len, res, val, ps) = true)
    (hst : tb_step P.2.2.1 P.2.2.2 (P.2.1 y) .lrem res val i L S w = some (.inl st')) (k : tb_Go P D dA b base Ls xs sa p l e R s m args below meth c Q y w0 st') : tb_Go P D dA b base Ls xs sa p l e R s m args below meth c Q y w0 (i, L, S, w) := by
  obtain ⟨hx, hb, hml, hr, hlk, hown, hts, hK, hnm, hbb, hbs, hX⟩ := C
  obtain ⟨hd, hl, hn⟩ : decode (mi y).2.1 pc = .ok (.lrem, len) ∧ len = 1 ∧ tb_atp (P.1 y) (i + 1) (pc + 1) = true := by simpa [tb_okI, tb_okJ, tb_ok1] using hok
  subst hl
  obtain ⟨q', hq', hpc⟩ := tb_atp_ok hn
  exact tb_g_ldb hq hq' hpc (fun H locs cells slots ls rest u v hne kk => lv_lrem hx hb hd hne kk) hst k

theorem tb_x_ineg (C : tb_cx X mi D dA b base Ls xs p s m args meth c y) (hnl : P.2.1 y = (mi y).2.2.1) (hq : (P.1 y)[i]? = some (pc, .ineg, len, res, val, ps)) (hok : tb_okI mi sc ns (P.1 y) y i (pc, .ineg, len, res, val, ps) = true)
    (hst : tb_step P.2.2.1 P.2.2.2 (P.2.1 y) .ineg res val i L S w = some (.inl st')) (k : tb_Go P D dA b base Ls xs sa p l e R s m args below meth c Q y w0 st') : tb_Go P D dA b base Ls xs sa p l e R s m args below meth c Q y w0 (i, L, S, w) := by
  obtain ⟨hx, hb, hml, hr, hlk, hown, hts, hK, hnm, hbb, hbs, hX⟩ := C
  obtain ⟨hd, hl, hn⟩ : decode (mi y).2.1 pc = .ok (.ineg, len) ∧ len = 1 ∧ tb_atp (P.1 y) (i + 1) (pc + 1) = true := by simpa [tb_okI, tb_okJ, tb_ok1] using hok
  subst hl
  obtain ⟨q', hq', hpc⟩ := tb_atp_ok hn
  exact tb_g_una hq hq' hpc (fun H locs cells slots ls rest u kk => lv_ineg hx hb hd kk) hst k

theorem tb_x_i2b (C : tb_cx X mi D dA b base Ls xs p s m args meth c y) (hnl : P.2.1 y = (mi y).2.2.1) (hq : (P.1 y)[i]? = some (pc, .i2b, len, res, val, ps)) (hok : tb_okI mi sc ns (P.1 y) y i (pc, .i2b, len, res, val, ps) = true)
    (hst : tb_step P.2.2.1 P.2.2.2 (P.2.1 y) .i2b res val i L S w = some (.inl st')) (k : tb_Go P D dA b base Ls xs sa p l e R s m args below meth c Q y w0 st') : tb_Go P D dA b base Ls xs sa p l e R s m args below meth c Q y w0 (i, L, S, w) := by
  obtain ⟨hx, hb, hml, hr, hlk, hown, hts, hK, hnm, hbb, hbs, hX⟩ := C
  obtain ⟨hd, hl, hn⟩ : decode (mi y).2.1 pc = .ok (.i2b, len) ∧ len = 1 ∧ tb_atp (P.1 y) (i + 1) (pc + 1) = true := by simpa [tb_okI, tb_okJ, tb_ok1] using hok
  subst hl
  obtain ⟨q', hq', hpc⟩ := tb_atp_ok hn
  exact tb_g_una hq hq' hpc (fun H locs cells slots ls rest u kk => lv_i2b hx hb hd rfl kk) hst k

theorem tb_x_lshl (C : tb_cx X mi D dA b base Ls xs p s m args meth c y) (hnl : P.2.1 y = (mi y).2.2.1) (hq : (P.1 y)[i]? = some (pc, .lshl, len, res, val, ps)) (hok : tb_okI mi sc ns (P.1 y) y i (pc, .lshl, len, res, val, ps) = true)
    (hst : tb_step P.2.2.1 P.2.2.2 (P.2.1 y) .lshl res val i L S w = some (.inl st')) (k : tb_Go P D dA b base Ls xs sa p l e R s m args below meth c Q y w0 st') : tb_Go P D dA b base Ls xs sa p l e R s m args below meth c Q y w0 (i, L, S, w) := by
  obtain ⟨hx, hb, hml, hr, hlk, hown, hts, hK, hnm, hbb, hbs, hX⟩ := C
  obtain ⟨hd, hl, hn⟩ : decode (mi y).2.1 pc = .ok (.lshl, len) ∧ len = 1 ∧ tb_atp (P.1 y) (i + 1) (pc + 1) = true := by simpa [tb_okI, tb_okJ, tb_ok1] using hok
  subst hl
  obtain ⟨q', hq', hpc⟩ := tb_atp_ok hn
  simp only [tb_step] at hst
  split at hst
  · cases hst
    refine tb_g_same hq hq' (fun H locs cells slots ls kk => ?_) k
    rw [hpc] at kk
    exact lv_lshl hx hb hd rfl kk
  · cases hst

theorem tb_x_lcmp (C : tb_cx X mi D dA b base Ls xs p s m args meth c y) (hnl : P.2.1 y = (mi y).2.2.1) (hq : (P.1 y)[i]? = some (pc, .lcmp, len, res, val, ps)) (hok : tb_okI mi sc ns (P.1 y) y i (pc, .lcmp, len, res, val, ps) = true)
    (hst : tb_step P.2.2.1 P.2.2.2 (P.2.1 y) .lcmp res val i L S w = some (.inl st')) (k : tb_Go P D dA b base Ls xs sa p l e R s m args below meth c Q y w0 st') : tb_Go P D dA b base Ls xs sa p l e R s m args below meth c Q y w0 (i, L, S, w) := by
  obtain ⟨hx, hb, hml, hr, hlk, hown, hts, hK, hnm, hbb, hbs, hX⟩ := C
  obtain ⟨hd, hl, hn⟩ : decode (mi y).2.1 pc = .ok (.lcmp, len) ∧ len = 1 ∧ tb_atp (P.1 y) (i + 1) (pc + 1) = true := by simpa [tb_okI, tb_okJ, tb_ok1] using hok
  subst hl
  obtain ⟨q', hq', hpc⟩ := tb_atp_ok hn
  simp only [tb_step] at hst
  split at hst
  · cases hst
    refine tb_g_same hq hq' (fun H locs cells slots ls kk => ?_) k
    rw [hpc] at kk
    exact W.lcmp hx hb hd kk
  · cases hst

theorem tb_x_i2l (C : tb_cx X mi D dA b base Ls xs p s m args meth c y) (hnl : P.2.1 y = (mi y).2.2.1) (hq : (P.1 y)[i]? = some (pc, .i2l, len, res, val, ps)) (hok : tb_okI mi sc ns (P.1 y) y i (pc, .i2l, len, res, val, ps) = true)
    (hst : tb_step P.2.2.1 P.2.2.2 (P.2.1 y) .i2l res val i L S w = some (.inl st')) (k : tb_Go P D dA b base Ls xs sa p l e R s m args below meth c Q y w0 st') : tb_Go P D dA b base Ls xs sa p l e R s m args below meth c Q y w0 (i, L, S, w) := by
  obtain ⟨hx, hb, hml, hr, hlk, hown, hts, hK, hnm, hbb, hbs, hX⟩ := C
  obtain ⟨hd, hl, hn⟩ : decode (mi y).2.1 pc = .ok (.i2l, len) ∧ len = 1 ∧ tb_atp (P.1 y) (i + 1) (pc + 1) = true := by simpa [tb_okI, tb_okJ, tb_ok1] using hok
  subst hl
  obtain ⟨q', hq', hpc⟩ := tb_atp_ok hn
  simp only [tb_step] at hst
  split at hst
  · cases hst
    refine tb_g_same hq hq' (fun H locs cells slots ls kk => ?_) k
    rw [hpc] at kk
    exact lv_i2l hx hb hd rfl kk
  · cases hst

theorem tb_x_l2i (C : tb_cx X mi D dA b base Ls xs p s m args meth c y) (hnl : P.2.1 y = (mi y).2.2.1) (hq : (P.1 y)[i]? = some (pc, .l2i, len, res, val, ps)) (hok : tb_okI mi sc ns (P.1 y) y i (pc, .l2i, len, res, val, ps) = true)
    (hst : tb_step P.2.2.1 P.2.2.2 (P.2.1 y) .l2i res val i L S w = some (.inl st')) (k : tb_Go P D dA b base Ls xs sa p l e R s m args below meth c Q y w0 st') : tb_Go P D dA b base Ls xs sa p l e R s m args below meth c Q y w0 (i, L, S, w) := by
  obtain ⟨hx, hb, hml, hr, hlk, hown, hts, hK, hnm, hbb, hbs, hX⟩ := C
  obtain ⟨hd, hl, hn⟩ : decode (mi y).2.1 pc = .ok (.l2i, len) ∧ len = 1 ∧ tb_atp (P.1 y) (i + 1) (pc + 1) = true := by simpa [tb_okI, tb_okJ, tb_ok1] using hok
  subst hl
  obtain ⟨q', hq', hpc⟩ := tb_atp_ok hn
  simp only [tb_step] at hst
  split at hst
  · cases hst
    refine tb_g_same hq hq' (fun H locs cells slots ls kk => ?_) k
    rw [hpc] at kk
    exact lv_l2i hx hb hd rfl kk
  · cases hst

theorem tb_x_pop (C : tb_cx X mi D dA b base Ls xs p s m args meth c y) (hnl : P.2.1 y = (mi y).2.2.1) (hq : (P.1 y)[i]? = some (pc, .pop, len, res, val, ps)) (hok : tb_okI mi sc ns (P.1 y) y i (pc, .pop, len, res, val, ps) = true)
    (hst : tb_step P.2.2.1 P.2.2.2 (P.2.1 y) .pop res val i L S w = some (.inl st')) (k : tb_Go P D dA b base Ls xs sa p l e R s m args below meth c Q y w0 st') : tb_Go P D dA b base Ls xs sa p l e R s m args below meth c Q y w0 (i, L, S, w) := by
  obtain ⟨hx, hb, hml, hr, hlk, hown, hts, hK, hnm, hbb, hbs, hX⟩ := C
  obtain ⟨hd, hl, hn⟩ : decode (mi y).2.1 pc = .ok (.pop, len) ∧ len = 1 ∧ tb_atp (P.1 y) (i + 1) (pc + 1) = true := by simpa [tb_okI, tb_okJ, tb_ok1] using hok
  subst hl
  obtain ⟨q', hq', hpc⟩ := tb_atp_ok hn
  simp only [tb_step] at hst
  split at hst
  · cases hst
    refine tb_g_same hq hq' (fun H locs cells slots ls kk => ?_) k
    rw [hpc] at kk
    exact lv_pop hx hb hd rfl kk
  · cases hst

theorem tb_x_dup2 (C : tb_cx X mi D dA b base Ls xs p s m args meth c y) (hnl : P.2.1 y = (mi y).2.2.1) (hq : (P.1 y)[i]? = some (pc, .dup2, len, res, val, ps)) (hok : tb_okI mi sc ns (P.1 y) y i (pc, .dup2, len, res, val, ps) = true)
    (hst : tb_step P.2.2.1 P.2.2.2 (P.2.1 y) .dup2 res val i L S w = some (.inl st')) (k : tb_Go P D dA b base Ls xs sa p l e R s m args below meth c Q y w0 st') : tb_Go P D dA b base Ls xs sa p l e R s m args below meth c Q y w0 (i, L, S, w) := by
  obtain ⟨hx, hb, hml, hr, hlk, hown, hts, hK, hnm, hbb, hbs, hX⟩ := C
  obtain ⟨hd, hl, hn⟩ : decode (mi y).2.1 pc = .ok (.dup2, len) ∧ len = 1 ∧ tb_atp (P.1 y) (i + 1) (pc + 1) = true := by simpa [tb_okI, tb_okJ, tb_ok1] using hok
  subst hl
  obtain ⟨q', hq', hpc⟩ := tb_atp_ok hn
  simp only [tb_step] at hst
  split at hst
  · cases hst
    refine tb_g_same hq hq' (fun H locs cells slots ls kk => ?_) k
    rw [hpc] at kk
    exact lv_dup2_11 hx hb hd rfl rfl kk
  · cases hst

theorem tb_x_dup (C : tb_cx X mi D dA b base Ls xs p s m args meth c y) (hnl : P.2.1 y = (mi y).2.2.1) (hq : (P.1 y)[i]? = some (pc, .dup, len, res, val, ps)) (hok : tb_okI mi sc ns (P.1 y) y i (pc, .dup, len, res, val, ps) = true)
    (hst : tb_step P.2.2.1 P.2.2.2 (P.2.1 y) .dup res val i L S w = some (.inl st')) (k : tb_Go P D dA b base Ls xs sa p l e R s m args below meth c Q y w0 st') : tb_Go P D dA b base Ls xs sa p l e R s m args below meth c Q y w0 (i, L, S, w) := by
  obtain ⟨hx, hb, hml, hr, hlk, hown, hts, hK, hnm, hbb, hbs, hX⟩ := C
  obtain ⟨hd, hl, hn⟩ : decode (mi y).2.1 pc = .ok (.dup, len) ∧ len = 1 ∧ tb_atp (P.1 y) (i + 1) (pc + 1) = true := by simpa [tb_okI, tb_okJ, tb_ok1] using hok
  subst hl
  obtain ⟨q', hq', hpc⟩ := tb_atp_ok hn
  simp only [tb_step] at hst
  split at hst
  · cases hst
    refine tb_g_same hq hq' (fun H locs cells slots ls kk => ?_) k
    rw [hpc] at kk
    exact lv_dup hx hb hd rfl kk
  · cases hst
    refine tb_g_same hq hq' (fun H locs cells slots ls kk => ?_) k
    rw [hpc] at kk
    exact lv_dup hx hb hd rfl kk
  · cases hst

theorem tb_x_iconst {n : Int} (C : tb_cx X mi D dA b base Ls xs p s m args meth c y) (hnl : P.2.1 y = (mi y).2.2.1) (hq : (P.1 y)[i]? = some (pc, (.iconst n), len, res, val, ps)) (hok : tb_okI mi sc ns (P.1 y) y i (pc, (.iconst n), len, res, val, ps) = true)
    (hst : tb_step P.2.2.1 P.2.2.2 (P.2.1 y) (.iconst n) res val i L S w = some (.inl st')) (k : tb_Go P D dA b base Ls xs sa p l e R s m args below meth c Q y w0 st') : tb_Go P D dA b base Ls xs sa p l e R s m args below meth c Q y w0 (i, L, S, w) := by
  obtain ⟨hx, hb, hml, hr, hlk, hown, hts, hK, hnm, hbb, hbs, hX⟩ := C
  obtain ⟨hd, ⟨hl, hn⟩, hv⟩ : decode (mi y).2.1 pc = .ok ((.iconst n), len) ∧ (len = 1 ∧ tb_atp (P.1 y) (i + 1) (pc + 1) = true) ∧ val = .int (Int32.ofInt n) := by simpa [tb_okI, tb_okJ, tb_ok1] using hok
  subst hl
  subst hv
  obtain ⟨q', hq', hpc⟩ := tb_atp_ok hn
  simp only [tb_step, tb_psh] at hst
  cases hst
  refine tb_g_same hq hq' (fun H locs cells slots ls kk => ?_) k
  rw [hpc] at kk
  exact lv_iconst hx hb hd rfl kk

theorem tb_x_bipush {n : Int} (C : tb_cx X mi D dA b base Ls xs p s m args meth c y) (hnl : P.2.1 y = (mi y).2.2.1) (hq : (P.1 y)[i]? = some (pc, (.bipush n), len, res, val, ps)) (hok : tb_okI mi sc ns (P.1 y) y i (pc, (.bipush n), len, res, val, ps) = true)
    (hst : tb_step P.2.2.1 P.2.2.2 (P.2.1 y) (.bipush n) res val i L S w = some (.inl st')) (k : tb_Go P D dA b base Ls xs sa p l e R s m args below meth c Q y w0 st') : tb_Go P D dA b base Ls xs sa p l e R s m args below meth c Q y w0 (i, L, S, w) := by
  obtain ⟨hx, hb, hml, hr, hlk, hown, hts, hK, hnm, hbb, hbs, hX⟩ := C
  obtain ⟨hd, ⟨hl, hn⟩, hv⟩ : decode (mi y).2.1 pc = .ok ((.bipush n), len) ∧ (len = 2 ∧ tb_atp (P.1 y) (i + 1) (pc + 2) = true) ∧ val = .int (Int8.ofInt n).toInt32 := by simpa [tb_okI, tb_okJ, tb_ok2] using hok
  subst hl
  subst hv
  obtain ⟨q', hq', hpc⟩ := tb_atp_ok hn
  simp only [tb_step, tb_psh] at hst
  cases hst
  refine tb_g_same hq hq' (fun H locs cells slots ls kk => ?_) k
  rw [hpc] at kk
  exact lv_bipush hx hb hd rfl kk

theorem tb_x_sipush {n : Int} (C : tb_cx X mi D dA b base Ls xs p s m args meth c y) (hnl : P.2.1 y = (mi y).2.2.1) (hq : (P.1 y)[i]? = some (pc, (.sipush n), len, res, val, ps)) (hok : tb_okI mi sc ns (P.1 y) y i (pc, (.sipush n), len, res, val, ps) = true)
    (hst : tb_step P.2.2.1 P.2.2.2 (P.2.1 y) (.sipush n) res val i L S w = some (.inl st')) (k : tb_Go P D dA b base Ls xs sa p l e R s m args below meth c Q y w0 st') : tb_Go P D dA b base Ls xs sa p l e R s m args below meth c Q y w0 (i, L, S, w) := by
  obtain ⟨hx, hb, hml, hr, hlk, hown, hts, hK, hnm, hbb, hbs, hX⟩ := C
  obtain ⟨hd, ⟨hl, hn⟩, hv⟩ : decode (mi y).2.1 pc = .ok ((.sipush n), len) ∧ (len = 3 ∧ tb_atp (P.1 y) (i + 1) (pc + 3) = true) ∧ val = .int (Int16.ofInt n).toInt32 := by simpa [tb_okI, tb_okJ, tb_ok3] using hok
  subst hl
  subst hv
  obtain ⟨q', hq', hpc⟩ := tb_atp_ok hn
  simp only [tb_step, tb_psh] at hst
  cases hst
  refine tb_g_same hq hq' (fun H locs cells slots ls kk => ?_) k
  rw [hpc] at kk
  exact lv_sipush hx hb hd rfl kk

theorem tb_x_lconst {n : Fin 2} (C : tb_cx X mi D dA b base Ls xs p s m args meth c y) (hnl : P.2.1 y = (mi y).2.2.1) (hq : (P.1 y)[i]? = some (pc, (.lconst n), len, res, val, ps)) (hok : tb_okI mi sc ns (P.1 y) y i (pc, (.lconst n), len, res, val, ps) = true)
    (hst : tb_step P.2.2.1 P.2.2.2 (P.2.1 y) (.lconst n) res val i L S w = some (.inl st')) (k : tb_Go P D dA b base Ls xs sa p l e R s m args below meth c Q y w0 st') : tb_Go P D dA b base Ls xs sa p l e R s m args below meth c Q y w0 (i, L, S, w) := by
  obtain ⟨hx, hb, hml, hr, hlk, hown, hts, hK, hnm, hbb, hbs, hX⟩ := C
  obtain ⟨hd, ⟨hl, hn⟩, hv⟩ : decode (mi y).2.1 pc = .ok ((.lconst n), len) ∧ (len = 1 ∧ tb_atp (P.1 y) (i + 1) (pc + 1) = true) ∧ val = .long (Int64.ofNat (n : Nat)) := by simpa [tb_okI, tb_okJ, tb_ok1] using hok
  subst hl
  subst hv
  obtain ⟨q', hq', hpc⟩ := tb_atp_ok hn
  simp only [tb_step, tb_psh] at hst
  cases hst
  refine tb_g_same hq hq' (fun H locs cells slots ls kk => ?_) k
  rw [hpc] at kk
  exact lv_lconst hx hb hd rfl kk

theorem tb_x_null (C : tb_cx X mi D dA b base Ls xs p s m args meth c y) (hnl : P.2.1 y = (mi y).2.2.1) (hq : (P.1 y)[i]? = some (pc, .aconst_null, len, res, val, ps)) (hok : tb_okI mi sc ns (P.1 y) y i (pc, .aconst_null, len, res, val, ps) = true)
    (hst : tb_step P.2.2.1 P.2.2.2 (P.2.1 y) .aconst_null res val i L S w = some (.inl st')) (k : tb_Go P D dA b base Ls xs sa p l e R s m args below meth c Q y w0 st') : tb_Go P D dA b base Ls xs sa p l e R s m args below meth c Q y w0 (i, L, S, w) := by
  obtain ⟨hx, hb, hml, hr, hlk, hown, hts, hK, hnm, hbb, hbs, hX⟩ := C
  obtain ⟨hd, hl, hn⟩ : decode (mi y).2.1 pc = .ok (.aconst_null, len) ∧ len = 1 ∧ tb_atp (P.1 y) (i + 1) (pc + 1) = true := by simpa [tb_okI, tb_okJ, tb_ok1] using hok
  subst hl
  obtain ⟨q', hq', hpc⟩ := tb_atp_ok hn
  simp only [tb_step, tb_psh] at hst
  cases hst
  refine tb_g_same hq hq' (fun H locs cells slots ls kk => ?_) k
  rw [hpc] at kk
  exact lv_null hx hb hd kk

theorem tb_x_ldc2 {n : Nat} (C : tb_cx X mi D dA b base Ls xs p s m args meth c y) (hnl : P.2.1 y = (mi y).2.2.1) (hq : (P.1 y)[i]? = some (pc, (.ldc2_w n), len, res, val, ps)) (hok : tb_okI mi sc ns (P.1 y) y i (pc, (.ldc2_w n), len, res, val, ps) = true)
    (hst : tb_step P.2.2.1 P.2.2.2 (P.2.1 y) (.ldc2_w n) res val i L S w = some (.inl st')) (k : tb_Go P D dA b base Ls xs sa p l e R s m args below meth c Q y w0 st') : tb_Go P D dA b base Ls xs sa p l e R s m args below meth c Q y w0 (i, L, S, w) := by
  obtain ⟨hx, hb, hml, hr, hlk, hown, hts, hK, hnm, hbb, hbs, hX⟩ := C
  obtain ⟨hd, ⟨hl, hn⟩, hv⟩ : decode (mi y).2.1 pc = .ok ((.ldc2_w n), len) ∧ (len = 3 ∧ tb_atp (P.1 y) (i + 1) (pc + 3) = true) ∧ tb_okC2 (mi y).1.cls n val ps = true := by simpa [tb_okI, tb_okJ, tb_ok3] using hok
  subst hl
  obtain ⟨q', hq', hpc⟩ := tb_atp_ok hn
  unfold tb_okC2 at hv
  split at hv
  · simp only [tb_step, tb_psh] at hst
    cases hst
    refine tb_g_same hq hq' (fun H locs cells slots ls kk => ?_) k
    rw [hpc] at kk
    exact lv_ldc2 hx hb hown (hts _ (tb_wd_ok hv)) hd kk
  · cases hv

theorem tb_x_iload_n {n : Fin 4} (C : tb_cx X mi D dA b base Ls xs p s m args meth c y) (hnl : P.2.1 y = (mi y).2.2.1) (hq : (P.1 y)[i]? = some (pc, (.iload_n n), len, res, val, ps)) (hok : tb_okI mi sc ns (P.1 y) y i (pc, (.iload_n n), len, res, val, ps) = true)
    (hst : tb_step P.2.2.1 P.2.2.2 (P.2.1 y) (.iload_n n) res val i L S w = some (.inl st')) (k : tb_Go P D dA b base Ls xs sa p l e R s m args below meth c Q y w0 st') : tb_Go P D dA b base Ls xs sa p l e R s m args below meth c Q y w0 (i, L, S, w) := by
  obtain ⟨hx, hb, hml, hr, hlk, hown, hts, hK, hnm, hbb, hbs, hX⟩ := C
  obtain ⟨hd, hl, hn⟩ : decode (mi y).2.1 pc = .ok ((.iload_n n), len) ∧ len = 1 ∧ tb_atp (P.1 y) (i + 1) (pc + 1) = true := by simpa [tb_okI, tb_okJ, tb_ok1] using hok
  subst hl
  obtain ⟨q', hq', hpc⟩ := tb_atp_ok hn
  exact tb_g_lod hq hq' (fun _ H locs cells slots ls rest x hl kk => by rw [hpc] at kk; exact lv_iload_n hx hb hd rfl hl kk) (fun e => by cases e) (fun e => by cases e) (fun e => by cases e) hst k

theorem tb_x_istore_n {n : Fin 4} (C : tb_cx X mi D dA b base Ls xs p s m args meth c y) (hnl : P.2.1 y = (mi y).2.2.1) (hq : (P.1 y)[i]? = some (pc, (.istore_n n), len, res, val, ps)) (hok : tb_okI mi sc ns (P.1 y) y i (pc, (.istore_n n), len, res, val, ps) = true)
    (hst : tb_step P.2.2.1 P.2.2.2 (P.2.1 y) (.istore_n n) res val i L S w = some (.inl st')) (k : tb_Go P D dA b base Ls xs sa p l e R s m args below meth c Q y w0 st') : tb_Go P D dA b base Ls xs sa p l e R s m args below meth c Q y w0 (i, L, S, w) := by
  obtain ⟨hx, hb, hml, hr, hlk, hown, hts, hK, hnm, hbb, hbs, hX⟩ := C
  obtain ⟨hd, hl, hn⟩ : decode (mi y).2.1 pc = .ok ((.istore_n n), len) ∧ len = 1 ∧ tb_atp (P.1 y) (i + 1) (pc + 1) = true := by simpa [tb_okI, tb_okJ, tb_ok1] using hok
  subst hl
  obtain ⟨q', hq', hpc⟩ := tb_atp_ok hn
  exact tb_g_sto hq hq' (fun _ H locs cells slots ls rest x lv lv' h1 h2 h3 kk => by rw [hpc] at kk; exact lv_istore_n hx hb hd rfl h1 h2 h3 kk) (fun e => by cases e) (fun e => by cases e) (fun e => by cases e) hst k

theorem tb_x_iload {n : Nat} (C : tb_cx X mi D dA b base Ls xs p s m args meth c y) (hnl : P.2.1 y = (mi y).2.2.1) (hq : (P.1 y)[i]? = some (pc, (.iload n), len, res, val, ps)) (hok : tb_okI mi sc ns (P.1 y) y i (pc, (.iload n), len, res, val, ps) = true)
    (hst : tb_step P.2.2.1 P.2.2.2 (P.2.1 y) (.iload n) res val i L S w = some (.inl st')) (k : tb_Go P D dA b base Ls xs sa p l e R s m args below meth c Q y w0 st') : tb_Go P D dA b base Ls xs sa p l e R s m args below meth c Q y w0 (i, L, S, w) := by
  obtain ⟨hx, hb, hml, hr, hlk, hown, hts, hK, hnm, hbb, hbs, hX⟩ := C
  obtain ⟨hd, hl, hn⟩ : decode (mi y).2.1 pc = .ok ((.iload n), len) ∧ len = 2 ∧ tb_atp (P.1 y) (i + 1) (pc + 2) = true := by simpa [tb_okI, tb_okJ, tb_ok2] using hok
  subst hl
  obtain ⟨q', hq', hpc⟩ := tb_atp_ok hn
  exact tb_g_lod hq hq' (fun _ H locs cells slots ls rest x hl kk => by rw [hpc] at kk; exact lv_iload hx hb hd hl kk) (fun e => by cases e) (fun e => by cases e) (fun e => by cases e) hst k

theorem tb_x_istore {n : Nat} (C : tb_cx X mi D dA b base Ls xs p s m args meth c y) (hnl : P.2.1 y = (mi y).2.2.1) (hq : (P.1 y)[i]? = some (pc, (.istore n), len, res, val, ps)) (hok : tb_okI mi sc ns (P.1 y) y i (pc, (.istore n), len, res, val, ps) = true)
    (hst : tb_step P.2.2.1 P.2.2.2 (P.2.1 y) (.istore n) res val i L S w = some (.inl st')) (k : tb_Go P D dA b base Ls xs sa p l e R s m args below meth c Q y w0 st') : tb_Go P D dA b base Ls xs sa p l e R s m args below meth c Q y w0 (i, L, S, w) := by
  obtain ⟨hx, hb, hml, hr, hlk, hown, hts, hK, hnm, hbb, hbs, hX⟩ := C
  obtain ⟨hd, hl, hn⟩ : decode (mi y).2.1 pc = .ok ((.istore n), len) ∧ len = 2 ∧ tb_atp (P.1 y) (i + 1) (pc + 2) = true := by simpa [tb_okI, tb_okJ, tb_ok2] using hok
  subst hl
  obtain ⟨q', hq', hpc⟩ := tb_atp_ok hn
  exact tb_g_sto hq hq' (fun _ H locs cells slots ls rest x lv lv' h1 h2 h3 kk => by rw [hpc] at kk; exact lv_istore hx hb hd h1 h2 h3 kk) (fun e => by cases e) (fun e => by cases e) (fun e => by cases e) hst k

theorem tb_x_lload_n {n : Fin 4} (C : tb_cx X mi D dA b base Ls xs p s m args meth c y) (hnl : P.2.1 y = (mi y).2.2.1) (hq : (P.1 y)[i]? = some (pc, (.lload_n n), len, res, val, ps)) (hok : tb_okI mi sc ns (P.1 y) y i (pc, (.lload_n n), len, res, val, ps) = true)
    (hst : tb_step P.2.2.1 P.2.2.2 (P.2.1 y) (.lload_n n) res val i L S w = some (.inl st')) (k : tb_Go P D dA b base Ls xs sa p l e R s m args below meth c Q y w0 st') : tb_Go P D dA b base Ls xs sa p l e R s m args below meth c Q y w0 (i, L, S, w) := by
  obtain ⟨hx, hb, hml, hr, hlk, hown, hts, hK, hnm, hbb, hbs, hX⟩ := C
  obtain ⟨hd, hl, hn⟩ : decode (mi y).2.1 pc = .ok ((.lload_n n), len) ∧ len = 1 ∧ tb_atp (P.1 y) (i + 1) (pc + 1) = true := by simpa [tb_okI, tb_okJ, tb_ok1] using hok
  subst hl
  obtain ⟨q', hq', hpc⟩ := tb_atp_ok hn
  exact tb_g_lod hq hq' (fun e => by cases e) (fun _ H locs cells slots ls rest x hl kk => by rw [hpc] at kk; exact lv_lload_n hx hb hd rfl hl kk) (fun e => by cases e) (fun e => by cases e) hst k

theorem tb_x_lstore_n {n : Fin 4} (C : tb_cx X mi D dA b base Ls xs p s m args meth c y) (hnl : P.2.1 y = (mi y).2.2.1) (hq : (P.1 y)[i]? = some (pc, (.lstore_n n), len, res, val, ps)) (hok : tb_okI mi sc ns (P.1 y) y i (pc, (.lstore_n n), len, res, val, ps) = true)
    (hst : tb_step P.2.2.1 P.2.2.2 (P.2.1 y) (.lstore_n n) res val i L S w = some (.inl st')) (k : tb_Go P D dA b base Ls xs sa p l e R s m args below meth c Q y w0 st') : tb_Go P D dA b base Ls xs sa p l e R s m args below meth c Q y w0 (i, L, S, w) := by
  obtain ⟨hx, hb, hml, hr, hlk, hown, hts, hK, hnm, hbb, hbs, hX⟩ := C
  obtain ⟨hd, hl, hn⟩ : decode (mi y).2.1 pc = .ok ((.lstore_n n), len) ∧ len = 1 ∧ tb_atp (P.1 y) (i + 1) (pc + 1) = true := by simpa [tb_okI, tb_okJ, tb_ok1] using hok
  subst hl
  obtain ⟨q', hq', hpc⟩ := tb_atp_ok hn
  exact tb_g_sto hq hq' (fun e => by cases e) (fun _ H locs cells slots ls rest x lv lv' h1 h2 h3 kk => by rw [hpc] at kk; exact lv_lstore_n hx hb hd rfl h1 h2 h3 kk) (fun e => by cases e) (fun e => by cases e) hst k

theorem tb_x_lload {n : Nat} (C : tb_cx X mi D dA b base Ls xs p s m args meth c y) (hnl : P.2.1 y = (mi y).2.2.1) (hq : (P.1 y)[i]? = some (pc, (.lload n), len, res, val, ps)) (hok : tb_okI mi sc ns (P.1 y) y i (pc, (.lload n), len, res, val, ps) = true)
    (hst : tb_step P.2.2.1 P.2.2.2 (P.2.1 y) (.lload n) res val i L S w = some (.inl st')) (k : tb_Go P D dA b base Ls xs sa p l e R s m args below meth c Q y w0 st') : tb_Go P D dA b base Ls xs sa p l e R s m args below meth c Q y w0 (i, L, S, w) := by
  obtain ⟨hx, hb, hml, hr, hlk, hown, hts, hK, hnm, hbb, hbs, hX⟩ := C
  obtain ⟨hd, hl, hn⟩ : decode (mi y).2.1 pc = .ok ((.lload n), len) ∧ len = 2 ∧ tb_atp (P.1 y) (i + 1) (pc + 2) = true := by simpa [tb_okI, tb_okJ, tb_ok2] using hok
  subst hl
  obtain ⟨q', hq', hpc⟩ := tb_atp_ok hn
  exact tb_g_lod hq hq' (fun e => by cases e) (fun _ H locs cells slots ls rest x hl kk => by rw [hpc] at kk; exact lv_lload hx hb hd hl kk) (fun e => by cases e) (fun e => by cases e) hst k

theorem tb_x_lstore {n : Nat} (C : tb_cx X mi D dA b base Ls xs p s m args meth c y) (hnl : P.2.1 y = (mi y).2.2.1) (hq : (P.1 y)[i]? = some (pc, (.lstore n), len, res, val, ps)) (hok : tb_okI mi sc ns (P.1 y) y i (pc, (.lstore n), len, res, val, ps) = true)
    (hst : tb_step P.2.2.1 P.2.2.2 (P.2.1 y) (.lstore n) res val i L S w = some (.inl st')) (k : tb_Go P D dA b base Ls xs sa p l e R s m args below meth c Q y w0 st') : tb_Go P D dA b base Ls xs sa p l e R s m args below meth c Q y w0 (i, L, S, w) := by
  obtain ⟨hx, hb, hml, hr, hlk, hown, hts, hK, hnm, hbb, hbs, hX⟩ := C
  obtain ⟨hd, hl, hn⟩ : decode (mi y).2.1 pc = .ok ((.lstore n), len) ∧ len = 2 ∧ tb_atp (P.1 y) (i + 1) (pc + 2) = true := by simpa [tb_okI, tb_okJ, tb_ok2] using hok
  subst hl
  obtain ⟨q', hq', hpc⟩ := tb_atp_ok hn
  exact tb_g_sto hq hq' (fun e => by cases e) (fun _ H locs cells slots ls rest x lv lv' h1 h2 h3 kk => by rw [hpc] at kk; exact lv_lstore hx hb hd h1 h2 h3 kk) (fun e => by cases e) (fun e => by cases e) hst k

theorem tb_x_aload_n {n : Fin 4} (C : tb_cx X mi D dA b base Ls xs p s m args meth c y) (hnl : P.2.1 y = (mi y).2.2.1) (hq : (P.1 y)[i]? = some (pc, (.aload_n n), len, res, val, ps)) (hok : tb_okI mi sc ns (P.1 y) y i (pc, (.aload_n n), len, res, val, ps) = true)
    (hst : tb_step P.2.2.1 P.2.2.2 (P.2.1 y) (.aload_n n) res val i L S w = some (.inl st')) (k : tb_Go P D dA b base Ls xs sa p l e R s m args below meth c Q y w0 st') : tb_Go P D dA b base Ls xs sa p l e R s m args below meth c Q y w0 (i, L, S, w) := by
  obtain ⟨hx, hb, hml, hr, hlk, hown, hts, hK, hnm, hbb, hbs, hX⟩ := C
  obtain ⟨hd, hl, hn⟩ : decode (mi y).2.1 pc = .ok ((.aload_n n), len) ∧ len = 1 ∧ tb_atp (P.1 y) (i + 1) (pc + 1) = true := by simpa [tb_okI, tb_okJ, tb_ok1] using hok
  subst hl
  obtain ⟨q', hq', hpc⟩ := tb_atp_ok hn
  exact tb_g_lod hq hq' (fun e => by cases e) (fun e => by cases e) (fun _ H locs cells slots ls rest x hl kk => by rw [hpc] at kk; exact lv_aload_n hx hb hd rfl hl kk) (fun _ H locs cells slots ls rest hl kk => by rw [hpc] at kk; exact lv_aload_nN hx hb hd rfl hl kk) hst k

theorem tb_x_astore_n {n : Fin 4} (C : tb_cx X mi D dA b base Ls xs p s m args meth c y) (hnl : P.2.1 y = (mi y).2.2.1) (hq : (P.1 y)[i]? = some (pc, (.astore_n n), len, res, val, ps)) (hok : tb_okI mi sc ns (P.1 y) y i (pc, (.astore_n n), len, res, val, ps) = true)
    (hst : tb_step P.2.2.1 P.2.2.2 (P.2.1 y) (.astore_n n) res val i L S w = some (.inl st')) (k : tb_Go P D dA b base Ls xs sa p l e R s m args below meth c Q y w0 st') : tb_Go P D dA b base Ls xs sa p l e R s m args below meth c Q y w0 (i, L, S, w) := by
  obtain ⟨hx, hb, hml, hr, hlk, hown, hts, hK, hnm, hbb, hbs, hX⟩ := C
  obtain ⟨hd, hl, hn⟩ : decode (mi y).2.1 pc = .ok ((.astore_n n), len) ∧ len = 1 ∧ tb_atp (P.1 y) (i + 1) (pc + 1) = true := by simpa [tb_okI, tb_okJ, tb_ok1] using hok
  subst hl
  obtain ⟨q', hq', hpc⟩ := tb_atp_ok hn
  exact tb_g_sto hq hq' (fun e => by cases e) (fun e => by cases e) (fun _ H locs cells slots ls rest x lv lv' h1 h2 h3 kk => by rw [hpc] at kk; exact lv_astore_n hx hb hd rfl h1 h2 h3 kk) (fun _ H locs cells slots ls rest lv lv' h1 h2 h3 kk => by rw [hpc] at kk; exact lv_astore_nN hx hb hd rfl h1 h2 h3 kk) hst k

theorem tb_x_aload {n : Nat} (C : tb_cx X mi D dA b base Ls xs p s m args meth c y) (hnl : P.2.1 y = (mi y).2.2.1) (hq : (P.1 y)[i]? = some (pc, (.aload n), len, res, val, ps)) (hok : tb_okI mi sc ns (P.1 y) y i (pc, (.aload n), len, res, val, ps) = true)
    (hst : tb_step P.2.2.1 P.2.2.2 (P.2.1 y) (.aload n) res val i L S w = some (.inl st')) (k : tb_Go P D dA b base Ls xs sa p l e R s m args below meth c Q y w0 st') : tb_Go P D dA b base Ls xs sa p l e R s m args below meth c Q y w0 (i, L, S, w) := by
  obtain ⟨hx, hb, hml, hr, hlk, hown, hts, hK, hnm, hbb, hbs, hX⟩ := C
  obtain ⟨hd, hl, hn⟩ : decode (mi y).2.1 pc = .ok ((.aload n), len) ∧ len = 2 ∧ tb_atp (P.1 y) (i + 1) (pc + 2) = true := by simpa [tb_okI, tb_okJ, tb_ok2] using hok
  subst hl
  obtain ⟨q', hq', hpc⟩ := tb_atp_ok hn
  exact tb_g_lod hq hq' (fun e => by cases e) (fun e => by cases e) (fun _ H locs cells slots ls rest x hl kk => by rw [hpc] at kk; exact lv_aload hx hb hd hl kk) (fun _ H locs cells slots ls rest hl kk => by rw [hpc] at kk; exact lv_aloadN hx hb hd hl kk) hst k

theorem tb_x_astore {n : Nat} (C : tb_cx X mi D dA b base Ls xs p s m args meth c y) (hnl : P.2.1 y = (mi y).2.2.1) (hq : (P.1 y)[i]? = some (pc, (.astore n), len, res, val, ps)) (hok : tb_okI mi sc ns (P.1 y) y i (pc, (.astore n), len, res, val, ps) = true)
    (hst : tb_step P.2.2.1 P.2.2.2 (P.2.1 y) (.astore n) res val i L S w = some (.inl st')) (k : tb_Go P D dA b base Ls xs sa p l e R s m args below meth c Q y w0 st') : tb_Go P D dA b base Ls xs sa p l e R s m args below meth c Q y w0 (i, L, S, w) := by
  obtain ⟨hx, hb, hml, hr, hlk, hown, hts, hK, hnm, hbb, hbs, hX⟩ := C
  obtain ⟨hd, hl, hn⟩ : decode (mi y).2.1 pc = .ok ((.astore n), len) ∧ len = 2 ∧ tb_atp (P.1 y) (i + 1) (pc + 2) = true := by simpa [tb_okI, tb_okJ, tb_ok2] using hok
  subst hl
  obtain ⟨q', hq', hpc⟩ := tb_atp_ok hn
  exact tb_g_sto hq hq' (fun e => by cases e) (fun e => by cases e) (fun _ H locs cells slots ls rest x lv lv' h1 h2 h3 kk => by rw [hpc] at kk; exact lv_astore hx hb hd h1 h2 h3 kk) (fun _ H locs cells slots ls rest lv lv' h1 h2 h3 kk => by rw [hpc] at kk; exact lv_astoreN hx hb hd h1 h2 h3 kk) hst k

theorem tb_x_iinc {n : Nat} {z : Int} (C : tb_cx X mi D dA b base Ls xs p s m args meth c y) (hnl : P.2.1 y = (mi y).2.2.1) (hq : (P.1 y)[i]? = some (pc, (.iinc n z), len, res, val, ps)) (hok : tb_okI mi sc ns (P.1 y) y i (pc, (.iinc n z), len, res, val, ps) = true)
    (hst : tb_step P.2.2.1 P.2.2.2 (P.2.1 y) (.iinc n z) res val i L S w = some (.inl st')) (k : tb_Go P D dA b base Ls xs sa p l e R s m args below meth c Q y w0 st') : tb_Go P D dA b base Ls xs sa p l e R s m args below meth c Q y w0 (i, L, S, w) := by
  obtain ⟨hx, hb, hml, hr, hlk, hown, hts, hK, hnm, hbb, hbs, hX⟩ := C
  obtain ⟨hd, ⟨hl, hn⟩, hv⟩ : decode (mi y).2.1 pc = .ok ((.iinc n z), len) ∧ (len = 3 ∧ tb_atp (P.1 y) (i + 1) (pc + 3) = true) ∧ val = .int (Int32.ofInt z) := by simpa [tb_okI, tb_okJ, tb_ok3] using hok
  subst hl
  subst hv
  obtain ⟨q', hq', hpc⟩ := tb_atp_ok hn
  simp only [tb_step] at hst
  split at hst
  · rename_i x nn hld hnn
    cases hnn
    split at hst
    · rename_i hlt
      cases hst
      intro q0 h0 H locs ls h1 h2 h3
      have e0 : q0 = _ := Option.some.inj (h0.symm.trans hq)
      subst e0
      unfold tb_ld at hld
      obtain ⟨r, g1, g2⟩ := Option.map_eq_some_iff.mp hld
      have hm := List.mem_of_find?_eq_some g1
      have hkk : r.1 = n := by simpa using List.find?_some g1
      have hm2 : (n, Value.int x) ∈ tb_cl2 (tb_ad b base) sa L := List.mem_map.mpr ⟨r, hm, by rw [hkk, g2]; rfl⟩
      obtain ⟨j, hj⟩ := List.mem_iff_getElem?.mp hm2
      refine lv_iinc hx hb hd h3 hj rfl hlt (tb_s1_cv (sa := sa) (tb_ad b base) L n (.int (x + Int32.ofInt z))) (fun ls' h' => ?_)
      have kk := k q' hq' H locs ls' h1 h2 h'
      rw [hpc] at kk
      exact kk
    · cases hst
  · cases hst

theorem tb_x_nop (C : tb_cx X mi D dA b base Ls xs p s m args meth c y) (hnl : P.2.1 y = (mi y).2.2.1) (hq : (P.1 y)[i]? = some (pc, .nop, len, res, val, ps)) (hok : tb_okI mi sc ns (P.1 y) y i (pc, .nop, len, res, val, ps) = true)
    (hst : tb_step P.2.2.1 P.2.2.2 (P.2.1 y) .nop res val i L S w = some (.inl st')) (k : tb_Go P D dA b base Ls xs sa p l e R s m args below meth c Q y w0 st') : tb_Go P D dA b base Ls xs sa p l e R s m args below meth c Q y w0 (i, L, S, w) := by
  obtain ⟨hx, hb, hml, hr, hlk, hown, hts, hK, hnm, hbb, hbs, hX⟩ := C
  have hn : tb_atp (P.1 y) (i + 1) pc = true := by simpa [tb_okI] using hok
  obtain ⟨q', hq', hpc⟩ := tb_atp_ok hn
  simp only [tb_step] at hst
  cases hst
  intro q0 h0 H locs ls h1 h2 h3
  have e0 : q0 = _ := Option.some.inj (h0.symm.trans hq)
  subst e0
  have kk := k q' hq' H locs ls h1 h2 ⟨h3.1, h3.2.1, fun q hqm => ?_⟩
  · rw [hpc] at kk
    exact kk
  · obtain ⟨r, hr1, hr2⟩ := List.mem_map.mp hqm
    unfold tb_pick at hr1
    obtain ⟨kx, -, hr3⟩ := List.mem_filterMap.mp hr1
    exact h3.2.2 q (List.mem_map.mpr ⟨r, List.mem_of_find?_eq_some hr3, hr2⟩)

theorem tb_x_goto {off : Int} (C : tb_cx X mi D dA b base Ls xs p s m args meth c y) (hnl : P.2.1 y = (mi y).2.2.1) (hq : (P.1 y)[i]? = some (pc, (.goto off), len, res, val, ps)) (hok : tb_okI mi sc ns (P.1 y) y i (pc, (.goto off), len, res, val, ps) = true)
    (hst : tb_step P.2.2.1 P.2.2.2 (P.2.1 y) (.goto off) res val i L S w = some (.inl st')) (k : tb_Go P D dA b base Ls xs sa p l e R s m args below meth c Q y w0 st') : tb_Go P D dA b base Ls xs sa p l e R s m args below meth c Q y w0 (i, L, S, w) := by
  obtain ⟨hx, hb, hml, hr, hlk, hown, hts, hK, hnm, hbb, hbs, hX⟩ := C
  obtain ⟨hd, hl, hn⟩ : decode (mi y).2.1 pc = .ok ((.goto off), len) ∧ len = 3 ∧ tb_okT1 (P.1 y) res pc off = true := by simpa [tb_okI, tb_okJ] using hok
  subst hl
  obtain ⟨t, q', rfl, hq', hpc⟩ := tb_okT1_ok hn
  simp only [tb_step] at hst
  cases hst
  exact tb_g_same hq hq' (fun H locs cells slots ls kk => lv_goto hx hb hd hpc kk) k

theorem tb_x_ifCond {cn : ClassFile.Cond} {off : Int} (C : tb_cx X mi D dA b base Ls xs p s m args meth c y) (hnl : P.2.1 y = (mi y).2.2.1) (hq : (P.1 y)[i]? = some (pc, (.ifCond cn off), len, res, val, ps)) (hok : tb_okI mi sc ns (P.1 y) y i (pc, (.ifCond cn off), len, res, val, ps) = true)
    (hst : tb_step P.2.2.1 P.2.2.2 (P.2.1 y) (.ifCond cn off) res val i L S w = some (.inl st')) (k : tb_Go P D dA b base Ls xs sa p l e R s m args below meth c Q y w0 st') : tb_Go P D dA b base Ls xs sa p l e R s m args below meth c Q y w0 (i, L, S, w) := by
  obtain ⟨hx, hb, hml, hr, hlk, hown, hts, hK, hnm, hbb, hbs, hX⟩ := C
  obtain ⟨hd, ⟨hl, hn⟩, ht⟩ : decode (mi y).2.1 pc = .ok ((.ifCond cn off), len) ∧ (len = 3 ∧ tb_atp (P.1 y) (i + 1) (pc + 3) = true) ∧ tb_okT1 (P.1 y) res pc off = true := by simpa [tb_okI, tb_okJ, tb_ok3] using hok
  subst hl
  obtain ⟨q', hq', hpc⟩ := tb_atp_ok hn
  obtain ⟨t, qt, rfl, hqt, hpt⟩ := tb_okT1_ok ht
  simp only [tb_step] at hst
  split at hst
  · rename_i hres
    cases hres
    simp only [tb_jmp, Option.some.injEq, Sum.inl.injEq] at hst
    subst hst
    intro q0 h0 H locs ls h1 h2 h3
    have e0 : q0 = _ := Option.some.inj (h0.symm.trans hq)
    subst e0
    cases cn with
    | eq => exact lv_if_eq hx hb hd hpt (fun hc => by have kk := k; rw [show tb_cnd .eq _ _ = true from decide_eq_true hc] at kk; exact kk _ hqt H locs ls h1 h2 h3) (fun hc => by have kk := k; rw [show tb_cnd .eq _ _ = false from decide_eq_false hc] at kk; have k2 := kk _ hq' H locs ls h1 h2 h3; rw [hpc] at k2; exact k2)
    | ne => exact lv_if_ne hx hb hd hpt (fun hc => by have kk := k; rw [show tb_cnd .ne _ _ = true from decide_eq_true hc] at kk; exact kk _ hqt H locs ls h1 h2 h3) (fun hc => by have kk := k; rw [show tb_cnd .ne _ _ = false from decide_eq_false (fun hz => hz hc)] at kk; have k2 := kk _ hq' H locs ls h1 h2 h3; rw [hpc] at k2; exact k2)
    | lt => exact lv_if_lt hx hb hd hpt (fun hc => by have kk := k; rw [show tb_cnd .lt _ _ = true from decide_eq_true hc] at kk; exact kk _ hqt H locs ls h1 h2 h3) (fun hc => by have kk := k; rw [show tb_cnd .lt _ _ = false from decide_eq_false hc] at kk; have k2 := kk _ hq' H locs ls h1 h2 h3; rw [hpc] at k2; exact k2)
    | ge => exact lv_if_ge hx hb hd hpt (fun hc => by have kk := k; rw [show tb_cnd .ge _ _ = true from decide_eq_true hc] at kk; exact kk _ hqt H locs ls h1 h2 h3) (fun hc => by have kk := k; rw [show tb_cnd .ge _ _ = false from decide_eq_false hc] at kk; have k2 := kk _ hq' H locs ls h1 h2 h3; rw [hpc] at k2; exact k2)
    | gt => exact lv_if_gt hx hb hd hpt (fun hc => by have kk := k; rw [show tb_cnd .gt _ _ = true from decide_eq_true hc] at kk; exact kk _ hqt H locs ls h1 h2 h3) (fun hc => by have kk := k; rw [show tb_cnd .gt _ _ = false from decide_eq_false hc] at kk; have k2 := kk _ hq' H locs ls h1 h2 h3; rw [hpc] at k2; exact k2)
    | le => exact lv_if_le hx hb hd hpt (fun hc => by have kk := k; rw [show tb_cnd .le _ _ = true from decide_eq_true hc] at kk; exact kk _ hqt H locs ls h1 h2 h3) (fun hc => by have kk := k; rw [show tb_cnd .le _ _ = false from decide_eq_false hc] at kk; have k2 := kk _ hq' H locs ls h1 h2 h3; rw [hpc] at k2; exact k2)
  · cases hst

theorem tb_x_if_icmp {cn : ClassFile.Cond} {off : Int} (C : tb_cx X mi D dA b base Ls xs p s m args meth c y) (hnl : P.2.1 y = (mi y).2.2.1) (hq : (P.1 y)[i]? = some (pc, (.if_icmp cn off), len, res, val, ps)) (hok : tb_okI mi sc ns (P.1 y) y i (pc, (.if_icmp cn off), len, res, val, ps) = true)
    (hst : tb_step P.2.2.1 P.2.2.2 (P.2.1 y) (.if_icmp cn off) res val i L S w = some (.inl st')) (k : tb_Go P D dA b base Ls xs sa p l e R s m args below meth c Q y w0 st') : tb_Go P D dA b base Ls xs sa p l e R s m args below meth c Q y w0 (i, L, S, w) := by
  obtain ⟨hx, hb, hml, hr, hlk, hown, hts, hK, hnm, hbb, hbs, hX⟩ := C
  obtain ⟨hd, ⟨hl, hn⟩, ht⟩ : decode (mi y).2.1 pc = .ok ((.if_icmp cn off), len) ∧ (len = 3 ∧ tb_atp (P.1 y) (i + 1) (pc + 3) = true) ∧ tb_okT1 (P.1 y) res pc off = true := by simpa [tb_okI, tb_okJ, tb_ok3] using hok
  subst hl
  obtain ⟨q', hq', hpc⟩ := tb_atp_ok hn
  obtain ⟨t, qt, rfl, hqt, hpt⟩ := tb_okT1_ok ht
  simp only [tb_step] at hst
  split at hst
  · rename_i hres
    cases hres
    simp only [tb_jmp, Option.some.injEq, Sum.inl.injEq] at hst
    subst hst
    intro q0 h0 H locs ls h1 h2 h3
    have e0 : q0 = _ := Option.some.inj (h0.symm.trans hq)
    subst e0
    cases cn with
    | eq => exact lv_icmp_eq hx hb hd hpt (fun hc => by have kk := k; rw [show tb_cnd .eq _ _ = true from decide_eq_true hc] at kk; exact kk _ hqt H locs ls h1 h2 h3) (fun hc => by have kk := k; rw [show tb_cnd .eq _ _ = false from decide_eq_false hc] at kk; have k2 := kk _ hq' H locs ls h1 h2 h3; rw [hpc] at k2; exact k2)
    | ne => exact lv_icmp_ne hx hb hd hpt (fun hc => by have kk := k; rw [show tb_cnd .ne _ _ = true from decide_eq_true hc] at kk; exact kk _ hqt H locs ls h1 h2 h3) (fun hc => by have kk := k; rw [show tb_cnd .ne _ _ = false from decide_eq_false (fun hz => hz hc)] at kk; have k2 := kk _ hq' H locs ls h1 h2 h3; rw [hpc] at k2; exact k2)
    | lt => exact lv_icmp_lt hx hb hd hpt (fun hc => by have kk := k; rw [show tb_cnd .lt _ _ = true from decide_eq_true hc] at kk; exact kk _ hqt H locs ls h1 h2 h3) (fun hc => by have kk := k; rw [show tb_cnd .lt _ _ = false from decide_eq_false hc] at kk; have k2 := kk _ hq' H locs ls h1 h2 h3; rw [hpc] at k2; exact k2)
    | ge => exact lv_icmp_ge hx hb hd hpt (fun hc => by have kk := k; rw [show tb_cnd .ge _ _ = true from decide_eq_true hc] at kk; exact kk _ hqt H locs ls h1 h2 h3) (fun hc => by have kk := k; rw [show tb_cnd .ge _ _ = false from decide_eq_false hc] at kk; have k2 := kk _ hq' H locs ls h1 h2 h3; rw [hpc] at k2; exact k2)
    | gt => exact lv_icmp_gt hx hb hd hpt (fun hc => by have kk := k; rw [show tb_cnd .gt _ _ = true from decide_eq_true hc] at kk; exact kk _ hqt H locs ls h1 h2 h3) (fun hc => by have kk := k; rw [show tb_cnd .gt _ _ = false from decide_eq_false hc] at kk; have k2 := kk _ hq' H locs ls h1 h2 h3; rw [hpc] at k2; exact k2)
    | le => exact lv_icmp_le hx hb hd hpt (fun hc => by have kk := k; rw [show tb_cnd .le _ _ = true from decide_eq_true hc] at kk; exact kk _ hqt H locs ls h1 h2 h3) (fun hc => by have kk := k; rw [show tb_cnd .le _ _ = false from decide_eq_false hc] at kk; have k2 := kk _ hq' H locs ls h1 h2 h3; rw [hpc] at k2; exact k2)
  · cases hst

theorem tb_x_ifnull {off : Int} (C : tb_cx X mi D dA b base Ls xs p s m args meth c y) (hnl : P.2.1 y = (mi y).2.2.1) (hq : (P.1 y)[i]? = some (pc, (.ifnull off), len, res, val, ps)) (hok : tb_okI mi sc ns (P.1 y) y i (pc, (.ifnull off), len, res, val, ps) = true)
    (hst : tb_step P.2.2.1 P.2.2.2 (P.2.1 y) (.ifnull off) res val i L S w = some (.inl st')) (k : tb_Go P D dA b base Ls xs sa p l e R s m args below meth c Q y w0 st') : tb_Go P D dA b base Ls xs sa p l e R s m args below meth c Q y w0 (i, L, S, w) := by
  obtain ⟨hx, hb, hml, hr, hlk, hown, hts, hK, hnm, hbb, hbs, hX⟩ := C
  obtain ⟨hd, ⟨hl, hn⟩, ht⟩ : decode (mi y).2.1 pc = .ok ((.ifnull off), len) ∧ (len = 3 ∧ tb_atp (P.1 y) (i + 1) (pc + 3) = true) ∧ tb_okT1 (P.1 y) res pc off = true := by simpa [tb_okI, tb_okJ, tb_ok3] using hok
  subst hl
  obtain ⟨q', hq', hpc⟩ := tb_atp_ok hn
  obtain ⟨t, qt, rfl, hqt, hpt⟩ := tb_okT1_ok ht
  simp only [tb_step] at hst
  split at hst
  · rename_i hres
    cases hres
    cases hst
    exact tb_g_same hq hqt (fun H locs cells slots ls kk => lv_ifnullN hx hb hd hpt kk) k
  · rename_i hres
    cases hres
    cases hst
    exact tb_g_same hq hq' (fun H locs cells slots ls kk => by rw [hpc] at kk; exact lv_ifnull hx hb hd kk) k
  · cases hst

theorem tb_x_ifnonnull {off : Int} (C : tb_cx X mi D dA b base Ls xs p s m args meth c y) (hnl : P.2.1 y = (mi y).2.2.1) (hq : (P.1 y)[i]? = some (pc, (.ifnonnull off), len, res, val, ps)) (hok : tb_okI mi sc ns (P.1 y) y i (pc, (.ifnonnull off), len, res, val, ps) = true)
    (hst : tb_step P.2.2.1 P.2.2.2 (P.2.1 y) (.ifnonnull off) res val i L S w = some (.inl st')) (k : tb_Go P D dA b base Ls xs sa p l e R s m args below meth c Q y w0 st') : tb_Go P D dA b base Ls xs sa p l e R s m args below meth c Q y w0 (i, L, S, w) := by
  obtain ⟨hx, hb, hml, hr, hlk, hown, hts, hK, hnm, hbb, hbs, hX⟩ := C
  obtain ⟨hd, ⟨hl, hn⟩, ht⟩ : decode (mi y).2.1 pc = .ok ((.ifnonnull off), len) ∧ (len = 3 ∧ tb_atp (P.1 y) (i + 1) (pc + 3) = true) ∧ tb_okT1 (P.1 y) res pc off = true := by simpa [tb_okI, tb_okJ, tb_ok3] using hok
  subst hl
  obtain ⟨q', hq', hpc⟩ := tb_atp_ok hn
  obtain ⟨t, qt, rfl, hqt, hpt⟩ := tb_okT1_ok ht
  simp only [tb_step] at hst
  split at hst
  · rename_i hres
    cases hres
    cases hst
    exact tb_g_same hq hqt (fun H locs cells slots ls kk => lv_ifnonnull hx hb hd hpt kk) k
  · rename_i hres
    cases hres
    cases hst
    exact tb_g_same hq hq' (fun H locs cells slots ls kk => by rw [hpc] at kk; exact lv_ifnonnullN hx hb hd kk) k
  · cases hst

end TBN
