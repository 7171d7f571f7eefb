/-! ===== Ends; calls ===== -/
def tb_Qc (D : va_G) (dA : Nat → ClassId) (b base Ls : Nat) (xs : Nat → Int32) (sa : Nat → Nat) (rv : Option Value) (w' : tb_Hp) : Array Value → State → Outcome → State → Prop := fun _ st o t => o = .returned (rv.map (tb_cv (tb_ad b base) sa)) ∧ tb_Rel D dA b base Ls xs sa w' t.heap ∧ va_F (tb_A base) st t
def tb_Pc (X : State → Prop) (D : va_G) (dA : Nat → ClassId) (b base Ls : Nat) (xs : Nat → Int32) (sa : Nat → Nat) (as : List Value) (w : tb_Hp) : Array Value → State → Prop := fun v U => v = (as.map (tb_cv (tb_ad b base) sa)).toArray ∧ tb_Rel D dA b base Ls xs sa w U.heap ∧ tb_K D dA b Ls xs U ∧ X U ∧ base ≤ U.heap.size
/-- room for d calls one in another, and five more for the texts -/
def tb_rm (d mc ms : Nat) : Room := { frames := d + 6, cells := mc, slots := ms, locals := 60 * (d + 6) }
def tb_wds (mi : tb_Mi) (y : Nat) : List Cond := .code (mi y).1 (mi y).2.1 (mi y).2.2.1 (mi y).2.2.2 :: tb_Tw
theorem tb_okRet_9 {t : Option FieldType} {res : List Nat} (h : tb_okRet t 9 res = true) : t = none := by
  unfold tb_okRet at h
  split at h <;> simp_all
theorem tb_okRet_0 {t : Option FieldType} (h : tb_okRet t 0 [] = true) : t = some .int := by
  unfold tb_okRet at h
  split at h <;> simp_all
theorem tb_okRet_z {t : Option FieldType} (h : tb_okRet t 0 [1] = true) : t = some .boolean := by
  unfold tb_okRet at h
  split at h <;> simp_all
theorem tb_okRet_1 {t : Option FieldType} {res : List Nat} (h : tb_okRet t 1 res = true) : t = some .long := by
  unfold tb_okRet at h
  split at h <;> simp_all
theorem tb_okRet_2 {t : Option FieldType} {res : List Nat} (h : tb_okRet t 2 res = true) : ∃ rt, t = some rt ∧ ((∃ n, rt = .object n) ∨ ∃ t, rt = .array t) := by
  unfold tb_okRet at h
  split at h <;> simp_all
section TBE
variable {X : State → Prop} {P : tb_Pg} {mi : tb_Mi} {sc : tb_Sc} {ns : List (String × Nat × Nat)} {D : va_G} {dA : Nat → ClassId} {b base Ls : Nat} {xs : Nat → Int32} {sa : Nat → Nat}
variable {p : Program} {l : Launch} {e : Env} {R : Room} {s : State} {m : MethodId} {args : Array Value} {below : List Frame} {meth : Method} {c : Code} {Q : State → Prop} {y : Nat} {w0 : tb_Hp}
variable {i pc len : Nat} {res ps : List Nat} {val : Value} {L : tb_L} {S : List Value} {w : tb_Hp} {st' : tb_S}
theorem tb_x_ret {ins : Instr} {t : Nat} {rv : Option Value} {w' : tb_Hp} (C : tb_cx X mi D dA b base Ls xs p s m args meth c y) (hins : (ins = .ireturn ∧ t = 0) ∨ (ins = .lreturn ∧ t = 1) ∨ (ins = .areturn ∧ t = 2) ∨ (ins = .return_ ∧ t = 9)) (hq : (P.1 y)[i]? = some (pc, ins, len, res, val, ps)) (hok : tb_okI mi sc ns (P.1 y) y i (pc, ins, len, res, val, ps) = true)
    (hst : tb_ret res t S w = some (.inr (.inr (rv, w')))) : tb_Go P D dA b base Ls xs sa p l e R s m args below meth c (MQ below (tb_Qc D dA b base Ls xs sa rv w') args s (w'.1.length - w0.1.length) (tb_sum w' - tb_sum w0) (tb_A base)) y w0 (i, L, S, w) := by
  obtain ⟨hx, hb, hml, hr, hlk, hown, hts, hK, hnm, hbb, hbs, hX⟩ := C
  obtain ⟨hd, hl, hre⟩ : decode (mi y).2.1 pc = .ok (ins, len) ∧ len = 1 ∧ tb_okRet (mi y).2.2.2 t res = true := by
    rcases hins with ⟨rfl, rfl⟩ | ⟨rfl, rfl⟩ | ⟨rfl, rfl⟩ | ⟨rfl, rfl⟩ <;> simpa [tb_okI, tb_okJ] using hok
  subst hl
  intro q0 h0 H locs ls h1 h2 h3
  have e0 : q0 = _ := Option.some.inj (h0.symm.trans hq)
  subst e0
  unfold tb_ret at hst
  split at hst
  · cases hst
    have ei : ins = .return_ := by rcases hins with ⟨-, g⟩ | ⟨-, g⟩ | ⟨-, g⟩ | ⟨g, -⟩ <;> first | exact g | cases g
    subst ei
    have hrn : (mi y).2.2.2 = none := tb_okRet_9 hre
    exact W.vret hx hb (by rw [hr]; exact hrn) (fun t ht hW => ⟨rfl, by rw [ht]; exact h1, h2.F ht⟩) h2.2.2 hd hlk
  · cases hst
    have ei : ins = .ireturn := by rcases hins with ⟨g, -⟩ | ⟨-, g⟩ | ⟨-, g⟩ | ⟨-, g⟩ <;> first | exact g | cases g
    subst ei
    have hrn : (mi y).2.2.2 = some .int := tb_okRet_0 hre
    exact W.iret hx hb (by rw [hr]; exact hrn) (fun t ht hW => ⟨rfl, by rw [ht]; exact h1, h2.F ht⟩) h2.2.2 hd hlk
  · split at hst
    · rename_i x hx01
      cases hst
      have ei : ins = .ireturn := by rcases hins with ⟨g, -⟩ | ⟨-, g⟩ | ⟨-, g⟩ | ⟨-, g⟩ <;> first | exact g | cases g
      subst ei
      have hrn : (mi y).2.2.2 = some .boolean := tb_okRet_z hre
      exact W.zret hx hb (by rw [hr]; exact hrn) (by rcases hx01 with g | g <;> (rw [g]; rfl)) (fun t ht hW => ⟨rfl, by rw [ht]; exact h1, h2.F ht⟩) h2.2.2 hd hlk
    · cases hst
  · cases hst
    have ei : ins = .lreturn := by rcases hins with ⟨-, g⟩ | ⟨g, -⟩ | ⟨-, g⟩ | ⟨-, g⟩ <;> first | exact g | cases g
    subst ei
    have hrn : (mi y).2.2.2 = some .long := tb_okRet_1 hre
    exact W.lret hx hb (by rw [hr]; exact hrn) (fun t ht hW => ⟨rfl, by rw [ht]; exact h1, h2.F ht⟩) h2.2.2 hd hlk
  all_goals first
    | (cases hst; done)
    | (cases hst
       have ei : ins = .areturn := by rcases hins with ⟨-, g⟩ | ⟨-, g⟩ | ⟨g, -⟩ | ⟨-, g⟩ <;> first | exact g | cases g
       subst ei
       obtain ⟨rt, hrn, hrt⟩ := tb_okRet_2 hre
       exact W.aret hx hb (by rw [hr]; exact hrn) hrt (by first | exact Or.inr ⟨_, rfl⟩ | exact Or.inl rfl) (fun t ht hW => ⟨rfl, by rw [ht]; exact h1, h2.F ht⟩) h2.2.2 hd hlk)
end TBE
