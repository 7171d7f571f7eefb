/-! ===== The heap only grows ===== -/
def tb_gr (w w' : tb_Hp) : Prop := w.1.length ≤ w'.1.length ∧ tb_sum w ≤ tb_sum w'
theorem tb_gr.rf (w : tb_Hp) : tb_gr w w := ⟨Nat.le_refl _, Nat.le_refl _⟩
theorem tb_gr.tr {a b c : tb_Hp} (h : tb_gr a b) (g : tb_gr b c) : tb_gr a c := ⟨Nat.le_trans h.1 g.1, Nat.le_trans h.2 g.2⟩
theorem tb_gr.eq {w w' : tb_Hp} (h : w'.1 = w.1) : tb_gr w w' := ⟨by rw [h]; exact Nat.le_refl _, by unfold tb_sum; rw [h]; exact Nat.le_refl _⟩
theorem tb_gr.new (w : tb_Hp) (k n : Nat) : tb_gr w (tb_new w k n) := ⟨by simp [tb_new], by rw [tb_sum_new]; omega⟩
/-- the heap of what a step says -/
def tb_rw (r : tb_R) : tb_Hp := match r with
  | .inl s => s.2.2.2
  | .inr (.inl q) => q.2.2.2.2.2
  | .inr (.inr q) => q.2
theorem tb_gr_psh {v : Value} {i : Nat} {L : tb_L} {S : List Value} {w : tb_Hp} {r : tb_R} (h : tb_psh v i L S w = some r) : tb_gr w (tb_rw r) := by
  unfold tb_psh at h; cases h; exact tb_gr.rf _
theorem tb_gr_lod {k t i : Nat} {L : tb_L} {S : List Value} {w : tb_Hp} {r : tb_R} (h : tb_lod k t i L S w = some r) : tb_gr w (tb_rw r) := by
  unfold tb_lod at h; split at h <;> cases h <;> exact tb_gr.rf _
theorem tb_gr_sto {nL k t i : Nat} {L : tb_L} {S : List Value} {w : tb_Hp} {r : tb_R} (h : tb_sto nL k t i L S w = some r) : tb_gr w (tb_rw r) := by
  unfold tb_sto at h; split at h <;> (try split at h) <;> cases h <;> exact tb_gr.rf _
theorem tb_gr_bin {f : Int32 → Int32 → Int32} {i : Nat} {L : tb_L} {S : List Value} {w : tb_Hp} {r : tb_R} (h : tb_bin f i L S w = some r) : tb_gr w (tb_rw r) := by
  unfold tb_bin at h; split at h <;> cases h; exact tb_gr.rf _
theorem tb_gr_lbn {f : Int64 → Int64 → Int64} {i : Nat} {L : tb_L} {S : List Value} {w : tb_Hp} {r : tb_R} (h : tb_lbn f i L S w = some r) : tb_gr w (tb_rw r) := by
  unfold tb_lbn at h; split at h <;> cases h; exact tb_gr.rf _
theorem tb_gr_dbn {f : Int32 → Int32 → Int32} {i : Nat} {L : tb_L} {S : List Value} {w : tb_Hp} {r : tb_R} (h : tb_dbn f i L S w = some r) : tb_gr w (tb_rw r) := by
  unfold tb_dbn at h; split at h <;> (try split at h) <;> cases h; exact tb_gr.rf _
theorem tb_gr_ldb {f : Int64 → Int64 → Int64} {i : Nat} {L : tb_L} {S : List Value} {w : tb_Hp} {r : tb_R} (h : tb_ldb f i L S w = some r) : tb_gr w (tb_rw r) := by
  unfold tb_ldb at h; split at h <;> (try split at h) <;> cases h; exact tb_gr.rf _
theorem tb_gr_una {f : Int32 → Int32} {i : Nat} {L : tb_L} {S : List Value} {w : tb_Hp} {r : tb_R} (h : tb_una f i L S w = some r) : tb_gr w (tb_rw r) := by
  unfold tb_una at h; split at h <;> cases h; exact tb_gr.rf _
theorem tb_gr_jmp {b : Bool} {t i : Nat} {L : tb_L} {S : List Value} {w : tb_Hp} {r : tb_R} (h : tb_jmp b t i L S w = some r) : tb_gr w (tb_rw r) := by
  unfold tb_jmp at h; cases h; exact tb_gr.rf _
theorem tb_gr_alo {cs : List Nat} {t i : Nat} {L : tb_L} {S : List Value} {w : tb_Hp} {r : tb_R} (h : tb_alo cs t i L S w = some r) : tb_gr w (tb_rw r) := by
  unfold tb_alo at h; split at h
  · split at h
    · split at h <;> cases h; exact tb_gr.rf _
    · cases h
  · cases h
theorem tb_gr_ast {i kd : Nat} {L : tb_L} {S : List Value} {w : tb_Hp} {r : tb_R} (h : tb_ast i L S w kd = some r) : tb_gr w (tb_rw r) := by
  unfold tb_ast at h; split at h
  · split at h
    · split at h
      · split at h <;> cases h <;> exact tb_gr.eq rfl
      · cases h
    · cases h
  · split at h
    · split at h
      · split at h <;> cases h; exact tb_gr.eq rfl
      · cases h
    · cases h
  · cases h
theorem tb_gr_aas {cmp : Nat → Nat} {i : Nat} {L : tb_L} {S : List Value} {w : tb_Hp} {r : tb_R} (h : tb_aas cmp i L S w = some r) : tb_gr w (tb_rw r) := by
  unfold tb_aas at h; split at h
  · split at h
    · split at h <;> cases h; exact tb_gr.eq rfl
    · cases h
  · cases h
theorem tb_gr_aln {i : Nat} {L : tb_L} {S : List Value} {w : tb_Hp} {r : tb_R} (h : tb_aln i L S w = some r) : tb_gr w (tb_rw r) := by
  unfold tb_aln at h; split at h
  · split at h
    · split at h <;> cases h; exact tb_gr.rf _
    · cases h
  · cases h
theorem tb_gr_gtf {res : List Nat} {i : Nat} {L : tb_L} {S : List Value} {w : tb_Hp} {r : tb_R} (h : tb_gtf res i L S w = some r) : tb_gr w (tb_rw r) := by
  unfold tb_gtf at h; split at h
  · split at h <;> cases h; exact tb_gr.rf _
  · cases h
theorem tb_gr_ptf {res : List Nat} {i : Nat} {L : tb_L} {S : List Value} {w : tb_Hp} {r : tb_R} (h : tb_ptf res i L S w = some r) : tb_gr w (tb_rw r) := by
  unfold tb_ptf at h; split at h
  · split at h <;> cases h; exact tb_gr.eq rfl
  · split at h <;> cases h; exact tb_gr.eq rfl
  · split at h <;> cases h; exact tb_gr.eq rfl
  · cases h
theorem tb_gr_nwo {res : List Nat} {i : Nat} {L : tb_L} {S : List Value} {w : tb_Hp} {r : tb_R} (h : tb_nwo res i L S w = some r) : tb_gr w (tb_rw r) := by
  unfold tb_nwo at h; split at h <;> cases h; exact tb_gr.new _ _ _
theorem tb_gr_nwa {res : List Nat} {i : Nat} {L : tb_L} {S : List Value} {w : tb_Hp} {r : tb_R} (h : tb_nwa res i L S w = some r) : tb_gr w (tb_rw r) := by
  unfold tb_nwa at h; split at h
  · split at h <;> cases h; exact tb_gr.new _ _ _
  · cases h
theorem tb_gr_ivk {res : List Nat} {i : Nat} {L : tb_L} {S : List Value} {w : tb_Hp} {r : tb_R} (h : tb_ivk res i L S w = some r) : tb_gr w (tb_rw r) := by
  unfold tb_ivk at h; split at h
  · split at h
    · split at h <;> cases h; exact tb_gr.rf _
    · cases h
  · cases h
theorem tb_gr_ivs {res : List Nat} {i : Nat} {L : tb_L} {S : List Value} {w : tb_Hp} {r : tb_R} (h : tb_ivs res i L S w = some r) : tb_gr w (tb_rw r) := by
  unfold tb_ivs at h; split at h
  · split at h <;> cases h; exact tb_gr.rf _
  · cases h
theorem tb_gr_obi {i : Nat} {L : tb_L} {S : List Value} {w : tb_Hp} {r : tb_R} (h : tb_obi i L S w = some r) : tb_gr w (tb_rw r) := by
  unfold tb_obi at h; split at h
  · split at h <;> cases h; exact tb_gr.rf _
  · cases h
theorem tb_gr_cpy {i : Nat} {L : tb_L} {S : List Value} {w : tb_Hp} {r : tb_R} (h : tb_cpy i L S w = some r) : tb_gr w (tb_rw r) := by
  unfold tb_cpy at h; split at h
  · split at h
    · split at h <;> cases h; exact tb_gr.eq rfl
    · cases h
  · cases h
theorem tb_gr_txl {tx : Nat → List Int32} {i : Nat} {L : tb_L} {S : List Value} {w : tb_Hp} {r : tb_R} (h : tb_txl tx i L S w = some r) : tb_gr w (tb_rw r) := by
  unfold tb_txl at h; split at h
  · split at h <;> cases h; exact tb_gr.rf _
  · cases h
theorem tb_gr_txc {tx : Nat → List Int32} {i : Nat} {L : tb_L} {S : List Value} {w : tb_Hp} {r : tb_R} (h : tb_txc tx i L S w = some r) : tb_gr w (tb_rw r) := by
  unfold tb_txc at h; split at h
  · split at h <;> cases h; exact tb_gr.rf _
  · cases h
theorem tb_gr_ret {res : List Nat} {t : Nat} {S : List Value} {w : tb_Hp} {r : tb_R} (h : tb_ret res t S w = some r) : tb_gr w (tb_rw r) := by
  unfold tb_ret at h; split at h <;> (try split at h) <;> cases h <;> exact tb_gr.rf _
theorem tb_gr_step {cmp : Nat → Nat} {tx : Nat → List Int32} {nL : Nat} {ins : Instr} {res : List Nat} {val : Value} {i : Nat} {L : tb_L} {S : List Value} {w : tb_Hp} {r : tb_R} (h : tb_step cmp tx nL ins res val i L S w = some r) : tb_gr w (tb_rw r) := by
  unfold tb_step at h
  split at h <;> first
    | exact tb_gr_psh h
    | exact tb_gr_lod h
    | exact tb_gr_sto h
    | exact tb_gr_bin h
    | exact tb_gr_lbn h
    | exact tb_gr_dbn h
    | exact tb_gr_ldb h
    | exact tb_gr_una h
    | exact tb_gr_alo h
    | exact tb_gr_ast h
    | exact tb_gr_aas h
    | exact tb_gr_aln h
    | exact tb_gr_gtf h
    | exact tb_gr_ptf h
    | exact tb_gr_nwo h
    | exact tb_gr_nwa h
    | exact tb_gr_ret h
    | (cases h; exact tb_gr.rf _)
    | (cases h; done)
    | (split at h <;> first | (cases h; exact tb_gr.rf _) | cases h | exact tb_gr_jmp h | exact tb_gr_ivk h | exact tb_gr_ivs h | exact tb_gr_obi h | exact tb_gr_cpy h | exact tb_gr_txl h | exact tb_gr_txc h | (split at h <;> first | (cases h; exact tb_gr.rf _) | cases h | exact tb_gr_txc h | exact tb_gr_ivk h))
theorem tb_gr_ex {P : tb_Pg} : ∀ (n d y : Nat) (st : tb_S) (out : Option Value × tb_Hp), tb_ex P n d y st = some out → tb_gr st.2.2.2 out.2 := by
  intro n
  induction n with
  | zero => intro d y st out h; cases h
  | succ n ih =>
    intro d y st out h
    unfold tb_ex at h
    split at h
    · cases h
    · rename_i q hq
      split at h
      · cases h
      · rename_i s' hs
        exact (tb_gr_step hs).tr (ih d y s' out h)
      · rename_i y' args s' hs
        split at h
        · cases h
        · rename_i d'
          split at h
          · split at h
            · cases h
            · rename_i v w' hw
              have g0 : tb_gr st.2.2.2 s'.2.2.2 := tb_gr_step hs
              have g1 : tb_gr s'.2.2.2 w' := ih d' y' _ _ hw
              exact (g0.tr g1).tr (ih (d' + 1) y _ out h)
          · cases h
      · rename_i v w' hs
        cases h
        exact tb_gr_step hs
/-! ===== What each instruction says: goes on, calls, ends ===== -/
def tb_kr (r : tb_R) : Nat := match r with
  | .inl _ => 0
  | .inr (.inl _) => 1
  | .inr (.inr _) => 2
theorem tb_k_psh {v : Value} {i : Nat} {L : tb_L} {S : List Value} {w : tb_Hp} {r : tb_R} (h : tb_psh v i L S w = some r) : tb_kr r = 0 := by
  unfold tb_psh at h
  first | (cases h; rfl) | (split at h <;> first | (cases h; rfl) | (cases h; done) | (split at h <;> first | (cases h; rfl) | (cases h; done) | (split at h <;> first | (cases h; rfl) | (cases h; done) | (split at h <;> first | (cases h; rfl) | (cases h; done)))))
theorem tb_k_lod {k t i : Nat} {L : tb_L} {S : List Value} {w : tb_Hp} {r : tb_R} (h : tb_lod k t i L S w = some r) : tb_kr r = 0 := by
  unfold tb_lod at h
  first | (cases h; rfl) | (split at h <;> first | (cases h; rfl) | (cases h; done) | (split at h <;> first | (cases h; rfl) | (cases h; done) | (split at h <;> first | (cases h; rfl) | (cases h; done) | (split at h <;> first | (cases h; rfl) | (cases h; done)))))
theorem tb_k_sto {nL k t i : Nat} {L : tb_L} {S : List Value} {w : tb_Hp} {r : tb_R} (h : tb_sto nL k t i L S w = some r) : tb_kr r = 0 := by
  unfold tb_sto at h
  first | (cases h; rfl) | (split at h <;> first | (cases h; rfl) | (cases h; done) | (split at h <;> first | (cases h; rfl) | (cases h; done) | (split at h <;> first | (cases h; rfl) | (cases h; done) | (split at h <;> first | (cases h; rfl) | (cases h; done)))))
theorem tb_k_bin {f : Int32 → Int32 → Int32} {i : Nat} {L : tb_L} {S : List Value} {w : tb_Hp} {r : tb_R} (h : tb_bin f i L S w = some r) : tb_kr r = 0 := by
  unfold tb_bin at h
  first | (cases h; rfl) | (split at h <;> first | (cases h; rfl) | (cases h; done) | (split at h <;> first | (cases h; rfl) | (cases h; done) | (split at h <;> first | (cases h; rfl) | (cases h; done) | (split at h <;> first | (cases h; rfl) | (cases h; done)))))
theorem tb_k_lbn {f : Int64 → Int64 → Int64} {i : Nat} {L : tb_L} {S : List Value} {w : tb_Hp} {r : tb_R} (h : tb_lbn f i L S w = some r) : tb_kr r = 0 := by
  unfold tb_lbn at h
  first | (cases h; rfl) | (split at h <;> first | (cases h; rfl) | (cases h; done) | (split at h <;> first | (cases h; rfl) | (cases h; done) | (split at h <;> first | (cases h; rfl) | (cases h; done) | (split at h <;> first | (cases h; rfl) | (cases h; done)))))
theorem tb_k_dbn {f : Int32 → Int32 → Int32} {i : Nat} {L : tb_L} {S : List Value} {w : tb_Hp} {r : tb_R} (h : tb_dbn f i L S w = some r) : tb_kr r = 0 := by
  unfold tb_dbn at h
  first | (cases h; rfl) | (split at h <;> first | (cases h; rfl) | (cases h; done) | (split at h <;> first | (cases h; rfl) | (cases h; done) | (split at h <;> first | (cases h; rfl) | (cases h; done) | (split at h <;> first | (cases h; rfl) | (cases h; done)))))
theorem tb_k_ldb {f : Int64 → Int64 → Int64} {i : Nat} {L : tb_L} {S : List Value} {w : tb_Hp} {r : tb_R} (h : tb_ldb f i L S w = some r) : tb_kr r = 0 := by
  unfold tb_ldb at h
  first | (cases h; rfl) | (split at h <;> first | (cases h; rfl) | (cases h; done) | (split at h <;> first | (cases h; rfl) | (cases h; done) | (split at h <;> first | (cases h; rfl) | (cases h; done) | (split at h <;> first | (cases h; rfl) | (cases h; done)))))
theorem tb_k_una {f : Int32 → Int32} {i : Nat} {L : tb_L} {S : List Value} {w : tb_Hp} {r : tb_R} (h : tb_una f i L S w = some r) : tb_kr r = 0 := by
  unfold tb_una at h
  first | (cases h; rfl) | (split at h <;> first | (cases h; rfl) | (cases h; done) | (split at h <;> first | (cases h; rfl) | (cases h; done) | (split at h <;> first | (cases h; rfl) | (cases h; done) | (split at h <;> first | (cases h; rfl) | (cases h; done)))))
theorem tb_k_jmp {b : Bool} {t i : Nat} {L : tb_L} {S : List Value} {w : tb_Hp} {r : tb_R} (h : tb_jmp b t i L S w = some r) : tb_kr r = 0 := by
  unfold tb_jmp at h
  first | (cases h; rfl) | (split at h <;> first | (cases h; rfl) | (cases h; done) | (split at h <;> first | (cases h; rfl) | (cases h; done) | (split at h <;> first | (cases h; rfl) | (cases h; done) | (split at h <;> first | (cases h; rfl) | (cases h; done)))))
theorem tb_k_alo {cs : List Nat} {t i : Nat} {L : tb_L} {S : List Value} {w : tb_Hp} {r : tb_R} (h : tb_alo cs t i L S w = some r) : tb_kr r = 0 := by
  unfold tb_alo at h
  first | (cases h; rfl) | (split at h <;> first | (cases h; rfl) | (cases h; done) | (split at h <;> first | (cases h; rfl) | (cases h; done) | (split at h <;> first | (cases h; rfl) | (cases h; done) | (split at h <;> first | (cases h; rfl) | (cases h; done)))))
theorem tb_k_ast {i kd : Nat} {L : tb_L} {S : List Value} {w : tb_Hp} {r : tb_R} (h : tb_ast i L S w kd = some r) : tb_kr r = 0 := by
  unfold tb_ast at h
  first | (cases h; rfl) | (split at h <;> first | (cases h; rfl) | (cases h; done) | (split at h <;> first | (cases h; rfl) | (cases h; done) | (split at h <;> first | (cases h; rfl) | (cases h; done) | (split at h <;> first | (cases h; rfl) | (cases h; done)))))
theorem tb_k_aas {cmp : Nat → Nat} {i : Nat} {L : tb_L} {S : List Value} {w : tb_Hp} {r : tb_R} (h : tb_aas cmp i L S w = some r) : tb_kr r = 0 := by
  unfold tb_aas at h
  first | (cases h; rfl) | (split at h <;> first | (cases h; rfl) | (cases h; done) | (split at h <;> first | (cases h; rfl) | (cases h; done) | (split at h <;> first | (cases h; rfl) | (cases h; done) | (split at h <;> first | (cases h; rfl) | (cases h; done)))))
theorem tb_k_aln {i : Nat} {L : tb_L} {S : List Value} {w : tb_Hp} {r : tb_R} (h : tb_aln i L S w = some r) : tb_kr r = 0 := by
  unfold tb_aln at h
  first | (cases h; rfl) | (split at h <;> first | (cases h; rfl) | (cases h; done) | (split at h <;> first | (cases h; rfl) | (cases h; done) | (split at h <;> first | (cases h; rfl) | (cases h; done) | (split at h <;> first | (cases h; rfl) | (cases h; done)))))
theorem tb_k_gtf {res : List Nat} {i : Nat} {L : tb_L} {S : List Value} {w : tb_Hp} {r : tb_R} (h : tb_gtf res i L S w = some r) : tb_kr r = 0 := by
  unfold tb_gtf at h
  first | (cases h; rfl) | (split at h <;> first | (cases h; rfl) | (cases h; done) | (split at h <;> first | (cases h; rfl) | (cases h; done) | (split at h <;> first | (cases h; rfl) | (cases h; done) | (split at h <;> first | (cases h; rfl) | (cases h; done)))))
theorem tb_k_ptf {res : List Nat} {i : Nat} {L : tb_L} {S : List Value} {w : tb_Hp} {r : tb_R} (h : tb_ptf res i L S w = some r) : tb_kr r = 0 := by
  unfold tb_ptf at h
  first | (cases h; rfl) | (split at h <;> first | (cases h; rfl) | (cases h; done) | (split at h <;> first | (cases h; rfl) | (cases h; done) | (split at h <;> first | (cases h; rfl) | (cases h; done) | (split at h <;> first | (cases h; rfl) | (cases h; done)))))
theorem tb_k_nwo {res : List Nat} {i : Nat} {L : tb_L} {S : List Value} {w : tb_Hp} {r : tb_R} (h : tb_nwo res i L S w = some r) : tb_kr r = 0 := by
  unfold tb_nwo at h
  first | (cases h; rfl) | (split at h <;> first | (cases h; rfl) | (cases h; done) | (split at h <;> first | (cases h; rfl) | (cases h; done) | (split at h <;> first | (cases h; rfl) | (cases h; done) | (split at h <;> first | (cases h; rfl) | (cases h; done)))))
theorem tb_k_nwa {res : List Nat} {i : Nat} {L : tb_L} {S : List Value} {w : tb_Hp} {r : tb_R} (h : tb_nwa res i L S w = some r) : tb_kr r = 0 := by
  unfold tb_nwa at h
  first | (cases h; rfl) | (split at h <;> first | (cases h; rfl) | (cases h; done) | (split at h <;> first | (cases h; rfl) | (cases h; done) | (split at h <;> first | (cases h; rfl) | (cases h; done) | (split at h <;> first | (cases h; rfl) | (cases h; done)))))
theorem tb_k_obi {i : Nat} {L : tb_L} {S : List Value} {w : tb_Hp} {r : tb_R} (h : tb_obi i L S w = some r) : tb_kr r = 0 := by
  unfold tb_obi at h
  first | (cases h; rfl) | (split at h <;> first | (cases h; rfl) | (cases h; done) | (split at h <;> first | (cases h; rfl) | (cases h; done) | (split at h <;> first | (cases h; rfl) | (cases h; done) | (split at h <;> first | (cases h; rfl) | (cases h; done)))))
theorem tb_k_cpy {i : Nat} {L : tb_L} {S : List Value} {w : tb_Hp} {r : tb_R} (h : tb_cpy i L S w = some r) : tb_kr r = 0 := by
  unfold tb_cpy at h
  first | (cases h; rfl) | (split at h <;> first | (cases h; rfl) | (cases h; done) | (split at h <;> first | (cases h; rfl) | (cases h; done) | (split at h <;> first | (cases h; rfl) | (cases h; done) | (split at h <;> first | (cases h; rfl) | (cases h; done)))))
theorem tb_k_txl {tx : Nat → List Int32} {i : Nat} {L : tb_L} {S : List Value} {w : tb_Hp} {r : tb_R} (h : tb_txl tx i L S w = some r) : tb_kr r = 0 := by
  unfold tb_txl at h
  first | (cases h; rfl) | (split at h <;> first | (cases h; rfl) | (cases h; done) | (split at h <;> first | (cases h; rfl) | (cases h; done) | (split at h <;> first | (cases h; rfl) | (cases h; done) | (split at h <;> first | (cases h; rfl) | (cases h; done)))))
theorem tb_k_txc {tx : Nat → List Int32} {i : Nat} {L : tb_L} {S : List Value} {w : tb_Hp} {r : tb_R} (h : tb_txc tx i L S w = some r) : tb_kr r = 0 := by
  unfold tb_txc at h
  first | (cases h; rfl) | (split at h <;> first | (cases h; rfl) | (cases h; done) | (split at h <;> first | (cases h; rfl) | (cases h; done) | (split at h <;> first | (cases h; rfl) | (cases h; done) | (split at h <;> first | (cases h; rfl) | (cases h; done)))))
theorem tb_k_step {cmp : Nat → Nat} {tx : Nat → List Int32} {nL : Nat} {ins : Instr} {res : List Nat} {val : Value} {i : Nat} {L : tb_L} {S : List Value} {w : tb_Hp} {r : tb_R} (h : tb_step cmp tx nL ins res val i L S w = some r) :
    tb_kr r = 0 ∨ ((∃ x, ins = .invokevirtual x ∧ res ≠ [901] ∧ res ≠ [902]) ∧ tb_ivk res i L S w = some r) ∨ ((∃ x, ins = .invokespecial x ∧ res ≠ [900]) ∧ tb_ivk res i L S w = some r) ∨ ((∃ x, ins = .invokestatic x ∧ res ≠ [903]) ∧ tb_ivs res i L S w = some r) ∨ (∃ t, ((ins = .ireturn ∧ t = 0) ∨ (ins = .lreturn ∧ t = 1) ∨ (ins = .areturn ∧ t = 2) ∨ (ins = .return_ ∧ t = 9)) ∧ tb_ret res t S w = some r) := by
  unfold tb_step at h
  split at h
  all_goals first
    | exact Or.inl (tb_k_psh h)
    | exact Or.inl (tb_k_lod h)
    | exact Or.inl (tb_k_sto h)
    | exact Or.inl (tb_k_bin h)
    | exact Or.inl (tb_k_lbn h)
    | exact Or.inl (tb_k_dbn h)
    | exact Or.inl (tb_k_ldb h)
    | exact Or.inl (tb_k_una h)
    | exact Or.inl (tb_k_alo h)
    | exact Or.inl (tb_k_ast h)
    | exact Or.inl (tb_k_aas h)
    | exact Or.inl (tb_k_aln h)
    | exact Or.inl (tb_k_gtf h)
    | exact Or.inl (tb_k_ptf h)
    | exact Or.inl (tb_k_nwo h)
    | exact Or.inl (tb_k_nwa h)
    | exact Or.inr (Or.inr (Or.inr (Or.inr ⟨0, Or.inl ⟨rfl, rfl⟩, h⟩)))
    | exact Or.inr (Or.inr (Or.inr (Or.inr ⟨1, Or.inr (Or.inl ⟨rfl, rfl⟩), h⟩)))
    | exact Or.inr (Or.inr (Or.inr (Or.inr ⟨2, Or.inr (Or.inr (Or.inl ⟨rfl, rfl⟩)), h⟩)))
    | exact Or.inr (Or.inr (Or.inr (Or.inr ⟨9, Or.inr (Or.inr (Or.inr ⟨rfl, rfl⟩)), h⟩)))
    | (cases h; exact Or.inl rfl)
    | (cases h; done)
    | (split at h
       · exact Or.inl (tb_k_txl h)
       · split at h
         · exact Or.inl (tb_k_txc h)
         · rename_i h1 h2
           exact Or.inr (Or.inl ⟨⟨_, rfl, h1, h2⟩, h⟩))
    | (split at h
       · exact Or.inl (tb_k_obi h)
       · rename_i h1
         exact Or.inr (Or.inr (Or.inl ⟨⟨_, rfl, h1⟩, h⟩)))
    | (split at h
       · exact Or.inl (tb_k_cpy h)
       · rename_i h1
         exact Or.inr (Or.inr (Or.inr (Or.inl ⟨⟨_, rfl, h1⟩, h⟩))))
    | (split at h <;> first | (cases h; exact Or.inl rfl) | (cases h; done) | exact Or.inl (tb_k_jmp h) | (split at h <;> first | (cases h; exact Or.inl rfl) | (cases h; done)))
