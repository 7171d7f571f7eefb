/-! ===== The class's Street: giving way, fading, sums, copies ===== -/
/-- a Street at p has been changed, and nothing else -/
def pu_Fr (p : Nat) (I I' : Nat → Nat → Int32) : Prop := ∀ q, (q < p ∨ p + 7 ≤ q) → I' q = I q
theorem pu_Fr.rf {p : Nat} {I : Nat → Nat → Int32} : pu_Fr p I I := fun _ _ => rfl
theorem pu_Fr.tr {p : Nat} {I I' I2 : Nat → Nat → Int32} (a : pu_Fr p I I') (b : pu_Fr p I' I2) : pu_Fr p I I2 := fun q hq => (b q hq).trans (a q hq)
theorem pu_Fr.u2 {p i k : Nat} {v : Int32} {I : Nat → Nat → Int32} (hi : i < 7) : pu_Fr p I (tb_up2 I (p + i) k v) := fun _ hq => pu_u2p _ _ _ _ (by omega)
theorem pu_Fr.u1 {p i : Nat} {g : Nat → Int32} {I : Nat → Nat → Int32} (hi : i < 7) : pu_Fr p I (tb_up1 I (p + i) g) := fun _ hq => pu_u1p _ _ _ (by omega)
theorem pu_Fr.h6 {p : Nat} {I I' : Nat → Nat → Int32} (h : ∀ q, q ≠ p + 6 → I' q = I q) : pu_Fr p I I' := fun q hq => h q (by omega)
/-- rows of truths anew -/
def pu_t2 (A : pu_A) (u t : Nat → Bool) : pu_A := (A.1, fun i k => if i = 0 then u k else if i = 1 then t k else A.2 i k)
/-- the set of lines up and of houses standing told anew -/
theorem pu_V_up {I : Nat → Nat → Int32} {p : Nat} {A : pu_A} (v : pu_V I p A) (u : Nat → Bool) (hu : ∀ l, u l = true → A.2 0 l = true) : pu_V (tb_up2 I p 4 (pu_mk u 8)) p (pu_t2 A u (A.2 1)) := by
  obtain ⟨⟨a0, a1, a2, a3, a4, a5⟩, b, c⟩ := v
  refine ⟨⟨?_, ?_, ?_, ?_, ?_, ?_⟩, ?_, ?_⟩
  · rw [pu_u2k _ _ _ _ (by decide)]; exact a0
  · rw [pu_u2k _ _ _ _ (by decide)]; exact a1
  · rw [pu_u2k _ _ _ _ (by decide)]; exact a2
  · rw [pu_u2k _ _ _ _ (by decide)]; exact a3
  · rw [pu_u2s]; rfl
  · rw [pu_u2k _ _ _ _ (by decide)]; exact a5
  · intro h hh
    rw [pu_u2p _ _ _ _ (by omega), pu_u2p _ _ _ _ (by omega)]
    exact b h hh
  · intro l hl
    rw [pu_u2p _ _ _ _ (by omega), pu_u2p _ _ _ _ (by omega), pu_u2p _ _ _ _ (by omega)]
    exact ⟨(c l hl).1, (c l hl).2.1, fun z => (c l hl).2.2 (hu l z)⟩
theorem pu_V_st {I : Nat → Nat → Int32} {p : Nat} {A : pu_A} (v : pu_V I p A) (t : Nat → Bool) : pu_V (tb_up2 I p 5 (pu_mk t 10)) p (pu_t2 A (A.2 0) t) := by
  obtain ⟨⟨a0, a1, a2, a3, a4, a5⟩, b, c⟩ := v
  refine ⟨⟨?_, ?_, ?_, ?_, ?_, ?_⟩, ?_, ?_⟩
  · rw [pu_u2k _ _ _ _ (by decide)]; exact a0
  · rw [pu_u2k _ _ _ _ (by decide)]; exact a1
  · rw [pu_u2k _ _ _ _ (by decide)]; exact a2
  · rw [pu_u2k _ _ _ _ (by decide)]; exact a3
  · rw [pu_u2k _ _ _ _ (by decide)]; exact a4
  · rw [pu_u2s]; rfl
  · intro h hh
    rw [pu_u2p _ _ _ _ (by omega), pu_u2p _ _ _ _ (by omega)]
    exact b h hh
  · intro l hl
    rw [pu_u2p _ _ _ _ (by omega), pu_u2p _ _ _ _ (by omega), pu_u2p _ _ _ _ (by omega)]
    exact c l hl
theorem pu_fell_t2 (A : pu_A) (f : Nat → Bool) : pu_fell A f = pu_t2 (pu_t2 A (A.2 0) (fun k => A.2 1 k && !f k)) (fun k => A.2 0 k && !(f (A.1 3 k) || f (A.1 4 k))) (fun k => A.2 1 k && !f k) := by
  unfold pu_fell pu_t2
  congr 1
  funext i k
  by_cases h0 : i = 0
  · simp only [h0, ↓reduceIte]
  · by_cases h1 : i = 1
    · simp only [h1, ↓reduceIte]
    · simp only [h0, h1, ↓reduceIte]
theorem pu_t2_wf {A : pu_A} (wf : pu_wf A) {u t : Nat → Bool} (hu : ∀ l, u l = true → A.2 0 l = true) (ht : ∀ l, t l = true → A.2 1 l = true) : pu_wf (pu_t2 A u t) := by
  obtain ⟨a, b, c, d, e, g, u1, t1⟩ := wf
  exact ⟨a, b, c, d, e, g, fun l hl => u1 l (hu l hl), fun l hl => t1 l (ht l hl)⟩
section PUW
variable {s : List (Nat × Nat)} {J : Nat → Nat → Int64} {R : Nat → Nat → Option Nat} {p : Nat}
theorem pu_s_giveWay_l (h : pu_St s R p) (v1 : Int32) : ∀ d i n I A, i + d = 11 → d < n → pu_V I p A → pu_wf A →
    ∃ I', fl_s_giveWay_5 n p v1 (nI i) (s, I, J, R) = some (v1 &&& (pu_mk ((pu_gw d A).2 1) 10 ^^^ (-1)), (s, I', J, R)) ∧ pu_V I' p (pu_gw d A) ∧ pu_Fr p I I' := by
  intro d
  induction d with
  | zero =>
    intro i n I A hi hn v wf
    obtain ⟨n, rfl⟩ : ∃ z, n = z + 1 := ⟨n - 1, by omega⟩
    unfold fl_s_giveWay_5
    simp only [show (10 : Int32) = nI 10 from rfl, pu_leI (show i < 2147483648 by omega) (show 10 < 2147483648 by omega), show ¬ i ≤ 10 by omega, ↓reduceIte, fj_s_giveWay_j34, pu_gI h.1, Option.bind_some, v.1.2.2.2.2.2]
    exact ⟨I, rfl, v, pu_Fr.rf⟩
  | succ d ih =>
    intro i n I A hi hn v wf
    obtain ⟨n, rfl⟩ : ∃ z, n = z + 1 := ⟨n - 1, by omega⟩
    obtain ⟨I1, w1, w2⟩ := pu_s_weak (J := J) h v wf
    have vv : pu_V I1 p A := pu_V_eq (fun j hj => w2 _ (by omega)) v
    unfold fl_s_giveWay_5 pu_gw
    simp only [show (10 : Int32) = nI 10 from rfl, pu_leI (show i < 2147483648 by omega) (show 10 < 2147483648 by omega), show i ≤ 10 by omega, ↓reduceIte, pu_on h.1, w1, Option.bind_some]
    by_cases hw : pu_mk (pu_weak A) 10 = 0
    · simp only [hw, ↓reduceIte, fj_s_giveWay_j13, fj_s_giveWay_j34, pu_gI h.1, Option.bind_some, vv.1.2.2.2.2.2]
      exact ⟨I1, rfl, vv, pu_Fr.h6 w2⟩
    · simp only [hw, ↓reduceIte, pu_gI h.1, pu_pI h.1, Option.bind_some, vv.1.2.2.2.2.2]
      rw [pu_mk_no _ _ (by omega) (by omega)]
      have ek : pu_mk (fun k => A.2 1 k && !(decide (k < 10) && pu_weak A k)) 10 = pu_mk (fun k => A.2 1 k && !pu_weak A k) 10 := pu_mk_cong 10 (fun k hk => by rw [decide_eq_true hk, Bool.true_and])
      rw [ek]
      have v2 := pu_V_st vv (fun k => A.2 1 k && !pu_weak A k)
      have wf2 : pu_wf (pu_t2 A (A.2 0) (fun k => A.2 1 k && !pu_weak A k)) := pu_t2_wf wf (fun l hl => hl) (fun l hl => (Bool.and_eq_true _ _ ▸ hl : _ ∧ _).1)
      have el := pu_s_linesAtAny (J := J) h v2 wf2 (pu_weak A)
      simp only [pu_on h.1, el, Option.bind_some, pu_pI h.1, v2.1.2.2.2.2.1]
      rw [show (pu_t2 A (A.2 0) (fun k => A.2 1 k && !pu_weak A k)).2 0 = A.2 0 from rfl, show (pu_t2 A (A.2 0) (fun k => A.2 1 k && !pu_weak A k)).1 = A.1 from rfl, pu_mk_no _ _ (by omega) (by omega)]
      have ek2 : pu_mk (fun k => A.2 0 k && !(decide (k < 8) && (A.2 0 k && (pu_weak A (A.1 3 k) || pu_weak A (A.1 4 k))))) 8 = pu_mk (fun k => A.2 0 k && !(pu_weak A (A.1 3 k) || pu_weak A (A.1 4 k))) 8 := pu_mk_cong 8 (fun k hk => by
        rw [decide_eq_true hk, Bool.true_and]
        cases A.2 0 k <;> simp)
      rw [ek2]
      have v3 := pu_V_up v2 (fun k => A.2 0 k && !(pu_weak A (A.1 3 k) || pu_weak A (A.1 4 k))) (fun l hl => (Bool.and_eq_true _ _ ▸ hl : _ ∧ _).1)
      have v4 : pu_V (tb_up2 (tb_up2 I1 p 5 (pu_mk (fun k => A.2 1 k && !pu_weak A k) 10)) p 4 (pu_mk (fun k => A.2 0 k && !(pu_weak A (A.1 3 k) || pu_weak A (A.1 4 k))) 8)) p (pu_fell A (pu_weak A)) := by
        rw [pu_fell_t2]
        exact v3
      rw [← nI_succ]
      obtain ⟨I', e1, e2, e3⟩ := ih (i + 1) n _ _ (by omega) (by omega) v4 (pu_fell_wf wf _)
      exact ⟨I', e1, e2, (((pu_Fr.h6 w2).tr (pu_Fr.u2 (i := 0) (by omega))).tr (pu_Fr.u2 (i := 0) (by omega))).tr e3⟩
/-- who falls -/
def pu_fallen (A B : pu_A) (k : Nat) : Bool := A.2 1 k && !B.2 1 k
theorem pu_s_giveWay {I : Nat → Nat → Int32} {A : pu_A} (h : pu_St s R p) (v : pu_V I p A) (wf : pu_wf A) :
    ∃ I', fb_s_giveWay p (s, I, J, R) = some (pu_mk (pu_fallen A (pu_gw 11 A)) 10, (s, I', J, R)) ∧ pu_V I' p (pu_gw 11 A) ∧ pu_Fr p I I' := by
  obtain ⟨I', e1, e2, e3⟩ := pu_s_giveWay_l (J := J) h (I p 5) 11 0 1048576 I A (by omega) (by omega) v wf
  refine ⟨I', ?_, e2, e3⟩
  unfold fb_s_giveWay
  simp only [pu_gI h.1, Option.bind_some]
  rw [show nI 0 = 0 from rfl] at e1
  rw [e1, v.1.2.2.2.2.2, pu_mk_no _ _ (by omega) (by omega)]
  simp only [Option.bind_some]
  rw [pu_mk_cong 10 (fun k hk => by rw [decide_eq_true hk, Bool.true_and])]
  rfl
end PUW
