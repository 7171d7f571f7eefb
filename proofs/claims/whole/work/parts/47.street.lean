/-! ===== Counting bits; the class's Street copied, hung anew, cleared ===== -/
def pu_ct (f : Nat → Bool) : Nat → Nat
  | 0 => 0
  | n + 1 => pu_ct f n + (if f n then 1 else 0)
theorem pu_ct_le (f : Nat → Bool) : ∀ n, pu_ct f n ≤ n
  | 0 => Nat.le_refl _
  | n + 1 => by unfold pu_ct; have := pu_ct_le f n; split <;> omega
theorem pu_ct_cong {f g : Nat → Bool} : ∀ n, (∀ k, k < n → f k = g k) → pu_ct f n = pu_ct g n
  | 0, _ => rfl
  | n + 1, h => by unfold pu_ct; rw [pu_ct_cong n (fun k hk => h k (by omega)), h n (by omega)]
theorem pu_ct_more {f : Nat → Bool} {n : Nat} : ∀ m, n ≤ m → (∀ k, n ≤ k → k < m → f k = false) → pu_ct f m = pu_ct f n
  | 0, h, _ => by rw [Nat.le_zero.mp h]
  | m + 1, h, hf => by
    by_cases e : n = m + 1
    · rw [e]
    · have e2 : pu_ct f (m + 1) = pu_ct f m + (if f m then 1 else 0) := rfl
      rw [e2, hf m (by omega) (by omega), if_neg (by decide), Nat.add_zero]
      exact pu_ct_more m (by omega) (fun k h1 h2 => hf k h1 (by omega))
/-- a mask as a number -/
def pu_vl (f : Nat → Bool) : Nat → Nat
  | 0 => 0
  | n + 1 => pu_vl f n ||| (if f n then 2 ^ n else 0)
theorem pu_vl_lt (f : Nat → Bool) : ∀ n, pu_vl f n < 2 ^ n
  | 0 => by unfold pu_vl; decide
  | n + 1 => by
    unfold pu_vl
    have h1 := pu_vl_lt f n
    have h2 : 2 ^ n < 2 ^ (n + 1) := Nat.pow_lt_pow_right (by decide) (by omega)
    refine Nat.or_lt_two_pow (by omega) ?_
    split
    · exact h2
    · exact Nat.two_pow_pos _
theorem pu_vl_bit (f : Nat → Bool) : ∀ n i, (pu_vl f n).testBit i = (decide (i < n) && f i)
  | 0, i => by unfold pu_vl; simp
  | n + 1, i => by
    unfold pu_vl
    rw [Nat.testBit_or, pu_vl_bit f n i]
    by_cases e : i = n
    · subst e
      cases hf : f i
      · simp
      · simp [Nat.testBit_two_pow_self]
    · have : (i < n + 1) = (i < n) := propext (by omega)
      simp only [this]
      cases hf : f n
      · simp
      · rw [if_pos rfl, Nat.testBit_two_pow_of_ne (fun z => e z.symm), Bool.or_false]
theorem pu_bt_nI (x : Nat) {i : Nat} (hi : i < 32) : bt (nI x) i = x.testBit i := by
  show (BitVec.ofNat 32 x).getLsbD i = _
  rw [BitVec.getLsbD_ofNat, decide_eq_true hi, Bool.true_and]
theorem pu_mk_vl (f : Nat → Bool) {n : Nat} (hn : n ≤ 32) : pu_mk f n = nI (pu_vl f n) := by
  apply b_ext
  intro i hi
  rw [pu_mk_bt f n hn i hi, pu_bt_nI _ hi, pu_vl_bit]
def pu_bc (a0 : Int32) : Int32 := (((((((a0 - (((Int32.toUInt32 a0 >>> (Int32.toUInt32 1 &&& Int32.toUInt32 31)).toInt32) &&& 1431655765)) &&& 858993459) + (((Int32.toUInt32 (a0 - (((Int32.toUInt32 a0 >>> (Int32.toUInt32 1 &&& Int32.toUInt32 31)).toInt32) &&& 1431655765)) >>> (Int32.toUInt32 2 &&& Int32.toUInt32 31)).toInt32) &&& 858993459)) + ((Int32.toUInt32 (((a0 - (((Int32.toUInt32 a0 >>> (Int32.toUInt32 1 &&& Int32.toUInt32 31)).toInt32) &&& 1431655765)) &&& 858993459) + (((Int32.toUInt32 (a0 - (((Int32.toUInt32 a0 >>> (Int32.toUInt32 1 &&& Int32.toUInt32 31)).toInt32) &&& 1431655765)) >>> (Int32.toUInt32 2 &&& Int32.toUInt32 31)).toInt32) &&& 858993459)) >>> (Int32.toUInt32 4 &&& Int32.toUInt32 31)).toInt32)) &&& 252645135) + ((Int32.toUInt32 (((((a0 - (((Int32.toUInt32 a0 >>> (Int32.toUInt32 1 &&& Int32.toUInt32 31)).toInt32) &&& 1431655765)) &&& 858993459) + (((Int32.toUInt32 (a0 - (((Int32.toUInt32 a0 >>> (Int32.toUInt32 1 &&& Int32.toUInt32 31)).toInt32) &&& 1431655765)) >>> (Int32.toUInt32 2 &&& Int32.toUInt32 31)).toInt32) &&& 858993459)) + ((Int32.toUInt32 (((a0 - (((Int32.toUInt32 a0 >>> (Int32.toUInt32 1 &&& Int32.toUInt32 31)).toInt32) &&& 1431655765)) &&& 858993459) + (((Int32.toUInt32 (a0 - (((Int32.toUInt32 a0 >>> (Int32.toUInt32 1 &&& Int32.toUInt32 31)).toInt32) &&& 1431655765)) >>> (Int32.toUInt32 2 &&& Int32.toUInt32 31)).toInt32) &&& 858993459)) >>> (Int32.toUInt32 4 &&& Int32.toUInt32 31)).toInt32)) &&& 252645135) >>> (Int32.toUInt32 8 &&& Int32.toUInt32 31)).toInt32)) + ((Int32.toUInt32 ((((((a0 - (((Int32.toUInt32 a0 >>> (Int32.toUInt32 1 &&& Int32.toUInt32 31)).toInt32) &&& 1431655765)) &&& 858993459) + (((Int32.toUInt32 (a0 - (((Int32.toUInt32 a0 >>> (Int32.toUInt32 1 &&& Int32.toUInt32 31)).toInt32) &&& 1431655765)) >>> (Int32.toUInt32 2 &&& Int32.toUInt32 31)).toInt32) &&& 858993459)) + ((Int32.toUInt32 (((a0 - (((Int32.toUInt32 a0 >>> (Int32.toUInt32 1 &&& Int32.toUInt32 31)).toInt32) &&& 1431655765)) &&& 858993459) + (((Int32.toUInt32 (a0 - (((Int32.toUInt32 a0 >>> (Int32.toUInt32 1 &&& Int32.toUInt32 31)).toInt32) &&& 1431655765)) >>> (Int32.toUInt32 2 &&& Int32.toUInt32 31)).toInt32) &&& 858993459)) >>> (Int32.toUInt32 4 &&& Int32.toUInt32 31)).toInt32)) &&& 252645135) + ((Int32.toUInt32 (((((a0 - (((Int32.toUInt32 a0 >>> (Int32.toUInt32 1 &&& Int32.toUInt32 31)).toInt32) &&& 1431655765)) &&& 858993459) + (((Int32.toUInt32 (a0 - (((Int32.toUInt32 a0 >>> (Int32.toUInt32 1 &&& Int32.toUInt32 31)).toInt32) &&& 1431655765)) >>> (Int32.toUInt32 2 &&& Int32.toUInt32 31)).toInt32) &&& 858993459)) + ((Int32.toUInt32 (((a0 - (((Int32.toUInt32 a0 >>> (Int32.toUInt32 1 &&& Int32.toUInt32 31)).toInt32) &&& 1431655765)) &&& 858993459) + (((Int32.toUInt32 (a0 - (((Int32.toUInt32 a0 >>> (Int32.toUInt32 1 &&& Int32.toUInt32 31)).toInt32) &&& 1431655765)) >>> (Int32.toUInt32 2 &&& Int32.toUInt32 31)).toInt32) &&& 858993459)) >>> (Int32.toUInt32 4 &&& Int32.toUInt32 31)).toInt32)) &&& 252645135) >>> (Int32.toUInt32 8 &&& Int32.toUInt32 31)).toInt32)) >>> (Int32.toUInt32 16 &&& Int32.toUInt32 31)).toInt32)) &&& 63
theorem pu_bc_all : ∀ x, x < 1024 → pu_bc (nI x) = nI (pu_ct (fun k => x.testBit k) 10) := by decide +kernel
theorem pu_bitCount (f : Nat → Bool) (w : tb_Hp) : fb_in_bitCount (pu_mk f 10) w = some (nI (pu_ct f 10), w) := by
  show some (pu_bc (pu_mk f 10), w) = _
  rw [pu_mk_vl f (by omega), pu_bc_all _ (pu_vl_lt f 10), pu_ct_cong 10 (fun k hk => by rw [pu_vl_bit, decide_eq_true hk, Bool.true_and])]
theorem pu_bitCount8 (f : Nat → Bool) (w : tb_Hp) : fb_in_bitCount (pu_mk f 8) w = some (nI (pu_ct f 8), w) := by
  have e1 : pu_mk f 8 = pu_mk (fun k => decide (k < 8) && f k) 10 := by
    rw [pu_mk_more 10 (show 8 ≤ 10 by omega) (fun k h1 _ => by rw [decide_eq_false (by omega)]; rfl)]
    exact pu_mk_cong 8 (fun k hk => by rw [decide_eq_true hk, Bool.true_and])
  rw [e1, pu_bitCount, pu_ct_more 10 (show 8 ≤ 10 by omega) (fun k h1 _ => by rw [decide_eq_false (by omega)]; rfl), pu_ct_cong 8 (fun k hk => by rw [decide_eq_true hk, Bool.true_and])]
def pu_bl : Nat → Int32 → Int32 → Option Int32
  | 0, _, _ => none
  | n + 1, v1, v2 => if v2 = 0 then some v1 else pu_bl n (v1 + 1) (v2 &&& (v2 - 1))
theorem pu_bl_ok (w : tb_Hp) : ∀ n v1 v2 r, pu_bl n v1 v2 = some r → ∀ m, n ≤ m → fl_m_bits_4 m v1 v2 w = some (r, w)
  | 0, _, _, _, h, _, _ => by cases h
  | n + 1, v1, v2, r, h, m, hm => by
    obtain ⟨m, rfl⟩ : ∃ z, m = z + 1 := ⟨m - 1, by omega⟩
    unfold pu_bl at h
    unfold fl_m_bits_4
    split at h
    · rename_i e
      rw [if_pos e]
      cases h
      rfl
    · rename_i e
      rw [if_neg e]
      exact pu_bl_ok w n _ _ r h m (by omega)
theorem pu_bl_all : ∀ x, x < 1024 → pu_bl 11 0 (nI x) = some (nI (pu_ct (fun k => x.testBit k) 10)) := by decide +kernel
theorem pu_m_bits (f : Nat → Bool) (w : tb_Hp) : fb_m_bits (pu_mk f 10) w = some (nI (pu_ct f 10), w) := by
  unfold fb_m_bits
  have h := pu_bl_all _ (pu_vl_lt f 10)
  rw [← pu_mk_vl f (by omega), pu_ct_cong 10 (fun k hk => by rw [pu_vl_bit, decide_eq_true hk, Bool.true_and])] at h
  rw [pu_bl_ok w _ _ _ _ h 1048576 (by omega)]
  rfl
theorem pu_m_bits8 (f : Nat → Bool) (w : tb_Hp) : fb_m_bits (pu_mk f 8) w = some (nI (pu_ct f 8), w) := by
  have e1 : pu_mk f 8 = pu_mk (fun k => decide (k < 8) && f k) 10 := by
    rw [pu_mk_more 10 (show 8 ≤ 10 by omega) (fun k h1 _ => by rw [decide_eq_false (by omega)]; rfl)]
    exact pu_mk_cong 8 (fun k hk => by rw [decide_eq_true hk, Bool.true_and])
  rw [e1, pu_m_bits, pu_ct_more 10 (show 8 ≤ 10 by omega) (fun k h1 _ => by rw [decide_eq_false (by omega)]; rfl), pu_ct_cong 8 (fun k hk => by rw [decide_eq_true hk, Bool.true_and])]
section PUZ
variable {s : List (Nat × Nat)} {J : Nat → Nat → Int64} {R : Nat → Nat → Option Nat} {p q : Nat}
theorem pu_cy10 {I : Nat → Nat → Int32} {a b n m : Nat} (h1 : s[a]? = some (1, n)) (h2 : s[b]? = some (1, m)) (hn : 10 ≤ n) (hm : 10 ≤ m) : tb_cy 10 0 b 0 a (s, I, J, R) = some (s, tb_up1 I b (va_cpy (I a) (I b) 0 0 10), J, R) := pu_cy (k := 10) h1 h2 hn hm (by omega)
theorem pu_cy8 {I : Nat → Nat → Int32} {a b n m : Nat} (h1 : s[a]? = some (1, n)) (h2 : s[b]? = some (1, m)) (hn : 8 ≤ n) (hm : 8 ≤ m) : tb_cy 8 0 b 0 a (s, I, J, R) = some (s, tb_up1 I b (va_cpy (I a) (I b) 0 0 8), J, R) := pu_cy (k := 8) h1 h2 hn hm (by omega)
theorem pu_s_copyFrom {I : Nat → Nat → Int32} {A : pu_A} (hp : pu_St s R p) (hq : pu_St s R q) (hd : p + 7 ≤ q ∨ q + 7 ≤ p) (v : pu_V I q A) (wf : pu_wf A) : ∃ I', fb_s_copyFrom p q (s, I, J, R) = some (s, I', J, R) ∧ pu_V I' p A ∧ pu_Fr p I I' := by
  have h5 := wf.2.2.1
  unfold fb_s_copyFrom
  have r : ∀ (f : Nat → Nat → Int32) k x, tb_up2 f p k x q = f q := fun f k x => pu_u2p f p k x (by omega)
  simp only [pu_gI hq.1, pu_pI hp.1, Option.bind_some, r, pu_gN hq.1, pu_gN hp.1, hp.2.2.1, hp.2.2.2.1, hp.2.2.2.2.1, hp.2.2.2.2.2.1, hp.2.2.2.2.2.2.1, hq.2.2.1, hq.2.2.2.1, hq.2.2.2.2.1, hq.2.2.2.2.2.1, hq.2.2.2.2.2.2.1, pu_cy10 hq.2.1.1 hp.2.1.1 (Nat.le_refl _) (Nat.le_refl _), pu_cy10 hq.2.1.2.1 hp.2.1.2.1 (Nat.le_refl _) (Nat.le_refl _), pu_cy8 hq.2.1.2.2.1 hp.2.1.2.2.1 (Nat.le_refl _) (Nat.le_refl _), pu_cy8 hq.2.1.2.2.2.1 hp.2.1.2.2.2.1 (Nat.le_refl _) (Nat.le_refl _), pu_cy8 hq.2.1.2.2.2.2.1 hp.2.1.2.2.2.2.1 (Nat.le_refl _) (Nat.le_refl _)]
  simp (disch := omega) only [pu_u1p, pu_u2p]
  refine ⟨_, rfl, ?_, ?_⟩
  · obtain ⟨⟨a0, a1, a2, a3, a4, a5⟩, b, c⟩ := v
    refine ⟨⟨?_, ?_, ?_, ?_, ?_, ?_⟩, ?_, ?_⟩
    · simp (disch := omega) only [pu_u1p, pu_u2s, pu_u2k]; exact a0
    · simp (disch := omega) only [pu_u1p, pu_u2s, pu_u2k]; exact a1
    · simp (disch := omega) only [pu_u1p, pu_u2s, pu_u2k]; exact a2
    · simp (disch := omega) only [pu_u1p, pu_u2s, pu_u2k]; exact a3
    · simp (disch := omega) only [pu_u1p, pu_u2s, pu_u2k]; exact a4
    · simp (disch := omega) only [pu_u1p, pu_u2s, pu_u2k]; exact a5
    · intro z hz
      simp (disch := omega) only [pu_u1p, pu_u1s, sb_cpy0]
      exact b z hz
    · intro l hl
      simp (disch := omega) only [pu_u1p, pu_u1s, sb_cpy0]
      exact c l hl
  · intro z hz
    simp (disch := omega) only [pu_u1p, pu_u2p]
theorem pu_s_raise {I : Nat → Nat → Int32} {A : pu_A} (h : pu_St s R p) (v : pu_V I p A) (wf : pu_wf A) : fb_s_raise p (s, I, J, R) = some (s, tb_up2 I p 5 (pu_mk (fun k => decide (k < 2 * A.1 0 0)) 10), J, R) := by
  have h5 := wf.1
  unfold fb_s_raise
  simp only [pu_on h.1, pu_s_houses h v, Option.bind_some, pu_pI h.1]
  have e : ∀ z, z < 6 → (1 : Int32) <<< (nI (2 * z) &&& 31) - 1 = pu_mk (fun k => decide (k < 2 * z)) 10 := by decide +kernel
  rw [e _ (by omega)]
/-- a line hung -/
def pu_put (A : pu_A) (l o e m : Nat) : pu_A := (fun r k => if r = 0 then (if k = 3 then (if l = A.1 0 3 then l + 1 else A.1 0 3) else A.1 0 k) else if k = l then (if r = 3 then o else if r = 4 then e else if r = 5 then m else A.1 r k) else A.1 r k, fun r k => if r = 0 then (A.2 0 k || decide (k = l)) else A.2 r k)
theorem pu_put_wf {A : pu_A} (wf : pu_wf A) {l o e m : Nat} (hl : l ≤ A.1 0 3) (hl8 : l < 8) (ho : o < A.1 0 0) (he : A.1 0 0 ≤ e) (he2 : e < 2 * A.1 0 0) (hm : m ≤ 100) : pu_wf (pu_put A l o e m) := by
  obtain ⟨a, b, c, d, f, g, u, t⟩ := wf
  have h3 : (pu_put A l o e m).1 0 3 = if l = A.1 0 3 then l + 1 else A.1 0 3 := rfl
  refine ⟨a, b, ?_, ?_, ?_, ?_, ?_, t⟩
  · rw [h3]; split <;> omega
  · intro h
    show (if h = l then A.1 1 h else A.1 1 h) ≤ 1000 ∧ (if h = l then A.1 2 h else A.1 2 h) ≤ 1000
    rw [ite_self, ite_self]
    exact d h
  · intro k
    show (if k = l then m else A.1 5 k) ≤ 100
    have := f k
    split <;> omega
  · intro k hk
    rw [h3] at hk
    show (if k = l then o else A.1 3 k) < A.1 0 0 ∧ A.1 0 0 ≤ (if k = l then e else A.1 4 k) ∧ (if k = l then e else A.1 4 k) < 2 * A.1 0 0
    by_cases e1 : k = l
    · simp only [e1, ↓reduceIte]
      exact ⟨ho, he, he2⟩
    · simp only [e1, ↓reduceIte]
      refine g k ?_
      split at hk <;> omega
  · intro k hk
    have hk : (A.2 0 k || decide (k = l)) = true := hk
    rw [h3]
    rw [Bool.or_eq_true, decide_eq_true_eq] at hk
    rcases hk with hk | hk
    · have := u k hk
      split <;> omega
    · subst hk
      split <;> omega
theorem pu_s_putUp {I : Nat → Nat → Int32} {A : pu_A} (h : pu_St s R p) (v : pu_V I p A) (wf : pu_wf A) {l o e m : Nat} (hl : l ≤ A.1 0 3) (hl8 : l < 8) : ∃ I', fb_s_putUp p (nI l) (nI o) (nI e) (nI m) (s, I, J, R) = some (s, I', J, R) ∧ pu_V I' p (pu_put A l o e m) ∧ pu_Fr p I I' := by
  have h5 := wf.2.2.1
  obtain ⟨⟨a0, a1, a2, a3, a4, a5⟩, b, c⟩ := v
  unfold fb_s_putUp
  have e4 : ∀ (f : Nat → Nat → Int32) x k, tb_up2 f (p + 3) l x p k = f p k := fun f x k => congrFun (pu_u2p _ _ _ _ (by omega)) k
  have e5 : ∀ (f : Nat → Nat → Int32) x k, tb_up2 f (p + 4) l x p k = f p k := fun f x k => congrFun (pu_u2p _ _ _ _ (by omega)) k
  have e6 : ∀ (f : Nat → Nat → Int32) x k, tb_up2 f (p + 5) l x p k = f p k := fun f x k => congrFun (pu_u2p _ _ _ _ (by omega)) k
  have e7 : ∀ (f : Nat → Nat → Int32) x, tb_up2 f p 4 x p 3 = f p 3 := fun f x => pu_u2k _ _ _ _ (by decide)
  simp only [pu_gI h.1, Option.bind_some, a3, pu_lt0 (show l < 2147483648 by omega), pu_leI (show l < 2147483648 by omega) (show A.1 0 3 < 2147483648 by omega), hl, show (8 : Int32) = nI 8 from rfl, pu_ltI (show l < 2147483648 by omega) (show 8 < 2147483648 by omega), hl8, ↓reduceIte, pu_gN h.1, h.2.2.2.2.1, h.2.2.2.2.2.1, h.2.2.2.2.2.2.1, pu_tI h.2.1.2.2.1 hl8 (show 8 ≤ 100000 by omega), pu_tI h.2.1.2.2.2.1 hl8 (show 8 ≤ 100000 by omega), pu_tI h.2.1.2.2.2.2.1 hl8 (show 8 ≤ 100000 by omega), pu_pI h.1, e4, e5, e6, e7, a4, fb_ma_max, pu_R1, pu_ltI (show A.1 0 3 < 2147483648 by omega) (show l + 1 < 2147483648 by omega)]
  rw [pu_mk_1 hl8 (show 8 ≤ 32 by omega), pu_mk_or _ _ (by omega)]
  have e8 : (if A.1 0 3 < l + 1 then some (nI (l + 1), ((s, tb_up2 (tb_up2 (tb_up2 (tb_up2 I (p + 3) l (nI o)) (p + 4) l (nI e)) (p + 5) l (nI m)) p 4 (pu_mk (fun k => A.2 0 k || decide (k = l)) 8), J, R) : tb_Hp)) else some (nI (A.1 0 3), (s, tb_up2 (tb_up2 (tb_up2 (tb_up2 I (p + 3) l (nI o)) (p + 4) l (nI e)) (p + 5) l (nI m)) p 4 (pu_mk (fun k => A.2 0 k || decide (k = l)) 8), J, R))) = some (nI (if l = A.1 0 3 then l + 1 else A.1 0 3), (s, tb_up2 (tb_up2 (tb_up2 (tb_up2 I (p + 3) l (nI o)) (p + 4) l (nI e)) (p + 5) l (nI m)) p 4 (pu_mk (fun k => A.2 0 k || decide (k = l)) 8), J, R)) := by
    by_cases z : l = A.1 0 3
    · rw [if_pos (by omega), if_pos z]
    · rw [if_neg (by omega), if_neg z]
  rw [e8]
  simp only [Option.bind_some, pu_pI h.1]
  refine ⟨_, rfl, ?_, ?_⟩
  · refine ⟨⟨?_, ?_, ?_, ?_, ?_, ?_⟩, ?_, ?_⟩
    · simp (disch := omega) only [pu_u2s, pu_u2k, pu_u2p]; exact a0
    · simp (disch := omega) only [pu_u2s, pu_u2k, pu_u2p]; exact a1
    · simp (disch := omega) only [pu_u2s, pu_u2k, pu_u2p]; exact a2
    · simp (disch := omega) only [pu_u2s, pu_u2k, pu_u2p]; rfl
    · simp (disch := omega) only [pu_u2s, pu_u2k, pu_u2p]; rfl
    · simp (disch := omega) only [pu_u2s, pu_u2k, pu_u2p]; exact a5
    · intro z hz
      simp (disch := omega) only [pu_u2p]
      show I (p + 1) z = nI (if z = l then A.1 1 z else A.1 1 z) ∧ I (p + 2) z = nI (if z = l then A.1 2 z else A.1 2 z)
      rw [ite_self, ite_self]
      exact b z hz
    · intro k hk
      have hk : k < (if l = A.1 0 3 then l + 1 else A.1 0 3) := hk
      simp (disch := omega) only [pu_u2p, pu_u2i]
      show (if k = l then nI o else I (p + 3) k) = nI (if k = l then o else A.1 3 k) ∧ (if k = l then nI e else I (p + 4) k) = nI (if k = l then e else A.1 4 k) ∧ ((A.2 0 k || decide (k = l)) = true → (if k = l then nI m else I (p + 5) k) = nI (if k = l then m else A.1 5 k))
      by_cases z : k = l
      · simp only [z, ↓reduceIte, implies_true, and_self]
      · have hk2 : k < A.1 0 3 := by split at hk <;> omega
        simp only [z, ↓reduceIte, decide_false, Bool.or_false]
        exact c k hk2
  · intro z hz
    simp (disch := omega) only [pu_u2p]
end PUZ
