/-! ===== The pure half: numbers, bits, masks, places ===== -/
/-! Int32 by its bits: begun from the kit's starting text BITS -/
def bt (x : Int32) (i : Nat) : Bool := x.toBitVec.getLsbD i
theorem b_ext {x y : Int32} (h : ∀ i, i < 32 → bt x i = bt y i) : x = y := Int32.toBitVec_inj.mp (BitVec.eq_of_getLsbD_eq (fun i hi => h i hi))
theorem b_or (x y : Int32) (i : Nat) : bt (x ||| y) i = (bt x i || bt y i) := by unfold bt; rw [Int32.toBitVec_or, BitVec.getLsbD_or]
theorem b_and (x y : Int32) (i : Nat) : bt (x &&& y) i = (bt x i && bt y i) := by unfold bt; rw [Int32.toBitVec_and, BitVec.getLsbD_and]
theorem b_xor (x y : Int32) (i : Nat) : bt (x ^^^ y) i = (bt x i ^^ bt y i) := by unfold bt; rw [Int32.toBitVec_xor, BitVec.getLsbD_xor]
theorem b_big {x : Int32} {i : Nat} (h : 32 ≤ i) : bt x i = false := BitVec.getLsbD_of_ge _ _ h
theorem b_255 (i : Nat) : bt 255 i = decide (i < 8) := by
  rcases Nat.lt_or_ge i 32 with h | h
  · exact (by decide +kernel : ∀ i, i < 32 → bt 255 i = decide (i < 8)) i h
  · rw [b_big h, decide_eq_false (by omega)]
theorem b_65535 (i : Nat) : bt 65535 i = decide (i < 16) := by
  rcases Nat.lt_or_ge i 32 with h | h
  · exact (by decide +kernel : ∀ i, i < 32 → bt 65535 i = decide (i < 16)) i h
  · rw [b_big h, decide_eq_false (by omega)]
theorem b_m1 : ∀ i, i < 32 → bt (-1) i = true := by decide +kernel
theorem b_0 (i : Nat) : bt 0 i = false := BitVec.getLsbD_zero
theorem s_l : ∀ n, n < 32 → ((nI n &&& 31).toBitVec.smod 32).toNat = n := by decide +kernel
theorem s_u : ∀ n, n < 32 → (((nI n).toUInt32 &&& Int32.toUInt32 31).toBitVec % 32).toNat = n := by decide +kernel
theorem b_shl (n : Nat) (hn : n < 32) (x : Int32) {i : Nat} (hi : i < 32) : bt (x <<< (nI n &&& 31)) i = (decide (n ≤ i) && bt x (i - n)) := by
  unfold bt
  rw [Int32.toBitVec_shiftLeft]
  show (x.toBitVec <<< ((nI n &&& 31).toBitVec.smod 32).toNat).getLsbD i = _
  rw [s_l n hn, BitVec.getLsbD_shiftLeft]
  rcases Nat.lt_or_ge i n with h | h
  · simp [h, Nat.not_le.mpr h]
  · simp [hi, h, Nat.not_lt.mpr h]
theorem b_ushr (n : Nat) (hn : n < 32) (x : Int32) (i : Nat) : bt ((x.toUInt32 >>> ((nI n).toUInt32 &&& Int32.toUInt32 31)).toInt32) i = bt x (n + i) := by
  show (x.toUInt32 >>> ((nI n).toUInt32 &&& Int32.toUInt32 31)).toBitVec.getLsbD i = x.toUInt32.toBitVec.getLsbD (n + i)
  rw [UInt32.toBitVec_shiftRight]
  show (x.toUInt32.toBitVec >>> (((nI n).toUInt32 &&& Int32.toUInt32 31).toBitVec % 32).toNat).getLsbD i = _
  rw [s_u n hn, BitVec.getLsbD_ushiftRight]
theorem b_sshr (n : Nat) (hn : n < 32) (x : Int32) {i : Nat} (hi : i < 32) : bt (x >>> (nI n &&& 31)) i = if n + i < 32 then bt x (n + i) else bt x 31 := by
  unfold bt
  rw [Int32.toBitVec_shiftRight]
  show (x.toBitVec.sshiftRight ((nI n &&& 31).toBitVec.smod 32).toNat).getLsbD i = _
  rw [s_l n hn, BitVec.getLsbD_sshiftRight, BitVec.msb_eq_getLsbD_last]
  simp [hi]
theorem b_shl8 (x : Int32) {i : Nat} (hi : i < 32) : bt (x <<< ((8 : Int32) &&& 31)) i = (decide (8 ≤ i) && bt x (i - 8)) := b_shl 8 (by omega) x hi
theorem b_shl16 (x : Int32) {i : Nat} (hi : i < 32) : bt (x <<< ((16 : Int32) &&& 31)) i = (decide (16 ≤ i) && bt x (i - 16)) := b_shl 16 (by omega) x hi
theorem b_shl24 (x : Int32) {i : Nat} (hi : i < 32) : bt (x <<< ((24 : Int32) &&& 31)) i = (decide (24 ≤ i) && bt x (i - 24)) := b_shl 24 (by omega) x hi
theorem b_sshr8 (x : Int32) {i : Nat} (hi : i < 32) : bt (x >>> ((8 : Int32) &&& 31)) i = if 8 + i < 32 then bt x (8 + i) else bt x 31 := b_sshr 8 (by omega) x hi

/-! numbers that are small -/
theorem pu_mul (a b : Nat) : nI a * nI b = nI (a * b) := by unfold nI; rw [Int32.ofNat_mul]
theorem pu_lt0 {a : Nat} (h : a < 2147483648) : ¬ nI a < 0 := nI_pos h
theorem pu_ltI {a b : Nat} (ha : a < 2147483648) (hb : b < 2147483648) : (nI a < nI b) = (a < b) := propext (nI_ltI ha hb)
theorem pu_leI {a b : Nat} (ha : a < 2147483648) (hb : b < 2147483648) : (nI a ≤ nI b) = (a ≤ b) := propext (nI_leI ha hb)
theorem pu_eqI {a b : Nat} (ha : a < 2147483648) (hb : b < 2147483648) : (nI a = nI b) = (a = b) := propext (nI_eq ha hb)
theorem pu_cl {a : Nat} (ha : a < 2147483648) : (nI a).toNatClampNeg = a := nI_clamp ha
theorem pu_inj {a b : Nat} (ha : a < 2147483648) (hb : b < 2147483648) (h : nI a = nI b) : a = b := (nI_eq ha hb).mp h
theorem pu_in {k n : Nat} (h : k < n) (hn : n ≤ 100000) : tb_in (nI k) n = true := by
  unfold tb_in
  rw [decide_eq_false (nI_pos (by omega)), nI_clamp (by omega), decide_eq_true h]
  rfl

theorem pu_L1 (n : Nat) : (1 : Int32) + nI n = nI (1 + n) := nI_add 1 n
theorem pu_L2 (n : Nat) : (2 : Int32) + nI n = nI (2 + n) := nI_add 2 n
theorem pu_L3 (n : Nat) : (3 : Int32) + nI n = nI (3 + n) := nI_add 3 n
theorem pu_L12 (n : Nat) : (12 : Int32) + nI n = nI (12 + n) := nI_add 12 n
theorem pu_L22 (n : Nat) : (22 : Int32) + nI n = nI (22 + n) := nI_add 22 n
theorem pu_L32 (n : Nat) : (32 : Int32) + nI n = nI (32 + n) := nI_add 32 n
theorem pu_L42 (n : Nat) : (42 : Int32) + nI n = nI (42 + n) := nI_add 42 n
theorem pu_L74 (n : Nat) : (74 : Int32) + nI n = nI (74 + n) := nI_add 74 n
theorem pu_L84 (n : Nat) : (84 : Int32) + nI n = nI (84 + n) := nI_add 84 n
theorem pu_L94 (n : Nat) : (94 : Int32) + nI n = nI (94 + n) := nI_add 94 n
theorem pu_L118 (n : Nat) : (118 : Int32) + nI n = nI (118 + n) := nI_add 118 n
theorem pu_L10 (n : Nat) : (10 : Int32) + nI n = nI (10 + n) := nI_add 10 n
theorem pu_R1 (n : Nat) : nI n + (1 : Int32) = nI (n + 1) := nI_add n 1
theorem pu_R2 (n : Nat) : nI n + (2 : Int32) = nI (n + 2) := nI_add n 2
theorem pu_R3 (n : Nat) : nI n + (3 : Int32) = nI (n + 3) := nI_add n 3
theorem pu_R20 (n : Nat) : nI n + (20 : Int32) = nI (n + 20) := nI_add n 20
theorem pu_M2 (n : Nat) : (2 : Int32) * nI n = nI (2 * n) := pu_mul 2 n
theorem pu_M3 (n : Nat) : (3 : Int32) * nI n = nI (3 * n) := pu_mul 3 n
theorem pu_M4 (n : Nat) : (4 : Int32) * nI n = nI (4 * n) := pu_mul 4 n
theorem pu_M16 (n : Nat) : (16 : Int32) * nI n = nI (16 * n) := pu_mul 16 n
theorem pu_M400 (n : Nat) : (400 : Int32) * nI n = nI (400 * n) := pu_mul 400 n
theorem pu_M48 (n : Nat) : (48 : Int32) * nI n = nI (48 * n) := pu_mul 48 n
theorem pu_M64 (n : Nat) : (64 : Int32) * nI n = nI (64 * n) := pu_mul 64 n
theorem pu_M149 (n : Nat) : (149 : Int32) * nI n = nI (149 * n) := pu_mul 149 n
/-! truths as numbers -/
def pu_b (b : Bool) : Int32 := if b then 1 else 0
theorem pu_b0 (b : Bool) : (pu_b b = 0) = (b = false) := by cases b <;> simp [pu_b]
theorem pu_b1 (b : Bool) : (pu_b b = 1) = (b = true) := by cases b <;> simp [pu_b]
theorem pu_bt : pu_b true = 1 := rfl
theorem pu_bf : pu_b false = 0 := rfl
theorem pu_ite {c : Prop} [Decidable c] : (if c then (1 : Int32) else 0) = pu_b (decide c) := by
  by_cases h : c <;> simp [pu_b, h]
/-! one bit -/
theorem pu_one {n i : Nat} (hn : n < 32) (hi : i < 32) : bt (1 <<< (nI n &&& 31)) i = decide (i = n) := by
  rw [b_shl n hn 1 hi]
  have h1 : ∀ j, j < 32 → bt 1 j = decide (j = 0) := by decide +kernel
  by_cases h : n ≤ i
  · rw [h1 _ (by omega), decide_eq_true h, Bool.true_and]
    by_cases h2 : i = n
    · rw [decide_eq_true h2, decide_eq_true (by omega)]
    · rw [decide_eq_false h2, decide_eq_false (by omega)]
  · rw [decide_eq_false h, Bool.false_and, decide_eq_false (by omega)]
theorem pu_not (x : Int32) {i : Nat} (hi : i < 32) : bt (x ^^^ (-1)) i = !bt x i := by
  rw [b_xor, b_m1 i hi]
  cases bt x i <;> rfl
theorem pu_and1 (x : Int32) : x &&& 1 = pu_b (bt x 0) := by
  apply b_ext
  intro i hi
  rw [b_and]
  have h1 : ∀ j, j < 32 → bt 1 j = decide (j = 0) := by decide +kernel
  have h0 : ∀ j, j < 32 → bt 0 j = false := by decide +kernel
  rw [h1 i hi]
  unfold pu_b
  by_cases h : i = 0
  · subst h
    cases hb : bt x 0
    · rw [if_neg (by decide), h0 0 hi]; rfl
    · rw [if_pos rfl, h1 0 hi]; rfl
  · rw [decide_eq_false h, Bool.and_false]
    cases hb : bt x 0
    · rw [if_neg (by decide), h0 i hi]
    · rw [if_pos rfl, h1 i hi, decide_eq_false h]
/-- (x >> n) & 1 -/
theorem pu_sh (x : Int32) {n : Nat} (hn : n < 32) : (x >>> (nI n &&& 31)) &&& 1 = pu_b (bt x n) := by
  rw [pu_and1, b_sshr n hn x (by omega : 0 < 32), if_pos (by omega)]
  rfl
/-- a mask of n places -/
def pu_mk (f : Nat → Bool) : Nat → Int32
  | 0 => 0
  | n + 1 => pu_mk f n ||| (if f n then 1 <<< (nI n &&& 31) else 0)
theorem pu_mk_bt (f : Nat → Bool) : ∀ n, n ≤ 32 → ∀ i, i < 32 → bt (pu_mk f n) i = (decide (i < n) && f i)
  | 0, _, i, _ => by rw [decide_eq_false (Nat.not_lt_zero i), Bool.false_and]; exact b_0 i
  | n + 1, hn, i, hi => by
    unfold pu_mk
    rw [b_or, pu_mk_bt f n (by omega) i hi]
    cases hf : f n
    · rw [if_neg (by decide), b_0, Bool.or_false]
      by_cases h : i = n
      · subst h; rw [hf]; simp
      · have : (i < n + 1) = (i < n) := propext (by omega)
        simp only [this]
    · rw [if_pos rfl, pu_one (by omega) hi]
      by_cases h : i = n
      · subst h; rw [hf]; simp
      · have : (i < n + 1) = (i < n) := propext (by omega)
        simp only [this]
        rw [decide_eq_false h, Bool.or_false]
theorem pu_mk_cong {f g : Nat → Bool} : ∀ n, (∀ k, k < n → f k = g k) → pu_mk f n = pu_mk g n
  | 0, _ => rfl
  | n + 1, h => by unfold pu_mk; rw [pu_mk_cong n (fun k hk => h k (by omega)), h n (by omega)]
theorem pu_mk_more {f : Nat → Bool} {n : Nat} : ∀ m, n ≤ m → (∀ k, n ≤ k → k < m → f k = false) → pu_mk f m = pu_mk f n
  | 0, h, _ => by rw [Nat.le_zero.mp h]
  | m + 1, h, hf => by
    by_cases e : n = m + 1
    · rw [e]
    · have e2 : pu_mk f (m + 1) = pu_mk f m ||| (if f m then 1 <<< (nI m &&& 31) else 0) := rfl
      rw [e2, hf m (by omega) (by omega), if_neg (by decide), Int32.or_zero]
      exact pu_mk_more m (by omega) (fun k h1 h2 => hf k h1 (by omega))
theorem pu_mk_eq {f g : Nat → Bool} {n : Nat} (hn : n ≤ 32) (h : pu_mk f n = pu_mk g n) : ∀ k, k < n → f k = g k := by
  intro k hk
  have := congrArg (fun x => bt x k) h
  simp only [pu_mk_bt _ n hn k (by omega), decide_eq_true hk, Bool.true_and] at this
  exact this
theorem pu_mk0 {f : Nat → Bool} {n : Nat} (hn : n ≤ 32) : (pu_mk f n = 0) = (∀ k, k < n → f k = false) := by
  apply propext
  constructor
  · intro h k hk
    have := congrArg (fun x => bt x k) h
    simp only [pu_mk_bt _ n hn k (by omega), decide_eq_true hk, Bool.true_and, b_0] at this
    exact this
  · intro h
    have : ∀ m, pu_mk (fun _ => false) m = 0 := by
      intro m
      induction m with
      | zero => rfl
      | succ m ih => unfold pu_mk; rw [ih, if_neg (by decide), Int32.or_zero]
    rw [pu_mk_cong n h]
    exact this n
theorem pu_mk_or (f g : Nat → Bool) {n : Nat} (hn : n ≤ 32) : pu_mk f n ||| pu_mk g n = pu_mk (fun k => f k || g k) n := by
  apply b_ext
  intro i hi
  rw [b_or, pu_mk_bt _ n hn i hi, pu_mk_bt _ n hn i hi, pu_mk_bt _ n hn i hi]
  cases decide (i < n) <;> simp
theorem pu_mk_and (f g : Nat → Bool) {n : Nat} (hn : n ≤ 32) : pu_mk f n &&& pu_mk g n = pu_mk (fun k => f k && g k) n := by
  apply b_ext
  intro i hi
  rw [b_and, pu_mk_bt _ n hn i hi, pu_mk_bt _ n hn i hi, pu_mk_bt _ n hn i hi]
  cases decide (i < n) <;> simp
theorem pu_mk_no (f g : Nat → Bool) {n m : Nat} (hn : n ≤ 32) (hm : m ≤ 32) : pu_mk f n &&& (pu_mk g m ^^^ (-1)) = pu_mk (fun k => f k && !(decide (k < m) && g k)) n := by
  apply b_ext
  intro i hi
  rw [b_and, pu_not _ hi, pu_mk_bt _ n hn i hi, pu_mk_bt _ m hm i hi, pu_mk_bt _ n hn i hi]
  cases decide (i < n) <;> simp
theorem pu_mk_1 {l n : Nat} (hl : l < n) (hn : n ≤ 32) : (1 : Int32) <<< (nI l &&& 31) = pu_mk (fun k => decide (k = l)) n := by
  apply b_ext
  intro i hi
  rw [pu_one (by omega) hi, pu_mk_bt _ n hn i hi]
  by_cases h : i = l
  · subst h; simp [hl]
  · simp [h]

/-! ===== reading and writing where the shapes are known ===== -/
section PUA
variable {s : List (Nat × Nat)} {I : Nat → Nat → Int32} {J : Nat → Nat → Int64} {R : Nat → Nat → Option Nat} {c k p q n : Nat}
theorem pu_gI (h : s[p]? = some (c, n)) : tb_gI c k p (s, I, J, R) = some (I p k) := by simp [tb_gI, tb_kd, h]
theorem pu_gJ (h : s[p]? = some (c, n)) : tb_gJ c k p (s, I, J, R) = some (J p k) := by simp [tb_gJ, tb_kd, h]
theorem pu_gN (h : s[p]? = some (c, n)) : tb_gN c k p (s, I, J, R) = R p k := by simp [tb_gN, tb_kd, h]
theorem pu_pI {v : Int32} (h : s[p]? = some (c, n)) : tb_pI c k p v (s, I, J, R) = some (s, tb_up2 I p k v, J, R) := by simp [tb_pI, tb_kd, h, tb_setI]
theorem pu_pJ {v : Int64} (h : s[p]? = some (c, n)) : tb_pJ c k p v (s, I, J, R) = some (s, I, tb_up2 J p k v, R) := by simp [tb_pJ, tb_kd, h, tb_setJ]
theorem pu_on {α : Type} {t : Option α} (h : s[p]? = some (c, n)) : tb_on c p (s, I, J, R) t = t := by simp [tb_on, tb_kd, h]
theorem pu_al (h : s[p]? = some (1, n)) : tb_al p (s, I, J, R) = some (nI n) := by
  unfold tb_al
  simp only [h]
  rfl
theorem pu_lI {j : Nat} (h : s[p]? = some (1, n)) (hj : j < n) (hn : n ≤ 100000) : tb_lI [1, 9] p (nI j) (s, I, J, R) = some (I p j) := by
  unfold tb_lI
  simp only [h, pu_in hj hn, nI_clamp (show j < 2 ^ 31 by omega)]
  rfl
theorem pu_tI {j : Nat} {v : Int32} (h : s[p]? = some (1, n)) (hj : j < n) (hn : n ≤ 100000) : tb_tI p (nI j) v (s, I, J, R) = some (s, tb_up2 I p j v, J, R) := by
  unfold tb_tI
  simp only [h, pu_in hj hn, nI_clamp (show j < 2 ^ 31 by omega)]
  rfl
end PUA
theorem pu_u2s {α : Type} (f : Nat → Nat → α) (p k : Nat) (v : α) : tb_up2 f p k v p k = v := by unfold tb_up2; rw [if_pos rfl]; exact if_pos rfl
theorem pu_u2k {α : Type} (f : Nat → Nat → α) (p k : Nat) (v : α) {j : Nat} (h : j ≠ k) : tb_up2 f p k v p j = f p j := by unfold tb_up2; rw [if_pos rfl]; exact if_neg h
theorem pu_u2p {α : Type} (f : Nat → Nat → α) (p k : Nat) (v : α) {q : Nat} (h : q ≠ p) : tb_up2 f p k v q = f q := by unfold tb_up2; exact if_neg h
theorem pu_u2i {α : Type} (f : Nat → Nat → α) (p k : Nat) (v : α) (j : Nat) : tb_up2 f p k v p j = if j = k then v else f p j := by unfold tb_up2; rw [if_pos rfl]
theorem pu_u1s {α : Type} (f : Nat → Nat → α) (p : Nat) (g : Nat → α) : tb_up1 f p g p = g := by unfold tb_up1; exact if_pos rfl
theorem pu_u1p {α : Type} (f : Nat → Nat → α) (p : Nat) (g : Nat → α) {q : Nat} (h : q ≠ p) : tb_up1 f p g q = f q := by unfold tb_up1; exact if_neg h
