/-! ===== The law's loop ===== -/
theorem pu_al9 {N : Nat} {w : tb_Hp} (h : w.1[0]? = some (9, N)) : tb_al 0 w = some (nI N) := by
  unfold tb_al
  simp only [h]
  rfl
theorem pu_lI9 {N : Nat} {xs : Nat → Int32} {w : tb_Hp} (h : w.1[0]? = some (9, N)) (hx : w.2.1 0 = xs) {j : Nat} {a : Int32} (e : a = nI j) (hj : j < N) (hN : N ≤ 100000) : tb_lI [1, 9] 0 a w = some (xs j) := by
  subst e
  unfold tb_lI
  simp only [h, pu_in hj hN, nI_clamp (show j < 2 ^ 31 by omega), hx]
  rfl
theorem pu_onw {w : tb_Hp} {c p n : Nat} {α : Type} (h : w.1[p]? = some (c, n)) (t : Option α) : tb_on c p w t = t := by
  unfold tb_on tb_kd
  simp [h]
theorem pu_Rn (i k : Nat) {a : Int32} (h : a = nI k) : nI i + a = nI (i + k) := by rw [h, nI_add]
section PUZ1
variable {N : Nat} {xs : Nat → Int32}
theorem pu_g_feed {w : tb_Hp} (h : pu_INV N xs w) (h21 : w.1[1]? = some (21, 12)) (hN : N ≤ 100000) {i : Nat} (hi : i + 6 ≤ N) (F G : tb_Hp → Option (Int32 × tb_Hp)) : ∃ w2, pu_INV N xs w2 ∧ ((tb_lI [1, 9] 0 (nI i + 1) w).bind fun y0 => (tb_lI [1, 9] 0 (nI i + 2) w).bind fun y1 => (tb_lI [1, 9] 0 (nI i + 3) w).bind fun y2 => (tb_lI [1, 9] 0 (nI i + 4) w).bind fun y3 => (tb_lI [1, 9] 0 (nI i + 5) w).bind fun y4 => (tb_on 21 1 w (fb_x_feed 1 y0 y1 y2 y3 y4 w)).bind fun x1 => (tb_lI [1, 9] 0 (nI i + 1) x1.2).bind fun z0 => (tb_lI [1, 9] 0 (nI i + 2) x1.2).bind fun z1 => (tb_lI [1, 9] 0 (nI i + 3) x1.2).bind fun z2 => (tb_lI [1, 9] 0 (nI i + 4) x1.2).bind fun z3 => (tb_lI [1, 9] 0 (nI i + 5) x1.2).bind fun z4 => (tb_on 22 70 x1.2 (fb_m_feed 70 z0 z1 z2 z3 z4 x1.2)).bind fun x2 => (if x1.1 = x2.1 then F x2.2 else G x2.2)) = F w2 := by
  obtain ⟨a, w1, w2, e1, e2, ⟨g1, g2, g3⟩, e4⟩ := (pu_k_feed (xs (i + 1)) (xs (i + 2)) (xs (i + 3)) (xs (i + 4)) (xs (i + 5))) w h
  refine ⟨w2, e4, ?_⟩
  simp only [pu_lI9 h.1 h.2.1 (show nI i + 1 = nI (i + 1) from pu_Rn i 1 rfl) (show i + 1 < N by omega) hN, pu_lI9 h.1 h.2.1 (show nI i + 2 = nI (i + 2) from pu_Rn i 2 rfl) (show i + 2 < N by omega) hN, pu_lI9 h.1 h.2.1 (show nI i + 3 = nI (i + 3) from pu_Rn i 3 rfl) (show i + 3 < N by omega) hN, pu_lI9 h.1 h.2.1 (show nI i + 4 = nI (i + 4) from pu_Rn i 4 rfl) (show i + 4 < N by omega) hN, pu_lI9 h.1 h.2.1 (show nI i + 5 = nI (i + 5) from pu_Rn i 5 rfl) (show i + 5 < N by omega) hN, pu_onw h21, e1, Option.bind_some, pu_lI9 g1 g2 (show nI i + 1 = nI (i + 1) from pu_Rn i 1 rfl) (show i + 1 < N by omega) hN, pu_lI9 g1 g2 (show nI i + 2 = nI (i + 2) from pu_Rn i 2 rfl) (show i + 2 < N by omega) hN, pu_lI9 g1 g2 (show nI i + 3 = nI (i + 3) from pu_Rn i 3 rfl) (show i + 3 < N by omega) hN, pu_lI9 g1 g2 (show nI i + 4 = nI (i + 4) from pu_Rn i 4 rfl) (show i + 4 < N by omega) hN, pu_lI9 g1 g2 (show nI i + 5 = nI (i + 5) from pu_Rn i 5 rfl) (show i + 5 < N by omega) hN, pu_onw g3, e2, ↓reduceIte]
theorem pu_g_end {w : tb_Hp} (h : pu_INV N xs w) (h21 : w.1[1]? = some (21, 12)) (hN : N ≤ 100000) {i : Nat} (hi : i + 6 ≤ N) (F G : tb_Hp → Option (Int32 × tb_Hp)) : ∃ w2, pu_INV N xs w2 ∧ ((tb_lI [1, 9] 0 (nI i + 1) w).bind fun y0 => (tb_on 21 1 w (fb_x_end 1 y0 w)).bind fun x1 => (tb_lI [1, 9] 0 (nI i + 1) x1.2).bind fun z0 => (tb_on 22 70 x1.2 (fb_m_end 70 z0 x1.2)).bind fun x2 => (if x1.1 = x2.1 then F x2.2 else G x2.2)) = F w2 := by
  obtain ⟨a, w1, w2, e1, e2, ⟨g1, g2, g3⟩, e4⟩ := (pu_k_end (xs (i + 1))) w h
  refine ⟨w2, e4, ?_⟩
  simp only [pu_lI9 h.1 h.2.1 (show nI i + 1 = nI (i + 1) from pu_Rn i 1 rfl) (show i + 1 < N by omega) hN, pu_onw h21, e1, Option.bind_some, pu_lI9 g1 g2 (show nI i + 1 = nI (i + 1) from pu_Rn i 1 rfl) (show i + 1 < N by omega) hN, pu_onw g3, e2, ↓reduceIte]
theorem pu_g_street (hs : pu_Step N xs (fb_x_street 1) (fb_m_street 70)) {w : tb_Hp} (h : pu_INV N xs w) (h21 : w.1[1]? = some (21, 12)) (hN : N ≤ 100000) {i : Nat} (hi : i + 6 ≤ N) (F G : tb_Hp → Option (Int32 × tb_Hp)) : ∃ w2, pu_INV N xs w2 ∧ ( (tb_on 21 1 w (fb_x_street 1  w)).bind fun x1 =>  (tb_on 22 70 x1.2 (fb_m_street 70  x1.2)).bind fun x2 => (if x1.1 = x2.1 then F x2.2 else G x2.2)) = F w2 := by
  obtain ⟨a, w1, w2, e1, e2, ⟨g1, g2, g3⟩, e4⟩ := (hs) w h
  refine ⟨w2, e4, ?_⟩
  simp only [pu_onw h21, e1, Option.bind_some, pu_onw g3, e2, ↓reduceIte]
theorem pu_g_rule (hs : pu_Step N xs (fb_x_rule 1) (fb_m_rule 70)) {w : tb_Hp} (h : pu_INV N xs w) (h21 : w.1[1]? = some (21, 12)) (hN : N ≤ 100000) {i : Nat} (hi : i + 6 ≤ N) (F G : tb_Hp → Option (Int32 × tb_Hp)) : ∃ w2, pu_INV N xs w2 ∧ ( (tb_on 21 1 w (fb_x_rule 1  w)).bind fun x1 =>  (tb_on 22 70 x1.2 (fb_m_rule 70  x1.2)).bind fun x2 => (if x1.1 = x2.1 then F x2.2 else G x2.2)) = F w2 := by
  obtain ⟨a, w1, w2, e1, e2, ⟨g1, g2, g3⟩, e4⟩ := (hs) w h
  refine ⟨w2, e4, ?_⟩
  simp only [pu_onw h21, e1, Option.bind_some, pu_onw g3, e2, ↓reduceIte]
theorem pu_g_force {w : tb_Hp} (h : pu_INV N xs w) (h21 : w.1[1]? = some (21, 12)) (hN : N ≤ 100000) {i : Nat} (hi : i + 6 ≤ N) (F G : tb_Hp → Option (Int32 × tb_Hp)) : ∃ w2, pu_INV N xs w2 ∧ ((tb_lI [1, 9] 0 (nI i + 1) w).bind fun y0 => (tb_on 21 1 w (fb_x_force 1 y0 w)).bind fun x1 => (tb_lI [1, 9] 0 (nI i + 1) x1.2).bind fun z0 => (tb_on 22 70 x1.2 (fb_m_force 70 z0 x1.2)).bind fun x2 => (if x1.1 = x2.1 then F x2.2 else G x2.2)) = F w2 := by
  obtain ⟨a, w1, w2, e1, e2, ⟨g1, g2, g3⟩, e4⟩ := (pu_k_force (xs (i + 1))) w h
  refine ⟨w2, e4, ?_⟩
  simp only [pu_lI9 h.1 h.2.1 (show nI i + 1 = nI (i + 1) from pu_Rn i 1 rfl) (show i + 1 < N by omega) hN, pu_onw h21, e1, Option.bind_some, pu_lI9 g1 g2 (show nI i + 1 = nI (i + 1) from pu_Rn i 1 rfl) (show i + 1 < N by omega) hN, pu_onw g3, e2, ↓reduceIte]
theorem pu_g_house {w : tb_Hp} (h : pu_INV N xs w) (h21 : w.1[1]? = some (21, 12)) (hN : N ≤ 100000) {i : Nat} (hi : i + 6 ≤ N) (F G : tb_Hp → Option (Int32 × tb_Hp)) : ∃ w2, pu_INV N xs w2 ∧ ((tb_lI [1, 9] 0 (nI i + 1) w).bind fun y0 => (tb_lI [1, 9] 0 (nI i + 2) w).bind fun y1 => (tb_on 21 1 w (fb_x_house 1 y0 y1 w)).bind fun x1 => (tb_lI [1, 9] 0 (nI i + 1) x1.2).bind fun z0 => (tb_lI [1, 9] 0 (nI i + 2) x1.2).bind fun z1 => (tb_on 22 70 x1.2 (fb_m_house 70 z0 z1 x1.2)).bind fun x2 => (if x1.1 = x2.1 then F x2.2 else G x2.2)) = F w2 := by
  obtain ⟨a, w1, w2, e1, e2, ⟨g1, g2, g3⟩, e4⟩ := (pu_k_house (xs (i + 1)) (xs (i + 2))) w h
  refine ⟨w2, e4, ?_⟩
  simp only [pu_lI9 h.1 h.2.1 (show nI i + 1 = nI (i + 1) from pu_Rn i 1 rfl) (show i + 1 < N by omega) hN, pu_lI9 h.1 h.2.1 (show nI i + 2 = nI (i + 2) from pu_Rn i 2 rfl) (show i + 2 < N by omega) hN, pu_onw h21, e1, Option.bind_some, pu_lI9 g1 g2 (show nI i + 1 = nI (i + 1) from pu_Rn i 1 rfl) (show i + 1 < N by omega) hN, pu_lI9 g1 g2 (show nI i + 2 = nI (i + 2) from pu_Rn i 2 rfl) (show i + 2 < N by omega) hN, pu_onw g3, e2, ↓reduceIte]
theorem pu_g_line {w : tb_Hp} (h : pu_INV N xs w) (h21 : w.1[1]? = some (21, 12)) (hN : N ≤ 100000) {i : Nat} (hi : i + 6 ≤ N) (F G : tb_Hp → Option (Int32 × tb_Hp)) : ∃ w2, pu_INV N xs w2 ∧ ((tb_lI [1, 9] 0 (nI i + 1) w).bind fun y0 => (tb_lI [1, 9] 0 (nI i + 2) w).bind fun y1 => (tb_on 21 1 w (fb_x_line 1 y0 y1 w)).bind fun x1 => (tb_lI [1, 9] 0 (nI i + 1) x1.2).bind fun z0 => (tb_lI [1, 9] 0 (nI i + 2) x1.2).bind fun z1 => (tb_on 22 70 x1.2 (fb_m_line 70 z0 z1 x1.2)).bind fun x2 => (if x1.1 = x2.1 then F x2.2 else G x2.2)) = F w2 := by
  obtain ⟨a, w1, w2, e1, e2, ⟨g1, g2, g3⟩, e4⟩ := (pu_k_line (xs (i + 1)) (xs (i + 2))) w h
  refine ⟨w2, e4, ?_⟩
  simp only [pu_lI9 h.1 h.2.1 (show nI i + 1 = nI (i + 1) from pu_Rn i 1 rfl) (show i + 1 < N by omega) hN, pu_lI9 h.1 h.2.1 (show nI i + 2 = nI (i + 2) from pu_Rn i 2 rfl) (show i + 2 < N by omega) hN, pu_onw h21, e1, Option.bind_some, pu_lI9 g1 g2 (show nI i + 1 = nI (i + 1) from pu_Rn i 1 rfl) (show i + 1 < N by omega) hN, pu_lI9 g1 g2 (show nI i + 2 = nI (i + 2) from pu_Rn i 2 rfl) (show i + 2 < N by omega) hN, pu_onw g3, e2, ↓reduceIte]
theorem pu_g_year {w : tb_Hp} (h : pu_INV N xs w) (h21 : w.1[1]? = some (21, 12)) (hN : N ≤ 100000) {i : Nat} (hi : i + 6 ≤ N) (F G : tb_Hp → Option (Int32 × tb_Hp)) : ∃ w2, pu_INV N xs w2 ∧ ( (tb_on 21 1 w (fb_x_year 1  w)).bind fun x1 =>  (tb_on 22 70 x1.2 (fb_m_year 70  x1.2)).bind fun x2 => (if x1.1 = x2.1 then F x2.2 else G x2.2)) = F w2 := by
  obtain ⟨a, w1, w2, e1, e2, ⟨g1, g2, g3⟩, e4⟩ := (pu_k_year) w h
  refine ⟨w2, e4, ?_⟩
  simp only [pu_onw h21, e1, Option.bind_some, pu_onw g3, e2, ↓reduceIte]
theorem pu_g_tighten {w : tb_Hp} (h : pu_INV N xs w) (h21 : w.1[1]? = some (21, 12)) (hN : N ≤ 100000) {i : Nat} (hi : i + 6 ≤ N) (F G : tb_Hp → Option (Int32 × tb_Hp)) : ∃ w2, pu_INV N xs w2 ∧ ((tb_lI [1, 9] 0 (nI i + 1) w).bind fun y0 => (tb_lI [1, 9] 0 (nI i + 2) w).bind fun y1 => (tb_on 21 1 w (fb_x_tighten 1 y0 y1 w)).bind fun x1 => (tb_lI [1, 9] 0 (nI i + 1) x1.2).bind fun z0 => (tb_lI [1, 9] 0 (nI i + 2) x1.2).bind fun z1 => (tb_on 22 70 x1.2 (fb_m_tighten 70 z0 z1 x1.2)).bind fun x2 => (if x1.1 = x2.1 then F x2.2 else G x2.2)) = F w2 := by
  obtain ⟨a, w1, w2, e1, e2, ⟨g1, g2, g3⟩, e4⟩ := (pu_k_tighten (xs (i + 1)) (xs (i + 2))) w h
  refine ⟨w2, e4, ?_⟩
  simp only [pu_lI9 h.1 h.2.1 (show nI i + 1 = nI (i + 1) from pu_Rn i 1 rfl) (show i + 1 < N by omega) hN, pu_lI9 h.1 h.2.1 (show nI i + 2 = nI (i + 2) from pu_Rn i 2 rfl) (show i + 2 < N by omega) hN, pu_onw h21, e1, Option.bind_some, pu_lI9 g1 g2 (show nI i + 1 = nI (i + 1) from pu_Rn i 1 rfl) (show i + 1 < N by omega) hN, pu_lI9 g1 g2 (show nI i + 2 = nI (i + 2) from pu_Rn i 2 rfl) (show i + 2 < N by omega) hN, pu_onw g3, e2, ↓reduceIte]
theorem pu_g_cut {w : tb_Hp} (h : pu_INV N xs w) (h21 : w.1[1]? = some (21, 12)) (hN : N ≤ 100000) {i : Nat} (hi : i + 6 ≤ N) (F G : tb_Hp → Option (Int32 × tb_Hp)) : ∃ w2, pu_INV N xs w2 ∧ ((tb_lI [1, 9] 0 (nI i + 1) w).bind fun y0 => (tb_on 21 1 w (fb_x_cut 1 y0 w)).bind fun x1 => (tb_lI [1, 9] 0 (nI i + 1) x1.2).bind fun z0 => (tb_on 22 70 x1.2 (fb_m_cut 70 z0 x1.2)).bind fun x2 => (if x1.1 = x2.1 then F x2.2 else G x2.2)) = F w2 := by
  obtain ⟨a, w1, w2, e1, e2, ⟨g1, g2, g3⟩, e4⟩ := (pu_k_cut (xs (i + 1))) w h
  refine ⟨w2, e4, ?_⟩
  simp only [pu_lI9 h.1 h.2.1 (show nI i + 1 = nI (i + 1) from pu_Rn i 1 rfl) (show i + 1 < N by omega) hN, pu_onw h21, e1, Option.bind_some, pu_lI9 g1 g2 (show nI i + 1 = nI (i + 1) from pu_Rn i 1 rfl) (show i + 1 < N by omega) hN, pu_onw g3, e2, ↓reduceIte]
theorem pu_g_hang {w : tb_Hp} (h : pu_INV N xs w) (h21 : w.1[1]? = some (21, 12)) (hN : N ≤ 100000) {i : Nat} (hi : i + 6 ≤ N) (F G : tb_Hp → Option (Int32 × tb_Hp)) : ∃ w2, pu_INV N xs w2 ∧ ((tb_lI [1, 9] 0 (nI i + 1) w).bind fun y0 => (tb_lI [1, 9] 0 (nI i + 2) w).bind fun y1 => (tb_lI [1, 9] 0 (nI i + 3) w).bind fun y2 => (tb_on 21 1 w (fb_x_hang 1 y0 y1 y2 w)).bind fun x1 => (tb_lI [1, 9] 0 (nI i + 1) x1.2).bind fun z0 => (tb_lI [1, 9] 0 (nI i + 2) x1.2).bind fun z1 => (tb_lI [1, 9] 0 (nI i + 3) x1.2).bind fun z2 => (tb_on 22 70 x1.2 (fb_m_hang 70 z0 z1 z2 x1.2)).bind fun x2 => (if x1.1 = x2.1 then F x2.2 else G x2.2)) = F w2 := by
  obtain ⟨a, w1, w2, e1, e2, ⟨g1, g2, g3⟩, e4⟩ := (pu_k_hang (xs (i + 1)) (xs (i + 2)) (xs (i + 3))) w h
  refine ⟨w2, e4, ?_⟩
  simp only [pu_lI9 h.1 h.2.1 (show nI i + 1 = nI (i + 1) from pu_Rn i 1 rfl) (show i + 1 < N by omega) hN, pu_lI9 h.1 h.2.1 (show nI i + 2 = nI (i + 2) from pu_Rn i 2 rfl) (show i + 2 < N by omega) hN, pu_lI9 h.1 h.2.1 (show nI i + 3 = nI (i + 3) from pu_Rn i 3 rfl) (show i + 3 < N by omega) hN, pu_onw h21, e1, Option.bind_some, pu_lI9 g1 g2 (show nI i + 1 = nI (i + 1) from pu_Rn i 1 rfl) (show i + 1 < N by omega) hN, pu_lI9 g1 g2 (show nI i + 2 = nI (i + 2) from pu_Rn i 2 rfl) (show i + 2 < N by omega) hN, pu_lI9 g1 g2 (show nI i + 3 = nI (i + 3) from pu_Rn i 3 rfl) (show i + 3 < N by omega) hN, pu_onw g3, e2, ↓reduceIte]
theorem pu_g_prop {w : tb_Hp} (h : pu_INV N xs w) (h21 : w.1[1]? = some (21, 12)) (hN : N ≤ 100000) {i : Nat} (hi : i + 6 ≤ N) (F G : tb_Hp → Option (Int32 × tb_Hp)) : ∃ w2, pu_INV N xs w2 ∧ ((tb_lI [1, 9] 0 (nI i + 1) w).bind fun y0 => (tb_lI [1, 9] 0 (nI i + 2) w).bind fun y1 => (tb_on 21 1 w (fb_x_prop 1 y0 y1 w)).bind fun x1 => (tb_lI [1, 9] 0 (nI i + 1) x1.2).bind fun z0 => (tb_lI [1, 9] 0 (nI i + 2) x1.2).bind fun z1 => (tb_on 22 70 x1.2 (fb_m_prop 70 z0 z1 x1.2)).bind fun x2 => (if x1.1 = x2.1 then F x2.2 else G x2.2)) = F w2 := by
  obtain ⟨a, w1, w2, e1, e2, ⟨g1, g2, g3⟩, e4⟩ := (pu_k_prop (xs (i + 1)) (xs (i + 2))) w h
  refine ⟨w2, e4, ?_⟩
  simp only [pu_lI9 h.1 h.2.1 (show nI i + 1 = nI (i + 1) from pu_Rn i 1 rfl) (show i + 1 < N by omega) hN, pu_lI9 h.1 h.2.1 (show nI i + 2 = nI (i + 2) from pu_Rn i 2 rfl) (show i + 2 < N by omega) hN, pu_onw h21, e1, Option.bind_some, pu_lI9 g1 g2 (show nI i + 1 = nI (i + 1) from pu_Rn i 1 rfl) (show i + 1 < N by omega) hN, pu_lI9 g1 g2 (show nI i + 2 = nI (i + 2) from pu_Rn i 2 rfl) (show i + 2 < N by omega) hN, pu_onw g3, e2, ↓reduceIte]
theorem pu_g_undo {w : tb_Hp} (h : pu_INV N xs w) (h21 : w.1[1]? = some (21, 12)) (hN : N ≤ 100000) {i : Nat} (hi : i + 6 ≤ N) (F G : tb_Hp → Option (Int32 × tb_Hp)) : ∃ w2, pu_INV N xs w2 ∧ ( (tb_on 21 1 w (fb_x_undo 1  w)).bind fun x1 =>  (tb_on 22 70 x1.2 (fb_m_undo 70  x1.2)).bind fun x2 => (if x1.1 = x2.1 then F x2.2 else G x2.2)) = F w2 := by
  obtain ⟨a, w1, w2, e1, e2, ⟨g1, g2, g3⟩, e4⟩ := (pu_k_undo) w h
  refine ⟨w2, e4, ?_⟩
  simp only [pu_onw h21, e1, Option.bind_some, pu_onw g3, e2, ↓reduceIte]
theorem pu_g_ahead {w : tb_Hp} (h : pu_INV N xs w) (h21 : w.1[1]? = some (21, 12)) (hN : N ≤ 100000) {i : Nat} (hi : i + 6 ≤ N) (F G : tb_Hp → Option (Int32 × tb_Hp)) : ∃ w2, pu_INV N xs w2 ∧ ((tb_lI [1, 9] 0 (nI i + 1) w).bind fun y0 => (tb_lI [1, 9] 0 (nI i + 2) w).bind fun y1 => (tb_on 21 1 w (fb_x_ahead 1 y0 y1 w)).bind fun x1 => (tb_lI [1, 9] 0 (nI i + 1) x1.2).bind fun z0 => (tb_lI [1, 9] 0 (nI i + 2) x1.2).bind fun z1 => (tb_on 22 70 x1.2 (fb_m_ahead 70 z0 z1 x1.2)).bind fun x2 => (if x1.1 = x2.1 then F x2.2 else G x2.2)) = F w2 := by
  obtain ⟨a, w1, w2, e1, e2, ⟨g1, g2, g3⟩, e4⟩ := (pu_k_ahead (xs (i + 1)) (xs (i + 2))) w h
  refine ⟨w2, e4, ?_⟩
  simp only [pu_lI9 h.1 h.2.1 (show nI i + 1 = nI (i + 1) from pu_Rn i 1 rfl) (show i + 1 < N by omega) hN, pu_lI9 h.1 h.2.1 (show nI i + 2 = nI (i + 2) from pu_Rn i 2 rfl) (show i + 2 < N by omega) hN, pu_onw h21, e1, Option.bind_some, pu_lI9 g1 g2 (show nI i + 1 = nI (i + 1) from pu_Rn i 1 rfl) (show i + 1 < N by omega) hN, pu_lI9 g1 g2 (show nI i + 2 = nI (i + 2) from pu_Rn i 2 rfl) (show i + 2 < N by omega) hN, pu_onw g3, e2, ↓reduceIte]
theorem pu_g_falls {w : tb_Hp} (h : pu_INV N xs w) (h21 : w.1[1]? = some (21, 12)) (hN : N ≤ 100000) {i : Nat} (hi : i + 6 ≤ N) (F G : tb_Hp → Option (Int32 × tb_Hp)) : ∃ w2, pu_INV N xs w2 ∧ ((tb_lI [1, 9] 0 (nI i + 1) w).bind fun y0 => (tb_on 21 1 w (fb_x_falls 1 y0 w)).bind fun x1 => (tb_lI [1, 9] 0 (nI i + 1) x1.2).bind fun z0 => (tb_on 22 70 x1.2 (fb_m_falls 70 z0 x1.2)).bind fun x2 => (if x1.1 = x2.1 then F x2.2 else G x2.2)) = F w2 := by
  obtain ⟨a, w1, w2, e1, e2, ⟨g1, g2, g3⟩, e4⟩ := (pu_k_falls (xs (i + 1))) w h
  refine ⟨w2, e4, ?_⟩
  simp only [pu_lI9 h.1 h.2.1 (show nI i + 1 = nI (i + 1) from pu_Rn i 1 rfl) (show i + 1 < N by omega) hN, pu_onw h21, e1, Option.bind_some, pu_lI9 g1 g2 (show nI i + 1 = nI (i + 1) from pu_Rn i 1 rfl) (show i + 1 < N by omega) hN, pu_onw g3, e2, ↓reduceIte]
theorem pu_g_lasts {w : tb_Hp} (h : pu_INV N xs w) (h21 : w.1[1]? = some (21, 12)) (hN : N ≤ 100000) {i : Nat} (hi : i + 6 ≤ N) (F G : tb_Hp → Option (Int32 × tb_Hp)) : ∃ w2, pu_INV N xs w2 ∧ ((tb_lI [1, 9] 0 (nI i + 1) w).bind fun y0 => (tb_on 21 1 w (fb_x_lasts 1 y0 w)).bind fun x1 => (tb_lI [1, 9] 0 (nI i + 1) x1.2).bind fun z0 => (tb_on 22 70 x1.2 (fb_m_lasts 70 z0 x1.2)).bind fun x2 => (if x1.1 = x2.1 then F x2.2 else G x2.2)) = F w2 := by
  obtain ⟨a, w1, w2, e1, e2, ⟨g1, g2, g3⟩, e4⟩ := (pu_k_lasts (xs (i + 1))) w h
  refine ⟨w2, e4, ?_⟩
  simp only [pu_lI9 h.1 h.2.1 (show nI i + 1 = nI (i + 1) from pu_Rn i 1 rfl) (show i + 1 < N by omega) hN, pu_onw h21, e1, Option.bind_some, pu_lI9 g1 g2 (show nI i + 1 = nI (i + 1) from pu_Rn i 1 rfl) (show i + 1 < N by omega) hN, pu_onw g3, e2, ↓reduceIte]
theorem pu_g_spare {w : tb_Hp} (h : pu_INV N xs w) (h21 : w.1[1]? = some (21, 12)) (hN : N ≤ 100000) {i : Nat} (hi : i + 6 ≤ N) (F G : tb_Hp → Option (Int32 × tb_Hp)) : ∃ w2, pu_INV N xs w2 ∧ ((tb_lI [1, 9] 0 (nI i + 1) w).bind fun y0 => (tb_on 21 1 w (fb_x_spare 1 y0 w)).bind fun x1 => (tb_lI [1, 9] 0 (nI i + 1) x1.2).bind fun z0 => (tb_on 22 70 x1.2 (fb_m_spare 70 z0 x1.2)).bind fun x2 => (if x1.1 = x2.1 then F x2.2 else G x2.2)) = F w2 := by
  obtain ⟨a, w1, w2, e1, e2, ⟨g1, g2, g3⟩, e4⟩ := (pu_k_spare (xs (i + 1))) w h
  refine ⟨w2, e4, ?_⟩
  simp only [pu_lI9 h.1 h.2.1 (show nI i + 1 = nI (i + 1) from pu_Rn i 1 rfl) (show i + 1 < N by omega) hN, pu_onw h21, e1, Option.bind_some, pu_lI9 g1 g2 (show nI i + 1 = nI (i + 1) from pu_Rn i 1 rfl) (show i + 1 < N by omega) hN, pu_onw g3, e2, ↓reduceIte]
theorem pu_g_needed {w : tb_Hp} (h : pu_INV N xs w) (h21 : w.1[1]? = some (21, 12)) (hN : N ≤ 100000) {i : Nat} (hi : i + 6 ≤ N) (F G : tb_Hp → Option (Int32 × tb_Hp)) : ∃ w2, pu_INV N xs w2 ∧ ( (tb_on 21 1 w (fb_x_needed 1  w)).bind fun x1 =>  (tb_on 22 70 x1.2 (fb_m_needed 70  x1.2)).bind fun x2 => (if x1.1 = x2.1 then F x2.2 else G x2.2)) = F w2 := by
  obtain ⟨a, w1, w2, e1, e2, ⟨g1, g2, g3⟩, e4⟩ := (pu_k_needed) w h
  refine ⟨w2, e4, ?_⟩
  simp only [pu_onw h21, e1, Option.bind_some, pu_onw g3, e2, ↓reduceIte]
theorem pu_g_fewest {w : tb_Hp} (h : pu_INV N xs w) (h21 : w.1[1]? = some (21, 12)) (hN : N ≤ 100000) {i : Nat} (hi : i + 6 ≤ N) (F G : tb_Hp → Option (Int32 × tb_Hp)) : ∃ w2, pu_INV N xs w2 ∧ ((tb_lI [1, 9] 0 (nI i + 1) w).bind fun y0 => (tb_lI [1, 9] 0 (nI i + 2) w).bind fun y1 => (tb_on 21 1 w (fb_x_fewest 1 y0 y1 w)).bind fun x1 => (tb_lI [1, 9] 0 (nI i + 1) x1.2).bind fun z0 => (tb_lI [1, 9] 0 (nI i + 2) x1.2).bind fun z1 => (tb_on 22 70 x1.2 (fb_m_fewest 70 z0 z1 x1.2)).bind fun x2 => (if x1.1 = x2.1 then F x2.2 else G x2.2)) = F w2 := by
  obtain ⟨a, w1, w2, e1, e2, ⟨g1, g2, g3⟩, e4⟩ := (pu_k_fewest (xs (i + 1)) (xs (i + 2))) w h
  refine ⟨w2, e4, ?_⟩
  simp only [pu_lI9 h.1 h.2.1 (show nI i + 1 = nI (i + 1) from pu_Rn i 1 rfl) (show i + 1 < N by omega) hN, pu_lI9 h.1 h.2.1 (show nI i + 2 = nI (i + 2) from pu_Rn i 2 rfl) (show i + 2 < N by omega) hN, pu_onw h21, e1, Option.bind_some, pu_lI9 g1 g2 (show nI i + 1 = nI (i + 1) from pu_Rn i 1 rfl) (show i + 1 < N by omega) hN, pu_lI9 g1 g2 (show nI i + 2 = nI (i + 2) from pu_Rn i 2 rfl) (show i + 2 < N by omega) hN, pu_onw g3, e2, ↓reduceIte]
theorem pu_g_down {w : tb_Hp} (h : pu_INV N xs w) (h21 : w.1[1]? = some (21, 12)) (hN : N ≤ 100000) {i : Nat} (hi : i + 6 ≤ N) (F G : tb_Hp → Option (Int32 × tb_Hp)) : ∃ w2, pu_INV N xs w2 ∧ ((tb_lI [1, 9] 0 (nI i + 1) w).bind fun y0 => (tb_on 21 1 w (fb_x_down 1 y0 w)).bind fun x1 => (tb_lI [1, 9] 0 (nI i + 1) x1.2).bind fun z0 => (tb_on 22 70 x1.2 (fb_m_down 70 z0 x1.2)).bind fun x2 => (if x1.1 = x2.1 then F x2.2 else G x2.2)) = F w2 := by
  obtain ⟨a, w1, w2, e1, e2, ⟨g1, g2, g3⟩, e4⟩ := (pu_k_down (xs (i + 1))) w h
  refine ⟨w2, e4, ?_⟩
  simp only [pu_lI9 h.1 h.2.1 (show nI i + 1 = nI (i + 1) from pu_Rn i 1 rfl) (show i + 1 < N by omega) hN, pu_onw h21, e1, Option.bind_some, pu_lI9 g1 g2 (show nI i + 1 = nI (i + 1) from pu_Rn i 1 rfl) (show i + 1 < N by omega) hN, pu_onw g3, e2, ↓reduceIte]
theorem pu_g_byThese {w : tb_Hp} (h : pu_INV N xs w) (h21 : w.1[1]? = some (21, 12)) (hN : N ≤ 100000) {i : Nat} (hi : i + 6 ≤ N) (F G : tb_Hp → Option (Int32 × tb_Hp)) : ∃ w2, pu_INV N xs w2 ∧ ((tb_lI [1, 9] 0 (nI i + 1) w).bind fun y0 => (tb_on 21 1 w (fb_x_byThese 1 y0 w)).bind fun x1 => (tb_lI [1, 9] 0 (nI i + 1) x1.2).bind fun z0 => (tb_on 22 70 x1.2 (fb_m_byThese 70 z0 x1.2)).bind fun x2 => (if x1.1 = x2.1 then F x2.2 else G x2.2)) = F w2 := by
  obtain ⟨a, w1, w2, e1, e2, ⟨g1, g2, g3⟩, e4⟩ := (pu_k_byThese (xs (i + 1))) w h
  refine ⟨w2, e4, ?_⟩
  simp only [pu_lI9 h.1 h.2.1 (show nI i + 1 = nI (i + 1) from pu_Rn i 1 rfl) (show i + 1 < N by omega) hN, pu_onw h21, e1, Option.bind_some, pu_lI9 g1 g2 (show nI i + 1 = nI (i + 1) from pu_Rn i 1 rfl) (show i + 1 < N by omega) hN, pu_onw g3, e2, ↓reduceIte]
theorem pu_g_way {w : tb_Hp} (h : pu_INV N xs w) (h21 : w.1[1]? = some (21, 12)) (hN : N ≤ 100000) {i : Nat} (hi : i + 6 ≤ N) (F G : tb_Hp → Option (Int32 × tb_Hp)) : ∃ w2, pu_INV N xs w2 ∧ ((tb_lI [1, 9] 0 (nI i + 1) w).bind fun y0 => (tb_lI [1, 9] 0 (nI i + 2) w).bind fun y1 => (tb_on 21 1 w (fb_x_way 1 y0 y1 w)).bind fun x1 => (tb_lI [1, 9] 0 (nI i + 1) x1.2).bind fun z0 => (tb_lI [1, 9] 0 (nI i + 2) x1.2).bind fun z1 => (tb_on 22 70 x1.2 (fb_m_way 70 z0 z1 x1.2)).bind fun x2 => (if x1.1 = x2.1 then F x2.2 else G x2.2)) = F w2 := by
  obtain ⟨a, w1, w2, e1, e2, ⟨g1, g2, g3⟩, e4⟩ := (pu_k_way (xs (i + 1)) (xs (i + 2))) w h
  refine ⟨w2, e4, ?_⟩
  simp only [pu_lI9 h.1 h.2.1 (show nI i + 1 = nI (i + 1) from pu_Rn i 1 rfl) (show i + 1 < N by omega) hN, pu_lI9 h.1 h.2.1 (show nI i + 2 = nI (i + 2) from pu_Rn i 2 rfl) (show i + 2 < N by omega) hN, pu_onw h21, e1, Option.bind_some, pu_lI9 g1 g2 (show nI i + 1 = nI (i + 1) from pu_Rn i 1 rfl) (show i + 1 < N by omega) hN, pu_lI9 g1 g2 (show nI i + 2 = nI (i + 2) from pu_Rn i 2 rfl) (show i + 2 < N by omega) hN, pu_onw g3, e2, ↓reduceIte]
theorem pu_g_blocks {w : tb_Hp} (h : pu_INV N xs w) (h21 : w.1[1]? = some (21, 12)) (hN : N ≤ 100000) {i : Nat} (hi : i + 6 ≤ N) (F G : tb_Hp → Option (Int32 × tb_Hp)) : ∃ w2, pu_INV N xs w2 ∧ ((tb_lI [1, 9] 0 (nI i + 1) w).bind fun y0 => (tb_on 21 1 w (fb_x_blocks 1 y0 w)).bind fun x1 => (tb_lI [1, 9] 0 (nI i + 1) x1.2).bind fun z0 => (tb_on 22 70 x1.2 (fb_m_blocks 70 z0 x1.2)).bind fun x2 => (if x1.1 = x2.1 then F x2.2 else G x2.2)) = F w2 := by
  obtain ⟨a, w1, w2, e1, e2, ⟨g1, g2, g3⟩, e4⟩ := (pu_k_blocks (xs (i + 1))) w h
  refine ⟨w2, e4, ?_⟩
  simp only [pu_lI9 h.1 h.2.1 (show nI i + 1 = nI (i + 1) from pu_Rn i 1 rfl) (show i + 1 < N by omega) hN, pu_onw h21, e1, Option.bind_some, pu_lI9 g1 g2 (show nI i + 1 = nI (i + 1) from pu_Rn i 1 rfl) (show i + 1 < N by omega) hN, pu_onw g3, e2, ↓reduceIte]
theorem pu_g_propped {w : tb_Hp} (h : pu_INV N xs w) (h21 : w.1[1]? = some (21, 12)) (hN : N ≤ 100000) {i : Nat} (hi : i + 6 ≤ N) (F G : tb_Hp → Option (Int32 × tb_Hp)) : ∃ w2, pu_INV N xs w2 ∧ ((tb_lI [1, 9] 0 (nI i + 1) w).bind fun y0 => (tb_lI [1, 9] 0 (nI i + 2) w).bind fun y1 => (tb_on 21 1 w (fb_x_propped 1 y0 y1 w)).bind fun x1 => (tb_lI [1, 9] 0 (nI i + 1) x1.2).bind fun z0 => (tb_lI [1, 9] 0 (nI i + 2) x1.2).bind fun z1 => (tb_on 22 70 x1.2 (fb_m_propped 70 z0 z1 x1.2)).bind fun x2 => (if x1.1 = x2.1 then F x2.2 else G x2.2)) = F w2 := by
  obtain ⟨a, w1, w2, e1, e2, ⟨g1, g2, g3⟩, e4⟩ := (pu_k_propped (xs (i + 1)) (xs (i + 2))) w h
  refine ⟨w2, e4, ?_⟩
  simp only [pu_lI9 h.1 h.2.1 (show nI i + 1 = nI (i + 1) from pu_Rn i 1 rfl) (show i + 1 < N by omega) hN, pu_lI9 h.1 h.2.1 (show nI i + 2 = nI (i + 2) from pu_Rn i 2 rfl) (show i + 2 < N by omega) hN, pu_onw h21, e1, Option.bind_some, pu_lI9 g1 g2 (show nI i + 1 = nI (i + 1) from pu_Rn i 1 rfl) (show i + 1 < N by omega) hN, pu_lI9 g1 g2 (show nI i + 2 = nI (i + 2) from pu_Rn i 2 rfl) (show i + 2 < N by omega) hN, pu_onw g3, e2, ↓reduceIte]
theorem pu_g_marry {w : tb_Hp} (h : pu_INV N xs w) (h21 : w.1[1]? = some (21, 12)) (hN : N ≤ 100000) {i : Nat} (hi : i + 6 ≤ N) (F G : tb_Hp → Option (Int32 × tb_Hp)) : ∃ w2, pu_INV N xs w2 ∧ ((tb_lI [1, 9] 0 (nI i + 1) w).bind fun y0 => (tb_on 21 1 w (fb_x_marry 1 y0 w)).bind fun x1 => (tb_lI [1, 9] 0 (nI i + 1) x1.2).bind fun z0 => (tb_on 22 70 x1.2 (fb_m_marry 70 z0 x1.2)).bind fun x2 => (if x1.1 = x2.1 then F x2.2 else G x2.2)) = F w2 := by
  obtain ⟨a, w1, w2, e1, e2, ⟨g1, g2, g3⟩, e4⟩ := (pu_k_marry (xs (i + 1))) w h
  refine ⟨w2, e4, ?_⟩
  simp only [pu_lI9 h.1 h.2.1 (show nI i + 1 = nI (i + 1) from pu_Rn i 1 rfl) (show i + 1 < N by omega) hN, pu_onw h21, e1, Option.bind_some, pu_lI9 g1 g2 (show nI i + 1 = nI (i + 1) from pu_Rn i 1 rfl) (show i + 1 < N by omega) hN, pu_onw g3, e2, ↓reduceIte]
theorem pu_g_newLine {w : tb_Hp} (h : pu_INV N xs w) (h21 : w.1[1]? = some (21, 12)) (hN : N ≤ 100000) {i : Nat} (hi : i + 6 ≤ N) (F G : tb_Hp → Option (Int32 × tb_Hp)) : ∃ w2, pu_INV N xs w2 ∧ ((tb_lI [1, 9] 0 (nI i + 1) w).bind fun y0 => (tb_lI [1, 9] 0 (nI i + 2) w).bind fun y1 => (tb_lI [1, 9] 0 (nI i + 3) w).bind fun y2 => (tb_on 21 1 w (fb_x_newLine 1 y0 y1 y2 w)).bind fun x1 => (tb_lI [1, 9] 0 (nI i + 1) x1.2).bind fun z0 => (tb_lI [1, 9] 0 (nI i + 2) x1.2).bind fun z1 => (tb_lI [1, 9] 0 (nI i + 3) x1.2).bind fun z2 => (tb_on 22 70 x1.2 (fb_m_newLine 70 z0 z1 z2 x1.2)).bind fun x2 => (if x1.1 = x2.1 then F x2.2 else G x2.2)) = F w2 := by
  obtain ⟨a, w1, w2, e1, e2, ⟨g1, g2, g3⟩, e4⟩ := (pu_k_newLine (xs (i + 1)) (xs (i + 2)) (xs (i + 3))) w h
  refine ⟨w2, e4, ?_⟩
  simp only [pu_lI9 h.1 h.2.1 (show nI i + 1 = nI (i + 1) from pu_Rn i 1 rfl) (show i + 1 < N by omega) hN, pu_lI9 h.1 h.2.1 (show nI i + 2 = nI (i + 2) from pu_Rn i 2 rfl) (show i + 2 < N by omega) hN, pu_lI9 h.1 h.2.1 (show nI i + 3 = nI (i + 3) from pu_Rn i 3 rfl) (show i + 3 < N by omega) hN, pu_onw h21, e1, Option.bind_some, pu_lI9 g1 g2 (show nI i + 1 = nI (i + 1) from pu_Rn i 1 rfl) (show i + 1 < N by omega) hN, pu_lI9 g1 g2 (show nI i + 2 = nI (i + 2) from pu_Rn i 2 rfl) (show i + 2 < N by omega) hN, pu_lI9 g1 g2 (show nI i + 3 = nI (i + 3) from pu_Rn i 3 rfl) (show i + 3 < N by omega) hN, pu_onw g3, e2, ↓reduceIte]
theorem pu_g_pulled {w : tb_Hp} (h : pu_INV N xs w) (h21 : w.1[1]? = some (21, 12)) (hN : N ≤ 100000) {i : Nat} (hi : i + 6 ≤ N) (F G : tb_Hp → Option (Int32 × tb_Hp)) : ∃ w2, pu_INV N xs w2 ∧ ((tb_lI [1, 9] 0 (nI i + 1) w).bind fun y0 => (tb_lI [1, 9] 0 (nI i + 2) w).bind fun y1 => (tb_on 21 1 w (fb_x_pulled 1 y0 y1 w)).bind fun x1 => (tb_lI [1, 9] 0 (nI i + 1) x1.2).bind fun z0 => (tb_lI [1, 9] 0 (nI i + 2) x1.2).bind fun z1 => (tb_on 22 70 x1.2 (fb_m_pulled 70 z0 z1 x1.2)).bind fun x2 => (if x1.1 = x2.1 then F x2.2 else G x2.2)) = F w2 := by
  obtain ⟨a, w1, w2, e1, e2, ⟨g1, g2, g3⟩, e4⟩ := (pu_k_pulled (xs (i + 1)) (xs (i + 2))) w h
  refine ⟨w2, e4, ?_⟩
  simp only [pu_lI9 h.1 h.2.1 (show nI i + 1 = nI (i + 1) from pu_Rn i 1 rfl) (show i + 1 < N by omega) hN, pu_lI9 h.1 h.2.1 (show nI i + 2 = nI (i + 2) from pu_Rn i 2 rfl) (show i + 2 < N by omega) hN, pu_onw h21, e1, Option.bind_some, pu_lI9 g1 g2 (show nI i + 1 = nI (i + 1) from pu_Rn i 1 rfl) (show i + 1 < N by omega) hN, pu_lI9 g1 g2 (show nI i + 2 = nI (i + 2) from pu_Rn i 2 rfl) (show i + 2 < N by omega) hN, pu_onw g3, e2, ↓reduceIte]
theorem pu_g_rests {w : tb_Hp} (h : pu_INV N xs w) (h21 : w.1[1]? = some (21, 12)) (hN : N ≤ 100000) {i : Nat} (hi : i + 6 ≤ N) (F G : tb_Hp → Option (Int32 × tb_Hp)) : ∃ w2, pu_INV N xs w2 ∧ ((tb_lI [1, 9] 0 (nI i + 1) w).bind fun y0 => (tb_lI [1, 9] 0 (nI i + 2) w).bind fun y1 => (tb_lI [1, 9] 0 (nI i + 3) w).bind fun y2 => (tb_lI [1, 9] 0 (nI i + 4) w).bind fun y3 => (tb_on 21 1 w (fb_x_rests 1 y0 y1 y2 y3 w)).bind fun x1 => (tb_lI [1, 9] 0 (nI i + 1) x1.2).bind fun z0 => (tb_lI [1, 9] 0 (nI i + 2) x1.2).bind fun z1 => (tb_lI [1, 9] 0 (nI i + 3) x1.2).bind fun z2 => (tb_lI [1, 9] 0 (nI i + 4) x1.2).bind fun z3 => (tb_on 22 70 x1.2 (fb_m_rests 70 z0 z1 z2 z3 x1.2)).bind fun x2 => (if x1.1 = x2.1 then F x2.2 else G x2.2)) = F w2 := by
  obtain ⟨a, w1, w2, e1, e2, ⟨g1, g2, g3⟩, e4⟩ := (pu_k_rests (xs (i + 1)) (xs (i + 2)) (xs (i + 3)) (xs (i + 4))) w h
  refine ⟨w2, e4, ?_⟩
  simp only [pu_lI9 h.1 h.2.1 (show nI i + 1 = nI (i + 1) from pu_Rn i 1 rfl) (show i + 1 < N by omega) hN, pu_lI9 h.1 h.2.1 (show nI i + 2 = nI (i + 2) from pu_Rn i 2 rfl) (show i + 2 < N by omega) hN, pu_lI9 h.1 h.2.1 (show nI i + 3 = nI (i + 3) from pu_Rn i 3 rfl) (show i + 3 < N by omega) hN, pu_lI9 h.1 h.2.1 (show nI i + 4 = nI (i + 4) from pu_Rn i 4 rfl) (show i + 4 < N by omega) hN, pu_onw h21, e1, Option.bind_some, pu_lI9 g1 g2 (show nI i + 1 = nI (i + 1) from pu_Rn i 1 rfl) (show i + 1 < N by omega) hN, pu_lI9 g1 g2 (show nI i + 2 = nI (i + 2) from pu_Rn i 2 rfl) (show i + 2 < N by omega) hN, pu_lI9 g1 g2 (show nI i + 3 = nI (i + 3) from pu_Rn i 3 rfl) (show i + 3 < N by omega) hN, pu_lI9 g1 g2 (show nI i + 4 = nI (i + 4) from pu_Rn i 4 rfl) (show i + 4 < N by omega) hN, pu_onw g3, e2, ↓reduceIte]
theorem pu_g_pence {w : tb_Hp} (h : pu_INV N xs w) (h21 : w.1[1]? = some (21, 12)) (hN : N ≤ 100000) {i : Nat} (hi : i + 6 ≤ N) (F G : tb_Hp → Option (Int32 × tb_Hp)) : ∃ w2, pu_INV N xs w2 ∧ ((tb_lI [1, 9] 0 (nI i + 1) w).bind fun y0 => (tb_lI [1, 9] 0 (nI i + 2) w).bind fun y1 => (tb_on 21 1 w (fb_x_pence 1 y0 y1 w)).bind fun x1 => (tb_lI [1, 9] 0 (nI i + 1) x1.2).bind fun z0 => (tb_lI [1, 9] 0 (nI i + 2) x1.2).bind fun z1 => (tb_on 22 70 x1.2 (fb_m_pence 70 z0 z1 x1.2)).bind fun x2 => (if x1.1 = x2.1 then F x2.2 else G x2.2)) = F w2 := by
  obtain ⟨a, w1, w2, e1, e2, ⟨g1, g2, g3⟩, e4⟩ := (pu_k_pence (xs (i + 1)) (xs (i + 2))) w h
  refine ⟨w2, e4, ?_⟩
  simp only [pu_lI9 h.1 h.2.1 (show nI i + 1 = nI (i + 1) from pu_Rn i 1 rfl) (show i + 1 < N by omega) hN, pu_lI9 h.1 h.2.1 (show nI i + 2 = nI (i + 2) from pu_Rn i 2 rfl) (show i + 2 < N by omega) hN, pu_onw h21, e1, Option.bind_some, pu_lI9 g1 g2 (show nI i + 1 = nI (i + 1) from pu_Rn i 1 rfl) (show i + 1 < N by omega) hN, pu_lI9 g1 g2 (show nI i + 2 = nI (i + 2) from pu_Rn i 2 rfl) (show i + 2 < N by omega) hN, pu_onw g3, e2, ↓reduceIte]
theorem pu_g_note {w : tb_Hp} (h : pu_INV N xs w) (h21 : w.1[1]? = some (21, 12)) (hN : N ≤ 100000) {i : Nat} (hi : i + 6 ≤ N) (F G : tb_Hp → Option (Int32 × tb_Hp)) : ∃ w2, pu_INV N xs w2 ∧ ((tb_lI [1, 9] 0 (nI i + 1) w).bind fun y0 => (tb_lI [1, 9] 0 (nI i + 2) w).bind fun y1 => (tb_lI [1, 9] 0 (nI i + 3) w).bind fun y2 => (tb_on 21 1 w (fb_x_note 1 y0 y1 y2 w)).bind fun x1 => (tb_lI [1, 9] 0 (nI i + 1) x1.2).bind fun z0 => (tb_lI [1, 9] 0 (nI i + 2) x1.2).bind fun z1 => (tb_lI [1, 9] 0 (nI i + 3) x1.2).bind fun z2 => (tb_on 22 70 x1.2 (fb_m_note 70 z0 z1 z2 x1.2)).bind fun x2 => (if x1.1 = x2.1 then F x2.2 else G x2.2)) = F w2 := by
  obtain ⟨a, w1, w2, e1, e2, ⟨g1, g2, g3⟩, e4⟩ := (pu_k_note (xs (i + 1)) (xs (i + 2)) (xs (i + 3))) w h
  refine ⟨w2, e4, ?_⟩
  simp only [pu_lI9 h.1 h.2.1 (show nI i + 1 = nI (i + 1) from pu_Rn i 1 rfl) (show i + 1 < N by omega) hN, pu_lI9 h.1 h.2.1 (show nI i + 2 = nI (i + 2) from pu_Rn i 2 rfl) (show i + 2 < N by omega) hN, pu_lI9 h.1 h.2.1 (show nI i + 3 = nI (i + 3) from pu_Rn i 3 rfl) (show i + 3 < N by omega) hN, pu_onw h21, e1, Option.bind_some, pu_lI9 g1 g2 (show nI i + 1 = nI (i + 1) from pu_Rn i 1 rfl) (show i + 1 < N by omega) hN, pu_lI9 g1 g2 (show nI i + 2 = nI (i + 2) from pu_Rn i 2 rfl) (show i + 2 < N by omega) hN, pu_lI9 g1 g2 (show nI i + 3 = nI (i + 3) from pu_Rn i 3 rfl) (show i + 3 < N by omega) hN, pu_onw g3, e2, ↓reduceIte]
theorem pu_g_ruled {w : tb_Hp} (h : pu_INV N xs w) (h21 : w.1[1]? = some (21, 12)) (hN : N ≤ 100000) {i : Nat} (hi : i + 6 ≤ N) (F G : tb_Hp → Option (Int32 × tb_Hp)) : ∃ w2, pu_INV N xs w2 ∧ ((tb_lI [1, 9] 0 (nI i + 1) w).bind fun y0 => (tb_on 21 1 w (fb_x_ruled 1 y0 w)).bind fun x1 => (tb_lI [1, 9] 0 (nI i + 1) x1.2).bind fun z0 => (tb_on 22 70 x1.2 (fb_m_ruled 70 z0 x1.2)).bind fun x2 => (if x1.1 = x2.1 then F x2.2 else G x2.2)) = F w2 := by
  obtain ⟨a, w1, w2, e1, e2, ⟨g1, g2, g3⟩, e4⟩ := (pu_k_ruled (xs (i + 1))) w h
  refine ⟨w2, e4, ?_⟩
  simp only [pu_lI9 h.1 h.2.1 (show nI i + 1 = nI (i + 1) from pu_Rn i 1 rfl) (show i + 1 < N by omega) hN, pu_onw h21, e1, Option.bind_some, pu_lI9 g1 g2 (show nI i + 1 = nI (i + 1) from pu_Rn i 1 rfl) (show i + 1 < N by omega) hN, pu_onw g3, e2, ↓reduceIte]
theorem pu_g_look {w : tb_Hp} (h : pu_INV N xs w) (h21 : w.1[1]? = some (21, 12)) (hN : N ≤ 100000) {i : Nat} (hi : i + 6 ≤ N) (F G : tb_Hp → Option (Int32 × tb_Hp)) : ∃ w2, pu_INV N xs w2 ∧ ((tb_lI [1, 9] 0 (nI i + 1) w).bind fun y0 => (tb_lI [1, 9] 0 (nI i + 2) w).bind fun y1 => (tb_on 21 1 w (fb_x_look 1 y0 y1 w)).bind fun x1 => (tb_lI [1, 9] 0 (nI i + 1) x1.2).bind fun z0 => (tb_lI [1, 9] 0 (nI i + 2) x1.2).bind fun z1 => (tb_on 22 70 x1.2 (fb_m_look 70 z0 z1 x1.2)).bind fun x2 => (if x1.1 = x2.1 then F x2.2 else G x2.2)) = F w2 := by
  obtain ⟨a, w1, w2, e1, e2, ⟨g1, g2, g3⟩, e4⟩ := (pu_k_look (xs (i + 1)) (xs (i + 2))) w h
  refine ⟨w2, e4, ?_⟩
  simp only [pu_lI9 h.1 h.2.1 (show nI i + 1 = nI (i + 1) from pu_Rn i 1 rfl) (show i + 1 < N by omega) hN, pu_lI9 h.1 h.2.1 (show nI i + 2 = nI (i + 2) from pu_Rn i 2 rfl) (show i + 2 < N by omega) hN, pu_onw h21, e1, Option.bind_some, pu_lI9 g1 g2 (show nI i + 1 = nI (i + 1) from pu_Rn i 1 rfl) (show i + 1 < N by omega) hN, pu_lI9 g1 g2 (show nI i + 2 = nI (i + 2) from pu_Rn i 2 rfl) (show i + 2 < N by omega) hN, pu_onw g3, e2, ↓reduceIte]
theorem pu_g_seed {w : tb_Hp} (h : pu_INV N xs w) (h21 : w.1[1]? = some (21, 12)) (hN : N ≤ 100000) {i : Nat} (hi : i + 6 ≤ N) (F G : tb_Hp → Option (Int32 × tb_Hp)) : ∃ w2, pu_INV N xs w2 ∧ ((tb_lI [1, 9] 0 (nI i + 1) w).bind fun y0 => (tb_on 21 1 w (fb_x_seed 1 y0 w)).bind fun x1 => (tb_lI [1, 9] 0 (nI i + 1) x1.2).bind fun z0 => (tb_on 22 70 x1.2 (fb_m_seed 70 z0 x1.2)).bind fun x2 => (if x1.1 = x2.1 then F x2.2 else G x2.2)) = F w2 := by
  obtain ⟨a, w1, w2, e1, e2, ⟨g1, g2, g3⟩, e4⟩ := (pu_k_seed (xs (i + 1))) w h
  refine ⟨w2, e4, ?_⟩
  simp only [pu_lI9 h.1 h.2.1 (show nI i + 1 = nI (i + 1) from pu_Rn i 1 rfl) (show i + 1 < N by omega) hN, pu_onw h21, e1, Option.bind_some, pu_lI9 g1 g2 (show nI i + 1 = nI (i + 1) from pu_Rn i 1 rfl) (show i + 1 < N by omega) hN, pu_onw g3, e2, ↓reduceIte]
theorem pu_g_winters {w : tb_Hp} (h : pu_INV N xs w) (h21 : w.1[1]? = some (21, 12)) (hN : N ≤ 100000) {i : Nat} (hi : i + 6 ≤ N) (F G : tb_Hp → Option (Int32 × tb_Hp)) : ∃ w2, pu_INV N xs w2 ∧ ((tb_lI [1, 9] 0 (nI i + 1) w).bind fun y0 => (tb_lI [1, 9] 0 (nI i + 2) w).bind fun y1 => (tb_lI [1, 9] 0 (nI i + 3) w).bind fun y2 => (tb_lI [1, 9] 0 (nI i + 4) w).bind fun y3 => (tb_on 21 1 w (fb_x_winters 1 y0 y1 y2 y3 w)).bind fun x1 => (tb_lI [1, 9] 0 (nI i + 1) x1.2).bind fun z0 => (tb_lI [1, 9] 0 (nI i + 2) x1.2).bind fun z1 => (tb_lI [1, 9] 0 (nI i + 3) x1.2).bind fun z2 => (tb_lI [1, 9] 0 (nI i + 4) x1.2).bind fun z3 => (tb_on 22 70 x1.2 (fb_m_winters 70 z0 z1 z2 z3 x1.2)).bind fun x2 => (if x1.1 = x2.1 then F x2.2 else G x2.2)) = F w2 := by
  obtain ⟨a, w1, w2, e1, e2, ⟨g1, g2, g3⟩, e4⟩ := (pu_k_winters (xs (i + 1)) (xs (i + 2)) (xs (i + 3)) (xs (i + 4))) w h
  refine ⟨w2, e4, ?_⟩
  simp only [pu_lI9 h.1 h.2.1 (show nI i + 1 = nI (i + 1) from pu_Rn i 1 rfl) (show i + 1 < N by omega) hN, pu_lI9 h.1 h.2.1 (show nI i + 2 = nI (i + 2) from pu_Rn i 2 rfl) (show i + 2 < N by omega) hN, pu_lI9 h.1 h.2.1 (show nI i + 3 = nI (i + 3) from pu_Rn i 3 rfl) (show i + 3 < N by omega) hN, pu_lI9 h.1 h.2.1 (show nI i + 4 = nI (i + 4) from pu_Rn i 4 rfl) (show i + 4 < N by omega) hN, pu_onw h21, e1, Option.bind_some, pu_lI9 g1 g2 (show nI i + 1 = nI (i + 1) from pu_Rn i 1 rfl) (show i + 1 < N by omega) hN, pu_lI9 g1 g2 (show nI i + 2 = nI (i + 2) from pu_Rn i 2 rfl) (show i + 2 < N by omega) hN, pu_lI9 g1 g2 (show nI i + 3 = nI (i + 3) from pu_Rn i 3 rfl) (show i + 3 < N by omega) hN, pu_lI9 g1 g2 (show nI i + 4 = nI (i + 4) from pu_Rn i 4 rfl) (show i + 4 < N by omega) hN, pu_onw g3, e2, ↓reduceIte]
theorem pu_g_count {w : tb_Hp} (h : pu_INV N xs w) (h21 : w.1[1]? = some (21, 12)) (hN : N ≤ 100000) {i : Nat} (hi : i + 6 ≤ N) (F G : tb_Hp → Option (Int32 × tb_Hp)) : ∃ w2, pu_INV N xs w2 ∧ ((tb_lI [1, 9] 0 (nI i + 1) w).bind fun y0 => (tb_on 21 1 w (fb_x_count 1 y0 w)).bind fun x1 => (tb_lI [1, 9] 0 (nI i + 1) x1.2).bind fun z0 => (tb_on 22 70 x1.2 (fb_m_count 70 z0 x1.2)).bind fun x2 => (if x1.1 = x2.1 then F x2.2 else G x2.2)) = F w2 := by
  obtain ⟨a, w1, w2, e1, e2, ⟨g1, g2, g3⟩, e4⟩ := (pu_k_count (xs (i + 1))) w h
  refine ⟨w2, e4, ?_⟩
  simp only [pu_lI9 h.1 h.2.1 (show nI i + 1 = nI (i + 1) from pu_Rn i 1 rfl) (show i + 1 < N by omega) hN, pu_onw h21, e1, Option.bind_some, pu_lI9 g1 g2 (show nI i + 1 = nI (i + 1) from pu_Rn i 1 rfl) (show i + 1 < N by omega) hN, pu_onw g3, e2, ↓reduceIte]
theorem pu_g_image {w : tb_Hp} (h : pu_INV N xs w) (h21 : w.1[1]? = some (21, 12)) (hN : N ≤ 100000) {i : Nat} (hi : i + 6 ≤ N) (F G : tb_Hp → Option (Int32 × tb_Hp)) : ∃ w2, pu_INV N xs w2 ∧ ((tb_lI [1, 9] 0 (nI i + 1) w).bind fun y0 => (tb_on 21 1 w (fb_x_image 1 y0 w)).bind fun x1 => (tb_lI [1, 9] 0 (nI i + 1) x1.2).bind fun z0 => (tb_on 22 70 x1.2 (fb_m_image 70 z0 x1.2)).bind fun x2 => (if x1.1 = x2.1 then F x2.2 else G x2.2)) = F w2 := by
  obtain ⟨a, w1, w2, e1, e2, ⟨g1, g2, g3⟩, e4⟩ := (pu_k_image (xs (i + 1))) w h
  refine ⟨w2, e4, ?_⟩
  simp only [pu_lI9 h.1 h.2.1 (show nI i + 1 = nI (i + 1) from pu_Rn i 1 rfl) (show i + 1 < N by omega) hN, pu_onw h21, e1, Option.bind_some, pu_lI9 g1 g2 (show nI i + 1 = nI (i + 1) from pu_Rn i 1 rfl) (show i + 1 < N by omega) hN, pu_onw g3, e2, ↓reduceIte]
theorem pu_g_back {w : tb_Hp} (h : pu_INV N xs w) (h21 : w.1[1]? = some (21, 12)) (hN : N ≤ 100000) {i : Nat} (hi : i + 6 ≤ N) (F G : tb_Hp → Option (Int32 × tb_Hp)) : ∃ w2, pu_INV N xs w2 ∧ ((tb_lI [1, 9] 0 (nI i + 1) w).bind fun y0 => (tb_on 21 1 w (fb_x_back 1 y0 w)).bind fun x1 => (tb_lI [1, 9] 0 (nI i + 1) x1.2).bind fun z0 => (tb_on 22 70 x1.2 (fb_m_back 70 z0 x1.2)).bind fun x2 => (if x1.1 = x2.1 then F x2.2 else G x2.2)) = F w2 := by
  obtain ⟨a, w1, w2, e1, e2, ⟨g1, g2, g3⟩, e4⟩ := (pu_k_back (xs (i + 1))) w h
  refine ⟨w2, e4, ?_⟩
  simp only [pu_lI9 h.1 h.2.1 (show nI i + 1 = nI (i + 1) from pu_Rn i 1 rfl) (show i + 1 < N by omega) hN, pu_onw h21, e1, Option.bind_some, pu_lI9 g1 g2 (show nI i + 1 = nI (i + 1) from pu_Rn i 1 rfl) (show i + 1 < N by omega) hN, pu_onw g3, e2, ↓reduceIte]
theorem pu_law_one (hst : pu_Step N xs (fb_x_street 1) (fb_m_street 70)) (hru : pu_Step N xs (fb_x_rule 1) (fb_m_rule 70)) {w : tb_Hp} (h : pu_INV N xs w) (hN : N ≤ 100000) {i n : Nat} (hi : i + 6 ≤ N) : ∃ w2, pu_INV N xs w2 ∧ fl_lw_law_10 (n + 1) 0 1 70 (nI i) w = fl_lw_law_10 n 0 1 70 (nI (i + 6)) w2 := by
  have h21 : w.1[1]? = some (21, 12) := by
    obtain ⟨_, _, own, A, T, nn, L, j, tl, rs, H⟩ := h
    exact pu_c1 H.hX
  have e6 : nI N - 6 = nI (N - 6) := pu_sub (b := 6) (by omega)
  rw [← show nI i + 6 = nI (i + 6) from nI_add i 6, fl_lw_law_10.eq_2]
  simp only [pu_al9 h.1, Option.bind_some, e6, pu_leI (show i < 2147483648 by omega) (show N - 6 < 2147483648 by omega), show i ≤ N - 6 by omega, ↓reduceIte, pu_lI9 h.1 h.2.1 rfl (show i < N by omega) hN]
  by_cases c0 : (xs i &&& 63) = 0
  · rw [if_pos c0]
    exact pu_g_feed h h21 hN hi (fun y => fl_lw_law_10 n 0 1 70 (nI i + 6) y) _
  rw [if_neg c0]
  by_cases c1 : (xs i &&& 63) = 1
  · rw [if_pos c1]
    exact pu_g_end h h21 hN hi (fun y => fl_lw_law_10 n 0 1 70 (nI i + 6) y) _
  rw [if_neg c1]
  by_cases c2 : (xs i &&& 63) = 2
  · rw [if_pos c2]
    exact pu_g_street hst h h21 hN hi (fun y => fl_lw_law_10 n 0 1 70 (nI i + 6) y) _
  rw [if_neg c2]
  by_cases c3 : (xs i &&& 63) = 3
  · rw [if_pos c3]
    exact pu_g_rule hru h h21 hN hi (fun y => fl_lw_law_10 n 0 1 70 (nI i + 6) y) _
  rw [if_neg c3]
  by_cases c4 : (xs i &&& 63) = 4
  · rw [if_pos c4]
    exact pu_g_force h h21 hN hi (fun y => fl_lw_law_10 n 0 1 70 (nI i + 6) y) _
  rw [if_neg c4]
  by_cases c5 : (xs i &&& 63) = 5
  · rw [if_pos c5]
    exact pu_g_house h h21 hN hi (fun y => fl_lw_law_10 n 0 1 70 (nI i + 6) y) _
  rw [if_neg c5]
  by_cases c6 : (xs i &&& 63) = 6
  · rw [if_pos c6]
    exact pu_g_line h h21 hN hi (fun y => fl_lw_law_10 n 0 1 70 (nI i + 6) y) _
  rw [if_neg c6]
  by_cases c7 : (xs i &&& 63) = 7
  · rw [if_pos c7]
    exact pu_g_year h h21 hN hi (fun y => fl_lw_law_10 n 0 1 70 (nI i + 6) y) _
  rw [if_neg c7]
  by_cases c8 : (xs i &&& 63) = 8
  · rw [if_pos c8]
    exact pu_g_tighten h h21 hN hi (fun y => fl_lw_law_10 n 0 1 70 (nI i + 6) y) _
  rw [if_neg c8]
  by_cases c9 : (xs i &&& 63) = 9
  · rw [if_pos c9]
    exact pu_g_cut h h21 hN hi (fun y => fl_lw_law_10 n 0 1 70 (nI i + 6) y) _
  rw [if_neg c9]
  by_cases c10 : (xs i &&& 63) = 10
  · rw [if_pos c10]
    exact pu_g_hang h h21 hN hi (fun y => fl_lw_law_10 n 0 1 70 (nI i + 6) y) _
  rw [if_neg c10]
  by_cases c11 : (xs i &&& 63) = 11
  · rw [if_pos c11]
    exact pu_g_prop h h21 hN hi (fun y => fl_lw_law_10 n 0 1 70 (nI i + 6) y) _
  rw [if_neg c11]
  by_cases c12 : (xs i &&& 63) = 12
  · rw [if_pos c12]
    exact pu_g_undo h h21 hN hi (fun y => fl_lw_law_10 n 0 1 70 (nI i + 6) y) _
  rw [if_neg c12]
  by_cases c13 : (xs i &&& 63) = 13
  · rw [if_pos c13]
    exact pu_g_ahead h h21 hN hi (fun y => fl_lw_law_10 n 0 1 70 (nI i + 6) y) _
  rw [if_neg c13]
  by_cases c14 : (xs i &&& 63) = 14
  · rw [if_pos c14]
    exact pu_g_falls h h21 hN hi (fun y => fl_lw_law_10 n 0 1 70 (nI i + 6) y) _
  rw [if_neg c14]
  by_cases c15 : (xs i &&& 63) = 15
  · rw [if_pos c15]
    exact pu_g_lasts h h21 hN hi (fun y => fl_lw_law_10 n 0 1 70 (nI i + 6) y) _
  rw [if_neg c15]
  by_cases c16 : (xs i &&& 63) = 16
  · rw [if_pos c16]
    exact pu_g_spare h h21 hN hi (fun y => fl_lw_law_10 n 0 1 70 (nI i + 6) y) _
  rw [if_neg c16]
  by_cases c17 : (xs i &&& 63) = 17
  · rw [if_pos c17]
    exact pu_g_needed h h21 hN hi (fun y => fl_lw_law_10 n 0 1 70 (nI i + 6) y) _
  rw [if_neg c17]
  by_cases c18 : (xs i &&& 63) = 18
  · rw [if_pos c18]
    exact pu_g_fewest h h21 hN hi (fun y => fl_lw_law_10 n 0 1 70 (nI i + 6) y) _
  rw [if_neg c18]
  by_cases c19 : (xs i &&& 63) = 19
  · rw [if_pos c19]
    exact pu_g_down h h21 hN hi (fun y => fl_lw_law_10 n 0 1 70 (nI i + 6) y) _
  rw [if_neg c19]
  by_cases c20 : (xs i &&& 63) = 20
  · rw [if_pos c20]
    exact pu_g_byThese h h21 hN hi (fun y => fl_lw_law_10 n 0 1 70 (nI i + 6) y) _
  rw [if_neg c20]
  by_cases c21 : (xs i &&& 63) = 21
  · rw [if_pos c21]
    exact pu_g_way h h21 hN hi (fun y => fl_lw_law_10 n 0 1 70 (nI i + 6) y) _
  rw [if_neg c21]
  by_cases c22 : (xs i &&& 63) = 22
  · rw [if_pos c22]
    exact pu_g_blocks h h21 hN hi (fun y => fl_lw_law_10 n 0 1 70 (nI i + 6) y) _
  rw [if_neg c22]
  by_cases c23 : (xs i &&& 63) = 23
  · rw [if_pos c23]
    exact pu_g_propped h h21 hN hi (fun y => fl_lw_law_10 n 0 1 70 (nI i + 6) y) _
  rw [if_neg c23]
  by_cases c24 : (xs i &&& 63) = 24
  · rw [if_pos c24]
    exact pu_g_marry h h21 hN hi (fun y => fl_lw_law_10 n 0 1 70 (nI i + 6) y) _
  rw [if_neg c24]
  by_cases c25 : (xs i &&& 63) = 25
  · rw [if_pos c25]
    exact pu_g_newLine h h21 hN hi (fun y => fl_lw_law_10 n 0 1 70 (nI i + 6) y) _
  rw [if_neg c25]
  by_cases c26 : (xs i &&& 63) = 26
  · rw [if_pos c26]
    exact pu_g_pulled h h21 hN hi (fun y => fl_lw_law_10 n 0 1 70 (nI i + 6) y) _
  rw [if_neg c26]
  by_cases c27 : (xs i &&& 63) = 27
  · rw [if_pos c27]
    exact pu_g_rests h h21 hN hi (fun y => fl_lw_law_10 n 0 1 70 (nI i + 6) y) _
  rw [if_neg c27]
  by_cases c28 : (xs i &&& 63) = 28
  · rw [if_pos c28]
    exact pu_g_pence h h21 hN hi (fun y => fl_lw_law_10 n 0 1 70 (nI i + 6) y) _
  rw [if_neg c28]
  by_cases c29 : (xs i &&& 63) = 29
  · rw [if_pos c29]
    exact pu_g_note h h21 hN hi (fun y => fl_lw_law_10 n 0 1 70 (nI i + 6) y) _
  rw [if_neg c29]
  by_cases c30 : (xs i &&& 63) = 30
  · rw [if_pos c30]
    exact pu_g_ruled h h21 hN hi (fun y => fl_lw_law_10 n 0 1 70 (nI i + 6) y) _
  rw [if_neg c30]
  by_cases c31 : (xs i &&& 63) = 31
  · rw [if_pos c31]
    exact pu_g_look h h21 hN hi (fun y => fl_lw_law_10 n 0 1 70 (nI i + 6) y) _
  rw [if_neg c31]
  by_cases c32 : (xs i &&& 63) = 32
  · rw [if_pos c32]
    exact pu_g_seed h h21 hN hi (fun y => fl_lw_law_10 n 0 1 70 (nI i + 6) y) _
  rw [if_neg c32]
  by_cases c33 : (xs i &&& 63) = 33
  · rw [if_pos c33]
    exact pu_g_winters h h21 hN hi (fun y => fl_lw_law_10 n 0 1 70 (nI i + 6) y) _
  rw [if_neg c33]
  by_cases c34 : (xs i &&& 63) = 34
  · rw [if_pos c34]
    exact pu_g_count h h21 hN hi (fun y => fl_lw_law_10 n 0 1 70 (nI i + 6) y) _
  rw [if_neg c34]
  by_cases c35 : (xs i &&& 63) = 35
  · rw [if_pos c35]
    exact pu_g_image h h21 hN hi (fun y => fl_lw_law_10 n 0 1 70 (nI i + 6) y) _
  rw [if_neg c35]
  by_cases c36 : (xs i &&& 63) = 36
  · rw [if_pos c36]
    exact pu_g_back h h21 hN hi (fun y => fl_lw_law_10 n 0 1 70 (nI i + 6) y) _
  rw [if_neg c36]
  exact ⟨w, h, rfl⟩
theorem pu_law_l (hst : pu_Step N xs (fb_x_street 1) (fb_m_street 70)) (hru : pu_Step N xs (fb_x_rule 1) (fb_m_rule 70)) (hN : N ≤ 100000) : ∀ d i n w, N < i + 6 * d + 6 → i ≤ N + 6 → d < n → pu_INV N xs w → ∃ w2, pu_INV N xs w2 ∧ fl_lw_law_10 n 0 1 70 (nI i) w = some (1, w2) := by
  have stop : ∀ i n w, N < i + 6 → i ≤ N + 6 → pu_INV N xs w → fl_lw_law_10 (n + 1) 0 1 70 (nI i) w = some (1, w) := by
    intro i n w hi hi2 h
    have hc : ¬ nI i ≤ nI N - 6 := by
      intro hle
      by_cases h6 : 6 ≤ N
      · rw [show nI N - 6 = nI (N - 6) from pu_sub (b := 6) h6, pu_leI (by omega) (by omega)] at hle
        omega
      · have hneg : nI N - 6 < 0 := (by decide : ∀ N, N < 6 → nI N - 6 < 0) N (by omega)
        exact pu_lt0 (show i < 2147483648 by omega) (Int32.lt_of_le_of_lt hle hneg)
    rw [fl_lw_law_10.eq_2]
    simp only [pu_al9 h.1, Option.bind_some, hc, ↓reduceIte]
    rfl
  intro d
  induction d with
  | zero =>
    intro i n w hi hi2 hn h
    obtain ⟨n, rfl⟩ : ∃ z, n = z + 1 := ⟨n - 1, by omega⟩
    exact ⟨w, h, stop i n w (by omega) hi2 h⟩
  | succ d ih =>
    intro i n w hi hi2 hn h
    obtain ⟨n, rfl⟩ : ∃ z, n = z + 1 := ⟨n - 1, by omega⟩
    by_cases h6 : i + 6 ≤ N
    · obtain ⟨w2, a1, a2⟩ := pu_law_one (n := n) hst hru h hN h6
      obtain ⟨w3, b1, b2⟩ := ih (i + 6) n w2 (by omega) (by omega) (by omega) a1
      exact ⟨w3, b1, a2.trans b2⟩
    · exact ⟨w, h, stop i n w (by omega) hi2 h⟩
/-- the whole law, in the small machine's words -/
theorem pu_law (hst : pu_Step N xs (fb_x_street 1) (fb_m_street 70)) (hru : pu_Step N xs (fb_x_rule 1) (fb_m_rule 70)) (hN : N ≤ 3072) : ∃ w', fb_lw_law 0 (tb_w0 N xs) = some (1, w') ∧ w'.1.length ≤ 2000 ∧ tb_sum w' ≤ 200000 := by
  obtain ⟨w2, D, a1, a2, a3, a4⟩ := pu_made1 (N := N) (xs := xs)
  obtain ⟨w4, b1, b2, b3⟩ := pu_made2 a2 a4
  have inv := pu_begin hN b2 b3 (fun q hq => List.mem_append.mpr (Or.inr (a3 q hq))) (fun q hq => List.mem_append.mpr (Or.inl ((by decide : ∀ q ∈ [((70, 0), 71), ((70, 3), 72), ((70, 4), 73), ((70, 5), 74), ((70, 6), 75), ((70, 7), 76), ((70, 15), 77), ((70, 17), 78), ((70, 19), 79), ((70, 20), 80), ((70, 23), 81), ((70, 25), 82), ((70, 26), 83), ((70, 27), 84), ((70, 28), 85), ((70, 29), 86), ((70, 30), 87), ((70, 32), 88), ((70, 33), 89), ((70, 34), 90), ((70, 35), 91)], q ∈ [((70, 35), 91), ((70, 34), 90), ((70, 33), 89), ((70, 32), 88), ((70, 30), 87), ((70, 29), 86), ((70, 28), 85), ((70, 27), 84), ((70, 26), 83), ((70, 25), 82), ((70, 23), 81), ((70, 20), 80), ((70, 19), 79), ((70, 17), 78), ((70, 15), 77), ((70, 7), 76), ((70, 6), 75), ((70, 5), 74), ((70, 4), 73), ((70, 3), 72), ((70, 0), 71)]) q hq)))
  obtain ⟨w5, c1, c2⟩ := pu_law_l hst hru (by omega) N 0 1048576 w4 (by omega) (by omega) (by omega) inv
  rw [show nI 0 = 0 from rfl] at c2
  obtain ⟨_, _, own, A, T, nn, L, j, tl, rs, H⟩ := c1
  have hr := H.1.2.2
  unfold pu_RO at hr
  refine ⟨w5, ?_, by omega, ?_⟩
  · have hl := a2.len
    unfold fb_lw_law
    rw [show (tb_w0 N xs).1.length = 1 from rfl, a1]
    show (tb_on 22 w2.1.length (tb_new w2 22 36) (fb_m_init w2.1.length (tb_new w2 22 36))).bind _ = _
    rw [hl]
    show (tb_on 22 70 (tb_new w2 22 36) (fb_m_init 70 (tb_new w2 22 36))).bind _ = _
    rw [b1]
    show (fl_lw_law_10 1048576 0 1 70 0 w4).bind _ = _
    rw [c2]
    rfl
  · show (w5.1.map Prod.snd).sum ≤ 200000
    omega
end PUZ1
