/-! ===== The small machine's heap as a world of cells ===== -/
def tb_ad (b base : Nat) (p : Nat) : Nat := match p with
  | 0 => b
  | k + 1 => base + k
def tb_cv (ad sa : Nat → Nat) (v : Value) : Value := match v with
  | .ref p => .ref (ad p)
  | .retAddr k => .ref (sa k)
  | v => v
def tb_sk (t : FieldType) : Nat := match t with
  | .long => 1
  | .object _ => 2
  | .array _ => 2
  | _ => 0
def tb_nf (k : Nat) : Nat := ((tb_cl[k]?).map (fun r => r.2.2)).getD 0
def tb_cell (dA : Nat → ClassId) (ad sa : Nat → Nat) (w : tb_Hp) (p : Nat) (q : Nat × Nat) : va_E :=
  if 10 ≤ q.1 then .inr (q.1 - 10, (List.range (tb_nf (q.1 - 10))).map (fun k => tb_cv ad sa (tb_val (tb_sk (tb_tyk (q.1 - 10) k)) w p k)))
  else if q.1 = 2 then .inl (dA 2, q.2, .inr (.inl (w.2.2.1 p)))
  else if 4 ≤ q.1 then .inl (dA q.1, q.2, .inr (.inr (.inr (.inr (fun k => (w.2.2.2 p k).map ad)))))
  else .inl (dA q.1, q.2, .inl (w.2.1 p))
def tb_ws (dA : Nat → ClassId) (b base : Nat) (sa : Nat → Nat) (w : tb_Hp) : va_W := (List.range (w.1.length - 1)).map (fun k => (base + k, tb_cell dA (tb_ad b base) sa w (k + 1) (w.1.getD (k + 1) (0, 0))))
def tb_A (base : Nat) : Nat → Prop := fun q => base ≤ q
/-- the component types of the array kinds 0 to 6 -/
def tb_aty : List FieldType := [.byte, .int, .long, .boolean, .array .int, .object "TannerBunting$Scene", .object "TannerBunting$Street"]
def tb_tys (dA : Nat → ClassId) : List (ClassId × FieldType) := [(dA 0, .byte), (dA 1, .int), (dA 2, .long), (dA 3, .boolean), (dA 4, .array .int), (dA 5, .object "TannerBunting$Scene"), (dA 6, .object "TannerBunting$Street")]
theorem tb_ws_get {dA : Nat → ClassId} {b base : Nat} {sa : Nat → Nat} {w : tb_Hp} {k : Nat} {q : Nat × Nat} (h : w.1[k + 1]? = some q) : (tb_ws dA b base sa w)[k]? = some (base + k, tb_cell dA (tb_ad b base) sa w (k + 1) q) := by
  have hl : k + 1 < w.1.length := (List.getElem?_eq_some_iff.mp h).1
  unfold tb_ws
  rw [List.getElem?_map, List.getElem?_range (by omega)]
  simp only [Option.map_some, List.getD_eq_getElem?_getD, h, Option.getD_some]
theorem tb_ws_D {dA : Nat → ClassId} {b base : Nat} {sa : Nat → Nat} {w : tb_Hp} : va_D (tb_A base) (tb_ws dA b base sa w) := by
  have key : ∀ (i : Nat) (p : Nat × va_E), (tb_ws dA b base sa w)[i]? = some p → p.1 = base + i := by
    intro i p h
    unfold tb_ws at h
    rw [List.getElem?_map] at h
    by_cases hi : i < w.1.length - 1
    · rw [List.getElem?_range hi] at h
      simp only [Option.map_some, Option.some.injEq] at h
      rw [← h]
    · rw [List.getElem?_eq_none (by simpa using Nat.le_of_not_lt hi)] at h
      cases h
  refine ⟨fun i j p q h1 h2 e => ?_, fun k q h => ?_⟩
  · rw [key i p h1, key j q h2] at e
    omega
  · show base ≤ q.1
    rw [key k q h]
    omega
/-- two heaps that differ at one place alone -/
theorem tb_ws_set {dA : Nat → ClassId} {b base : Nat} {sa : Nat → Nat} {w w' : tb_Hp} {k : Nat} {q : Nat × Nat} (h : w.1[k + 1]? = some q) (hs : w'.1 = w.1) (ho : ∀ p, p ≠ k + 1 → w'.2.1 p = w.2.1 p ∧ w'.2.2.1 p = w.2.2.1 p ∧ w'.2.2.2 p = w.2.2.2 p) :
    (tb_ws dA b base sa w).set k (base + k, tb_cell dA (tb_ad b base) sa w' (k + 1) q) = tb_ws dA b base sa w' := by
  have hl : k + 1 < w.1.length := (List.getElem?_eq_some_iff.mp h).1
  apply List.ext_getElem?
  intro j
  by_cases hj : j = k
  · subst hj
    rw [tb_ws_get (w := w') (q := q) (by rw [hs]; exact h)]
    rw [List.getElem?_set_self]
    unfold tb_ws
    rw [List.length_map, List.length_range]
    omega
  · rw [List.getElem?_set_ne (fun e => hj e.symm)]
    unfold tb_ws
    rw [List.getElem?_map, List.getElem?_map, hs]
    obtain ⟨e1, e2, e3⟩ := ho (j + 1) (by omega)
    have : ∀ q' : Nat × Nat, tb_cell dA (tb_ad b base) sa w (j + 1) q' = tb_cell dA (tb_ad b base) sa w' (j + 1) q' := by
      intro q'
      have hv : ∀ t m, tb_val t w (j + 1) m = tb_val t w' (j + 1) m := by
        intro t m
        unfold tb_val
        rw [e1, e2, e3]
      unfold tb_cell
      rw [e1, e2, e3]
      simp only [hv]
    by_cases hjl : j < w.1.length - 1
    · rw [List.getElem?_range hjl]
      simp only [Option.map_some, this]
    · rw [List.getElem?_eq_none (by simpa using Nat.le_of_not_lt hjl)]
      rfl
theorem tb_ws_new {dA : Nat → ClassId} {b base : Nat} {sa : Nat → Nat} {w : tb_Hp} {c n : Nat} (h1 : 1 ≤ w.1.length) : tb_ws dA b base sa (tb_new w c n) = tb_ws dA b base sa w ++ [(base + (w.1.length - 1), tb_cell dA (tb_ad b base) sa (tb_new w c n) w.1.length (c, n))] := by
  have hn : (tb_new w c n).1.length = w.1.length + 1 := by simp [tb_new]
  apply List.ext_getElem?
  intro j
  by_cases hj : j < w.1.length - 1
  · rw [List.getElem?_append_left (by unfold tb_ws; simpa using hj)]
    unfold tb_ws
    rw [List.getElem?_map, List.getElem?_map, List.getElem?_range hj, hn, List.getElem?_range (by omega)]
    simp only [Option.map_some, Option.some.injEq, Prod.mk.injEq, true_and]
    have hne : ¬ j + 1 = w.1.length := by omega
    have e0 : (tb_new w c n).1.getD (j + 1) (0, 0) = w.1.getD (j + 1) (0, 0) := by
      rw [List.getD_eq_getElem?_getD, List.getD_eq_getElem?_getD]
      unfold tb_new
      rw [List.getElem?_append_left (by omega)]
    rw [e0]
    have e1 : (tb_new w c n).2.1 (j + 1) = w.2.1 (j + 1) := by unfold tb_new tb_up1; simp [hne]
    have e2 : (tb_new w c n).2.2.1 (j + 1) = w.2.2.1 (j + 1) := by unfold tb_new tb_up1; simp [hne]
    have e3 : (tb_new w c n).2.2.2 (j + 1) = w.2.2.2 (j + 1) := by unfold tb_new tb_up1; simp [hne]
    have hv : ∀ t m, tb_val t (tb_new w c n) (j + 1) m = tb_val t w (j + 1) m := by
      intro t m
      unfold tb_val
      rw [e1, e2, e3]
    unfold tb_cell
    rw [e1, e2, e3]
    simp only [hv]
  · by_cases hj2 : j = w.1.length - 1
    · subst hj2
      rw [List.getElem?_append_right (by unfold tb_ws; simp)]
      have hz : w.1.length - 1 - (tb_ws dA b base sa w).length = 0 := by unfold tb_ws; simp
      rw [hz]
      obtain ⟨m, hm⟩ : ∃ m, w.1.length = m + 1 := ⟨w.1.length - 1, by omega⟩
      have hg : (tb_new w c n).1[m + 1]? = some (c, n) := by
        unfold tb_new
        rw [← hm]
        simp
      rw [hm, Nat.add_sub_cancel, tb_ws_get hg]
      rfl
    · rw [List.getElem?_eq_none (by unfold tb_ws; simp [hn]; omega), List.getElem?_eq_none (by simp; unfold tb_ws; simp; omega)]
/-- the state's own part: tables, script -/
def tb_K (D : va_G) (dA : Nat → ClassId) (b Ls : Nat) (xs : Nat → Int32) (U : State) : Prop := va_K D tb_cl (tb_tys dA) U ∧ va_X b Ls xs U U.heap
def tb_Rel (D : va_G) (dA : Nat → ClassId) (b base Ls : Nat) (xs : Nat → Int32) (sa : Nat → Nat) (w : tb_Hp) (H : Heap) : Prop :=
  va_P D tb_cl (tb_ws dA b base sa w) H ∧ H.size = base + (w.1.length - 1) ∧ w.1[0]? = some (9, Ls) ∧ w.2.1 0 = xs
