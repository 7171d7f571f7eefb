/-! ===== Calls that change nothing: questions ===== -/
def pu_INV (N : Nat) (xs : Nat → Int32) (w : tb_Hp) : Prop := w.1[0]? = some (9, N) ∧ w.2.1 0 = xs ∧ ∃ own A T nn L j tl rs, pu_In w.1 w.2.1 w.2.2.2 own A T nn L j tl rs
/-- what the law reads of the heap between two calls -/
def pu_W1 (N : Nat) (xs : Nat → Int32) (w : tb_Hp) : Prop := w.1[0]? = some (9, N) ∧ w.2.1 0 = xs ∧ w.1[70]? = some (22, 36)
/-- both answer alike, and it goes on -/
def pu_Step (N : Nat) (xs : Nat → Int32) (fx fm : tb_Hp → Option (Int32 × tb_Hp)) : Prop := ∀ w, pu_INV N xs w → ∃ a w1 w2, fx w = some (a, w1) ∧ fm w1 = some (a, w2) ∧ pu_W1 N xs w1 ∧ pu_INV N xs w2
section PUD1
variable {s : List (Nat × Nat)} {I : Nat → Nat → Int32} {R : Nat → Nat → Option Nat} {own : Nat → Nat} {A T : pu_A} {nn : Nat} {L : List pu_A} {j tl : Nat} {rs : List pu_Ru}
theorem pu_In.hX (h : pu_In s I R own A T nn L j tl rs) : pu_X s R := h.1.1
theorem pu_In.hM (h : pu_In s I R own A T nn L j tl rs) : pu_M s R := h.1.2.1
theorem pu_In.v (h : pu_In s I R own A T nn L j tl rs) : pu_V I 19 A := h.2.1.2.1.1
theorem pu_In.vt (h : pu_In s I R own A T nn L j tl rs) : pu_V I 26 T := h.2.1.2.1.2
theorem pu_In.q (h : pu_In s I R own A T nn L j tl rs) : pu_Q (I 80) A := h.2.1.2.2.1.1
theorem pu_In.tm (h : pu_In s I R own A T nn L j tl rs) : pu_TM (I 80) T := h.2.1.2.2.1.2
theorem pu_In.wf (h : pu_In s I R own A T nn L j tl rs) : pu_wf A := h.2.1.1.1.1
theorem pu_In.we (h : pu_In s I R own A T nn L j tl rs) : pu_we A := h.2.1.1.1.2.1
theorem pu_In.bd (h : pu_In s I R own A T nn L j tl rs) : pu_bd A := h.2.1.1.1.2.2
theorem pu_In.nt (h : pu_In s I R own A T nn L j tl rs) : pu_NT I A nn := h.2.1.2.2.2
theorem pu_FM_ek {I' : Nat → Nat → Int32} {ro : Option pu_Ru} (f : pu_Ek I I') (h : pu_FM I ro) : pu_FM I' ro := by
  cases ro with
  | none => exact (f.2 21 (by decide)).trans h
  | some ru =>
    obtain ⟨r, a, b, c, d, e, g⟩ := h
    refine ⟨r, a, (f.2 21 (by decide)).trans b, c, ?_, ?_, g⟩
    · rw [f.1 75 (by decide) (by decide) (by omega)]; exact d
    · rw [f.1 72 (by decide) (by decide) (by omega), f.1 74 (by decide) (by decide) (by omega)]; exact e
end PUD1
theorem pu_ask {N : Nat} {xs : Nat → Int32} {fx fm : tb_Hp → Option (Int32 × tb_Hp)}
    (h : ∀ s I J R own A T nn L j tl rs, pu_In s I R own A T nn L j tl rs → ∀ ro, pu_FX s I R ro → pu_FM I ro → ∃ an, (∃ I' J', fx (s, I, J, R) = some (an, (s, I', J', R)) ∧ pu_Cf I I' J J') ∧ (∀ I1 J1, pu_Ek I I1 → pu_In s I1 R own A T nn L j tl rs → pu_FM I1 ro → ∃ I' J', fm (s, I1, J1, R) = some (an, (s, I', J', R)) ∧ pu_Zf I1 I' J1 J')) : pu_Step N xs fx fm := by
  rintro ⟨s, I, J, R⟩ ⟨h0, hxs, own, A, T, nn, L, j, tl, rs, H⟩
  obtain ⟨ro, hx, hm⟩ := H.ro
  obtain ⟨an, ⟨I1, J1, a1, a2⟩, hb⟩ := h s I J R own A T nn L j tl rs H ro hx hm
  have e1 := pu_Ek.cf a2
  have H1 := H.ek e1
  obtain ⟨I2, J2, b1, b2⟩ := hb I1 J1 e1 H1 (pu_FM_ek e1 hm)
  have e2 := pu_Ek.zf b2
  refine ⟨an, _, _, a1, b1, ⟨h0, (e1.1 0 (by omega) (by omega) (by omega)).trans hxs, pu_m70 H.hM⟩, h0, ?_, own, A, T, nn, L, j, tl, rs, H1.ek e2⟩
  show I2 0 = xs
  rw [e2.1 0 (by omega) (by omega) (by omega), e1.1 0 (by omega) (by omega) (by omega)]
  exact hxs
section PUD2
variable {N : Nat} {xs : Nat → Int32}
theorem pu_k_ahead (a b : Int32) : pu_Step N xs (fb_x_ahead 1 a b) (fb_m_ahead 70 a b) := pu_ask (fun s I J R own A T nn L j tl rs H ro hx hm => ⟨pu_a_ahead ro A a b, pu_x_ahead H.hX H.v H.wf hx a b, fun I1 J1 e H1 hm1 => pu_m_ahead H1.hM H1.q H1.wf hm1 a b⟩)
theorem pu_bd.y {A : pu_A} (h : pu_bd A) : A.1 0 2 ≤ 1000000 := by have := h.2; omega
theorem pu_k_falls (b : Int32) : pu_Step N xs (fb_x_falls 1 b) (fb_m_falls 70 b) := pu_ask (fun s I J R own A T nn L j tl rs H ro hx hm => ⟨pu_a_falls ro A b, pu_x_falls H.hX H.v H.wf hx H.bd.y b, fun I1 J1 e H1 hm1 => pu_m_falls H1.hM H1.q H1.wf hm1 H1.bd.y b⟩)
theorem pu_k_lasts (b : Int32) : pu_Step N xs (fb_x_lasts 1 b) (fb_m_lasts 70 b) := pu_ask (fun s I J R own A T nn L j tl rs H ro hx hm => ⟨pu_a_lasts ro A b, pu_x_lasts H.hX H.v H.wf hx H.bd.y b, fun I1 J1 e H1 hm1 => pu_m_lasts H1.hM H1.q H1.wf hm1 H1.bd.y b⟩)
theorem pu_bd.f {A : pu_A} (h : pu_bd A) : ∀ k, A.1 2 k ≤ 100 := fun k => by have := (h.1 k).2.1; omega
theorem pu_bd.l {A : pu_A} (h : pu_bd A) : ∀ k, A.1 1 k ≤ 100 := fun k => by have := (h.1 k).1; omega
theorem pu_k_propped (a b : Int32) : pu_Step N xs (fb_x_propped 1 a b) (fb_m_propped 70 a b) := pu_ask (fun s I J R own A T nn L j tl rs H ro hx hm => ⟨pu_a_propped ro A a b, pu_x_propped H.hX H.v H.wf hx H.bd.f a b, fun I1 J1 e H1 hm1 => pu_m_propped H1.hM H1.q H1.wf hm1 H1.bd.f a b⟩)
theorem pu_k_newLine (a b c : Int32) : pu_Step N xs (fb_x_newLine 1 a b c) (fb_m_newLine 70 a b c) := pu_ask (fun s I J R own A T nn L j tl rs H ro hx hm => ⟨pu_a_newLine ro A a b c, pu_x_newLine H.hX H.v H.wf hx a b c, fun I1 J1 e H1 hm1 => pu_m_newLine H1.hM H1.q H1.wf hm1 a b c⟩)
theorem pu_k_needed : pu_Step N xs (fb_x_needed 1) (fb_m_needed 70) := pu_ask (fun s I J R own A T nn L j tl rs H ro hx hm => ⟨pu_a_needed A, pu_x_needed H.hX H.v H.wf, fun I1 J1 e H1 hm1 => pu_m_needed H1.hM H1.q H1.wf⟩)
theorem pu_k_fewest (a b : Int32) : pu_Step N xs (fb_x_fewest 1 a b) (fb_m_fewest 70 a b) := pu_ask (fun s I J R own A T nn L j tl rs H ro hx hm => ⟨pu_a_fewest A a b, pu_x_fewest H.hX H.v H.wf a b, fun I1 J1 e H1 hm1 => pu_m_fewest H1.hM H1.q H1.wf a b⟩)
theorem pu_k_down (b : Int32) : pu_Step N xs (fb_x_down 1 b) (fb_m_down 70 b) := pu_ask (fun s I J R own A T nn L j tl rs H ro hx hm => ⟨pu_a_down A b, pu_x_down H.hX H.v H.wf b, fun I1 J1 e H1 hm1 => pu_m_down H1.hM H1.q H1.wf b⟩)
theorem pu_k_byThese (b : Int32) : pu_Step N xs (fb_x_byThese 1 b) (fb_m_byThese 70 b) := pu_ask (fun s I J R own A T nn L j tl rs H ro hx hm => ⟨pu_a_byThese A b, pu_x_byThese H.hX H.v H.wf b, fun I1 J1 e H1 hm1 => pu_m_byThese H1.hM H1.q H1.wf b⟩)
theorem pu_k_way (a b : Int32) : pu_Step N xs (fb_x_way 1 a b) (fb_m_way 70 a b) := pu_ask (fun s I J R own A T nn L j tl rs H ro hx hm => ⟨pu_a_way A a b, pu_x_way H.hX H.v H.wf a b, fun I1 J1 e H1 hm1 => pu_m_way H1.hM H1.q H1.wf a b⟩)
theorem pu_k_blocks (a : Int32) : pu_Step N xs (fb_x_blocks 1 a) (fb_m_blocks 70 a) := pu_ask (fun s I J R own A T nn L j tl rs H ro hx hm => ⟨pu_a_blocks A a, pu_x_blocks H.hX H.v H.wf H.we a, fun I1 J1 e H1 hm1 => pu_m_blocks H1.hM H1.q H1.wf a⟩)
theorem pu_k_house (a b : Int32) : pu_Step N xs (fb_x_house 1 a b) (fb_m_house 70 a b) := pu_ask (fun s I J R own A T nn L j tl rs H ro hx hm => ⟨pu_a_house A a b, pu_x_house H.hX H.v H.wf a b, fun I1 J1 e H1 hm1 => pu_m_house H1.hM H1.q H1.wf a b⟩)
theorem pu_k_line (a b : Int32) : pu_Step N xs (fb_x_line 1 a b) (fb_m_line 70 a b) := pu_ask (fun s I J R own A T nn L j tl rs H ro hx hm => ⟨pu_a_line A a b, pu_x_line H.hX H.v H.wf a b, fun I1 J1 e H1 hm1 => pu_m_line H1.hM H1.q H1.wf a b⟩)
theorem pu_k_spare (a : Int32) : pu_Step N xs (fb_x_spare 1 a) (fb_m_spare 70 a) := pu_ask (fun s I J R own A T nn L j tl rs H ro hx hm => ⟨pu_a_spare A a, pu_x_spare H.hX H.v H.wf a, fun I1 J1 e H1 hm1 => pu_m_spare H1.hM H1.q H1.wf a⟩)
theorem pu_k_pence (a b : Int32) : pu_Step N xs (fb_x_pence 1 a b) (fb_m_pence 70 a b) := pu_ask (fun s I J R own A T nn L j tl rs H ro hx hm => ⟨pu_a_pence A a b, pu_x_pence H.hX H.v H.wf a b, fun I1 J1 e H1 hm1 => pu_m_pence H1.hM H1.q H1.wf a b⟩)
theorem pu_k_rests (a b c d : Int32) : pu_Step N xs (fb_x_rests 1 a b c d) (fb_m_rests 70 a b c d) := pu_ask (fun s I J R own A T nn L j tl rs H ro hx hm => ⟨pu_a_rests ro A a b c d, pu_x_rests H.hX H.v H.wf hx a b c d, fun I1 J1 e H1 hm1 => pu_m_rests H1.hM H1.q H1.wf hm1 a b c d⟩)
theorem pu_k_marry (a : Int32) : pu_Step N xs (fb_x_marry 1 a) (fb_m_marry 70 a) := pu_ask (fun s I J R own A T nn L j tl rs H ro hx hm => ⟨pu_a_marry A a, pu_x_marry H.hX H.v H.wf a, fun I1 J1 e H1 hm1 => pu_m_marry H1.hM H1.q H1.wf a⟩)
theorem pu_k_winters (a b c d : Int32) : pu_Step N xs (fb_x_winters 1 a b c d) (fb_m_winters 70 a b c d) := pu_ask (fun s I J R own A T nn L j tl rs H ro hx hm => by
  obtain ⟨D, hD⟩ := pu_DR_ex
  obtain ⟨z, hz, ez⟩ := nI_of H.2.2.2.2.2.1.2.2
  have hz : z < 2147483648 := by omega
  refine ⟨pu_a_winters D ro A z a b c d, pu_x_winters hD H.hX H.v H.wf hx H.bd.l hz ez a b c d, fun I1 J1 e H1 hm1 => pu_m_winters hD H1.hM H1.q H1.wf hm1 H1.bd.l hz ?_ a b c d⟩
  rw [e.2 22 (by decide), ← H.2.2.2.2.2.1.2.1]
  exact ez)
theorem pu_k_count (a : Int32) : pu_Step N xs (fb_x_count 1 a) (fb_m_count 70 a) := pu_ask (fun s I J R own A T nn L j tl rs H ro hx hm => by
  refine ⟨_, ⟨I, J, pu_x_count H.hX H.v H.wf a, pu_Cf.rf⟩, fun I1 J1 e H1 hm1 => ⟨I1, J1, ?_, pu_Zf.rf⟩⟩
  obtain ⟨_, _, ⟨h3, h4, _⟩, h6, h7, ⟨⟨h8, _⟩, ⟨h10, _⟩⟩, _⟩ := H
  rw [pu_m_count H1.hM H1.q H1.wf a, e.2 2 (by decide), e.2 21 (by decide), e.2 24 (by decide), e.2 22 (by decide), e.2 1 (by decide), h7.1.2.1, h7.1.2.2, h8, h3.1.1, h4, h10, h6.1, h6.2.1, H1.nt.2.1, ‹pu_Sc I 18 (I 80) A T nn›.2.2.2.1])
end PUD2
