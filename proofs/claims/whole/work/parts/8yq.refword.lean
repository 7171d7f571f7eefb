/-! ===== The reference: which word stands here ===== -/
theorem pz_W1 : (7300196 : Int64) = lN (pu_wv (pu_wl.getD 1 [])) := by decide
theorem pz_W2 : (1702258030 : Int64) = lN (pu_wv (pu_wl.getD 2 [])) := by decide
theorem pz_W3 : (1886743660 : Int64) = lN (pu_wv (pu_wl.getD 3 [])) := by decide
theorem pz_W4 : (30510766623777892 : Int64) = lN (pu_wv (pu_wl.getD 4 [])) := by decide
theorem pz_W5 : (7810756255520548206 : Int64) = lN (pu_wv (pu_wl.getD 5 [])) := by decide
theorem pz_W6 : (28832972109997156 : Int64) = lN (pu_wv (pu_wl.getD 6 [])) := by decide
theorem pz_W7 : (7381240859992679790 : Int64) = lN (pu_wv (pu_wl.getD 7 [])) := by decide
theorem pz_W8 : (30064 : Int64) = lN (pu_wv (pu_wl.getD 8 [])) := by decide
theorem pz_W9 : (8319381538419076711 : Int64) = lN (pu_wv (pu_wl.getD 9 [])) := by decide
theorem pz_W10 : (439720633715 : Int64) = lN (pu_wv (pu_wl.getD 10 [])) := by decide
theorem pz_W11 : (2036687218 : Int64) = lN (pu_wv (pu_wl.getD 11 [])) := by decide
section PUQ9
variable {s : List (Nat × Nat)} {R : Nat → Nat → Option Nat} {b : Nat → Nat} {tl : Nat}
theorem pz_m_wordHere {I : Nat → Nat → Int32} {J : Nat → Nat → Int64} (hM : pu_M s R) (h : pu_MB I b tl) {p : Nat} (hp : p ≤ tl) (h32 : p < tl → b p ≠ 32) (e : I 70 8 = nI p) : ∃ I', fb_m_wordHere 70 (s, I, J, R) = some (if 20 ≤ pu_hk (pu_tt b tl p) ∧ pu_hk (pu_tt b tl p) ≤ 31 then nI (pu_hk (pu_tt b tl p) - 20) else -1, (s, I', J, R)) ∧ I' 70 8 = nI p ∧ pu_Nf I I' := by
  obtain ⟨I1, a1, e1, n1⟩ := pu_m_isW (J := J) hM h hp h32 e (show 0 < 19 by omega) pu_W0
  have h1 := (h).nf n1
  have m1 := n1
  obtain ⟨I2, a2, e2, n2⟩ := pu_m_isW (J := J) hM h1 hp h32 e1 (show 1 < 19 by omega) pz_W1
  have h2 := (h1).nf n2
  have m2 := m1.tr n2
  obtain ⟨I3, a3, e3, n3⟩ := pu_m_isW (J := J) hM h2 hp h32 e2 (show 2 < 19 by omega) pz_W2
  have h3 := (h2).nf n3
  have m3 := m2.tr n3
  obtain ⟨I4, a4, e4, n4⟩ := pu_m_isW (J := J) hM h3 hp h32 e3 (show 3 < 19 by omega) pz_W3
  have h4 := (h3).nf n4
  have m4 := m3.tr n4
  obtain ⟨I5, a5, e5, n5⟩ := pu_m_isW (J := J) hM h4 hp h32 e4 (show 4 < 19 by omega) pz_W4
  have h5 := (h4).nf n5
  have m5 := m4.tr n5
  obtain ⟨I6, a6, e6, n6⟩ := pu_m_isW (J := J) hM h5 hp h32 e5 (show 5 < 19 by omega) pz_W5
  have h6 := (h5).nf n6
  have m6 := m5.tr n6
  obtain ⟨I7, a7, e7, n7⟩ := pu_m_isW (J := J) hM h6 hp h32 e6 (show 6 < 19 by omega) pz_W6
  have h7 := (h6).nf n7
  have m7 := m6.tr n7
  obtain ⟨I8, a8, e8, n8⟩ := pu_m_isW (J := J) hM h7 hp h32 e7 (show 7 < 19 by omega) pz_W7
  have h8 := (h7).nf n8
  have m8 := m7.tr n8
  obtain ⟨I9, a9, e9, n9⟩ := pu_m_isW (J := J) hM h8 hp h32 e8 (show 8 < 19 by omega) pz_W8
  have h9 := (h8).nf n9
  have m9 := m8.tr n9
  obtain ⟨I10, a10, e10, n10⟩ := pu_m_isW (J := J) hM h9 hp h32 e9 (show 9 < 19 by omega) pz_W9
  have h10 := (h9).nf n10
  have m10 := m9.tr n10
  obtain ⟨I11, a11, e11, n11⟩ := pu_m_isW (J := J) hM h10 hp h32 e10 (show 10 < 19 by omega) pz_W10
  have h11 := (h10).nf n11
  have m11 := m10.tr n11
  obtain ⟨I12, a12, e12, n12⟩ := pu_m_isW (J := J) hM h11 hp h32 e11 (show 11 < 19 by omega) pz_W11
  have h12 := (h11).nf n12
  have m12 := m11.tr n12
  unfold fb_m_wordHere
  simp only [pu_on (pu_m70 hM), a1, a2, a3, a4, a5, a6, a7, a8, a9, a10, a11, a12, Option.bind_some, pu_b0, decide_eq_false_iff_not]
  generalize pu_hk (pu_tt b tl p) = x at *
  by_cases c0 : x = 20
  · refine ⟨I1, ?_, e1, m1⟩
    subst c0
    rfl
  · skip
    by_cases c1 : x = 21
    · refine ⟨I2, ?_, e2, m2⟩
      subst c1
      rfl
    · skip
      by_cases c2 : x = 22
      · refine ⟨I3, ?_, e3, m3⟩
        subst c2
        rfl
      · skip
        by_cases c3 : x = 23
        · refine ⟨I4, ?_, e4, m4⟩
          subst c3
          rfl
        · skip
          by_cases c4 : x = 24
          · refine ⟨I5, ?_, e5, m5⟩
            subst c4
            rfl
          · skip
            by_cases c5 : x = 25
            · refine ⟨I6, ?_, e6, m6⟩
              subst c5
              rfl
            · skip
              by_cases c6 : x = 26
              · refine ⟨I7, ?_, e7, m7⟩
                subst c6
                rfl
              · skip
                by_cases c7 : x = 27
                · refine ⟨I8, ?_, e8, m8⟩
                  subst c7
                  rfl
                · skip
                  by_cases c8 : x = 28
                  · refine ⟨I9, ?_, e9, m9⟩
                    subst c8
                    rfl
                  · skip
                    by_cases c9 : x = 29
                    · refine ⟨I10, ?_, e10, m10⟩
                      subst c9
                      rfl
                    · skip
                      by_cases c10 : x = 30
                      · refine ⟨I11, ?_, e11, m11⟩
                        subst c10
                        rfl
                      · skip
                        by_cases c11 : x = 31
                        · refine ⟨I12, ?_, e12, m12⟩
                          subst c11
                          rfl
                        · skip
                          refine ⟨I12, ?_, e12, m12⟩
                          rw [if_neg (show ¬ (20 ≤ x ∧ x ≤ 31) by omega)]
                          simp only [show ¬ x = 20 + 0 by omega, show ¬ x = 20 + 1 by omega, show ¬ x = 20 + 2 by omega, show ¬ x = 20 + 3 by omega, show ¬ x = 20 + 4 by omega, show ¬ x = 20 + 5 by omega, show ¬ x = 20 + 6 by omega, show ¬ x = 20 + 7 by omega, show ¬ x = 20 + 8 by omega, show ¬ x = 20 + 9 by omega, show ¬ x = 20 + 10 by omega, show ¬ x = 20 + 11 by omega, not_false_eq_true, ↓reduceIte]
end PUQ9
