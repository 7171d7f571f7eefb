/-! ===== The texts' methods are met ===== -/
def tb_byt : List (List Int32) := [[108, 105, 110, 101], [111, 100, 100], [101, 118, 101, 110], [112, 117, 108, 108], [108, 101, 97, 110, 111, 100, 100], [108, 101, 97, 110, 101, 118, 101, 110], [102, 111, 111, 116, 111, 100, 100], [102, 111, 111, 116, 101, 118, 101, 110], [117, 112], [115, 116, 97, 110, 100, 105, 110, 103], [102, 97, 100, 101, 115], [121, 101, 97, 114], [115, 116, 114, 101, 101, 116], [104, 111, 117, 115, 101], [107, 101, 101, 112], [105, 102], [111, 114], [97, 110, 100], [110, 111, 116], []]
def tb_len : List Nat := [4, 3, 4, 4, 7, 8, 7, 8, 2, 8, 5, 4, 6, 5, 4, 2, 2, 3, 3, 0]
theorem tb_tx_byt (k : Nat) : tb_P.2.2.2 k = tb_byt.getD k [] := rfl
theorem tb_tx20 {k : Nat} (h : tb_P.2.2.2 k ≠ []) : k < 20 := by
  rcases Nat.lt_or_ge k 20 with x | x
  · exact x
  · exact absurd (by rw [tb_tx_byt, List.getD_eq_getElem?_getD, List.getElem?_eq_none (show tb_byt.length ≤ k from x)]; rfl) h
theorem tb_lenE : ∀ k, k < 20 → Int32.ofNat (tb_len.getD k 0) >>> ((0 : Int32) &&& 31) = Int32.ofNat (tb_byt.getD k []).length ∧ tb_len.getD k 0 = (tb_byt.getD k []).length ∧ tb_len.getD k 0 < 9 := by decide +kernel
theorem tb_chrE : ∀ k, k < 20 → ∀ n, n < 9 → (((((tb_byt.getD k []).getD n 0) &&& 255).toUInt32 % 65536).toInt32) = (tb_byt.getD k []).getD n 0 := by decide +kernel
theorem tb_chrN : ∀ k, k < 20 → ∀ n, n < 9 → narrow .char (.int ((tb_byt.getD k []).getD n 0)) = .int ((tb_byt.getD k []).getD n 0) := by decide +kernel
theorem tb_text {X : State → Prop} {D : va_G} {dA : Nat → ClassId} {b base Ls : Nat} {xs : Nat → Int32} {sa adV : Nat → Nat} {l : Launch} (hX : ∀ s, X s → tb_St 20 tb_len tb_byt sa adV base s) : tb_TX X tb_P tb_mi tb_sc tb_ns D dA b base Ls xs sa l := by
  intro p e R s m args below meth c Q y w0 i pc len x res ps val L S w st' C hnl hrf hrm hres hq hok hst k
  obtain ⟨hx, hb, hml, hr, hlk, hown, hts, hK, hnm, hbb, hbs, hXs⟩ := C
  have hSt := hX s hXs
  rcases hres with hres | hres
  · subst hres
    obtain ⟨hd, ⟨hl, hn⟩, hF⟩ : decode (tb_mi y).2.1 pc = .ok ((.invokevirtual x), len) ∧ (len = 3 ∧ tb_atp (tb_P.1 y) (i + 1) (pc + 3) = true) ∧ tb_okT (tb_mi y).1.cls x ps tb_strLen = true := by simpa [tb_okI, tb_okJ, tb_ok3] using hok
    subst hl
    obtain ⟨q', hq', hpc⟩ := tb_atp_ok hn
    simp only [tb_step, if_true] at hst
    unfold tb_txl at hst
    split at hst
    · rename_i kk S2
      split at hst
      · rename_i hc
        cases hst
        rw [Bool.and_eq_true] at hc
        obtain ⟨hne, hfew⟩ := hc
        have hk20 : kk < 20 := tb_tx20 (fun h => by rw [h] at hne; cases hne)
        intro q0 h0 H locs ls h1 h2 h3
        have e0 : q0 = _ := Option.some.inj (h0.symm.trans hq)
        subst e0
        have go := k q' hq' H locs ls h1 h2 h3
        rw [hpc] at go
        unfold tb_okT at hF
        split at hF
        · have hf := tb_few_ok (sa := sa) (ad := tb_ad b base) hfew
          have ev := (tb_lenE kk hk20).1
          refine tb_s_V (y := tb_strLen) (index := x) (as := []) (n := 0) (rest := S2.map (tb_cv (tb_ad b base) sa)) ⟨hx, hb, hml, hown, hts⟩ (st_length hk20) (tb_wd_ok (k := 587) (by decide +kernel)) (tb_wd_ok hF) (tb_wd_ok (k := 585) (by decide +kernel)) (tb_wd_ok (k := 586) (by decide +kernel)) (tb_wd_ok (k := 136) (by decide +kernel)) ⟨by decide, by decide, by decide +kernel⟩ ⟨by omega, by omega⟩ (hSt.pre h2 hSt.1 hk20 []) rfl (by rw [← hnl]; exact h3.1) hf hd hrm ?_
          rw [ev]
          exact go
        · cases hF
      · cases hst
    · cases hst
  · subst hres
    obtain ⟨hd, ⟨hl, hn⟩, hF⟩ : decode (tb_mi y).2.1 pc = .ok ((.invokevirtual x), len) ∧ (len = 3 ∧ tb_atp (tb_P.1 y) (i + 1) (pc + 3) = true) ∧ tb_okT (tb_mi y).1.cls x ps tb_strChar = true := by simpa [tb_okI, tb_okJ, tb_ok3] using hok
    subst hl
    obtain ⟨q', hq', hpc⟩ := tb_atp_ok hn
    simp only [tb_step] at hst
    rw [if_neg (by simp), if_pos trivial] at hst
    unfold tb_txc at hst
    split at hst
    · rename_i j kk S2
      split at hst
      · rename_i hc
        cases hst
        rw [Bool.and_eq_true] at hc
        obtain ⟨hin, hfew⟩ := hc
        have hin2 := hin
        unfold tb_in at hin2
        rw [Bool.and_eq_true, Bool.not_eq_true', decide_eq_false_iff_not, decide_eq_true_eq] at hin2
        obtain ⟨hj0, hjl⟩ := hin2
        have hk20 : kk < 20 := tb_tx20 (fun h => by rw [h] at hjl; exact absurd hjl (Nat.not_lt_zero _))
        obtain ⟨_, el, e9⟩ := tb_lenE kk hk20
        have hjl : j.toNatClampNeg < (tb_byt.getD kk []).length := hjl
        have hjn : j.toNatClampNeg < 9 := by omega
        have ec := tb_chrE kk hk20 _ hjn
        have en := tb_chrN kk hk20 _ hjn
        have hjlt : j < Int32.ofNat (tb_len.getD kk 0) := by
          have h1 : j.toNatClampNeg < tb_len.getD kk 0 := by omega
          obtain ⟨j', k1, k2⟩ := nI_of hj0
          rw [k2, nI_clamp k1] at h1
          rw [k2]
          exact (nI_ltI (by omega) (by omega)).mpr h1
        intro q0 h0 H locs ls h1 h2 h3
        have e0 : q0 = _ := Option.some.inj (h0.symm.trans hq)
        subst e0
        have go := k q' hq' H locs ls h1 h2 h3
        rw [hpc] at go
        unfold tb_okT at hF
        split at hF
        · have hf := tb_few_ok (sa := sa) (ad := tb_ad b base) hfew
          refine tb_s_V (y := tb_strChar) (index := x) (as := [.int j]) (n := 1) (rest := S2.map (tb_cv (tb_ad b base) sa)) ⟨hx, hb, hml, hown, hts⟩ (st_charAt hk20 hj0 hjlt (by unfold vp_in; exact fun h => by rcases h with h | h; exact hj0 h; omega) (by rw [ec]; exact en)) (tb_wd_ok (k := 597) (by decide +kernel)) (tb_wd_ok hF) (tb_wd_ok (k := 595) (by decide +kernel)) (tb_wd_ok (k := 596) (by decide +kernel)) (tb_wd_ok (k := 136) (by decide +kernel)) ⟨by decide, by decide, by decide +kernel⟩ ⟨by omega, by omega⟩ (hSt.pre h2 hSt.1 hk20 [.int j]) rfl (by rw [← hnl]; exact h3.1) hf hd hrm ?_
          rw [ec]
          exact go
        · cases hF
      · cases hst
    · cases hst
