/-! ===== The law answers 1, on every script: the pure half ===== -/
theorem pu_whole {N : Nat} {xs : Nat → Int32} (hN : N ≤ 3072) : ∃ w', fb_lw_law 0 (tb_w0 N xs) = some (1, w') ∧ w'.1.length ≤ 2000 ∧ tb_sum w' ≤ 200000 := pu_law pu_k_street pu_k_rule hN
