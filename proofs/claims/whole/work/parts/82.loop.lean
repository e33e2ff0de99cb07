section Lw2
variable {G : GG} {N n a b : Nat} {xs : Nat → Int32} {σ α : SG} {τ : TU} {θ : TH}
theorem li_gt {i : Nat} (hN : N ≤ 3584) (hi2 : i < 100000) (h : ¬ i + 7 ≤ N) : nI N - 7 < nI i := by
  by_cases h7 : 7 ≤ N
  · rw [show nI N - 7 = nI (N - 7) from pk_sub (a := N) (b := 7) h7]
    exact nI_lt (by omega) (by omega)
  · have h0 : nI N - 7 < 0 := by
      rcases (show N = 0 ∨ N = 1 ∨ N = 2 ∨ N = 3 ∨ N = 4 ∨ N = 5 ∨ N = 6 by omega) with rfl | rfl | rfl | rfl | rfl | rfl | rfl <;> decide
    exact Int32.lt_of_lt_of_le h0 (nI_pos' (by omega))
theorem li_63 : ∀ x : Int32, ¬ ((x &&& 63).toInt < (0 : Int) ∨ (51 : Int) < (x &&& 63).toInt) → ∃ k, k < 52 ∧ x &&& 63 = nI k := by
  intro x h
  have h0 : ¬ (x &&& 63) < 0 := by
    rw [Int32.lt_iff_toInt_lt]
    exact fun e => h (Or.inl e)
  obtain ⟨k, hk, e⟩ := nI_of h0
  refine ⟨k, ?_, e⟩
  rw [e, nI_toInt hk] at h
  omega
set_option maxHeartbeats 4000000 in
set_option maxRecDepth 20000 in
theorem law_loop (hS : SCR G N xs) : ∀ d i n σ τ θ α, N - i ≤ d → i < 100000 → LI n σ θ α → SW G 15 mL_law (aw_qi (fun r _ _ _ _ => r = 1)) (N - i) (6 * (N - i)) 23 [some (.ref 1099), some (.ref 1), some (.ref 120), some (.ref 133), some (.int (nI i)), none, none] [] (n, σ, τ, θ) := by
  intro d
  induction d with
  | zero =>
    intro i n σ τ θ α hd hi2 hI
    refine SW.iload dL_law_23 rfl ?_
    refine SW.aload_n dL_law_25 rfl ?_
    refine SW.salen hS dL_law_26 ?_
    refine SW.bipush (v := (7 : Int32)) dL_law_27 (by decide) ?_
    refine SW.isub dL_law_29 ?_
    refine SW.icmp_gt 1839 dL_law_30 (by decide) (fun _ => ?_) (fun h => absurd (li_gt hS.1 hi2 (by omega)) h)
    refine SW.iconst (v := (1 : Int32)) dL_law_1839 (by decide) ?_
    exact SW.iret dL_law_1840 rfl rfl ⟨_, rfl, rfl⟩
  | succ d ih =>
    intro i n σ τ θ α hd hi2 hI
    refine SW.iload dL_law_23 rfl ?_
    refine SW.aload_n dL_law_25 rfl ?_
    refine SW.salen hS dL_law_26 ?_
    refine SW.bipush (v := (7 : Int32)) dL_law_27 (by decide) ?_
    refine SW.isub dL_law_29 ?_
    refine SW.icmp_gt 1839 dL_law_30 (by decide) (fun _ => ?_) (fun h => ?_)
    · refine SW.iconst (v := (1 : Int32)) dL_law_1839 (by decide) ?_
      exact SW.iret dL_law_1840 rfl rfl ⟨_, rfl, rfl⟩
    · have hi : i + 7 ≤ N := Decidable.byContradiction (fun e => h (li_gt hS.1 hi2 e))
      have kk : ∀ n' σ' τ' θ' α', n ≤ n' → LI n' σ' θ' α' → SW G 15 mL_law (aw_qi (fun r _ _ _ _ => r = 1)) (N - (i + 7)) (6 * (N - (i + 7))) 1833 [some (.ref 1099), some (.ref 1), some (.ref 120), some (.ref 133), some (.int (nI i)), none, none] [] (n', σ', τ', θ') := by
        intro n' σ' τ' θ' α' _ hI'
        refine SW.iinc (v := nI i + (7 : Int32)) dL_law_1833 rfl rfl (by decide) rfl rfl ?_
        refine SW.goto 23 dL_law_1836 (by decide) ?_
        rw [show nI i + (7 : Int32) = nI (i + 7) from nI_add i 7]
        exact ih (i + 7) n' σ' τ' θ' α' (by omega) (by have := hS.1; omega) hI'
      refine SW.less (a' := 1 + (N - (i + 7))) (b' := 6 + (6 * (N - (i + 7)))) (by omega) (by omega) ?_
      refine SW.aload_n dL_law_33 rfl ?_
      refine SW.iload dL_law_34 rfl ?_
      refine SW.sald hS (vp_in_nI (by omega) (by have := hS.1; omega)) dL_law_36 ?_
      refine SW.bipush (v := (63 : Int32)) dL_law_37 (by decide) ?_
      refine SW.iand dL_law_39 ?_
      by_cases hsw : ((xs (nI i).toNatClampNeg) &&& 63).toInt < (0 : Int) ∨ (51 : Int) < ((xs (nI i).toNatClampNeg) &&& 63).toInt
      · refine SW.tabOut 1833 dL_law_40 hsw (by decide) ?_
        exact SW.less (by omega) (by omega) (kk n σ τ θ α (Nat.le_refl _) hI)
      · obtain ⟨k, hk, e⟩ := li_63 _ hsw
        rcases (show k = 0 ∨ k = 1 ∨ k = 2 ∨ k = 3 ∨ k = 4 ∨ k = 5 ∨ k = 6 ∨ k = 7 ∨ k = 8 ∨ k = 9 ∨ k = 10 ∨ k = 11 ∨ k = 12 ∨ k = 13 ∨ k = 14 ∨ k = 15 ∨ k = 16 ∨ k = 17 ∨ k = 18 ∨ k = 19 ∨ k = 20 ∨ k = 21 ∨ k = 22 ∨ k = 23 ∨ k = 24 ∨ k = 25 ∨ k = 26 ∨ k = 27 ∨ k = 28 ∨ k = 29 ∨ k = 30 ∨ k = 31 ∨ k = 32 ∨ k = 33 ∨ k = 34 ∨ k = 35 ∨ k = 36 ∨ k = 37 ∨ k = 38 ∨ k = 39 ∨ k = 40 ∨ k = 41 ∨ k = 42 ∨ k = 43 ∨ k = 44 ∨ k = 45 ∨ k = 46 ∨ k = 47 ∨ k = 48 ∨ k = 49 ∨ k = 50 ∨ k = 51 by omega) with rfl | rfl | rfl | rfl | rfl | rfl | rfl | rfl | rfl | rfl | rfl | rfl | rfl | rfl | rfl | rfl | rfl | rfl | rfl | rfl | rfl | rfl | rfl | rfl | rfl | rfl | rfl | rfl | rfl | rfl | rfl | rfl | rfl | rfl | rfl | rfl | rfl | rfl | rfl | rfl | rfl | rfl | rfl | rfl | rfl | rfl | rfl | rfl | rfl | rfl | rfl | rfl
        · exact SW.tabIn (off := 224) 264 dL_law_40 (aw_si1 e (by decide)) (aw_si2 e (by decide)) (aw_si3 e (by decide)) (by decide) (SW.less (by omega) (by omega) (lc_264 hS hi hI kk))
        · exact SW.tabIn (off := 297) 337 dL_law_40 (aw_si1 e (by decide)) (aw_si2 e (by decide)) (aw_si3 e (by decide)) (by decide) (SW.less (by omega) (by omega) (lc_337 hS hi hI kk))
        · exact SW.tabIn (off := 322) 362 dL_law_40 (aw_si1 e (by decide)) (aw_si2 e (by decide)) (aw_si3 e (by decide)) (by decide) (SW.less (by omega) (by omega) (lc_362 hS hi hI kk))
        · exact SW.tabIn (off := 335) 375 dL_law_40 (aw_si1 e (by decide)) (aw_si2 e (by decide)) (aw_si3 e (by decide)) (by decide) (SW.less (by omega) (by omega) (lc_375 hS hi hI kk))
        · exact SW.tabIn (off := 348) 388 dL_law_40 (aw_si1 e (by decide)) (aw_si2 e (by decide)) (aw_si3 e (by decide)) (by decide) (SW.less (by omega) (by omega) (lc_388 hS hi hI kk))
        · exact SW.tabIn (off := 385) 425 dL_law_40 (aw_si1 e (by decide)) (aw_si2 e (by decide)) (aw_si3 e (by decide)) (by decide) (SW.less (by omega) (by omega) (lc_425 hS hi hI kk))
        · exact SW.tabIn (off := 422) 462 dL_law_40 (aw_si1 e (by decide)) (aw_si2 e (by decide)) (aw_si3 e (by decide)) (by decide) (SW.less (by omega) (by omega) (lc_462 hS hi hI kk))
        · exact SW.tabIn (off := 459) 499 dL_law_40 (aw_si1 e (by decide)) (aw_si2 e (by decide)) (aw_si3 e (by decide)) (by decide) (SW.less (by omega) (by omega) (lc_499 hS hi hI kk))
        · exact SW.tabIn (off := 472) 512 dL_law_40 (aw_si1 e (by decide)) (aw_si2 e (by decide)) (aw_si3 e (by decide)) (by decide) (SW.less (by omega) (by omega) (lc_512 hS hi hI kk))
        · exact SW.tabIn (off := 485) 525 dL_law_40 (aw_si1 e (by decide)) (aw_si2 e (by decide)) (aw_si3 e (by decide)) (by decide) (SW.less (by omega) (by omega) (lc_525 hS hi hI kk))
        · exact SW.tabIn (off := 498) 538 dL_law_40 (aw_si1 e (by decide)) (aw_si2 e (by decide)) (aw_si3 e (by decide)) (by decide) (SW.less (by omega) (by omega) (lc_538 hS hi hI kk))
        · exact SW.tabIn (off := 535) 575 dL_law_40 (aw_si1 e (by decide)) (aw_si2 e (by decide)) (aw_si3 e (by decide)) (by decide) (SW.less (by omega) (by omega) (lc_575 hS hi hI kk))
        · exact SW.tabIn (off := 572) 612 dL_law_40 (aw_si1 e (by decide)) (aw_si2 e (by decide)) (aw_si3 e (by decide)) (by decide) (SW.less (by omega) (by omega) (lc_612 hS hi hI kk))
        · exact SW.tabIn (off := 585) 625 dL_law_40 (aw_si1 e (by decide)) (aw_si2 e (by decide)) (aw_si3 e (by decide)) (by decide) (SW.less (by omega) (by omega) (lc_625 hS hi hI kk))
        · exact SW.tabIn (off := 622) 662 dL_law_40 (aw_si1 e (by decide)) (aw_si2 e (by decide)) (aw_si3 e (by decide)) (by decide) (SW.less (by omega) (by omega) (lc_662 hS hi hI kk))
        · exact SW.tabIn (off := 659) 699 dL_law_40 (aw_si1 e (by decide)) (aw_si2 e (by decide)) (aw_si3 e (by decide)) (by decide) (SW.less (by omega) (by omega) (lc_699 hS hi hI kk))
        · exact SW.tabIn (off := 672) 712 dL_law_40 (aw_si1 e (by decide)) (aw_si2 e (by decide)) (aw_si3 e (by decide)) (by decide) (SW.less (by omega) (by omega) (lc_712 hS hi hI kk))
        · exact SW.tabIn (off := 685) 725 dL_law_40 (aw_si1 e (by decide)) (aw_si2 e (by decide)) (aw_si3 e (by decide)) (by decide) (SW.less (by omega) (by omega) (lc_725 hS hi hI kk))
        · exact SW.tabIn (off := 698) 738 dL_law_40 (aw_si1 e (by decide)) (aw_si2 e (by decide)) (aw_si3 e (by decide)) (by decide) (SW.less (by omega) (by omega) (lc_738 hS hi hI kk))
        · exact SW.tabIn (off := 723) 763 dL_law_40 (aw_si1 e (by decide)) (aw_si2 e (by decide)) (aw_si3 e (by decide)) (by decide) (SW.less (by omega) (by omega) (lc_763 hS hi hI kk))
        · exact SW.tabIn (off := 748) 788 dL_law_40 (aw_si1 e (by decide)) (aw_si2 e (by decide)) (aw_si3 e (by decide)) (by decide) (SW.less (by omega) (by omega) (lc_788 hS hi hI kk))
        · exact SW.tabIn (off := 761) 801 dL_law_40 (aw_si1 e (by decide)) (aw_si2 e (by decide)) (aw_si3 e (by decide)) (by decide) (SW.less (by omega) (by omega) (lc_801 hS hi hI kk))
        · exact SW.tabIn (off := 786) 826 dL_law_40 (aw_si1 e (by decide)) (aw_si2 e (by decide)) (aw_si3 e (by decide)) (by decide) (SW.less (by omega) (by omega) (lc_826 hS hi hI kk))
        · exact SW.tabIn (off := 811) 851 dL_law_40 (aw_si1 e (by decide)) (aw_si2 e (by decide)) (aw_si3 e (by decide)) (by decide) (SW.less (by omega) (by omega) (lc_851 hS hi hI kk))
        · exact SW.tabIn (off := 848) 888 dL_law_40 (aw_si1 e (by decide)) (aw_si2 e (by decide)) (aw_si3 e (by decide)) (by decide) (SW.less (by omega) (by omega) (lc_888 hS hi hI kk))
        · exact SW.tabIn (off := 873) 913 dL_law_40 (aw_si1 e (by decide)) (aw_si2 e (by decide)) (aw_si3 e (by decide)) (by decide) (SW.less (by omega) (by omega) (lc_913 hS hi hI kk))
        · exact SW.tabIn (off := 886) 926 dL_law_40 (aw_si1 e (by decide)) (aw_si2 e (by decide)) (aw_si3 e (by decide)) (by decide) (SW.less (by omega) (by omega) (lc_926 hS hi hI kk))
        · exact SW.tabIn (off := 911) 951 dL_law_40 (aw_si1 e (by decide)) (aw_si2 e (by decide)) (aw_si3 e (by decide)) (by decide) (SW.less (by omega) (by omega) (lc_951 hS hi hI kk))
        · exact SW.tabIn (off := 924) 964 dL_law_40 (aw_si1 e (by decide)) (aw_si2 e (by decide)) (aw_si3 e (by decide)) (by decide) (SW.less (by omega) (by omega) (lc_964 hS hi hI kk))
        · exact SW.tabIn (off := 949) 989 dL_law_40 (aw_si1 e (by decide)) (aw_si2 e (by decide)) (aw_si3 e (by decide)) (by decide) (SW.less (by omega) (by omega) (lc_989 hS hi hI kk))
        · exact SW.tabIn (off := 1003) 1043 dL_law_40 (aw_si1 e (by decide)) (aw_si2 e (by decide)) (aw_si3 e (by decide)) (by decide) (SW.less (by omega) (by omega) (lc_1043 hS hi hI kk))
        · exact SW.tabIn (off := 1069) 1109 dL_law_40 (aw_si1 e (by decide)) (aw_si2 e (by decide)) (aw_si3 e (by decide)) (by decide) (SW.less (by omega) (by omega) (lc_1109 hS hi hI kk))
        · exact SW.tabIn (off := 1082) 1122 dL_law_40 (aw_si1 e (by decide)) (aw_si2 e (by decide)) (aw_si3 e (by decide)) (by decide) (SW.less (by omega) (by omega) (lc_1122 hS hi hI kk))
        · exact SW.tabIn (off := 1095) 1135 dL_law_40 (aw_si1 e (by decide)) (aw_si2 e (by decide)) (aw_si3 e (by decide)) (by decide) (SW.less (by omega) (by omega) (lc_1135 hS hi hI kk))
        · exact SW.tabIn (off := 1108) 1148 dL_law_40 (aw_si1 e (by decide)) (aw_si2 e (by decide)) (aw_si3 e (by decide)) (by decide) (SW.less (by omega) (by omega) (lc_1148 hS hi hI kk))
        · exact SW.tabIn (off := 1121) 1161 dL_law_40 (aw_si1 e (by decide)) (aw_si2 e (by decide)) (aw_si3 e (by decide)) (by decide) (SW.less (by omega) (by omega) (lc_1161 hS hi hI kk))
        · exact SW.tabIn (off := 1256) 1296 dL_law_40 (aw_si1 e (by decide)) (aw_si2 e (by decide)) (aw_si3 e (by decide)) (by decide) (SW.less (by omega) (by omega) (lc_1296 hS hi hI kk))
        · exact SW.tabIn (off := 1305) 1345 dL_law_40 (aw_si1 e (by decide)) (aw_si2 e (by decide)) (aw_si3 e (by decide)) (by decide) (SW.less (by omega) (by omega) (lc_1345 hS hi hI kk))
        · exact SW.tabIn (off := 1354) 1394 dL_law_40 (aw_si1 e (by decide)) (aw_si2 e (by decide)) (aw_si3 e (by decide)) (by decide) (SW.less (by omega) (by omega) (lc_1394 hS hi hI kk))
        · exact SW.tabIn (off := 1408) 1448 dL_law_40 (aw_si1 e (by decide)) (aw_si2 e (by decide)) (aw_si3 e (by decide)) (by decide) (SW.less (by omega) (by omega) (lc_1448 hS hi hI kk))
        · exact SW.tabIn (off := 1462) 1502 dL_law_40 (aw_si1 e (by decide)) (aw_si2 e (by decide)) (aw_si3 e (by decide)) (by decide) (SW.less (by omega) (by omega) (lc_1502 hS hi hI kk))
        · exact SW.tabIn (off := 1511) 1551 dL_law_40 (aw_si1 e (by decide)) (aw_si2 e (by decide)) (aw_si3 e (by decide)) (by decide) (SW.less (by omega) (by omega) (lc_1551 hS hi hI kk))
        · exact SW.tabIn (off := 1548) 1588 dL_law_40 (aw_si1 e (by decide)) (aw_si2 e (by decide)) (aw_si3 e (by decide)) (by decide) (SW.less (by omega) (by omega) (lc_1588 hS hi hI kk))
        · exact SW.tabIn (off := 1585) 1625 dL_law_40 (aw_si1 e (by decide)) (aw_si2 e (by decide)) (aw_si3 e (by decide)) (by decide) (SW.less (by omega) (by omega) (lc_1625 hS hi hI kk))
        · exact SW.tabIn (off := 1610) 1650 dL_law_40 (aw_si1 e (by decide)) (aw_si2 e (by decide)) (aw_si3 e (by decide)) (by decide) (SW.less (by omega) (by omega) (lc_1650 hS hi hI kk))
        · exact SW.tabIn (off := 1635) 1675 dL_law_40 (aw_si1 e (by decide)) (aw_si2 e (by decide)) (aw_si3 e (by decide)) (by decide) (SW.less (by omega) (by omega) (lc_1675 hS hi hI kk))
        · exact SW.tabIn (off := 1648) 1688 dL_law_40 (aw_si1 e (by decide)) (aw_si2 e (by decide)) (aw_si3 e (by decide)) (by decide) (SW.less (by omega) (by omega) (lc_1688 hS hi hI kk))
        · exact SW.tabIn (off := 1661) 1701 dL_law_40 (aw_si1 e (by decide)) (aw_si2 e (by decide)) (aw_si3 e (by decide)) (by decide) (SW.less (by omega) (by omega) (lc_1701 hS hi hI kk))
        · exact SW.tabIn (off := 1674) 1714 dL_law_40 (aw_si1 e (by decide)) (aw_si2 e (by decide)) (aw_si3 e (by decide)) (by decide) (SW.less (by omega) (by omega) (lc_1714 hS hi hI kk))
        · exact SW.tabIn (off := 1699) 1739 dL_law_40 (aw_si1 e (by decide)) (aw_si2 e (by decide)) (aw_si3 e (by decide)) (by decide) (lc_1739 hS hi hI kk)
        · exact SW.tabIn (off := 1755) 1795 dL_law_40 (aw_si1 e (by decide)) (aw_si2 e (by decide)) (aw_si3 e (by decide)) (by decide) (SW.less (by omega) (by omega) (lc_1795 hS hi hI kk))
        · exact SW.tabIn (off := 1780) 1820 dL_law_40 (aw_si1 e (by decide)) (aw_si2 e (by decide)) (aw_si3 e (by decide)) (by decide) (SW.less (by omega) (by omega) (lc_1820 hS hi hI kk))
end Lw2
