/-! ===== the law: led ===== -/
theorem lk_goodIn : GoodIn aw_TT (va_wsS RL 224 yL_led lk_ws) := by
  have h1 : ∀ w ∈ ([.methodLink RL 224 yL_led, .static yL_led, .initialized yL_led.cls, Cond.codeWith yL_led cL_led 4 (some .int) [(0, 9, 12, 13)]] : List Cond), w ∈ lw_tbl ∧ goodWord w = true := by decide +kernel
  intro w hw
  have hw : w ∈ ([.methodLink RL 224 yL_led, .static yL_led, .initialized yL_led.cls] : List Cond) ++ (Cond.codeWith yL_led cL_led 4 (some .int) [(0, 9, 12, 13)] :: aw_TT) := hw
  have h2 : w ∈ ([.methodLink RL 224 yL_led, .static yL_led, .initialized yL_led.cls, Cond.codeWith yL_led cL_led 4 (some .int) [(0, 9, 12, 13)]] : List Cond) ∨ w ∈ aw_TT := by
    simp only [List.mem_append, List.mem_cons, List.not_mem_nil, or_false] at hw ⊢
    rcases hw with (h | h | h) | h | h
    · exact Or.inl (Or.inl h)
    · exact Or.inl (Or.inr (Or.inl h))
    · exact Or.inl (Or.inr (Or.inr (Or.inl h)))
    · exact Or.inl (Or.inr (Or.inr (Or.inr h)))
    · exact Or.inr h
  rcases h2 with h | h
  · obtain ⟨a, b⟩ := h1 w h
    exact ⟨List.mem_filter.mpr ⟨a, b⟩, good_of_word b⟩
  · exact ⟨h, good_of_word (List.mem_filter.mp h).2⟩
section LawLed
variable {G : GG} {k : Nat} {y : MD} {Q : Option Value → HH → Prop} {a b pc : Nat} {L : List (Option Value)} {S : List Value} {h : HH} {N : Nat} {xs : Nat → Int32} {i n : Nat} {σ α : SG} {τ : TU} {θ : TH}
/-- the call of the law's own led -/
theorem SW.ledS {As : List Value} {Q' : Option Value → HH → Prop} (hy : y.1.cls = RL) (hk : 8 ≤ k) (hn2 : As.length = 3) (hS : (S.map fun v => v.category).sum ≤ 8) (hd : decode y.2.1 pc = .ok (.invokestatic 224, 3))
    (hM : ∀ l : Launch, l.stackTraces = false → Met l yL_led lk_ws (aw_rm 7 1 6) (aw_Pc G As h) (aw_Qc G Q') 1 6 (fun q => G.2.2.1.size ≤ q)) (kk : ∀ v h', Q' v h' → (∀ r, v ≠ some (.ref r)) ∧ SW G k y Q a b (pc + 3) L (v.toList ++ S) h') : SW G k y Q (1 + a) (6 + b) pc L (As.reverse ++ S) h := by
  intro p l e R s m args below meth c QQ C0 H locs ls cells slots B
  have hts := C0.2.2.2.2.1
  have hK := C0.2.2.2.2.2.2.1
  have hf := C0.2.2.2.2.2.2.2.1
  have hl := C0.2.2.2.2.2.2.2.2.1
  rw [aw_args]
  refine aw_back (a := a) (b := b) (a' := 1) (b' := 6) (Q' := Q') C0 B (vx_runSW (As := As.map (aw_cV G)) (Ts := aw_TT) (nL := y.2.2.1) (own := RL) (index := 224) (n := 3) (hh := [(0, 9, 12, 13)]) (bytes := cL_led) (maxL := 4) (ret := some .int) ⟨C0.1, C0.2.1, C0.2.2.1, by rw [← hy]; exact C0.2.2.2.1, hts⟩ (hM l C0.2.2.2.2.2.2.2.2.2.1)
    (vx_cwSW (ws' := aw_TT) 3 hts lk_goodIn rfl rfl rfl ⟨by decide, by decide, by decide +kernel⟩ ⟨by show 7 + 1 ≤ _; omega, by show 8 + (4 + 11) + 64 * 7 ≤ _; omega⟩) ⟨aw_blind G _ _, fun U hU hW => ⟨rfl, by rw [hU]; exact B.1, hK.warm hW⟩⟩ rfl (by rw [List.length_map]; exact hn2) B.2.2.1.1 rfl (lv_room (by
    rw [List.map_map]
    refine Nat.le_trans (Nat.le_of_eq ?_) hS
    congr 1
    exact List.map_congr_left (fun v _ => aw_cV_cat G v))) hd ⟨by have := B.2.2.2.1; omega, by have := B.2.2.2.2; omega⟩) kk
set_option maxHeartbeats 4000000 in
theorem lc_1739 (hS : SCR G N xs) (hi : i + 7 ≤ N) (hI : LI n σ θ α) (kk : ∀ n' σ' τ' θ' α', n ≤ n' → LI n' σ' θ' α' → SW G 15 mL_law Q a b 1833 [some (.ref 1099), some (.ref 1), some (.ref 120), some (.ref 133), some (.int (nI i)), none, none] [] (n', σ', τ', θ')) : SW G 15 mL_law Q (1 + a) (6 + b) 1739 [some (.ref 1099), some (.ref 1), some (.ref 120), some (.ref 133), some (.int (nI i)), none, none] [] (n, σ, τ, θ) := by
  refine SW.aload_n dL_law_1739 rfl ?_
  refine SW.aload_n dL_law_1740 rfl ?_
  refine SW.iload dL_law_1741 rfl ?_
  refine SW.iconst (v := (1 : Int32)) dL_law_1743 (by decide) ?_
  refine SW.iadd dL_law_1744 ?_
  refine SW.sald hS (li_in hS.1 hi (j := 1) (by decide)) dL_law_1745 ?_
  generalize hx : xs (nI i + 1).toNatClampNeg = x
  refine SW.aload_n dL_law_1746 rfl ?_
  refine SW.ledS (As := [.ref 1, .int x, .ref 133]) (S := []) (Q' := aw_qi (fun r n' σ' τ' θ' => (σ' = σ ∧ θ' = θ ∧ n ≤ n') ∧ ((sp_led (α 123) (α 125) x = none ∧ r = 1) ∨ ∃ m, sp_led (α 123) (α 125) x = some m ∧ r = 0 ∧ τ' 133 0 = (nI m).toInt64))) rfl (by decide) rfl (Nat.le_of_ble_eq_true rfl) dL_law_1747
    (fun l hfl => lk_law hI.1 hI.2.1 hI.2.2.2 (fun h n' hn => ⟨⟨rfl, rfl, hn⟩, Or.inl ⟨h, rfl⟩⟩) (fun m h _ => ⟨⟨rfl, rfl, Nat.le_refl _⟩, Or.inr ⟨m, h, rfl, aw_u_eq⟩⟩) l hfl) ?_
  rintro v ⟨n', σ', τ', θ'⟩ ⟨r, rfl, ⟨e1, e2, hn⟩, hc⟩
  replace e1 : σ' = σ := e1
  replace e2 : θ' = θ := e2
  replace hn : n ≤ n' := hn
  subst e1 e2
  refine ⟨fun r e => (nomatch e), ?_⟩
  have hI' : LI n' σ' θ' α := ⟨⟨Nat.le_trans hI.1.1 hn, hI.1.2⟩, hI.2⟩
  refine SW.istore dL_law_1750 (by decide) rfl rfl ?_
  refine SW.aload_n dL_law_1752 rfl ?_
  refine SW.aload_n dL_law_1753 rfl ?_
  refine SW.iload dL_law_1754 rfl ?_
  refine SW.iconst (v := (1 : Int32)) dL_law_1756 (by decide) ?_
  refine SW.iadd dL_law_1757 ?_
  refine SW.sald hS (li_in hS.1 hi (j := 1) (by decide)) dL_law_1758 ?_
  rw [hx]
  refine SW.cvi1 kV_L_229 (by decide) aw_cl10 kp_120 (by decide) (hI'.1.le (by decide)) rfl (Nat.le_of_ble_eq_true rfl) dL_law_1759 (p10_led hI'.1 hI'.2.2.1 hI'.2.2.2 (fun σ2 h2 r2 t2 => ?_))
  have hI2 : LI n' σ2 θ' α := ⟨hI'.1, hI'.2.1.rc hI'.2.2.2 hI'.1.f h2, r2, hI'.2.2.2⟩
  refine SW.istore dL_law_1762 (by decide) rfl rfl ?_
  refine SW.aload_n dL_law_1764 rfl ?_
  refine SW.cvi0 kV_L_230 (by decide) aw_cl10 kp_120 (by decide) (hI'.1.le (by decide)) rfl (Nat.le_of_ble_eq_true rfl) dL_law_1765 (ctX10_thrown (sgX10_thrown_0 (Nat.le_refl _) hI'.1 ?_))
  rw [t2]
  have fin : SW G 15 mL_law Q a b 1792 [some (.ref 1099), some (.ref 1), some (.ref 120), some (.ref 133), some (.int (nI i)), some (.int r), some (.int (ledV (sp_led (α 123) (α 125) x)))] [] (n', σ2, τ', θ') := by
    refine SW.goto 1833 dL_law_1792 (by decide) ?_
    refine SW.msk [true, true, true, true, true, false, false] rfl ?_
    exact kk n' σ2 τ' θ' α hn hI2
  refine SW.iload dL_law_1768 rfl ?_
  refine SW.icmp_eq 1775 dL_law_1770 (by decide) (fun _ => ?_) (fun h => absurd ?_ h)
  · refine SW.iload dL_law_1775 rfl ?_
    refine SW.if_ne 1792 dL_law_1777 (by decide) (fun _ => fin) (fun h => ?_)
    rcases hc with ⟨-, hr⟩ | ⟨m, hm, hr, ht⟩
    · rw [hr] at h; exact absurd h (by decide)
    · replace ht : τ' 133 0 = (nI m).toInt64 := ht
      refine SW.aload_n dL_law_1780 rfl ?_
      refine SW.iconst (v := (0 : Int32)) dL_law_1781 (by decide) ?_
      refine SW.lald (o := 133) kp_133 (by decide) (hI'.1.le (by decide)) (ps_in (i := 0) (N := 1) (by decide) (by decide)) dL_law_1782 ?_
      refine SW.iload dL_law_1783 rfl ?_
      refine SW.i2l dL_law_1785 ?_
      refine SW.lcmp dL_law_1786 ?_
      refine SW.if_eq 1792 dL_law_1787 (by decide) (fun _ => fin) (fun h => absurd ?_ h)
      show lg_cmp (τ' 133 0) (ledV (sp_led (α 123) (α 125) x)).toInt64 = 0
      rw [ht, hm]
      exact ps_lc _
  · rcases hc with ⟨hm, hr⟩ | ⟨m, hm, hr, -⟩
    · rw [hm, hr]; rfl
    · rw [hm, hr]; rfl
end LawLed
