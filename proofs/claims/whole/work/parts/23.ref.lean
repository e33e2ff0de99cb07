/-! ===== the reference: leaves ===== -/
def s_in (x : Int32) (N : Nat) : Bool := decide (0 ≤ x) && decide (x < nI N)
theorem s_in_iff {x : Int32} {N : Nat} (hN : N < 1000) : s_in x N = true ↔ ∃ j, j < N ∧ x = nI j := by
  unfold s_in
  rw [Bool.and_eq_true, decide_eq_true_eq, decide_eq_true_eq]
  constructor
  · intro h
    obtain ⟨j, hj, e⟩ := nI_of (Int32.not_lt.mpr h.1)
    refine ⟨j, ?_, e⟩
    rw [e] at h
    exact (nI_ltI hj (by omega)).mp h.2
  · rintro ⟨j, hj, rfl⟩
    exact ⟨nI_pos' (by omega), nI_lt hj (by omega)⟩
theorem s_in_pred {x : Int32} {N : Nat} (hN : N < 1000) (h0 : 0 < N) : (¬ x < 0 ∧ ¬ nI N - 1 < x) ↔ s_in x N = true := by
  obtain ⟨M, rfl⟩ : ∃ M, N = M + 1 := ⟨N - 1, by omega⟩
  rw [nI_pred, s_in_iff hN]
  constructor
  · rintro ⟨h1, h2⟩
    obtain ⟨j, hj, e⟩ := nI_of h1
    refine ⟨j, ?_, e⟩
    rw [e, Int32.not_lt] at h2
    have := (nI_leI hj (by omega)).mp h2
    omega
  · rintro ⟨j, hj, rfl⟩
    exact ⟨nI_pos (by omega), by rw [Int32.not_lt]; exact nI_le (by omega) (by omega)⟩
/-- there is a duchy, or none yet -/
def HR (σ : SG) (r : Nat → Int32) : Prop := (σ 120 14 = 0 ∧ nM r = 0) ∨ (σ 120 14 = 1 ∧ 0 < nM r)
def s_cp (σ : SG) (a i b j m : Nat) : SG := fun o k => if o = b ∧ j ≤ k ∧ k < j + m then σ a (i + (k - j)) else σ o k
theorem s_cp_0 (σ : SG) (a i b j : Nat) : s_cp σ a i b j 0 = σ := by
  funext o k
  exact if_neg (by omega)
theorem s_cp_out {σ : SG} {a i b j m o k : Nat} (h : o ≠ b) : s_cp σ a i b j m o k = σ o k := if_neg (fun e => h e.1)
theorem s_cp_succ {σ : SG} {a i b j c : Nat} (hab : a ≠ b) : aw_u (s_cp σ a i b j c) b (j + c) (s_cp σ a i b j c a (i + c)) = s_cp σ a i b j (c + 1) := by
  funext o k
  rw [s_cp_out hab]
  unfold aw_u s_cp
  by_cases h : o = b ∧ k = j + c
  · rw [if_pos h, if_pos ⟨h.1, by omega, by omega⟩, h.2, show i + (j + c - j) = i + c by omega]
  · rw [if_neg h]
    by_cases h2 : o = b ∧ j ≤ k ∧ k < j + c
    · rw [if_pos h2, if_pos ⟨h2.1, h2.2.1, by omega⟩]
    · rw [if_neg h2, if_neg (fun e => ?_)]
      by_cases h3 : k = j + c
      · exact h ⟨e.1, h3⟩
      · exact h2 ⟨e.1, e.2.1, by omega⟩
theorem s_cp_in {σ : SG} {a i b j m k : Nat} (h : j ≤ k) (h2 : k < j + m) : s_cp σ a i b j m b k = σ a (i + (k - j)) := if_pos ⟨rfl, h, h2⟩
theorem s_cp_off {σ : SG} {a i b j m o k : Nat} (h : k < j ∨ j + m ≤ k) : s_cp σ a i b j m o k = σ o k := if_neg (by omega)
section CRef
variable {G : GG} {n : Nat} {σ : SG} {τ : TU} {θ : TH} {q : Int32 → Nat → SG → TU → TH → Prop} {ql : Int64 → Nat → SG → TU → TH → Prop} {qv : Nat → SG → TU → TH → Prop}
theorem k10_in {x lo hi : Int32} (hW : aw_WT n θ) (hq : q (if ¬ x < lo ∧ ¬ hi < x then 1 else 0) n σ τ θ) : SMi G 1 mX10_in 0 0 [.int x, .int lo, .int hi] n σ τ θ q := by
  refine ctX10_in x lo hi (sgX10_in_0 x lo hi (Nat.le_refl _) hW ⟨fun h => ?_, fun h => ⟨fun h2 => ?_, fun h2 => ?_⟩⟩)
  · rwa [if_neg (fun e => e.1 h)] at hq
  · rwa [if_neg (fun e => e.2 h2)] at hq
  · rwa [if_pos ⟨h, h2⟩] at hq
theorem k10_hasBit {B : Int32} {j : Nat} (hW : aw_WT n θ) (hq : q (if s_bit B j = true then 1 else 0) n σ τ θ) : SMi G 1 mX10_hasBit 0 0 [.int B, .int (nI j)] n σ τ θ q := by
  refine ctX10_hasBit B (nI j) (sgX10_hasBit_0 B (nI j) (Nat.le_refl _) hW ⟨fun h => ?_, fun h => ?_⟩)
  · rwa [if_neg (show ¬ s_bit B j = true from fun e => h (of_decide_eq_true e))] at hq
  · rwa [if_pos (show s_bit B j = true from decide_eq_true h)] at hq
theorem k10_upwards {x z : Int32} (hW : aw_WT n θ) (hz : ¬ z = 0) (hq : q (s_up x z) n σ τ θ) : SMi G 1 mX10_upwards 0 0 [.int x, .int z] n σ τ θ q := ctX10_upwards x z (sgX10_upwards_0 x z (Nat.le_refl _) hW ⟨hz, hq⟩)
theorem k10_isDue {a j : Nat} (hW : aw_WT n θ) (ha : isA a 13) (hj : j < 7) (hq : q (if s_due (σ 123) (σ a) (σ a 12) j = true then 1 else 0) n σ τ θ) : SMi G 1 mX10_isDue 0 0 [.ref 120, .ref a, .int (nI j)] n σ τ θ q := by
  refine ctX10_isDue a 13 (nI j) (sgX10_isDue_0 a 13 (nI j) (Nat.le_refl _) ha hW ?_)
  rw [ix28, ps_cl (by omega), ps_cl (by omega)]
  refine ⟨ps_in (by omega) (by decide), ps_in (i := 12) (by decide) (by decide), fun h => ?_, fun h => ⟨ps_in (by omega) (by decide), fun h2 => ?_, fun h2 => ?_⟩⟩
  · rwa [if_neg (fun e => absurd (s_due_iff.mp e).1 (Int32.not_le.mpr h))] at hq
  · rwa [if_neg (fun e => absurd (s_due_iff.mp e).2 (Int32.not_lt.mpr h2))] at hq
  · rwa [if_pos (s_due_iff.mpr ⟨Int32.not_lt.mp h, Int32.not_le.mp h2⟩)] at hq
theorem k10_isOf {a j : Nat} {m : Int32} (hW : aw_WT n θ) (ha : isA a 13) (hj : j < 7) (hq : q (if s_due (σ 123) (σ a) (σ a 12) j = true ∧ σ 123 (25 + 4 * j) = m then 1 else 0) n σ τ θ) : SMi G 2 mX10_isOf 0 0 [.ref 120, .ref a, .int (nI j), .int m] n σ τ θ q := by
  refine ctX10_isOf a 13 (nI j) m (sgX10_isOf_0 a 13 (nI j) m (Nat.le_refl _) ha hW ?_)
  refine k10_isDue hW ha hj ⟨hW, ps_b (fun h => ?_) (fun h => ?_)⟩
  · rwa [if_neg (fun e => h e.1)] at hq
  · rw [ix25, ps_cl (by omega)]
    refine ⟨ps_in (by omega) (by decide), fun h2 => ?_, fun h2 => ?_⟩
    · rwa [if_neg (fun e => h2 e.2)] at hq
    · rwa [if_pos ⟨h, h2⟩] at hq
theorem k10_burdenOf {a : Nat} {m : Int32} (hW : aw_WT n θ) (ha : isA a 13) (hv : VR (σ 123)) (hq : q (s_ub (σ 123) (σ a 12) m (σ 120 22) (s_db (σ 123) (σ a) (σ a 12) m (nD (σ 123))) (nU (σ 123))) n σ τ θ) : SMi G 3 mX10_burdenOf 0 0 [.ref 120, .ref a, .int m] n σ τ θ q := by
  have h7 := hv.d7
  have h4 := hv.u4
  refine ctX10_burdenOf a 13 m (sgX10_burdenOf_0 a 13 m (Nat.le_refl _) ha hW ?_)
  refine ps_up (N := nD (σ 123)) (P := fun j => SW G 3 mX10_burdenOf (aw_qi q) 0 0 5 [some (.ref 120), some (.ref a), some (.int m), some (.int (s_db (σ 123) (σ a) (σ a 12) m j)), some (.int (nI j)), none] [] (n, σ, τ, θ)) ?_ ?_ 0 (Nat.zero_le _)
  · refine sgX10_burdenOf_5 a 13 m _ _ (Nat.le_refl _) ha hW (ps_done hv.d ?_)
    refine ps_up (N := nU (σ 123)) (P := fun j => SW G 3 mX10_burdenOf (aw_qi q) 0 0 56 [some (.ref 120), some (.ref a), some (.int m), some (.int (s_ub (σ 123) (σ a 12) m (σ 120 22) (s_db (σ 123) (σ a) (σ a 12) m (nD (σ 123))) j)), some (.int (nI j)), none] [] (n, σ, τ, θ)) ?_ ?_ 0 (Nat.zero_le _)
    · exact sgX10_burdenOf_56 a 13 m _ _ (Nat.le_refl _) ha hW (ps_done hv.u hq)
    · intro j hj ih
      refine sgX10_burdenOf_56 a 13 m _ _ (Nat.le_refl _) ha hW (ps_br hv.u (by omega) (by omega) (fun h => absurd hj (by omega)) (fun _ => ?_))
      rw [← nI_succ]
      simp only [s_ub] at ih
      refine k10_hasBit hW ⟨hW, ps_b (fun h => ?_) (fun h => ?_)⟩
      · rw [if_neg (fun e => h e.1)] at ih
        exact ih
      · rw [ix56, ix55, ix53, ps_cl (by omega), ps_cl (by omega), ps_cl (by omega)]
        refine ⟨ps_in (by omega) (by decide), fun h2 => ?_, fun h2 => ⟨ps_in (by omega) (by decide), ps_in (i := 12) (by decide) (by decide), fun h3 => ?_, fun h3 => ⟨ps_in (by omega) (by decide), ?_⟩⟩⟩
        · rw [if_neg (fun e => h2 e.2.1)] at ih
          exact ih
        · rw [if_neg (fun e => absurd e.2.2 (Int32.not_le.mpr h3))] at ih
          exact ih
        · rw [if_pos ⟨h, h2, Int32.not_lt.mp h3⟩] at ih
          obtain ⟨⟨x, y, hx, -⟩, -⟩ := hv.rum hj
          exact k10_upwards hW (hv.pos (by omega)) ⟨hW, ih⟩
  · intro j hj ih
    refine sgX10_burdenOf_5 a 13 m _ _ (Nat.le_refl _) ha hW (ps_br hv.d (by omega) (by omega) (fun h => absurd hj (by omega)) (fun _ => ?_))
    rw [← nI_succ]
    simp only [s_db] at ih
    refine k10_isOf hW ha (by omega) ⟨hW, ps_b (fun h => ?_) (fun h => ?_)⟩
    · rw [if_neg h] at ih
      exact ih
    · rw [if_pos h] at ih
      rw [ps_cl (by omega)]
      exact ⟨ps_in (by omega) (by decide), k10_upwards hW (hv.pos (hv.mD hj)) ⟨hW, ih⟩⟩
theorem k10_kindOf {m : Nat} (hW : aw_WT n θ) (hm : m < 5) (hq : q (σ 123 (10 + 3 * m)) n σ τ θ) : SMi G 1 mX10_kindOf 0 0 [.ref 120, .int (nI m)] n σ τ θ q := by
  refine ctX10_kindOf (nI m) (sgX10_kindOf_0 (nI m) (Nat.le_refl _) hW ?_)
  rw [ix10, ps_cl (by omega)]
  exact ⟨ps_in (by omega) (by decide), hq⟩
theorem k10_strongOf {m : Nat} (hW : aw_WT n θ) (hm : m < 5) (hq : q (σ 123 (12 + 3 * m)) n σ τ θ) : SMi G 1 mX10_strongOf 0 0 [.ref 120, .int (nI m)] n σ τ θ q := by
  refine ctX10_strongOf (nI m) (sgX10_strongOf_0 (nI m) (Nat.le_refl _) hW ?_)
  rw [ix12, ps_cl (by omega)]
  exact ⟨ps_in (by omega) (by decide), hq⟩
theorem k10_headOf {a m : Nat} (hW : aw_WT n θ) (ha : isA a 13) (hv : VR (σ 123)) (hm : m < 5) (hq : q (s_hB (σ 123) (σ a) (σ a 12) (σ 120 22) m) n σ τ θ) : SMi G 4 mX10_headOf 0 0 [.ref 120, .ref a, .int (nI m)] n σ τ θ q := by
  refine ctX10_headOf a 13 (nI m) (sgX10_headOf_0 a 13 (nI m) (Nat.le_refl _) ha hW ?_)
  unfold s_hB s_hb at hq
  refine k10_burdenOf hW ha hv ⟨hW, k10_kindOf hW hm ⟨hW, fun h1 => k10_kindOf hW hm ⟨hW, fun h2 => k10_kindOf hW hm ⟨hW, fun h3 => ?_, fun h3 => ?_⟩, fun h2 => ?_⟩, fun h1 => ?_⟩⟩
  · rwa [if_neg h1, if_neg h2, if_neg h3] at hq
  · rwa [if_neg h1, if_neg h2, if_pos h3] at hq
  · rwa [if_neg h1, if_pos h2] at hq
  · rwa [if_pos h1] at hq
/-- .. with no rumour believed -/
theorem k10_head {a m : Nat} (hW : aw_WT n θ) (ha : isA a 13) (hv : VR (σ 123)) (hb : σ 120 22 = 0) (hm : m < 5) (hq : q (s_hd (σ 123) (σ a) (σ a 12) m) n σ τ θ) : SMi G 4 mX10_headOf 0 0 [.ref 120, .ref a, .int (nI m)] n σ τ θ q := by
  refine k10_headOf hW ha hv hm ?_
  rw [hb, s_hB0 hv]
  exact hq
theorem k10_headsOf {a : Nat} (hW : aw_WT n θ) (ha : isA a 13) (hv : VR (σ 123)) (hb : σ 120 22 = 0) (hq : q (s_all (σ 123) (σ a) (σ a 12) (nM (σ 123))) n σ τ θ) : SMi G 5 mX10_headsOf 0 0 [.ref 120, .ref a] n σ τ θ q := by
  have h5 := hv.m5
  refine ctX10_headsOf a 13 (sgX10_headsOf_0 a 13 (Nat.le_refl _) ha hW ?_)
  refine ps_up (N := nM (σ 123)) (P := fun j => SW G 5 mX10_headsOf (aw_qi q) 0 0 4 [some (.ref 120), some (.ref a), some (.int (s_all (σ 123) (σ a) (σ a 12) j)), some (.int (nI j))] [] (n, σ, τ, θ)) ?_ ?_ 0 (Nat.zero_le _)
  · exact sgX10_headsOf_4 a 13 _ _ (Nat.le_refl _) ha hW (ps_done hv.m hq)
  · intro j hj ih
    refine sgX10_headsOf_4 a 13 _ _ (Nat.le_refl _) ha hW (ps_br hv.m (by omega) (by omega) (fun h => absurd hj (by omega)) (fun _ => ?_))
    rw [← nI_succ]
    exact k10_head hW ha hv hb (by omega) ⟨hW, ih⟩
theorem k10_doesPass {a m d : Nat} (hW : aw_WT n θ) (ha : isA a 13) (hv : VR (σ 123)) (hb : σ 120 22 = 0) (hm : m < 5) (hd : d < 4) (hq : q (if s_hd (σ 123) (σ a) (σ a 12) m ≤ σ 123 (69 + d) then 1 else 0) n σ τ θ) : SMi G 5 mX10_doesPass 0 0 [.ref 120, .ref a, .int (nI m), .int (nI d)] n σ τ θ q := by
  refine ctX10_doesPass a 13 (nI m) (nI d) (sgX10_doesPass_0 a 13 (nI m) (nI d) (Nat.le_refl _) ha hW ?_)
  refine k10_head hW ha hv hb hm ⟨hW, ?_⟩
  rw [ix69, ps_cl (by omega)]
  refine ⟨ps_in (by omega) (by decide), fun h => ?_, fun h => ?_⟩
  · rwa [if_neg (Int32.not_le.mpr h)] at hq
  · rwa [if_pos (Int32.not_lt.mp h)] at hq
theorem isA_st : isA 125 13 := ⟨kp_125, by decide, by decide⟩
theorem isA_trial : isA 128 13 := ⟨kp_128, by decide, by decide⟩
theorem k10_leftFrom {m w : Int32} (hW : aw_WT n θ) (hv : VR (σ 123)) (hq : q (s_lf (σ 123) (σ 125) (σ 125 12) m w (nD (σ 123))) n σ τ θ) : SMi G 3 mX10_leftFrom 0 0 [.ref 120, .int m, .int w] n σ τ θ q := by
  have h7 := hv.d7
  refine ctX10_leftFrom m w (sgX10_leftFrom_0 m w (Nat.le_refl _) hW ?_)
  refine ps_up (N := nD (σ 123)) (P := fun j => SW G 3 mX10_leftFrom (aw_qi q) 0 0 5 [some (.ref 120), some (.int m), some (.int w), some (.int (s_lf (σ 123) (σ 125) (σ 125 12) m w j)), some (.int (nI j))] [] (n, σ, τ, θ)) ?_ ?_ 0 (Nat.zero_le _)
  · exact sgX10_leftFrom_5 m w _ _ (Nat.le_refl _) hW (ps_done hv.d hq)
  · intro j hj ih
    refine sgX10_leftFrom_5 m w _ _ (Nat.le_refl _) hW (ps_br hv.d (by omega) (by omega) (fun h => absurd hj (by omega)) (fun _ => ?_))
    rw [← nI_succ]
    simp only [s_lf] at ih
    refine k10_isOf hW isA_st (by omega) ⟨hW, ps_b (fun h => ?_) (fun h => ?_)⟩
    · rw [if_neg (fun e => h ⟨e.1, e.2.1⟩)] at ih
      exact ih
    · rw [ix26, ps_cl (by omega), ps_cl (by omega)]
      refine ⟨fun h2 => ⟨ps_in (by omega) (by decide), ?_⟩, fun h2 => ⟨ps_in (by omega) (by decide), fun h3 => ?_, fun h3 => ⟨ps_in (by omega) (by decide), ?_⟩⟩⟩
      · rw [if_pos ⟨h.1, h.2, Or.inl h2⟩] at ih
        exact ih
      · rw [if_neg (fun e => e.2.2.elim h2 h3)] at ih
        exact ih
      · rw [if_pos ⟨h.1, h.2, Or.inr h3⟩] at ih
        exact ih
theorem k10_owedTo {m : Int32} (hW : aw_WT n θ) (hv : VR (σ 123)) (hq : q (s_ot (σ 123) (σ 125) (σ 125 12) m (nD (σ 123))) n σ τ θ) : SMi G 2 mX10_owedTo 0 0 [.ref 120, .int m] n σ τ θ q := by
  have h7 := hv.d7
  refine ctX10_owedTo m (sgX10_owedTo_0 m (Nat.le_refl _) hW ?_)
  refine ps_up (N := nD (σ 123)) (P := fun j => SW G 2 mX10_owedTo (aw_qi q) 0 0 4 [some (.ref 120), some (.int m), some (.int (s_ot (σ 123) (σ 125) (σ 125 12) m j)), some (.int (nI j))] [] (n, σ, τ, θ)) ?_ ?_ 0 (Nat.zero_le _)
  · exact sgX10_owedTo_4 m _ _ (Nat.le_refl _) hW (ps_done hv.d hq)
  · intro j hj ih
    refine sgX10_owedTo_4 m _ _ (Nat.le_refl _) hW (ps_br hv.d (by omega) (by omega) (fun h => absurd hj (by omega)) (fun _ => ?_))
    rw [← nI_succ]
    simp only [s_ot] at ih
    refine k10_isDue hW isA_st (by omega) ⟨hW, ps_b (fun h => ?_) (fun h => ?_)⟩
    · rw [if_neg (fun e => h e.1)] at ih
      exact ih
    · rw [ix26, ps_cl (by omega), ps_cl (by omega)]
      refine ⟨ps_in (by omega) (by decide), fun h3 => ?_, fun h3 => ⟨ps_in (by omega) (by decide), ?_⟩⟩
      · rw [if_neg (fun e => h3 e.2)] at ih
        exact ih
      · rw [if_pos ⟨h, h3⟩] at ih
        exact ih
theorem k10_creditors {m : Int32} (hW : aw_WT n θ) (hv : VR (σ 123)) (hq : q (s_ob (σ 123) (σ 125) (σ 125 12) m (nD (σ 123))) n σ τ θ) : SMi G 3 mX10_creditors 0 0 [.ref 120, .int m] n σ τ θ q := by
  have h7 := hv.d7
  refine ctX10_creditors m (sgX10_creditors_0 m (Nat.le_refl _) hW ?_)
  refine ps_up (N := nD (σ 123)) (P := fun j => SW G 3 mX10_creditors (aw_qi q) 0 0 4 [some (.ref 120), some (.int m), some (.int (s_ob (σ 123) (σ 125) (σ 125 12) m j)), some (.int (nI j))] [] (n, σ, τ, θ)) ?_ ?_ 0 (Nat.zero_le _)
  · exact sgX10_creditors_4 m _ _ (Nat.le_refl _) hW (ps_done hv.d hq)
  · intro j hj ih
    refine sgX10_creditors_4 m _ _ (Nat.le_refl _) hW (ps_br hv.d (by omega) (by omega) (fun h => absurd hj (by omega)) (fun _ => ?_))
    rw [← nI_succ]
    simp only [s_ob] at ih
    refine k10_isOf hW isA_st (by omega) ⟨hW, ps_b (fun h => ?_) (fun h => ?_)⟩
    · rw [if_neg h] at ih
      exact ih
    · rw [ix26, ps_cl (by omega)]
      rw [if_pos h] at ih
      exact ⟨ps_in (by omega) (by decide), ih⟩
theorem k10_nextTine {a j : Nat} (hW : aw_WT n θ) (ha : isA a 13) (hj : j < 13) (ht : ¬ σ 123 0 = 0) (hq : q (s_nt (σ a j) (σ 123 0)) n σ τ θ) : SMi G 2 mX10_nextTine 0 0 [.ref 120, .ref a, .int (nI j)] n σ τ θ q := by
  refine ctX10_nextTine a 13 (nI j) (sgX10_nextTine_0 a 13 (nI j) (Nat.le_refl _) ha hW ?_)
  rw [ps_cl (by omega)]
  exact ⟨ps_in hj (by decide), ps_in hj (by decide), k10_upwards hW ht ⟨hW, hq⟩⟩
theorem k10_copy {a i b j m N M : Nat} (hW : aw_WT n θ) (ha : isA a N) (hb : isA b M) (hab : a ≠ b) (hi : i + m ≤ N) (hj : j + m ≤ M) (hN : N ≤ 1000) (hM : M ≤ 1000) (hq : qv n (s_cp σ a i b j m) τ θ) : SMv G 1 mX10_copy 0 0 [.ref a, .int (nI i), .ref b, .int (nI j), .int (nI m)] n σ τ θ qv := by
  refine ctX10_copy a N (nI i) b M (nI j) (nI m) (sgX10_copy_0 a N b M (nI i) (nI j) (nI m) (Nat.le_refl _) ha hb hW ?_)
  have h0 : SW G 1 mX10_copy (aw_qv qv) 0 0 3 [some (.ref a), some (.int (nI i)), some (.ref b), some (.int (nI j)), some (.int (nI m)), some (.int (nI 0))] [] (n, s_cp σ a i b j 0, τ, θ) := by
    refine ps_up (N := m) (P := fun c => SW G 1 mX10_copy (aw_qv qv) 0 0 3 [some (.ref a), some (.int (nI i)), some (.ref b), some (.int (nI j)), some (.int (nI m)), some (.int (nI c))] [] (n, s_cp σ a i b j c, τ, θ)) ?_ ?_ 0 (Nat.zero_le _)
    · exact sgX10_copy_3 a N b M _ _ _ _ (Nat.le_refl _) ha hb hW (ps_done rfl hq)
    · intro c hc ih
      refine sgX10_copy_3 a N b M _ _ _ _ (Nat.le_refl _) ha hb hW (ps_br rfl (by omega) (by omega) (fun h => absurd hc (by omega)) (fun _ => ?_))
      rw [← nI_succ, nI_add, nI_add, ps_cl (by omega), ps_cl (by omega), s_cp_succ hab]
      exact ⟨ps_in (by omega) (by omega), ps_in (by omega) (by omega), ih⟩
  rw [s_cp_0] at h0
  exact h0
theorem k10_good (hW : aw_WT n θ) (hq : qv n (aw_u (aw_u σ 120 0 0) 120 11 0) τ θ) : SMv G 1 mX10_good 0 0 [.ref 120] n σ τ θ qv := ctX10_good (sgX10_good_0 (Nat.le_refl _) hW hq)
theorem k10_no {x : Int32} (hW : aw_WT n θ) (hq : q (-1) n (aw_u σ 120 11 x) τ θ) : SMi G 1 mX10_no 0 0 [.ref 120, .int x] n σ τ θ q := ctX10_no x (sgX10_no_0 x (Nat.le_refl _) hW hq)
end CRef
