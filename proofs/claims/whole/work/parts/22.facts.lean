/-! ===== Facts: the contracts ===== -/
section CFacts
variable {G : GG} {n : Nat} {σ : SG} {τ : TU} {θ : TH} {f t : Nat} {r row : Nat → Int32} {q : Int32 → Nat → SG → TU → TH → Prop}
theorem k1_isDue {s : Int32} {j : Nat} (hf : isF f) (ht : isM t) (hW : aw_WT n θ) (hF : FR σ f r) (hM : MR σ t row) (hv : VR r) (hj : j < nD r) (hq : q (if s_due r row s j = true then 1 else 0) n σ τ θ) : SMi G 1 mX1_isDue 0 0 [.ref f, .ref t, .int (nI j), .int s] n σ τ θ q := by
  have h7 : j < 7 := by have := hv.d7; omega
  refine ctX1_isDue f t (nI j) s (sgX1_isDue_0 f t (nI j) s (Nat.le_refl _) hf ht hW ?_)
  rw [ps_cl (by omega), (hF.2.2.2.2.1 j hj).2.2.2, hM.2.1 j h7]
  refine ⟨ps_in h7 (by decide), fun h => ?_, fun h => ⟨ps_in h7 (by decide), fun h2 => ?_, fun h2 => ?_⟩⟩
  · rwa [if_neg (fun e => absurd (s_due_iff.mp e).1 (Int32.not_le.mpr h))] at hq
  · rwa [if_neg (fun e => absurd (s_due_iff.mp e).2 (Int32.not_lt.mpr h2))] at hq
  · rwa [if_pos (s_due_iff.mpr ⟨Int32.not_lt.mp h, Int32.not_le.mp h2⟩)] at hq
theorem k1_tinesFor {x : Int32} (hf : isF f) (hW : aw_WT n θ) (hF : FR σ f r) (hx : 0 < x) (ht : 0 < r 0) (hq : q (s_up x (r 0)) n σ τ θ) : SMi G 1 mX1_tinesFor 0 0 [.ref f, .int x] n σ τ θ q := by
  refine ctX1_tinesFor f x (sgX1_tinesFor_0 f x (Nat.le_refl _) hf hW ?_)
  rw [hF.1.1]
  exact ⟨fun h => absurd h (Int32.not_le.mpr hx), fun _ => ⟨fun _ => ⟨fun e => by rw [e] at ht; exact absurd ht (by decide), hq⟩, fun h => absurd ht h⟩⟩
theorem VR.tp {r : Nat → Int32} (h : VR r) (hm : 0 < nM r) : 0 < r 0 := by
  rw [h.t]
  have := h.t1 hm
  have := h.t20
  exact nI_lt (a := 0) (by omega) (by omega)
theorem k1_burdenOf {s m : Int32} (hf : isF f) (ht : isM t) (hW : aw_WT n θ) (hF : FR σ f r) (hM : MR σ t row) (hv : VR r) (hq : q (s_db r row s m (nD r)) n σ τ θ) : SMi G 2 mX1_burdenOf 0 0 [.ref f, .ref t, .int m, .int s] n σ τ θ q := by
  refine ctX1_burdenOf f t m s (sgX1_burdenOf_0 f t m s (Nat.le_refl _) hf ht hW ?_)
  have h7 := hv.d7
  have e5 : σ (f + 8) 4 = nI (nD r) := hF.1.2.2.2.2.2.1.trans hv.d
  refine ps_up (N := nD r) (P := fun j => SW G 2 mX1_burdenOf (aw_qi q) 0 0 6 [some (.ref f), some (.ref t), some (.int m), some (.int s), some (.int (s_db r row s m j)), some (.int (nI j))] [] (n, σ, τ, θ)) ?_ ?_ 0 (Nat.zero_le _)
  · exact sgX1_burdenOf_6 f t m s _ _ (Nat.le_refl _) hf ht hW (ps_done e5 hq)
  · intro j hj ih
    refine sgX1_burdenOf_6 f t m s _ _ (Nat.le_refl _) hf ht hW (ps_br e5 (by omega) (by omega) (fun h => absurd hj (by omega)) (fun _ => ?_))
    rw [ps_cl (by omega), (hF.2.2.2.2.1 j hj).1, ← nI_succ]
    simp only [s_db] at ih
    refine ⟨ps_in (by omega) (by decide), fun h => ?_, fun h => ?_⟩
    · rw [if_neg (fun e => h e.2), Int32.add_zero] at ih
      exact ih
    · refine k1_isDue hf ht hW hF hM hv hj ⟨hW, fun h2 => ?_, fun h2 => ⟨ps_in (by omega) (by decide), ?_⟩⟩
      · rw [if_neg (fun e => by rw [if_pos e.1] at h2; exact absurd h2 (by decide)), Int32.add_zero] at ih
        exact ih
      · have hd : s_due r row s j = true := by
          by_cases e : s_due r row s j = true
          · exact e
          · rw [if_neg e] at h2; exact absurd rfl h2
        rw [if_pos ⟨hd, h⟩] at ih
        rw [hM.2.1 j (by omega)]
        exact k1_tinesFor hf hW hF (s_due_iff.mp hd).2 (hv.tp (hv.mD hj)) ⟨hW, ih⟩
theorem k1_headBy {m : Nat} {b : Int32} (hf : isF f) (hW : aw_WT n θ) (hF : FR σ f r) (hv : VR r) (hm : m < nM r) (hq : q (s_hb (r (10 + 3 * m)) b) n σ τ θ) : SMi G 1 mX1_headBy 0 0 [.ref f, .int (nI m), .int b] n σ τ θ q := by
  have h5 := hv.m5
  refine ctX1_headBy f (nI m) b (sgX1_headBy_0 f (nI m) b (Nat.le_refl _) hf hW ?_)
  rw [ps_cl (by omega), (hF.2.1 m hm).1]
  unfold s_hb at hq
  refine ⟨ps_in (by omega) (by decide), fun h => ?_, fun h => ?_, fun h => ?_, fun h => ?_⟩
  · rw [if_neg, if_neg, if_neg] at hq
    · exact hq
    · intro e; rw [e] at h; revert h; decide
    · intro e; rw [e] at h; revert h; decide
    · intro e; rw [e] at h; revert h; decide
  · rwa [if_pos h] at hq
  · rw [h] at hq; exact hq
  · rw [h] at hq; exact hq
theorem k1_headOf {s : Int32} {m : Nat} (hf : isF f) (ht : isM t) (hW : aw_WT n θ) (hF : FR σ f r) (hM : MR σ t row) (hv : VR r) (hm : m < nM r) (hq : q (s_hd r row s m) n σ τ θ) : SMi G 3 mX1_headOf 0 0 [.ref f, .ref t, .int (nI m), .int s] n σ τ θ q := by
  refine ctX1_headOf f t (nI m) s (sgX1_headOf_0 f t (nI m) s (Nat.le_refl _) hf ht hW ?_)
  exact k1_burdenOf hf ht hW hF hM hv ⟨hW, k1_headBy hf hW hF hv hm ⟨hW, hq⟩⟩
theorem k1_allHeads {s : Int32} (hf : isF f) (ht : isM t) (hW : aw_WT n θ) (hF : FR σ f r) (hM : MR σ t row) (hv : VR r) (hq : q (s_all r row s (nM r)) n σ τ θ) : SMi G 4 mX1_allHeads 0 0 [.ref f, .ref t, .int s] n σ τ θ q := by
  have h5 := hv.m5
  have e : σ f 13 = nI (nM r) := hF.1.2.2.2.2.1.trans hv.m
  refine ctX1_allHeads f t s (sgX1_allHeads_0 f t s (Nat.le_refl _) hf ht hW ?_)
  refine ps_up (N := nM r) (P := fun j => SW G 4 mX1_allHeads (aw_qi q) 0 0 5 [some (.ref f), some (.ref t), some (.int s), some (.int (s_all r row s j)), some (.int (nI j))] [] (n, σ, τ, θ)) ?_ ?_ 0 (Nat.zero_le _)
  · exact sgX1_allHeads_5 f t s _ _ (Nat.le_refl _) hf ht hW (ps_done e hq)
  · intro j hj ih
    refine sgX1_allHeads_5 f t s _ _ (Nat.le_refl _) hf ht hW (ps_br e (by omega) (by omega) (fun h => absurd hj (by omega)) (fun _ => ?_))
    rw [← nI_succ]
    exact k1_headOf hf ht hW hF hM hv hj ⟨hW, ih⟩
theorem k1_dueFrom {m : Int32} (hf : isF f) (ht : isM t) (hW : aw_WT n θ) (hF : FR σ f r) (hM : MR σ t row) (hv : VR r) (hq : q (s_lf r row (row 12) m (-1) (nD r)) n σ τ θ) : SMi G 2 mX1_dueFrom 0 0 [.ref f, .ref t, .int m] n σ τ θ q := by
  refine ctX1_dueFrom f t m (sgX1_dueFrom_0 f t m (Nat.le_refl _) hf ht hW ?_)
  have h7 := hv.d7
  have e5 : σ (f + 8) 4 = nI (nD r) := hF.1.2.2.2.2.2.1.trans hv.d
  refine ps_up (N := nD r) (P := fun j => SW G 2 mX1_dueFrom (aw_qi q) 0 0 5 [some (.ref f), some (.ref t), some (.int m), some (.int (s_lf r row (row 12) m (-1) j)), some (.int (nI j))] [] (n, σ, τ, θ)) ?_ ?_ 0 (Nat.zero_le _)
  · exact sgX1_dueFrom_5 f t m _ _ (Nat.le_refl _) hf ht hW (ps_done e5 hq)
  · intro j hj ih
    refine sgX1_dueFrom_5 f t m _ _ (Nat.le_refl _) hf ht hW (ps_br e5 (by omega) (by omega) (fun h => absurd hj (by omega)) (fun _ => ?_))
    rw [ps_cl (by omega), (hF.2.2.2.2.1 j hj).1, ← nI_succ, hM.2.2]
    simp only [s_lf] at ih
    refine ⟨ps_in (by omega) (by decide), fun h => ?_, fun h => ?_⟩
    · rw [if_neg (fun e => h e.2.1), Int32.add_zero] at ih
      exact ih
    · refine k1_isDue hf ht hW hF hM hv hj ⟨hW, ps_b (fun h2 => ?_) (fun h2 => ⟨ps_in (by omega) (by decide), ?_⟩)⟩
      · rw [if_neg (fun e => h2 e.1), Int32.add_zero] at ih
        exact ih
      · rw [if_pos ⟨h2, h, Or.inl (by decide)⟩] at ih
        rw [hM.2.1 j (by omega)]
        exact ih
theorem k1_dueTo {m : Int32} (hf : isF f) (ht : isM t) (hW : aw_WT n θ) (hF : FR σ f r) (hM : MR σ t row) (hv : VR r) (hq : q (s_ot r row (row 12) m (nD r)) n σ τ θ) : SMi G 2 mX1_dueTo 0 0 [.ref f, .ref t, .int m] n σ τ θ q := by
  refine ctX1_dueTo f t m (sgX1_dueTo_0 f t m (Nat.le_refl _) hf ht hW ?_)
  have h7 := hv.d7
  have e5 : σ (f + 8) 4 = nI (nD r) := hF.1.2.2.2.2.2.1.trans hv.d
  refine ps_up (N := nD r) (P := fun j => SW G 2 mX1_dueTo (aw_qi q) 0 0 5 [some (.ref f), some (.ref t), some (.int m), some (.int (s_ot r row (row 12) m j)), some (.int (nI j))] [] (n, σ, τ, θ)) ?_ ?_ 0 (Nat.zero_le _)
  · exact sgX1_dueTo_5 f t m _ _ (Nat.le_refl _) hf ht hW (ps_done e5 hq)
  · intro j hj ih
    refine sgX1_dueTo_5 f t m _ _ (Nat.le_refl _) hf ht hW (ps_br e5 (by omega) (by omega) (fun h => absurd hj (by omega)) (fun _ => ?_))
    rw [ps_cl (by omega), (hF.2.2.2.2.1 j hj).2.1, ← nI_succ, hM.2.2]
    simp only [s_ot] at ih
    refine ⟨ps_in (by omega) (by decide), fun h => ?_, fun h => ?_⟩
    · rw [if_neg (fun e => h e.2), Int32.add_zero] at ih
      exact ih
    · refine k1_isDue hf ht hW hF hM hv hj ⟨hW, ps_b (fun h2 => ?_) (fun h2 => ⟨ps_in (by omega) (by decide), ?_⟩)⟩
      · rw [if_neg (fun e => h2 e.1), Int32.add_zero] at ih
        exact ih
      · rw [if_pos ⟨h2, h⟩] at ih
        rw [hM.2.1 j (by omega)]
        exact ih
theorem k1_dueBetween {m w : Int32} (hw : ¬ w < 0) (hf : isF f) (ht : isM t) (hW : aw_WT n θ) (hF : FR σ f r) (hM : MR σ t row) (hv : VR r) (hq : q (s_lf r row (row 12) m w (nD r)) n σ τ θ) : SMi G 2 mX1_dueBetween 0 0 [.ref f, .ref t, .int m, .int w] n σ τ θ q := by
  refine ctX1_dueBetween f t m w (sgX1_dueBetween_0 f t m w (Nat.le_refl _) hf ht hW ?_)
  have h7 := hv.d7
  have e5 : σ (f + 8) 4 = nI (nD r) := hF.1.2.2.2.2.2.1.trans hv.d
  refine ps_up (N := nD r) (P := fun j => SW G 2 mX1_dueBetween (aw_qi q) 0 0 6 [some (.ref f), some (.ref t), some (.int m), some (.int w), some (.int (s_lf r row (row 12) m w j)), some (.int (nI j))] [] (n, σ, τ, θ)) ?_ ?_ 0 (Nat.zero_le _)
  · exact sgX1_dueBetween_6 f t m w _ _ (Nat.le_refl _) hf ht hW (ps_done e5 hq)
  · intro j hj ih
    refine sgX1_dueBetween_6 f t m w _ _ (Nat.le_refl _) hf ht hW (ps_br e5 (by omega) (by omega) (fun h => absurd hj (by omega)) (fun _ => ?_))
    rw [ps_cl (by omega), (hF.2.2.2.2.1 j hj).1, (hF.2.2.2.2.1 j hj).2.1, ← nI_succ, hM.2.2]
    simp only [s_lf] at ih
    refine ⟨ps_in (by omega) (by decide), fun h => ?_, fun h => ⟨ps_in (by omega) (by decide), fun h3 => ?_, fun h3 => ?_⟩⟩
    · rw [if_neg (fun e => h e.2.1), Int32.add_zero] at ih
      exact ih
    · rw [if_neg (fun e => e.2.2.elim hw h3), Int32.add_zero] at ih
      exact ih
    · refine k1_isDue hf ht hW hF hM hv hj ⟨hW, ps_b (fun h2 => ?_) (fun h2 => ⟨ps_in (by omega) (by decide), ?_⟩)⟩
      · rw [if_neg (fun e => h2 e.1), Int32.add_zero] at ih
        exact ih
      · rw [if_pos ⟨h2, h, Or.inr h3⟩] at ih
        rw [hM.2.1 j (by omega)]
        exact ih
theorem k1_owedBits {m : Int32} (hf : isF f) (ht : isM t) (hW : aw_WT n θ) (hF : FR σ f r) (hM : MR σ t row) (hv : VR r) (hq : q (s_ob r row (row 12) m (nD r)) n σ τ θ) : SMi G 2 mX1_owedBits 0 0 [.ref f, .ref t, .int m] n σ τ θ q := by
  refine ctX1_owedBits f t m (sgX1_owedBits_0 f t m (Nat.le_refl _) hf ht hW ?_)
  have h7 := hv.d7
  have e5 : σ (f + 8) 4 = nI (nD r) := hF.1.2.2.2.2.2.1.trans hv.d
  refine ps_up (N := nD r) (P := fun j => SW G 2 mX1_owedBits (aw_qi q) 0 0 5 [some (.ref f), some (.ref t), some (.int m), some (.int (s_ob r row (row 12) m j)), some (.int (nI j))] [] (n, σ, τ, θ)) ?_ ?_ 0 (Nat.zero_le _)
  · exact sgX1_owedBits_5 f t m _ _ (Nat.le_refl _) hf ht hW (ps_done e5 hq)
  · intro j hj ih
    refine sgX1_owedBits_5 f t m _ _ (Nat.le_refl _) hf ht hW (ps_br e5 (by omega) (by omega) (fun h => absurd hj (by omega)) (fun _ => ?_))
    rw [ps_cl (by omega), (hF.2.2.2.2.1 j hj).1, ← nI_succ, hM.2.2]
    simp only [s_ob] at ih
    refine ⟨ps_in (by omega) (by decide), fun h => ?_, fun h => ?_⟩
    · rw [if_neg (fun e => h e.2), Int32.or_zero] at ih
      exact ih
    · refine k1_isDue hf ht hW hF hM hv hj ⟨hW, ps_b (fun h2 => ?_) (fun h2 => ⟨ps_in (by omega) (by decide), ?_⟩)⟩
      · rw [if_neg (fun e => h2 e.1), Int32.or_zero] at ih
        exact ih
      · rw [if_pos ⟨h2, h⟩] at ih
        rw [(hF.2.2.2.2.1 j hj).2.1]
        exact ih
theorem k1_passes {m d : Nat} (hf : isF f) (ht : isM t) (hW : aw_WT n θ) (hF : FR σ f r) (hM : MR σ t row) (hv : VR r) (hm : m < nM r) (hd : d < nO r) (hq : q (if s_hd r row (row 12) m ≤ r (69 + d) then 1 else 0) n σ τ θ) : SMi G 4 mX1_passes 0 0 [.ref f, .ref t, .int (nI m), .int (nI d)] n σ τ θ q := by
  have h4 := hv.o4
  refine ctX1_passes f t (nI m) (nI d) (sgX1_passes_0 f t (nI m) (nI d) (Nat.le_refl _) hf ht hW ?_)
  rw [hM.2.2]
  refine k1_headOf hf ht hW hF hM hv hm ⟨hW, ps_in (by omega) (by decide), ?_⟩
  rw [ps_cl (by omega), hF.2.2.1 d hd]
  refine ⟨fun h => ?_, fun h => ?_⟩
  · rwa [if_neg (Int32.not_le.mpr h)] at hq
  · rwa [if_pos (Int32.not_lt.mp h)] at hq
theorem k1_passingBits {d : Nat} (hf : isF f) (ht : isM t) (hW : aw_WT n θ) (hF : FR σ f r) (hM : MR σ t row) (hv : VR r) (hd : d < nO r) (hq : q (s_pb r row (row 12) d (nM r)) n σ τ θ) : SMi G 5 mX1_passingBits 0 0 [.ref f, .ref t, .int (nI d)] n σ τ θ q := by
  have h5 := hv.m5
  have e : σ f 13 = nI (nM r) := hF.1.2.2.2.2.1.trans hv.m
  refine ctX1_passingBits f t (nI d) (sgX1_passingBits_0 f t (nI d) (Nat.le_refl _) hf ht hW ?_)
  refine ps_up (N := nM r) (P := fun j => SW G 5 mX1_passingBits (aw_qi q) 0 0 5 [some (.ref f), some (.ref t), some (.int (nI d)), some (.int (s_pb r row (row 12) d j)), some (.int (nI j))] [] (n, σ, τ, θ)) ?_ ?_ 0 (Nat.zero_le _)
  · exact sgX1_passingBits_5 f t _ _ _ (Nat.le_refl _) hf ht hW (ps_done e hq)
  · intro j hj ih
    refine sgX1_passingBits_5 f t _ _ _ (Nat.le_refl _) hf ht hW (ps_br e (by omega) (by omega) (fun h => absurd hj (by omega)) (fun _ => ?_))
    rw [← nI_succ]
    simp only [s_pb] at ih
    refine k1_passes hf ht hW hF hM hv hj hd ⟨hW, ps_b (fun h2 => ?_) (fun h2 => ?_)⟩
    · rw [if_neg h2, Int32.or_zero] at ih
      exact ih
    · rw [if_pos h2] at ih
      exact ih
theorem k1_invitedBits {d : Nat} (hf : isF f) (hW : aw_WT n θ) (hF : FR σ f r) (hv : VR r) (hq : q (s_ib r d (nM r)) n σ τ θ) : SMi G 1 mX1_invitedBits 0 0 [.ref f, .int (nI d)] n σ τ θ q := by
  have h5 := hv.m5
  have e : σ f 13 = nI (nM r) := hF.1.2.2.2.2.1.trans hv.m
  refine ctX1_invitedBits f (nI d) (sgX1_invitedBits_0 f (nI d) (Nat.le_refl _) hf hW ?_)
  refine ps_up (N := nM r) (P := fun j => SW G 1 mX1_invitedBits (aw_qi q) 0 0 4 [some (.ref f), some (.int (nI d)), some (.int (s_ib r d j)), some (.int (nI j))] [] (n, σ, τ, θ)) ?_ ?_ 0 (Nat.zero_le _)
  · exact sgX1_invitedBits_4 f _ _ _ (Nat.le_refl _) hf hW (ps_done e hq)
  · intro j hj ih
    refine sgX1_invitedBits_4 f _ _ _ (Nat.le_refl _) hf hW (ps_br e (by omega) (by omega) (fun h => absurd hj (by omega)) (fun _ => ?_))
    rw [← nI_succ, ps_cl (by omega), (hF.2.1 j hj).2.2.2, ps_sub1]
    simp only [s_ib] at ih
    refine ⟨ps_in (by omega) (by decide), fun h2 => ?_, fun h2 => ?_⟩
    · rw [if_neg h2, Int32.or_zero] at ih
      exact ih
    · rw [if_pos h2] at ih
      exact ih
theorem k1_invitedCount (hf : isF f) (hW : aw_WT n θ) (hF : FR σ f r) (hv : VR r) (hq : q (s_ic r (nM r)) n σ τ θ) : SMi G 1 mX1_invitedCount 0 0 [.ref f] n σ τ θ q := by
  have h5 := hv.m5
  have e : σ f 13 = nI (nM r) := hF.1.2.2.2.2.1.trans hv.m
  refine ctX1_invitedCount f (sgX1_invitedCount_0 f (Nat.le_refl _) hf hW ?_)
  refine ps_up (N := nM r) (P := fun j => SW G 1 mX1_invitedCount (aw_qi q) 0 0 4 [some (.ref f), some (.int (s_ic r j)), some (.int (nI j))] [] (n, σ, τ, θ)) ?_ ?_ 0 (Nat.zero_le _)
  · exact sgX1_invitedCount_4 f _ _ (Nat.le_refl _) hf hW (ps_done e hq)
  · intro j hj ih
    refine sgX1_invitedCount_4 f _ _ (Nat.le_refl _) hf hW (ps_br e (by omega) (by omega) (fun h => absurd hj (by omega)) (fun _ => ?_))
    rw [← nI_succ, ps_cl (by omega), (hF.2.1 j hj).2.2.2, ps_sub1, show (-1 : Int32) + 1 = 0 by decide]
    simp only [s_ic] at ih
    refine ⟨ps_in (by omega) (by decide), fun h2 => ?_, fun h2 => ?_⟩
    · rw [if_pos h2, Int32.add_zero] at ih
      exact ih
    · rw [if_neg h2] at ih
      exact ih
theorem k1_menWithin {w : Int32} (hf : isF f) (ht : isM t) (hW : aw_WT n θ) (hF : FR σ f r) (hM : MR σ t row) (hv : VR r) (hq : q (s_mw r row (row 12) w (nM r)) n σ τ θ) : SMi G 4 mX1_menWithin 0 0 [.ref f, .ref t, .int w] n σ τ θ q := by
  have h5 := hv.m5
  have e : σ f 13 = nI (nM r) := hF.1.2.2.2.2.1.trans hv.m
  refine ctX1_menWithin f t w (sgX1_menWithin_0 f t w (Nat.le_refl _) hf ht hW ?_)
  refine ps_up (N := nM r) (P := fun j => SW G 4 mX1_menWithin (aw_qi q) 0 0 5 [some (.ref f), some (.ref t), some (.int w), some (.int (s_mw r row (row 12) w j)), some (.int (nI j))] [] (n, σ, τ, θ)) ?_ ?_ 0 (Nat.zero_le _)
  · exact sgX1_menWithin_5 f t _ _ _ (Nat.le_refl _) hf ht hW (ps_done e hq)
  · intro j hj ih
    refine sgX1_menWithin_5 f t _ _ _ (Nat.le_refl _) hf ht hW (ps_br e (by omega) (by omega) (fun h => absurd hj (by omega)) (fun _ => ?_))
    rw [← nI_succ, hM.2.2]
    simp only [s_mw] at ih
    refine k1_headOf hf ht hW hF hM hv hj ⟨hW, fun h2 => ?_, fun h2 => ?_⟩
    · rw [if_neg (Int32.not_le.mpr h2), Int32.add_zero] at ih
      exact ih
    · rw [if_pos (Int32.not_lt.mp h2)] at ih
      exact ih
theorem k1_readingWeight {j : Nat} {h : Int32} (hf : isF f) (hW : aw_WT n θ) (hF : FR σ f r) (hv : VR r) (hj : j < nR r) (hq : q (s_rw (r 1) h (r (79 + 2 * j))) n σ τ θ) : SMi G 1 mX1_readingWeight 0 0 [.ref f, .int (nI j), .int h] n σ τ θ q := by
  have h4 := hv.r4
  refine ctX1_readingWeight f (nI j) h (sgX1_readingWeight_0 f (nI j) h (Nat.le_refl _) hf hW ?_)
  rw [ps_cl (by omega), (hF.2.2.2.1 j hj).2, hF.1.2.1, ps_sube]
  simp only [ps_subc]
  unfold s_rw at hq
  refine ⟨ps_in (by omega) (by decide), fun h1 => ⟨fun h2 => ⟨fun h3 => ?_, fun h3 => ⟨fun h4 => ?_, fun h4 => ?_⟩⟩, fun h2 => ⟨fun h3 => ?_, fun h3 => ?_⟩⟩, fun h1 => ?_⟩
  · rw [if_neg h1, if_neg h2, if_pos (Or.inl h3)] at hq
    exact hq
  · rw [if_neg h1, if_neg h2, if_neg (fun e => e.elim h3 (fun e => h4 (by rw [e, Int32.sub_eq_add_neg])))] at hq
    exact hq
  · rw [if_neg h1, if_neg h2, if_pos (Or.inr (by rw [h4, Int32.sub_eq_add_neg]))] at hq
    exact hq
  · rw [if_neg h1, if_pos h2, if_neg (fun e => h3 (by rw [e, h2]; rfl))] at hq
    exact hq
  · rw [if_neg h1, if_pos h2, if_pos (by rw [h3, h2]; rfl)] at hq
    exact hq
  · rw [if_pos h1] at hq
    exact hq
end CFacts
