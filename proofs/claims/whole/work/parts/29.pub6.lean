/-! ===== sixth group ===== -/
section Pub6
variable {G : GG} {n : Nat} {σ : SG} {τ : TU} {θ : TH} {f t : Nat} {r st row : Nat → Int32} {q : Int32 → Nat → SG → TU → TH → Prop} {qv : Nat → SG → TU → TH → Prop} {ql : Int64 → Nat → SG → TU → TH → Prop}
theorem p10_size {x : Int32} (hW : aw_WT n θ) (hv : VR (σ 123)) (hH : HR σ (σ 123)) (h0 : nM (σ 123) = 0 → (∀ k, k < 10 → σ 123 k = 0) ∧ σ 125 12 = 0 ∧ σ 120 20 = 0 ∧ σ 120 21 = 0) (hq : ∀ σ', RS σ σ' (σ 120 11) → q (if s_in x 10 = true then σ 123 x.toNatClampNeg else if x = 10 then σ 125 12 else if x = 11 then σ 120 20 else if x = 12 then σ 120 21 else if x = 13 then σ 120 2 else -1) n σ' τ θ) : SMi G 2 mX10_size 0 0 [.ref 120, .int x] n σ τ θ q := by
  refine ctX10_size _ (sgX10_size_0 _ (Nat.le_refl _) hW ?_)
  have h1 := RS.thr (σ := σ)
  have hq := hq _ h1
  rw [aw_u_nk (show (2 : Nat) ≠ 0 by decide)]
  generalize hE : aw_u σ 120 0 0 = σ1 at h1 hq ⊢
  rw [h1.has, hH.iff]
  refine ⟨fun h => ⟨fun h2 => ?_, fun h2 => ?_⟩, fun h => ?_⟩
  · refine k10_in hW ⟨hW, ps_b (fun h3 => ?_) (fun h3 => ?_)⟩
    · rw [if_neg (fun e => h3 ((s_in_pred (N := 10) (by decide) (by decide)).mpr e))] at hq
      rw [h1.e5, h1.2.1 20 (by decide), h1.2.1 21 (by decide)]
      refine ⟨fun h4 => ⟨fun h5 => ⟨fun h6 => ?_, fun h6 => ?_⟩, fun h5 => ?_⟩, fun h4 => ?_⟩
      · rwa [if_neg h4, if_neg h5, if_neg h6, if_neg h] at hq
      · rwa [if_neg h4, if_neg h5, if_pos h6] at hq
      · rwa [if_neg h4, if_pos h5] at hq
      · rwa [if_pos h4] at hq
    · have h8 : s_in x 10 = true := (s_in_pred (by decide) (by decide)).mp h3
      rw [if_pos h8] at hq
      obtain ⟨j, hj, rfl⟩ := (s_in_iff (by omega)).mp h8
      rw [h1.e3]
      exact ⟨ps_in (by omega) (by decide), hq⟩
  · obtain ⟨z1, z2, z3, z4⟩ := h0 h2
    refine k10_in hW ⟨hW, ps_b (fun h3 => ?_) (fun h3 => ?_)⟩
    · have hx : ¬ s_in x 10 = true := fun e => h3 (by
        obtain ⟨j, hj, rfl⟩ := (s_in_iff (by decide)).mp e
        exact ⟨nI_pos (by omega), by rw [Int32.not_lt]; exact nI_le (b := 12) (by omega) (by omega)⟩)
      rw [if_neg hx, if_neg (fun e => h3 (by rw [e]; decide)), if_neg (fun e => h3 (by rw [e]; decide)), if_neg (fun e => h3 (by rw [e]; decide)), if_neg h] at hq
      exact hq
    · have h12 : s_in x 13 = true := (s_in_pred (N := 13) (by decide) (by decide)).mp h3
      obtain ⟨j, hj, rfl⟩ := (s_in_iff (by decide)).mp h12
      by_cases hx : s_in (nI j) 10 = true
      · rw [if_pos hx] at hq
        obtain ⟨i, hi, e⟩ := (s_in_iff (by decide)).mp hx
        rw [e, ps_cl (by omega), z1 i hi] at hq
        exact hq
      · have hj : ¬ j < 10 := fun e => hx ((s_in_iff (by decide)).mpr ⟨j, e, rfl⟩)
        rw [if_neg hx, z2, z3, z4] at hq
        rcases (show j = 10 ∨ j = 11 ∨ j = 12 by omega) with rfl | rfl | rfl
        · exact hq
        · exact hq
        · exact hq
  · subst h
    exact hq
/-! doors -/
def sp_door (r st : Nat → Int32) (x y : Int32) : Int32 × Int32 := if s_in x (nO r) = true ∧ s_in y 3 = true then ((if y = 0 then r (69 + x.toNatClampNeg) else if y = 1 then s_pb r st (st 12) x.toNatClampNeg (nM r) else s_ib r x.toNatClampNeg (nM r)), 0) else (-1, 1)
theorem p9_door {x y : Int32} (hW : aw_WT n θ) (hF : FR σ (θ 1 7) r) (hM : MR σ 6 st) (hv : VR r) (hq : ∀ σ' τ', CS σ σ' (sp_door r st x y).2 → q (sp_door r st x y).1 n σ' τ' θ) : SMi G 6 mX9_door 0 0 [.ref 1, .int x, .int y] n σ τ θ q := by
  unfold sp_door at hq
  have h4 := hv.o4
  refine ctX9_door _ _ (sgX9_door_0 _ _ (Nat.le_refl _) hW ?_)
  refine k9_isDoor hW hF hv ⟨hW, ps_b (fun h => ?_) (fun h => ⟨fun h2 => ?_, fun h2 => ⟨fun h3 => ?_, fun h3 => ?_⟩⟩)⟩
  · rw [if_neg (fun e => h e.1)] at hq
    exact k9_refuse hW ⟨hW, hq _ _ (CS.tr _ _)⟩
  · rw [if_neg (fun e => ((s_in_lt (c := 3) (by decide) rfl).mpr e.2).1 h2)] at hq
    exact k9_refuse hW ⟨hW, hq _ _ (CS.tr _ _)⟩
  · have h8 : s_in y 3 = true := (s_in_pred (by decide) (by decide)).mp ⟨h2, Int32.not_lt.mpr h3⟩
    rw [if_pos ⟨h, h8⟩] at hq
    obtain ⟨d, hd, rfl⟩ := (s_in_iff (by omega)).mp h
    rw [ps_cl (by omega)] at hq ⊢
    refine ⟨fun h5 => ⟨fun h6 => ?_, fun h6 => ?_⟩, fun h5 => ⟨ps_in (by omega) (by decide), ?_⟩⟩
    · rw [if_neg h5, if_neg h6] at hq
      exact k1_invitedBits hW.f hW hF hv ⟨hW, k9_grant hW ⟨hW, hq _ _ (CS.tr _ _)⟩⟩
    · rw [if_neg h5, if_pos h6] at hq
      exact k1_passingBits hW.f isM_now hW hF hM hv hd ⟨hW, k9_grant hW ⟨hW, hq _ _ (CS.tr _ _)⟩⟩
    · rw [if_pos h5] at hq
      rw [hF.2.2.1 d hd]
      exact k9_grant hW ⟨hW, hq _ _ (CS.tr _ _)⟩
  · rw [if_neg (fun e => h3 (Int32.not_lt.mp ((s_in_pred (N := 3) (by decide) (by decide)).mpr e.2).2))] at hq
    exact k9_refuse hW ⟨hW, hq _ _ (CS.tr _ _)⟩
theorem p10_door {x y : Int32} (hW : aw_WT n θ) (hv : VR (σ 123)) (hH : HR σ (σ 123)) (hq : ∀ σ', RS σ σ' (sp_door (σ 123) (σ 125) x y).2 → q (sp_door (σ 123) (σ 125) x y).1 n σ' τ θ) : SMi G 6 mX10_door 0 0 [.ref 120, .int x, .int y] n σ τ θ q := by
  unfold sp_door at hq
  have h4 := hv.o4
  have h5 := hv.m5
  refine ctX10_door _ _ (sgX10_door_0 _ _ (Nat.le_refl _) hW ?_)
  refine k10_good' hW (fun σ1 h1 => ⟨hW, ?_⟩)
  have h2 := h1.slot (s := 22) (x := 0) (by decide)
  have hb : (aw_u σ1 120 22 0) 120 22 = 0 := aw_u_eq
  generalize aw_u σ1 120 22 0 = σ2 at h2 hb ⊢
  refine k10_isDoor hW (h2.vr hv) (h2.hr hH) ⟨hW, ?_⟩
  rw [h2.e3]
  refine ps_b (fun h => ?_) (fun h => k10_in hW ⟨hW, And.symm (ps_b (fun h3 => ?_) (fun h3 => ?_))⟩)
  · rw [if_neg (fun e => h e.1)] at hq
    exact k10_no hW ⟨hW, hq _ h2.no⟩
  · rw [if_neg (fun e => h3 ((s_in_pred (N := 3) (by decide) (by decide)).mpr e.2))] at hq
    exact k10_no hW ⟨hW, hq _ h2.no⟩
  · have h8 : s_in y 3 = true := (s_in_pred (by decide) (by decide)).mp h3
    rw [if_pos ⟨h, h8⟩] at hq
    obtain ⟨d, hd, rfl⟩ := (s_in_iff (by omega)).mp h
    rw [ps_cl (by omega)] at hq
    rw [ix69, ps_cl (by omega), h2.e3]
    refine ⟨fun h6 => ?_, fun h6 => ⟨ps_in (by omega) (by decide), ?_⟩⟩
    · rw [if_neg h6] at hq
      have e : σ2 123 4 = nI (nM (σ 123)) := by rw [h2.e3]; exact hv.m
      refine ps_up (N := nM (σ 123)) (P := fun j => SW G 6 mX10_door (aw_qi q) 0 0 51 [some (.ref 120), some (.int (nI d)), some (.int y), some (.int (if y = 1 then s_pb (σ 123) (σ 125) (σ 125 12) d j else s_ib (σ 123) d j)), some (.int (nI j))] [] (n, σ2, τ, θ)) ?_ ?_ 0 (Nat.zero_le _) |> (fun k => by
        by_cases h7 : y = 1
        · simp only [if_pos h7] at k; exact k
        · simp only [if_neg h7] at k; exact k)
      · exact sgX10_door_51 _ _ _ _ (Nat.le_refl _) hW (ps_done e (hq _ h2))
      · intro j hj ih
        refine sgX10_door_51 _ _ _ _ (Nat.le_refl _) hW (ps_br e (by omega) (by omega) (fun h => absurd hj (by omega)) (fun _ => ?_))
        rw [← nI_succ j]
        refine ⟨fun h7 => ?_, fun h7 => ?_⟩
        · simp only [if_neg h7] at ih ⊢
          simp only [s_ib] at ih
          rw [ix73, ps_cl (by omega), h2.e3]
          refine ⟨ps_in (by omega) (by decide), fun h9 => ?_, fun h9 => ?_⟩
          · rw [if_neg h9] at ih; exact ih
          · rw [if_pos h9] at ih; exact ih
        · simp only [if_pos h7] at ih ⊢
          simp only [s_pb] at ih
          refine k10_doesPass hW isA_st (h2.vr hv) hb (by omega) (by omega) ⟨hW, ?_⟩
          rw [h2.e3, h2.e5]
          refine ps_b (fun h9 => ?_) (fun h9 => ?_)
          · rw [if_neg h9] at ih; exact ih
          · rw [if_pos h9] at ih; exact ih
    · rw [if_pos h6] at hq
      exact hq _ h2
/-! the worst spring -/
def sp_worst (r st : Nat → Int32) : Int32 × Int32 := if nM r = 0 then (-1, 1) else (nI (s_gb (fun i => s_all r st (st 12 + nI i) (nM r)) 20), 0)
theorem p9_worst (hW : aw_WT n θ) (hF : FR σ (θ 1 7) r) (hM : MR σ 6 st) (hv : VR r) (hq : ∀ σ' τ', CS σ σ' (sp_worst r st).2 → q (sp_worst r st).1 n σ' τ' θ) : SMi G 5 mX9_worstSpring 0 0 [.ref 1] n σ τ θ q := by
  unfold sp_worst at hq
  refine ctX9_worstSpring (sgX9_worstSpring_0 (Nat.le_refl _) hW ?_)
  refine k9_noDuchy hW hF hv ⟨hW, ps_b (fun h => ?_) (fun h => ?_)⟩
  · rw [if_neg h] at hq
    rw [hM.2.2]
    refine k1_allHeads hW.f isM_now hW hF hM hv ⟨hW, ?_⟩
    have key := ps_up (N := 20) (P := fun j => SW G 5 mX9_worstSpring (aw_qi q) 0 0 36 [some (.ref 1), some (.int (nI (s_gb (fun i => s_all r st (st 12 + nI i) (nM r)) j))), some (.int (s_all r st (st 12 + nI (s_gb (fun i => s_all r st (st 12 + nI i) (nM r)) j)) (nM r))), some (.int (nI (j + 1))), none] [] (n, σ, τ, θ)) ?_ ?_ 0 (Nat.zero_le _)
    · simp only [s_gb, nI_0, Int32.add_zero] at key
      exact key
    · exact sgX9_worstSpring_36 _ _ _ (Nat.le_refl _) hW (ps_20 (by omega) (fun _ => k9_grant hW ⟨hW, hq _ _ (CS.tr _ _)⟩) (fun h => absurd h (by omega)))
    · intro j hj ih
      refine sgX9_worstSpring_36 _ _ _ (Nat.le_refl _) hW (ps_20 (by omega) (fun h => absurd h (by omega)) (fun _ => ?_))
      rw [← nI_succ, hM.2.2]
      simp only [s_gb] at ih
      refine k1_allHeads hW.f isM_now hW hF hM hv ⟨hW, fun h2 => ?_, fun h2 => ?_⟩
      · rw [if_pos h2] at ih; exact ih
      · rw [if_neg h2] at ih; exact ih
  · rw [if_pos h] at hq
    exact k9_refuse hW ⟨hW, hq _ _ (CS.tr _ _)⟩
theorem p10_worst (hW : aw_WT n θ) (hv : VR (σ 123)) (hH : HR σ (σ 123)) (hs : VS (σ 125)) (hq : ∀ σ', RS σ σ' (sp_worst (σ 123) (σ 125)).2 → q (sp_worst (σ 123) (σ 125)).1 n σ' τ θ) : SMi G 6 mX10_worstSpring 0 0 [.ref 120] n σ τ θ q := by
  unfold sp_worst at hq
  have h5 := hv.m5
  refine ctX10_worstSpring (sgX10_worstSpring_0 (Nat.le_refl _) hW ?_)
  refine k10_good' hW (fun σ1 h1 => ⟨hW, ?_⟩)
  rw [h1.has, hH.iff]
  refine ⟨fun h => ?_, fun h => ?_⟩
  · rw [if_neg h] at hq
    have key := ps_up (N := 20) (P := fun j => ∀ σ2, RS σ σ2 0 → SW G 6 mX10_worstSpring (aw_qi q) 0 0 23 [some (.ref 120), some (.int (nI (s_gb (fun i => s_all (σ 123) (σ 125) (σ 125 12 + nI i) (nM (σ 123))) j))), some (.int (s_all (σ 123) (σ 125) (σ 125 12 + nI (s_gb (fun i => s_all (σ 123) (σ 125) (σ 125 12 + nI i) (nM (σ 123))) j)) (nM (σ 123)))), some (.int (nI (j + 1)))] [] (n, σ2, τ, θ)) ?_ ?_ 0 (Nat.zero_le _)
    · refine sgX10_worstSpring_23 _ _ _ (Nat.le_refl _) hW (ps_20 (j := 0) (by omega) (fun h => absurd h (by omega)) (fun _ => ?_))
      refine k10_goOver hW h1 (fun σ3 h3 hb hk ht => ⟨hW, ?_⟩)
      refine k10_headsOf hW isA_trial (h3.vr hv) hb ⟨hW, ?_⟩
      refine ⟨fun _ => ?_, fun h4 => ?_⟩
      · refine k10_headsOf hW isA_trial (h3.vr hv) hb ⟨hW, ?_⟩
        have k1 := key σ3 h3
        rw [h3.e3, ht, s_all_c hv (fun k hk' => hk k (by omega))]
        exact k1
      · rw [h3.e3, ht, s_all_c hv (fun k hk' => hk k (by omega))] at h4
        obtain ⟨x, -, hx, ex⟩ := s_all_b (s := σ 125 12 + nI 0) hv hs.1 (nM (σ 123)) h5
        exact absurd (show (-1 : Int32) < s_all (σ 123) (σ 125) (σ 125 12 + nI 0) (nM (σ 123)) from by
          rw [ex]
          exact Int32.lt_of_lt_of_le (show (-1 : Int32) < 0 by decide) (nI_pos' (by omega))) h4
    · intro σ2 h2
      exact sgX10_worstSpring_23 _ _ _ (Nat.le_refl _) hW (ps_20 (by omega) (fun _ => hq _ h2) (fun h => absurd h (by omega)))
    · intro j hj ih σ2 h2
      refine sgX10_worstSpring_23 _ _ _ (Nat.le_refl _) hW (ps_20 (by omega) (fun h => absurd h (by omega)) (fun _ => ?_))
      rw [← nI_succ]
      simp only [s_gb] at ih
      refine k10_goOver hW h2 (fun σ3 h3 hb hk ht => ⟨hW, ?_⟩)
      refine k10_headsOf hW isA_trial (h3.vr hv) hb ⟨hW, ?_⟩
      rw [h3.e3, ht, s_all_c hv (fun k hk' => hk k (by omega))]
      refine ⟨fun h4 => ?_, fun h4 => ?_⟩
      · rw [if_neg (Int32.not_le.mpr h4)] at ih
        refine k10_headsOf hW isA_trial (h3.vr hv) hb ⟨hW, ?_⟩
        rw [h3.e3, ht, s_all_c hv (fun k hk' => hk k (by omega))]
        exact ih _ h3
      · rw [if_pos (Int32.not_lt.mp h4)] at ih
        exact ih _ h3
  · rw [if_pos h] at hq
    exact k10_no hW ⟨hW, hq _ h1.no⟩
end Pub6
