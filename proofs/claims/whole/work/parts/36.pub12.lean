theorem ps_b1 : ∀ b : Fin 8, ∀ c : Fin 7, (nI b.val - 1 < nI c.val) ↔ b.val ≤ c.val := by decide +kernel
section Pub12
variable {G : GG} {n : Nat} {σ : SG} {τ : TU} {θ : TH} {f t : Nat} {r st row : Nat → Int32} {q : Int32 → Nat → SG → TU → TH → Prop} {qv : Nat → SG → TU → TH → Prop} {ql : Int64 → Nat → SG → TU → TH → Prop}
theorem isA_mnow : isA 129 5 := ⟨kp_129, by decide, by decide⟩
theorem isA_best : isA 130 5 := ⟨kp_130, by decide, by decide⟩
/-- where the search for guests stands -/
def GS (σ0 σ : SG) (s : Nat × (Nat → Int32)) (w : Nat → Int32) (m : Nat) : Prop := RS σ0 σ 0 ∧ σ 120 22 = 0 ∧ σ 120 26 = nI s.1 - 1 ∧ (∀ j, j < nM (σ0 123) → σ 130 j = s.2 j) ∧ ∀ j, j < m → σ 129 j = w j
theorem GS.now {σ0 σ : SG} {s : Nat × (Nat → Int32)} {w : Nat → Int32} {m : Nat} (h : GS σ0 σ s w m) (x : Int32) : GS σ0 (aw_u σ 129 m x) s (pu w m x) (m + 1) := by
  obtain ⟨h1, h2, h3, h4, h5⟩ := h
  refine ⟨h1.obj (fun o ho => aw_uo (by omega)), ?_, ?_, fun j hj => ?_, fun j hj => ?_⟩
  · rw [aw_uo (by decide)]; exact h2
  · rw [aw_uo (by decide)]; exact h3
  · rw [aw_uo (by decide)]; exact h4 j hj
  · by_cases h : j = m
    · rw [h, aw_u_eq]; exact (if_pos rfl).symm
    · rw [aw_u_nk h, h5 j (by omega)]; exact (if_neg h).symm
theorem GS.less {σ0 σ : SG} {s : Nat × (Nat → Int32)} {w : Nat → Int32} {m : Nat} {x : Int32} (h : GS σ0 σ s (pu w m x) (m + 1)) : GS σ0 σ s w m := by
  obtain ⟨h1, h2, h3, h4, h5⟩ := h
  exact ⟨h1, h2, h3, h4, fun j hj => (h5 j (by omega)).trans (if_neg (by omega))⟩
theorem k10_tryGuests {σ0 : SG} (hW : aw_WT n θ) (hv : VR (σ0 123)) : ∀ rem kk U many w s, 6 + rem ≤ kk → rem ≤ nM (σ0 123) → U < 16 → many + rem ≤ 5 → s.1 ≤ 6 → ∀ (qv : Nat → SG → TU → TH → Prop) σ, GS σ0 σ s w (nM (σ0 123) - rem) → (∀ σ', GS σ0 σ' (tg (okG (σ0 123) (σ0 125)) (nM (σ0 123)) (nO (σ0 123)) rem U many w s) w (nM (σ0 123) - rem) → qv n σ' τ θ) → SMv G kk mX10_tryGuests 0 0 [.ref 120, .int (nI (nM (σ0 123) - rem)), .int (nI U), .int (nI many)] n σ τ θ qv := by
  have h5 := hv.m5
  have h4 := hv.o4
  intro rem
  induction rem with
  | zero =>
    intro kk U many w s hkk hr hU hm hs qv σ hG hq
    obtain ⟨g1, g2, g3, g4, g5⟩ := hG
    have e4 : σ 123 4 = nI (nM (σ0 123)) := by rw [g1.e3]; exact hv.m
    refine ctX10_tryGuests _ _ _ (sgX10_tryGuests_0 (kr := kk - 1) _ _ _ (by omega) (by omega) hW ?_)
    rw [e4, g3]
    have hc : (nI s.1 - 1 < nI many) ↔ s.1 ≤ many := ps_b1 ⟨s.1, by omega⟩ ⟨many, by omega⟩
    rw [hc]
    refine ⟨fun h => absurd rfl h, fun _ => ⟨fun h => ?_, fun h => ?_⟩⟩
    · refine k10_copy (i := 0) (j := 0) (m := 5) hW isA_mnow isA_best (by decide) (by decide) (by decide) (by decide) (by decide) ⟨hW, hq _ ?_⟩
      simp only [tg]
      rw [if_pos h]
      have r1 := g1.slot (s := 26) (x := nI many) (by decide)
      refine ⟨r1.obj (fun o ho => funext fun k => s_cp_out (by omega)), ?_, ?_, fun j hj => ?_, fun j hj => ?_⟩
      · rw [s_cp_out (by decide), aw_u_nk (by decide)]; exact g2
      · rw [s_cp_out (by decide), aw_u_eq, nI_pred]
      · rw [s_cp_in (by omega) (by omega), aw_uo (by decide)]
        exact (congrArg (σ 129) (show 0 + (j - 0) = j by omega)).trans (g5 j (by omega))
      · rw [s_cp_out (by decide), aw_uo (by decide)]; exact g5 j hj
    · refine hq _ ?_
      simp only [tg]
      rw [if_neg h]
      exact ⟨g1, g2, g3, g4, g5⟩
  | succ rem ih =>
    intro kk U many w s hkk hr hU hm hs qv σ hG hq
    have hmr : nM (σ0 123) - (rem + 1) + 1 = nM (σ0 123) - rem := by omega
    refine ctX10_tryGuests _ _ _ (sgX10_tryGuests_0 (kr := kk - 1) _ _ _ (by omega) (by omega) hW ?_)
    have e4 : σ 123 4 = nI (nM (σ0 123)) := by rw [hG.1.e3]; exact hv.m
    rw [e4]
    refine ⟨fun _ => ?_, fun h => absurd ((nI_eq (by omega) (by omega)).mp h) (by omega)⟩
    have bd : ∀ d, (tgd (fun d s => tg (okG (σ0 123) (σ0 125)) (nM (σ0 123)) (nO (σ0 123)) rem (U ||| 2 ^ d) (many + 1) (pu w (nM (σ0 123) - (rem + 1)) (nI d)) s) (opn (okG (σ0 123) (σ0 125)) U (nM (σ0 123) - (rem + 1))) d s).1 ≤ 6 := by
      intro d
      induction d with
      | zero => exact hs
      | succ d ihd =>
        simp only [tgd]
        split
        · rw [tg_e _ _ _ (by omega)]
          split
          · have := mx_le (okG (σ0 123) (σ0 125)) (nM (σ0 123)) (nO (σ0 123)) rem (U ||| 2 ^ d)
            dsimp only
            omega
          · exact ihd
        · exact ihd
    refine ps_up (N := nO (σ0 123)) (P := fun d => ∀ σ1, GS σ0 σ1 (tgd (fun d s => tg (okG (σ0 123) (σ0 125)) (nM (σ0 123)) (nO (σ0 123)) rem (U ||| 2 ^ d) (many + 1) (pu w (nM (σ0 123) - (rem + 1)) (nI d)) s) (opn (okG (σ0 123) (σ0 125)) U (nM (σ0 123) - (rem + 1))) d s) w (nM (σ0 123) - (rem + 1)) → SW G kk mX10_tryGuests (aw_qv qv) 0 0 42 [some (.ref 120), some (.int (nI (nM (σ0 123) - (rem + 1)))), some (.int (nI U)), some (.int (nI many)), some (.int (nI d))] [] (n, σ1, τ, θ)) ?_ ?_ 0 (Nat.zero_le _) σ hG
    · intro σ1 g
      have e7 : σ1 123 7 = nI (nO (σ0 123)) := by rw [g.1.e3]; exact hv.o
      refine sgX10_tryGuests_42 (kr := kk - 1) _ _ _ _ (by omega) (by omega) hW (ps_done e7 ⟨ps_in (by omega) (by decide), ?_⟩)
      rw [ps_cl (by omega), ← nI_succ, hmr]
      have g2 := g.now (-2)
      rw [hmr] at g2
      refine ih (kk - 1) U many _ _ (by omega) (by omega) hU (by omega) (bd _) _ _ g2 (fun σ2 g3 => ⟨hW, hq _ ?_⟩)
      rw [← hmr] at g3
      exact g3.less
    · intro d hd ihd σ1 g
      have e7 : σ1 123 7 = nI (nO (σ0 123)) := by rw [g.1.e3]; exact hv.o
      obtain ⟨u1, u2, u3⟩ := ps_U hU (show d < 4 by omega)
      refine sgX10_tryGuests_42 (kr := kk - 1) _ _ _ _ (by omega) (by omega) hW (ps_br e7 (by omega) (by omega) (fun h => absurd hd (by omega)) (fun _ => ?_))
      rw [← nI_succ d]
      simp only [tgd] at ihd
      have eo : opn (okG (σ0 123) (σ0 125)) U (nM (σ0 123) - (rem + 1)) d = true ↔ ¬ s_bit (nI U) d = true ∧ s_hd (σ0 123) (σ0 125) (σ0 125 12) (nM (σ0 123) - (rem + 1)) ≤ σ0 123 (69 + d) := by
        unfold opn okG
        rw [u3, Bool.and_eq_true, decide_eq_true_eq, Bool.not_eq_true', Bool.not_eq_true]
      refine k10_hasBit hW ⟨hW, And.symm (ps_b (fun h => ?_) (fun h => ?_))⟩
      · refine k10_doesPass hW isA_st (g.1.vr hv) g.2.1 (by omega) (by omega) ⟨hW, ?_⟩
        rw [g.1.e3, g.1.e5]
        refine And.symm (ps_b (fun h2 => ?_) (fun h2 => ⟨ps_in (by omega) (by decide), ?_⟩))
        · rw [if_neg (fun e => h2 (eo.mp e).2)] at ihd
          exact ihd _ g
        · rw [if_pos (eo.mpr ⟨h, h2⟩)] at ihd
          rw [ps_cl (by omega), ← nI_succ, hmr, ← nI_succ many, u2]
          have g2 := g.now (nI d)
          rw [hmr] at g2
          refine ih (kk - 1) _ (many + 1) _ _ (by omega) (by omega) u1 (by omega) (bd _) _ _ g2 (fun σ2 g3 => ⟨hW, ihd _ ?_⟩)
          rw [← hmr] at g3
          exact g3.less
      · rw [if_neg (fun e => (eo.mp e).1 h)] at ihd
        exact ihd _ g
theorem k10_seekGuests {σ0 : SG} (hW : aw_WT n θ) (hS : RS σ0 σ 0) (hv : VR (σ0 123)) (hq : ∀ σ', RS σ0 σ' 0 → σ' 120 26 = nI (mx (okG (σ0 123) (σ0 125)) (nM (σ0 123)) (nO (σ0 123)) (nM (σ0 123)) 0) → (∀ j, j < nM (σ0 123) → σ' 130 j = pth (okG (σ0 123) (σ0 125)) (nM (σ0 123)) (nO (σ0 123)) (nM (σ0 123)) 0 (fun _ => 0) j) → qv n σ' τ θ) : SMv G 13 mX10_seekGuests 0 0 [.ref 120] n σ τ θ qv := by
  have h5 := hv.m5
  have h4 := hv.o4
  refine ctX10_seekGuests (sgX10_seekGuests_0 (Nat.le_refl _) hW ?_)
  have g : GS σ0 (aw_u (aw_u σ 120 22 0) 120 26 (-1)) (0, fun j => σ 130 j) (fun _ => 0) (nM (σ0 123) - nM (σ0 123)) := by
    refine ⟨(hS.slot (by decide)).slot (by decide), ?_, ?_, fun j hj => ?_, fun j hj => absurd hj (by omega)⟩
    · rw [aw_u_nk (by decide), aw_u_eq]
    · rw [aw_u_eq]; rfl
    · rw [aw_uo (by decide), aw_uo (by decide)]
  have k := k10_tryGuests (G := G) (τ := τ) hW hv (nM (σ0 123)) 12 0 0 (fun _ => 0) (0, fun j => σ 130 j) (by omega) (Nat.le_refl _) (by omega) (by omega) (Nat.zero_le 6) (fun n1 σ1 τ1 θ1 => aw_WT n1 θ1 ∧ qv n1 σ1 τ1 θ1) _ g (fun σ2 g2 => ?_)
  · rw [Nat.sub_self] at k
    exact k
  · rw [tg_e _ _ _ (by omega), if_pos (Nat.zero_le _)] at g2
    obtain ⟨g1, -, g3, g4, -⟩ := g2
    dsimp only at g3 g4
    rw [Nat.zero_add, nI_pred] at g3
    exact ⟨hW, hq _ g1 g3 g4⟩
theorem p10_guests (hW : aw_WT n θ) (hv : VR (σ 123)) (hH : HR σ (σ 123)) (hq : ∀ σ', RS σ σ' (sp_guests (σ 123) (σ 125)).2 → q (sp_guests (σ 123) (σ 125)).1 n σ' τ θ) : SMi G 14 mX10_guests 0 0 [.ref 120] n σ τ θ q := by
  unfold sp_guests at hq
  refine ctX10_guests (sgX10_guests_0 (Nat.le_refl _) hW ?_)
  refine k10_good' hW (fun σ1 h1 => ⟨hW, ?_⟩)
  rw [h1.has, hH.iff]
  refine ⟨fun h => ?_, fun h => ?_⟩
  · rw [if_neg h] at hq
    refine k10_seekGuests hW h1 hv (fun σ2 h2 e2 _ => ⟨hW, ?_⟩)
    rw [e2]
    exact hq _ h2
  · rw [if_pos h] at hq
    exact k10_no hW ⟨hW, hq _ h1.no⟩
theorem p10_doorOf {x : Int32} (hW : aw_WT n θ) (hv : VR (σ 123)) (hH : HR σ (σ 123)) (hq : ∀ σ', RS σ σ' (sp_doorOf (σ 123) (σ 125) x).2 → q (sp_doorOf (σ 123) (σ 125) x).1 n σ' τ θ) : SMi G 14 mX10_doorOf 0 0 [.ref 120, .int x] n σ τ θ q := by
  unfold sp_doorOf at hq
  have h5 := hv.m5
  refine ctX10_doorOf _ (sgX10_doorOf_0 _ (Nat.le_refl _) hW ?_)
  refine k10_good' hW (fun σ1 h1 => ⟨hW, k10_isMan hW (h1.vr hv) (h1.hr hH) ⟨hW, ?_⟩⟩)
  rw [h1.e3]
  refine And.symm (ps_b (fun h => ?_) (fun h => ?_))
  · rw [if_neg h] at hq
    exact k10_no hW ⟨hW, hq _ h1.no⟩
  · rw [if_pos h] at hq
    obtain ⟨m, hm, rfl⟩ := (s_in_iff (by omega)).mp h
    rw [ps_cl (by omega)] at hq
    refine k10_seekGuests hW h1 hv (fun σ2 h2 _ e2 => ⟨hW, ps_in (by omega) (by decide), ?_⟩)
    rw [ps_cl (by omega), e2 m hm]
    exact hq _ h2
end Pub12
