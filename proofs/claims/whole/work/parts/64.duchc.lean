/-! ===== duchy: the class ===== -/
section Dc
variable {G : GG} {n : Nat} {σ α : SG} {τ : TU} {θ : TH} {q : Int32 → Nat → SG → TU → TH → Prop} {qv : Nat → SG → TU → TH → Prop} {b : Nat → Nat} {N : Nat} {f : Nat}
set_option maxHeartbeats 4000000 in
theorem k8_readInto (hf : isF f) (hW : aw_WT n θ) (hN : N ≤ 900) (hb : ∀ j, j < N → b j < 256 ∧ σ 3 j = b8 (b j))
    (h0 : ∀ e, tp_parse b N 1000 (tp_st b N 0) tp_z = .inl e → ∀ σ' τ', LF f σ σ' → σ' 2 1 = nI e.2 → q (nI e.1) n σ' τ' θ)
    (h1 : ∀ r', tp_parse b N 1000 (tp_st b N 0) tp_z = .inr r' → nM r' ≠ 0 → ∀ σ' τ', LF f σ σ' → DX σ' τ' f r' → q 0 n σ' τ' θ) : SMi G 10 mX8_readInto 0 0 [.ref 2, .ref f, .int (nI N)] n σ τ θ q := by
  have hr := hf.r
  refine ctX8_readInto f _ (sgX8_readInto_0 f _ (Nat.le_refl _) hf hW ?_)
  refine ctX1_clear f (sgX1_clear_0 f (Nat.le_refl _) hf hW ⟨hW, ?_⟩)
  rw [if_neg (show ¬ (900 : Int32) < nI N from nI_nlt (a := 900) hN (by decide))]
  have eM : (if (0 : Int32) < nI N then nI N else 0) = nI N := by
    by_cases h : (0 : Int32) < nI N
    · rw [if_pos h]
    · rw [if_neg h]
      rcases Nat.eq_zero_or_pos N with e | e
      · rw [e]; rfl
      · exact absurd (nI_lt (a := 0) e (by omega)) h
  rw [eM]
  -- the state after clearing
  have c1 : ∀ o k, ¬ (o = f + 8 ∧ k = 4) → ¬ (o = f + 13 ∧ k = 4) → ¬ (o = f ∧ 9 ≤ k ∧ k ≤ 15) → (aw_u (aw_u (aw_u (aw_u (aw_u (aw_u (aw_u (aw_u (aw_u σ (f + 8) 4 0) (f + 13) 4 0) f 9 0) f 10 0) f 11 0) f 12 0) f 13 0) f 14 0) f 15 0) o k = σ o k := fun o k a1 a2 a3 => by
    rw [aw_ui (by omega), aw_ui (by omega), aw_ui (by omega), aw_ui (by omega), aw_ui (by omega), aw_ui (by omega), aw_ui (by omega), aw_ui a2, aw_ui a1]
  have c2 : ∀ k, 9 ≤ k → k ≤ 15 → (aw_u (aw_u (aw_u (aw_u (aw_u (aw_u (aw_u (aw_u (aw_u σ (f + 8) 4 0) (f + 13) 4 0) f 9 0) f 10 0) f 11 0) f 12 0) f 13 0) f 14 0) f 15 0) f k = 0 := fun k a1 a2 => by
    rcases (show k = 9 ∨ k = 10 ∨ k = 11 ∨ k = 12 ∨ k = 13 ∨ k = 14 ∨ k = 15 by omega) with rfl | rfl | rfl | rfl | rfl | rfl | rfl
    · rw [aw_ui (by omega), aw_ui (by omega), aw_ui (by omega), aw_ui (by omega), aw_ui (by omega), aw_ui (by omega), aw_u_eq]
    · rw [aw_ui (by omega), aw_ui (by omega), aw_ui (by omega), aw_ui (by omega), aw_ui (by omega), aw_u_eq]
    · rw [aw_ui (by omega), aw_ui (by omega), aw_ui (by omega), aw_ui (by omega), aw_u_eq]
    · rw [aw_ui (by omega), aw_ui (by omega), aw_ui (by omega), aw_u_eq]
    · rw [aw_ui (by omega), aw_ui (by omega), aw_u_eq]
    · rw [aw_ui (by omega), aw_u_eq]
    · rw [aw_u_eq]
  have c3 : (aw_u (aw_u (aw_u (aw_u (aw_u (aw_u (aw_u (aw_u (aw_u σ (f + 8) 4 0) (f + 13) 4 0) f 9 0) f 10 0) f 11 0) f 12 0) f 13 0) f 14 0) f 15 0) (f + 8) 4 = 0 := by
    rw [aw_ui (by omega), aw_ui (by omega), aw_ui (by omega), aw_ui (by omega), aw_ui (by omega), aw_ui (by omega), aw_ui (by omega), aw_ui (by omega), aw_u_eq]
  have c4 : (aw_u (aw_u (aw_u (aw_u (aw_u (aw_u (aw_u (aw_u (aw_u σ (f + 8) 4 0) (f + 13) 4 0) f 9 0) f 10 0) f 11 0) f 12 0) f 13 0) f 14 0) f 15 0) (f + 13) 4 = 0 := by
    rw [aw_ui (by omega), aw_ui (by omega), aw_ui (by omega), aw_ui (by omega), aw_ui (by omega), aw_ui (by omega), aw_ui (by omega), aw_u_eq]
  generalize aw_u (aw_u (aw_u (aw_u (aw_u (aw_u (aw_u (aw_u (aw_u σ (f + 8) 4 0) (f + 13) 4 0) f 9 0) f 10 0) f 11 0) f 12 0) f 13 0) f 14 0) f 15 0 = σ1 at c1 c2 c3 c4 ⊢
  have d1 : ∀ o, o ≠ 2 → (aw_u (aw_u (aw_u (aw_u (aw_u σ1 2 5 0) 2 6 0) 2 1 (-1)) 2 7 (nI N)) 2 10 0) o = σ1 o := fun o ho => by
    rw [aw_uo ho, aw_uo ho, aw_uo ho, aw_uo ho, aw_uo ho]
  have d2 : (aw_u (aw_u (aw_u (aw_u (aw_u σ1 2 5 0) 2 6 0) 2 1 (-1)) 2 7 (nI N)) 2 10 0) 2 7 = nI N := by rw [aw_u_nk (by decide), aw_u_eq]
  have d3 : (aw_u (aw_u (aw_u (aw_u (aw_u σ1 2 5 0) 2 6 0) 2 1 (-1)) 2 7 (nI N)) 2 10 0) 2 10 = nI 0 := aw_u_eq
  have d4 : (aw_u (aw_u (aw_u (aw_u (aw_u σ1 2 5 0) 2 6 0) 2 1 (-1)) 2 7 (nI N)) 2 10 0) 2 5 = 0 := by rw [aw_u_nk (by decide), aw_u_nk (by decide), aw_u_nk (by decide), aw_u_nk (by decide), aw_u_eq]
  have d5 : (aw_u (aw_u (aw_u (aw_u (aw_u σ1 2 5 0) 2 6 0) 2 1 (-1)) 2 7 (nI N)) 2 10 0) 2 0 = σ1 2 0 := by rw [aw_u_nk (by decide), aw_u_nk (by decide), aw_u_nk (by decide), aw_u_nk (by decide), aw_u_nk (by decide)]
  generalize aw_u (aw_u (aw_u (aw_u (aw_u σ1 2 5 0) 2 6 0) 2 1 (-1)) 2 7 (nI N)) 2 10 0 = σ2 at d1 d2 d3 d4 d5 ⊢
  have hCB : CB σ2 b N := ⟨d2, hN, fun j hj => ⟨(hb j hj).1, by rw [d1 3 (by decide), c1 3 j (by omega) (by omega) (by omega)]; exact (hb j hj).2⟩⟩
  have hLF : LF f σ σ2 := ⟨fun o a1 a2 => by
    rw [d1 o a1]
    funext k
    exact c1 o k (by omega) (by omega) (by omega), by rw [d5]; exact c1 2 0 (by omega) (by omega) (by omega)⟩
  have hDX : DX σ2 τ f tp_z := by
    refine ⟨0, 0, 0, 0, 0, 0, VQ.z, ⟨⟨?_, ?_, ?_, ?_, ?_, ?_, ?_, ?_, ?_⟩, fun m hm => absurd hm (by omega), fun m hm => absurd hm (by omega), fun m hm => absurd hm (by omega), fun m hm => absurd hm (by omega), fun m hm => absurd hm (by omega)⟩, ⟨fun m hm => absurd hm (by omega), fun m hm => absurd hm (by omega)⟩, ⟨fun _ => rfl, fun _ => d4⟩⟩
    · rw [d1 f (by omega)]; exact c2 9 (by omega) (by omega)
    · rw [d1 f (by omega)]; exact c2 10 (by omega) (by omega)
    · rw [d1 f (by omega)]; exact c2 11 (by omega) (by omega)
    · rw [d1 f (by omega)]; exact c2 12 (by omega) (by omega)
    · rw [d1 f (by omega)]; exact c2 13 (by omega) (by omega)
    · rw [d1 (f + 8) (by omega)]; exact c3
    · rw [d1 (f + 13) (by omega)]; exact c4
    · rw [d1 f (by omega)]; exact c2 14 (by omega) (by omega)
    · rw [d1 f (by omega)]; exact c2 15 (by omega) (by omega)
  refine k8_advance hW hCB d3 (Nat.zero_le _) (fun σ3 f3 T3 => ⟨hW, ?_⟩)
  exact k8_readLoop hf hW 1000 (tp_st b N 0) 0 tp_z σ3 τ (by omega) (Nat.zero_le _) T3 (hDX.tf hf f3.tf) (hLF.trans (LF.tf f3.tf)) h0 h1
theorem k2_beginWith {r : Nat → Int32} (hf : isF f) (hW : aw_WT n θ) (hF : FR σ f r) (hv : VR r) (hq : ∀ σ', (∀ o, (o < 6 ∨ 8 < o) → σ' o = σ o) → MR σ' 6 (stF r) → qv n σ' τ θ) : SMv G 1 mX2_beginWith 0 0 [.ref 6, .ref f] n σ τ θ qv := by
  have hr := hf.r
  have h5 := hv.m5
  have h7 := hv.d7
  have e13 : σ f 13 = nI (nM r) := hF.1.2.2.2.2.1.trans hv.m
  have e84 : σ (f + 8) 4 = nI (nD r) := hF.1.2.2.2.2.2.1.trans hv.d
  refine ctX2_beginWith 6 f (sgX2_beginWith_0 6 f (Nat.le_refl _) isM_now hf hW ?_)
  have l39 := ps_up (N := 7) (P := fun k => ∀ σ1, (∀ o, o ≠ 7 → o ≠ 8 → σ1 o = σ o) → (∀ m, m < 5 → σ1 7 m = if m < nM r then r (11 + 3 * m) else 0) → (∀ j, j < k → σ1 8 j = if j < nD r then r (27 + 4 * j) else 0) → SW G 1 mX2_beginWith (aw_qv qv) 0 0 39 [some (.ref 6), some (.ref f), some (.int (nI k))] [] (n, σ1, τ, θ)) ?_ ?_ 0 (Nat.zero_le _)
  have l2 := ps_up (N := 5) (P := fun k => ∀ σ1, (∀ o, o ≠ 7 → σ1 o = σ o) → (∀ m, m < k → σ1 7 m = if m < nM r then r (11 + 3 * m) else 0) → SW G 1 mX2_beginWith (aw_qv qv) 0 0 2 [some (.ref 6), some (.ref f), some (.int (nI k))] [] (n, σ1, τ, θ)) ?_ ?_ 0 (Nat.zero_le _)
  · exact l2 σ (fun _ _ => rfl) (fun m hm => absurd hm (by omega))
  · intro σ1 ho h1
    exact sgX2_beginWith_2 6 f _ (Nat.le_refl _) isM_now hf hW ⟨fun _ => l39 σ1 (fun o a1 _ => ho o a1) h1 (fun j hj => absurd hj (by omega)), fun h => absurd (Int32.le_refl _) h⟩
  · intro k hk ih σ1 ho h1
    refine sgX2_beginWith_2 6 f _ (Nat.le_refl _) isM_now hf hW ⟨fun h => absurd h (nI_ge (a := k) (b := 5) hk (by omega)), fun _ => ?_⟩
    rw [ho f (by omega), e13, nI_leI (by omega) (by omega), ps_cl (by omega), nI_1, ho (f + 2) (by omega)]
    refine ⟨fun h => ⟨ps_in (by omega) (by decide), ih _ (fun o a1 => (aw_uo a1).trans (ho o a1)) (fun m hm => ?_)⟩, fun h => ⟨ps_in (by omega) (by decide), ps_in (by omega) (by decide), ih _ (fun o a1 => (aw_uo a1).trans (ho o a1)) (fun m hm => ?_)⟩⟩
    · by_cases e : m = k
      · subst e; rw [aw_u_eq, if_neg (by omega)]
      · rw [aw_u_nk e]; exact h1 m (by omega)
    · by_cases e : m = k
      · subst e; rw [aw_u_eq, if_pos (by omega)]; exact (hF.2.1 m (by omega)).2.1
      · rw [aw_u_nk e]; exact h1 m (by omega)
  · intro σ1 ho h1 h2
    refine sgX2_beginWith_39 6 f _ (Nat.le_refl _) isM_now hf hW ⟨fun _ => hq _ (fun o a1 => (aw_uo (by omega)).trans (ho o (by omega) (by omega))) ⟨fun m hm => ?_, fun k hk => ?_, ?_⟩, fun h => absurd (Int32.le_refl _) h⟩
    · rw [aw_u_ne (by decide), h1 m hm]
      unfold stF
      rw [if_neg (show ¬ 7 + m < 7 by omega), if_pos (show 7 + m < 12 by omega), show 7 + m - 7 = m by omega]
    · rw [aw_u_ne (by decide), h2 k hk]
      unfold stF
      rw [if_pos hk]
    · rw [aw_u_eq]; rfl
  · intro k hk ih σ1 ho h1 h2
    refine sgX2_beginWith_39 6 f _ (Nat.le_refl _) isM_now hf hW ⟨fun h => absurd h (nI_ge (a := k) (b := 7) hk (by omega)), fun _ => ?_⟩
    rw [ho (f + 8) (by omega) (by omega), e84, nI_leI (by omega) (by omega), ps_cl (by omega), nI_1, ho (f + 11) (by omega) (by omega)]
    refine ⟨fun h => ⟨ps_in (by omega) (by decide), ih _ (fun o a1 a2 => (aw_uo a2).trans (ho o a1 a2)) (fun m hm => ?_) (fun j hj => ?_)⟩, fun h => ⟨ps_in (by omega) (by decide), ps_in (by omega) (by decide), ih _ (fun o a1 a2 => (aw_uo a2).trans (ho o a1 a2)) (fun m hm => ?_) (fun j hj => ?_)⟩⟩
    · rw [aw_u_ne (by decide)]; exact h1 m hm
    · by_cases e : j = k
      · subst e; rw [aw_u_eq, if_neg (by omega)]
      · rw [aw_u_nk e]; exact h2 j (by omega)
    · rw [aw_u_ne (by decide)]; exact h1 m hm
    · by_cases e : j = k
      · subst e; rw [aw_u_eq, if_pos (by omega)]; exact (hF.2.2.2.2.1 j (by omega)).2.2.1
      · rw [aw_u_nk e]; exact h2 j (by omega)
theorem aw_WT.swap (hW : aw_WT n θ) : aw_WT n (aw_u (aw_u θ 1 7 (θ 1 8)) 1 8 (θ 1 7)) := by
  obtain ⟨h1, h2, h3⟩ := hW
  refine ⟨h1, fun p hp => ?_, ?_⟩
  · have hne : ¬ (p.1 = 1 ∧ (p.2.1 = 7 ∨ p.2.1 = 8)) := by
      revert p
      decide +kernel
    rw [aw_ui (by omega), aw_ui (by omega)]
    exact h2 p hp
  · rw [aw_ui (by omega), aw_u_eq, aw_u_eq]
    rcases h3 with e | e
    · exact Or.inr ⟨e.2, e.1⟩
    · exact Or.inl ⟨e.2, e.1⟩
set_option maxHeartbeats 4000000 in
theorem p9_duchy {x : Int32} (hW : aw_WT n θ) (hC : CI σ θ α) (hA : AI α) (hq : ∀ σ' τ' θ', aw_WT n θ' → CC σ σ' → CI σ' θ' (sp_duchy α x).2 → q (sp_duchy α x).1 n σ' τ' θ') : SMi G 11 mX9_duchy 0 0 [.ref 1, .int x] n σ τ θ q := by
  unfold sp_duchy at hq
  have hr7 := hW.f.r
  have hr8 := hW.g.r
  have h78 : (θ 1 7 = 84 ∧ θ 1 8 = 102) ∨ (θ 1 7 = 102 ∧ θ 1 8 = 84) := hW.2.2
  obtain ⟨cF, cM, cP, cT, c9, c10, c4⟩ := id hC
  have e2 : σ 2 0 = α 120 2 := cT.1
  have no : ¬ (¬ x < 0 ∧ ¬ α 120 2 < x) → SMi G 1 mX9_refuse 0 0 [.ref 1, .int 2] n σ τ θ (fun a1 n1 σ1 τ1 θ1 => aw_WT n1 θ1 ∧ q a1 n1 σ1 τ1 θ1) := by
    intro h
    rw [if_neg h] at hq
    exact k9_refuse hW ⟨hW, hq _ _ _ hW (fun o ho => aw_uo (by omega)) (hC.tr hA hW.f (by decide))⟩
  refine ctX9_duchy _ (sgX9_duchy_0 _ (Nat.le_refl _) hW ?_)
  rw [e2]
  refine ⟨fun h => no (fun e => e.1 h), fun h => ⟨fun h2 => ?_, fun h2 => no (fun e => h2 (Int32.not_lt.mp e.2))⟩⟩
  have hin : ¬ x < 0 ∧ ¬ α 120 2 < x := ⟨h, Int32.not_lt.mpr h2⟩
  rw [if_pos hin] at hq
  obtain ⟨N, rfl, hN, eN⟩ := duchy_in hA hin
  rw [eN] at hq
  have h900 := hA.f.2
  have hbt : ∀ j, j < N → bt α j < 256 ∧ σ 3 j = b8 (bt α j) := fun j hj => by
    obtain ⟨c, a1, a2, a3⟩ := cT.2 j (by omega)
    have : bt α j = c := by unfold bt; rw [a2, ps_cl (by omega)]
    rw [this]; exact ⟨a1, a3⟩
  refine k8_readInto (b := bt α) hW.g hW (by omega) hbt (fun e he σ1 τ1 g1 x1 => ⟨hW, ?_⟩) (fun r' he hm σ1 τ1 g1 X1 => ⟨hW, ?_⟩)
  · have hE := tp_parse_e 1000 _ _ e (tp_st_le (Nat.zero_le N)).2 he
    rw [he] at hq
    dsimp only at hq
    have s1 : ∀ o, o ≠ 1 → o ≠ 2 → (aw_u (aw_u σ1 1 9 (nI e.1)) 2 0 0) o = σ1 o := fun o a1 a2 => (aw_uo a2).trans (aw_uo a1)
    have s2 : (aw_u (aw_u σ1 1 9 (nI e.1)) 2 0 0) 1 9 = nI e.1 := by rw [aw_u_ne (by decide), aw_u_eq]
    have s3 : (aw_u (aw_u σ1 1 9 (nI e.1)) 2 0 0) 2 0 = 0 := aw_u_eq
    have s4 : (aw_u (aw_u σ1 1 9 (nI e.1)) 2 0 0) 2 1 = nI e.2 := by rw [aw_u_nk (by decide), aw_u_ne (by decide)]; exact x1
    generalize aw_u (aw_u σ1 1 9 (nI e.1)) 2 0 0 = σ2 at s1 s2 s3 s4 ⊢
    rw [s2]
    refine ⟨fun h => absurd h (nI_ne0 (by omega) (by omega)), fun _ => k9_refuse hW ⟨hW, ?_⟩⟩
    have go : ∀ o, o ≠ 1 → o ≠ 2 → ¬ (θ 1 8 ≤ o ∧ o ≤ θ 1 8 + 17) → (aw_u σ2 1 10 4) o = σ o := fun o a1 a2 a3 => (aw_uo a1).trans ((s1 o a1 a2).trans (g1.1 o a2 a3))
    obtain ⟨v1, v2, v3, v4⟩ := dfF_v (α := α) (e := e)
    refine hq _ _ _ hW (fun o ho => go o (by omega) (by omega) (by omega)) ⟨?_, ?_, ?_, ?_, ?_, ?_, fun _ => ?_⟩
    · rw [dfF_o (by decide)]; exact cF.mono (fun o _ _ => go o (by omega) (by omega) (by omega))
    · rw [dfF_o (by decide)]; exact cM.mono (fun o _ _ => go o (by omega) (by omega) (by omega))
    · exact cP.of hA.c.2 (fun o _ _ => go o (by omega) (by omega) (by omega)) (dfF_o (by decide)) (dfF_o (by decide)) (dfF_k (by decide)) (dfF_k (by decide))
    · refine ⟨?_, fun j hj => ?_⟩
      · rw [aw_uo (by decide), s3, v1]
      · have : fN (dfF α e) = 0 := by unfold fN; rw [v1]; rfl
        omega
    · rw [aw_u_nk (by decide), s2, v2]
    · rw [aw_u_eq, v4]
    · rw [aw_uo (by decide), s4, v3]
  · rw [he] at hq
    dsimp only at hq
    obtain ⟨a, d, u, o', k, t, hv, hFC, hNK, h5⟩ := X1
    have hVR : VR r' := hv.vr (by rw [← hv.n.1]; exact hm)
    have hFR : FR σ1 (θ 1 8) r' := hFC.fr hv
    have s1 : ∀ o, o ≠ 1 → o ≠ 2 → (aw_u (aw_u σ1 1 9 0) 2 0 0) o = σ1 o := fun o a1 a2 => (aw_uo a2).trans (aw_uo a1)
    have s2 : (aw_u (aw_u σ1 1 9 0) 2 0 0) 1 9 = 0 := by rw [aw_u_ne (by decide), aw_u_eq]
    have s3 : (aw_u (aw_u σ1 1 9 0) 2 0 0) 2 0 = 0 := aw_u_eq
    generalize aw_u (aw_u σ1 1 9 0) 2 0 0 = σ2 at s1 s2 s3 ⊢
    refine ⟨fun _ => ⟨hW.swap, ?_⟩, fun h => absurd s2 h⟩
    have hW2 := hW.swap
    have t7 : (aw_u (aw_u θ 1 7 (θ 1 8)) 1 8 (θ 1 7)) 1 7 = θ 1 8 := by rw [aw_ui (by omega), aw_u_eq]
    generalize aw_u (aw_u θ 1 7 (θ 1 8)) 1 8 (θ 1 7) = θ2 at hW2 t7 ⊢
    rw [t7]
    have hFR2 : FR σ2 (θ 1 8) r' := hFR.mono (fun o _ _ => s1 o (by omega) (by omega))
    refine k2_beginWith hW.g hW2 hFR2 hVR (fun σ3 g3 hM3 => ⟨hW2, ?_⟩)
    refine ctX5_forgetAll (sgX5_forgetAll_0 (Nat.le_refl _) hW2 ⟨hW2, ?_⟩)
    rw [t7]
    have s5 : ∀ o, o ≠ 9 → (aw_u (aw_u σ3 9 0 0) 9 1 0) o = σ3 o := fun o a1 => (aw_uo a1).trans (aw_uo a1)
    have s6 : (aw_u (aw_u σ3 9 0 0) 9 1 0) 9 0 = 0 ∧ (aw_u (aw_u σ3 9 0 0) 9 1 0) 9 1 = 0 ∧ (aw_u (aw_u σ3 9 0 0) 9 1 0) 9 4 = σ3 9 4 := by
      refine ⟨?_, aw_u_eq, ?_⟩
      · rw [aw_u_nk (by decide), aw_u_eq]
      · rw [aw_u_nk (by decide), aw_u_nk (by decide)]
    generalize aw_u (aw_u σ3 9 0 0) 9 1 0 = σ4 at s5 s6 ⊢
    have fo : ∀ o, o ≠ 1 → o ≠ 2 → (o < 6 ∨ 9 < o) → σ4 o = σ1 o := fun o a1 a2 a3 => (s5 o (by omega)).trans ((g3 o (by omega)).trans (s1 o a1 a2))
    have e13 : σ4 (θ 1 8) 13 = r' 4 := by rw [fo _ (by omega) (by omega) (by omega)]; exact hFR.1.2.2.2.2.1
    rw [e13]
    refine k9_grant hW2 ⟨hW2, ?_⟩
    have go : ∀ o, o ≠ 1 → o ≠ 2 → (o < 6 ∨ 9 < o) → ¬ (θ 1 8 ≤ o ∧ o ≤ θ 1 8 + 17) → (aw_u σ4 1 10 0) o = σ o := fun o a1 a2 a3 a4 => (aw_uo a1).trans ((fo o a1 a2 a3).trans (g1.1 o a2 a4))
    have u0 : uN (dcF α r') = 0 := by unfold uN; rw [dcF_0 (by omega)]; rfl
    have c0 : cN (dcF α r') = 0 := by unfold cN; rw [dcF_0 (by omega)]; rfl
    have f0 : fN (dcF α r') = 0 := by unfold fN; rw [dcF_0 (by omega)]; rfl
    obtain ⟨nx, hnx, e94, -⟩ := cP
    refine hq _ _ _ hW2 (fun o ho => go o (by omega) (by omega) (by omega) (by omega)) ⟨?_, ?_, ?_, ⟨?_, fun j hj => by omega⟩, ?_, ?_, fun h => ?_⟩
    · rw [t7, dcF_3]; exact hFR.mono (fun o _ _ => (aw_uo (by omega)).trans (fo o (by omega) (by omega) (by omega)))
    · rw [dcF_5]; exact hM3.mono (fun o _ _ => (aw_uo (by omega)).trans (s5 o (by omega)))
    · refine ⟨nx, hnx, ?_, ?_, ?_, fun i hi => by omega, fun i hi => by omega⟩
      · rw [aw_uo (by decide), s6.2.2, g3 9 (by omega), s1 9 (by decide) (by decide), g1.1 9 (by decide) (by omega)]; exact e94
      · rw [aw_uo (by decide), s6.1, dcF_0 (by omega)]
      · rw [aw_uo (by decide), s6.2.1, dcF_0 (by omega)]
    · rw [aw_uo (by decide), s5 2 (by decide), g3 2 (by omega), s3, dcF_0 (by omega)]
    · rw [aw_u_nk (by decide), s5 1 (by decide), g3 1 (by omega), s2, dcF_0 (by omega)]
    · rw [aw_u_eq, dcF_0 (by omega)]
    · rw [dcF_0 (by omega)] at h; exact absurd h (by decide)
end Dc
