/-! ===== duchy: the contracts ===== -/
theorem dcF_o {α : SG} {r : Nat → Int32} {o : Nat} (h : o ≠ 123) (h2 : o ≠ 125) (h3 : o ≠ 120) : dcF α r o = α o := by
  funext k
  unfold dcF
  rw [if_neg h, if_neg h2, if_neg h3]
theorem dcF_3 {α : SG} {r : Nat → Int32} : dcF α r 123 = r := funext fun k => if_pos rfl
theorem dcF_5 {α : SG} {r : Nat → Int32} : dcF α r 125 = stF r := by funext k; unfold dcF; rw [if_neg (by decide), if_pos rfl]
theorem dcF_0 {α : SG} {r : Nat → Int32} {k : Nat} (hk : k = 2 ∨ k = 9 ∨ k = 11 ∨ k = 20 ∨ k = 21) : dcF α r 120 k = 0 := by unfold dcF; rw [if_neg (by decide), if_neg (by decide), if_pos rfl, if_pos hk]
theorem dcF_14 {α : SG} {r : Nat → Int32} : dcF α r 120 14 = 1 := by unfold dcF; rw [if_neg (by decide), if_neg (by decide), if_pos rfl, if_neg (by omega), if_pos rfl]
theorem dcF_10 {α : SG} {r : Nat → Int32} : dcF α r 120 10 = α 120 10 := by unfold dcF; rw [if_neg (by decide), if_neg (by decide), if_pos rfl, if_neg (by omega), if_neg (by omega)]
section Dp
variable {G : GG} {n : Nat} {σ α : SG} {τ : TU} {θ : TH} {q : Int32 → Nat → SG → TU → TH → Prop} {qv : Nat → SG → TU → TH → Prop}
theorem duchy_in {α : SG} {x : Int32} (hA : AI α) (h : ¬ x < 0 ∧ ¬ α 120 2 < x) : ∃ N, x = nI N ∧ N ≤ fN α ∧ x.toNatClampNeg = N := by
  obtain ⟨N, hN, rfl⟩ := nI_of h.1
  obtain ⟨e2, h9⟩ := hA.f
  rw [e2] at h
  have : N ≤ fN α := Nat.not_lt.mp (fun e => h.2 (nI_lt e (by omega)))
  exact ⟨N, rfl, this, nI_clamp hN⟩
set_option maxHeartbeats 4000000 in
theorem p10_duchy {x : Int32} (hW : aw_WT n θ) (hR : RI σ α) (hA : AI α) (hB : BT α) (hq : ∀ σ', RC σ σ' → RI σ' (sp_duchy α x).2 → AI (sp_duchy α x).2 → q (sp_duchy α x).1 n σ' τ θ) : SMi G 11 mX10_duchy 0 0 [.ref 120, .int x] n σ τ θ q := by
  unfold sp_duchy at hq
  refine ctX10_duchy _ (sgX10_duchy_0 _ (Nat.le_refl _) hW ?_)
  refine k10_good' hW (fun σ1 h1 => ⟨hW, ?_⟩)
  have r1 := hR.of h1
  have e2 : σ1 120 2 = α 120 2 := by rw [r1.s (by omega), tr_k (by omega)]
  rw [e2]
  refine k10_in hW ⟨hW, And.symm (ps_b (fun h => ?_) (fun h => ?_))⟩
  · rw [if_neg h] at hq
    exact k10_no hW ⟨hW, hq _ h1.no.rc (hR.of h1.no) (hA.tr _)⟩
  · rw [if_pos h] at hq
    obtain ⟨N, rfl, hN, eN⟩ := duchy_in hA h
    rw [eN] at hq
    have h900 := hA.f.2
    -- the fresh row
    have f1 : ∀ o, o ≠ 120 → (aw_u (aw_u (aw_u σ1 120 2 0) 120 9 0) 120 13 0) o = σ1 o := fun o ho => (aw_uo ho).trans ((aw_uo ho).trans (aw_uo ho))
    have f2 : (aw_u (aw_u (aw_u σ1 120 2 0) 120 9 0) 120 13 0) 120 2 = 0 ∧ (aw_u (aw_u (aw_u σ1 120 2 0) 120 9 0) 120 13 0) 120 9 = 0 ∧ (aw_u (aw_u (aw_u σ1 120 2 0) 120 9 0) 120 13 0) 120 13 = 0 := by
      refine ⟨?_, ?_, aw_u_eq⟩
      · rw [aw_u_nk (by decide), aw_u_nk (by decide), aw_u_eq]
      · rw [aw_u_nk (by decide), aw_u_eq]
    have f3 : ∀ k, k ≠ 2 → k ≠ 9 → k ≠ 13 → (aw_u (aw_u (aw_u σ1 120 2 0) 120 9 0) 120 13 0) 120 k = σ1 120 k := fun k a1 a2 a3 => by
      rw [aw_u_nk a3, aw_u_nk a2, aw_u_nk a1]
    generalize aw_u (aw_u (aw_u σ1 120 2 0) 120 9 0) 120 13 0 = σb at f1 f2 f3 ⊢
    have key := ps_up (N := 167) (P := fun k => ∀ σ2, (∀ o, o ≠ 124 → σ2 o = σb o) → (∀ j, j < k → σ2 124 j = 0) → SW G 11 mX10_duchy (aw_qi q) 0 0 39 [some (.ref 120), some (.int (nI N)), some (.int (nI k))] [] (n, σ2, τ, θ)) ?_ ?_ 0 (Nat.zero_le _)
    · exact key σb (fun _ _ => rfl) (fun j hj => absurd hj (by omega))
    · intro σ2 ho hz
      refine SW.norm (fun o k => if o = 124 ∧ 167 ≤ k then 0 else σ2 o k) (fun o k hk => if_neg (fun e => by rw [e.1] at hk; have := hk 167 kp_124; omega)) ?_
      have g1 : ∀ o, o ≠ 124 → (fun k => if o = 124 ∧ 167 ≤ k then (0 : Int32) else σ2 o k) = σb o := fun o h => by
        rw [← ho o h]; funext k; exact if_neg (fun e => h e.1)
      have g2 : (fun k => if (124 : Nat) = 124 ∧ 167 ≤ k then (0 : Int32) else σ2 124 k) = tp_z := by
        funext k
        by_cases hk : 167 ≤ k
        · rw [if_pos ⟨rfl, hk⟩]; rfl
        · rw [if_neg (fun e => hk e.2)]; exact hz k (by omega)
      have g1' : ∀ o, o ≠ 124 → (fun o k => if o = 124 ∧ 167 ≤ k then (0 : Int32) else σ2 o k) o = σb o := fun o h => g1 o h
      have g2' : (fun o k => if o = 124 ∧ 167 ≤ k then (0 : Int32) else σ2 o k) 124 = tp_z := g2
      generalize (fun o k => if o = 124 ∧ 167 ≤ k then (0 : Int32) else σ2 o k) = σ3 at g1' g2' ⊢
      refine sgX10_duchy_39 _ _ (Nat.le_refl _) hW ⟨fun _ => ?_, fun h => absurd (Int32.le_refl _) h⟩
      have m1 : ∀ o, o ≠ 120 → (aw_u (aw_u σ3 120 3 (nI N)) 120 5 0) o = σ3 o := fun o ho => (aw_uo ho).trans (aw_uo ho)
      have m2 : ∀ k, k ≠ 3 → k ≠ 5 → (aw_u (aw_u σ3 120 3 (nI N)) 120 5 0) 120 k = σ3 120 k := fun k a1 a2 => (aw_u_nk a2).trans (aw_u_nk a1)
      have m3 : (aw_u (aw_u σ3 120 3 (nI N)) 120 5 0) 120 3 = nI N := by rw [aw_u_nk (by decide), aw_u_eq]
      have m5 : (aw_u (aw_u σ3 120 3 (nI N)) 120 5 0) 120 5 = nI 0 := aw_u_eq
      generalize aw_u (aw_u σ3 120 3 (nI N)) 120 5 0 = σ4 at m1 m2 m3 m5 ⊢
      have s4 : ∀ o, o ≠ 120 → o ≠ 124 → σ4 o = σ1 o := fun o a1 a2 => (m1 o a1).trans ((g1' o a2).trans (f1 o a1))
      have t4 : ∀ k, k ≠ 2 → k ≠ 3 → k ≠ 5 → k ≠ 9 → k ≠ 13 → σ4 120 k = σ1 120 k := fun k a1 a2 a3 a4 a5 => (m2 k a2 a3).trans ((by rw [g1' 120 (by decide)] : σ3 120 k = σb 120 k).trans (f3 k a1 a4 a5))
      have z4 : σ4 120 13 = 0 := (m2 13 (by decide) (by decide)).trans (by rw [g1' 120 (by decide)]; exact f2.2.2)
      have z2 : σ4 120 2 = 0 := (m2 2 (by decide) (by decide)).trans (by rw [g1' 120 (by decide)]; exact f2.1)
      have z9 : σ4 120 9 = 0 := (m2 9 (by decide) (by decide)).trans (by rw [g1' 120 (by decide)]; exact f2.2.1)
      have r4 : σ4 124 = tp_z := (m1 124 (by decide)).trans g2'
      have hRB : RB σ4 (bt α) N := ⟨m3, by omega, fun j hj => by
        obtain ⟨c1, c2⟩ := hB.b (show j < fN α by omega)
        refine ⟨c1, ?_⟩
        rw [s4 121 (by decide) (by decide), r1.f (o := 121) (by omega), tr_o (by omega)]
        exact c2⟩
      refine k10_next hW hRB m5 (Nat.zero_le _) (fun σ5 f5 T5 => ⟨hW, ?_⟩)
      have rc4 : ∀ o, (o < 120 ∨ 132 < o) → σ4 o = σ o := fun o ho => (s4 o (by omega) (by omega)).trans (h1.rc o ho)
      refine k10_lines hW (σ0 := σ4) (fun F P σ6 g6 x6 he => ?_) (fun r' σ6 g6 z6 r6 hV hm he => ?_) 1000 (tp_st (bt α) N 0) tp_z σ5 (by omega) T5 (f5.f.trans z4) (f5.row.trans r4) ⟨0, 0, 0, 0, 0, 0, VQ.z⟩ f5.of rfl
      · rw [he] at hq
        refine sgX10_duchy_162 (Nat.le_refl _) hW ⟨fun h => absurd h x6.no, fun _ => k10_no hW ⟨hW, hq _ (fun o ho => ?_) (fun o k hk => ?_) hA.df⟩⟩
        · rw [aw_uo (by omega), ← rc4 o ho]
          funext k
          exact g6 o k (by omega) (by omega) (fun e => by omega)
        · rcases hk with ho | ⟨rfl, hk⟩
          · show (aw_u σ6 120 11 4) o k = dfF α (F, P) o k
            rw [aw_u_ne (by omega), dfF_o (by omega), g6 o k (by omega) (by omega) (fun e => by omega), s4 o (by omega) (by omega), r1.f ho, tr_o (by omega)]
          · show (aw_u σ6 120 11 4) 120 k = dfF α (F, P) 120 k
            by_cases e11 : k = 11
            · subst e11; rw [aw_u_eq]; exact dfF_v.2.2.2.symm
            · rw [aw_u_nk e11]
              by_cases e9 : k = 9
              · subst e9; rw [x6.2.1]; exact (dfF_v (α := α) (e := (F, P))).2.1.symm
              · by_cases e10 : k = 10
                · subst e10; rw [x6.2.2]; exact (dfF_v (α := α) (e := (F, P))).2.2.1.symm
                · rw [g6 120 k (by decide) (by decide) (fun e => by omega)]
                  by_cases e2 : k = 2
                  · subst e2; rw [z2]; exact dfF_v.1.symm
                  · rw [dfF_k (by omega), t4 k (by omega) (by omega) (by omega) (by omega) (by omega), r1.s (by omega), tr_k (by omega)]
      · rw [he] at hq
        dsimp only at hq
        have hv := hV.vr hm
        have h5 := hv.m5
        have h7 := hv.d7
        have o6 : ∀ o, o ≠ 120 → o ≠ 122 → o ≠ 124 → σ6 o = σ1 o := fun o a1 a2 a3 => (funext fun k => g6 o k a2 a3 (fun e => a1 e.1)).trans (s4 o a1 a3)
        have k6 : ∀ k, ¬ (4 ≤ k ∧ k ≤ 8) → σ6 120 k = σ4 120 k := fun k hk => g6 120 k (by decide) (by decide) (fun e => hk e.2)
        refine sgX10_duchy_162 (Nat.le_refl _) hW ⟨fun _ => ?_, fun h => absurd z6 h⟩
        refine k10_copy (i := 0) (j := 0) (m := 167) hW isA_fresh isA_r (by decide) (by decide) (by decide) (by decide) (by decide) ⟨hW, ?_⟩
        refine SW.norm (fun o k => if o = 123 then r' k else if o = 125 ∧ 13 ≤ k then 0 else σ6 o k) (fun o k hk => ?_) ?_
        · by_cases e3 : o = 123
          · subst e3
            have := hk 167 kp_123
            rw [if_pos rfl, s_cp_in (by omega) (by omega), r6]
            congr 1
            omega
          · rw [if_neg e3, s_cp_out e3, if_neg (fun e => by rw [e.1] at hk; have := hk 13 kp_125; omega)]
        have q3 : (fun o k => if o = 123 then r' k else if o = 125 ∧ 13 ≤ k then (0 : Int32) else σ6 o k) 123 = r' := funext fun k => if_pos rfl
        have q5 : ∀ k, 13 ≤ k → (fun o k => if o = 123 then r' k else if o = 125 ∧ 13 ≤ k then (0 : Int32) else σ6 o k) 125 k = 0 := fun k hk => by
          show (if (125 : Nat) = 123 then r' k else if (125 : Nat) = 125 ∧ 13 ≤ k then (0 : Int32) else σ6 125 k) = 0
          rw [if_neg (by decide), if_pos ⟨rfl, hk⟩]
        have qo : ∀ o, o ≠ 123 → o ≠ 125 → (fun o k => if o = 123 then r' k else if o = 125 ∧ 13 ≤ k then (0 : Int32) else σ6 o k) o = σ6 o := fun o a1 a2 => funext fun k => by
          show (if o = 123 then r' k else if o = 125 ∧ 13 ≤ k then (0 : Int32) else σ6 o k) = σ6 o k
          rw [if_neg a1, if_neg (fun e => a2 e.1)]
        generalize (fun o k => if o = 123 then r' k else if o = 125 ∧ 13 ≤ k then (0 : Int32) else σ6 o k) = σ7 at q3 q5 qo ⊢
        have fin : ∀ σ8, (∀ o, o ≠ 125 → σ8 o = σ7 o) → (∀ j, σ8 125 j = stF r' j) → q (r' 4) n (aw_u (aw_u (aw_u σ8 120 14 1) 120 20 0) 120 21 0) τ θ := by
          intro σ8 ho8 h8
          have n1 : ∀ o, o ≠ 120 → (aw_u (aw_u (aw_u σ8 120 14 1) 120 20 0) 120 21 0) o = σ8 o := fun o ho => (aw_uo ho).trans ((aw_uo ho).trans (aw_uo ho))
          refine hq _ (fun o ho => ?_) (fun o k hk => ?_) (AI.dc hv hm)
          · rw [n1 o (by omega), ho8 o (by omega), qo o (by omega) (by omega), o6 o (by omega) (by omega) (by omega)]
            exact h1.rc o ho
          · rcases hk with ho | ⟨rfl, hk⟩
            · show (aw_u (aw_u (aw_u σ8 120 14 1) 120 20 0) 120 21 0) o k = dcF α r' o k
              rw [n1 o (by omega)]
              by_cases e3 : o = 123
              · subst e3; rw [ho8 123 (by decide), q3, dcF_3]
              · by_cases e5 : o = 125
                · subst e5; rw [h8, dcF_5]
                · rw [ho8 o e5, qo o e3 e5, o6 o (by omega) (by omega) (by omega), dcF_o e3 e5 (by omega), r1.f ho, tr_o (by omega)]
            · show (aw_u (aw_u (aw_u σ8 120 14 1) 120 20 0) 120 21 0) 120 k = dcF α r' 120 k
              by_cases e21 : k = 21
              · subst e21; rw [aw_u_eq, dcF_0 (by omega)]
              · rw [aw_u_nk e21]
                by_cases e20 : k = 20
                · subst e20; rw [aw_u_eq, dcF_0 (by omega)]
                · rw [aw_u_nk e20]
                  by_cases e14 : k = 14
                  · subst e14; rw [aw_u_eq, dcF_14]
                  · rw [aw_u_nk e14, ho8 120 (by decide), qo 120 (by decide) (by decide), k6 k (by omega)]
                    by_cases e2 : k = 2
                    · subst e2; rw [z2, dcF_0 (by omega)]
                    · by_cases e9 : k = 9
                      · subst e9; rw [z9, dcF_0 (by omega)]
                      · rw [t4 k (by omega) (by omega) (by omega) (by omega) (by omega)]
                        by_cases e10 : k = 10
                        · subst e10; rw [r1.s (by omega), tr_k (by omega), dcF_10]
                        · have : k = 11 := by omega
                          subst this
                          rw [r1.s (by omega), tr_w, dcF_0 (by omega)]
        have l251 := ps_up (N := nM r') (P := fun m => ∀ σ8, (∀ o, o ≠ 125 → σ8 o = σ7 o) → (∀ j, σ8 125 j = if j < 7 then (if j < nD r' then r' (27 + 4 * j) else 0) else if j < 7 + m ∧ j < 12 then r' (11 + 3 * (j - 7)) else 0) → SW G 11 mX10_duchy (aw_qi q) 0 0 251 [some (.ref 120), none, some (.int (nI m))] [] (n, σ8, τ, θ)) ?_ ?_ 0 (Nat.zero_le _)
        have l214 := ps_up (N := nD r') (P := fun k => ∀ σ8, (∀ o, o ≠ 125 → σ8 o = σ7 o) → (∀ j, σ8 125 j = if j < k then r' (27 + 4 * j) else 0) → SW G 11 mX10_duchy (aw_qi q) 0 0 214 [some (.ref 120), none, some (.int (nI k))] [] (n, σ8, τ, θ)) ?_ ?_ 0 (Nat.zero_le _)
        have l193 := ps_up (N := 13) (P := fun k => ∀ σ8, (∀ o, o ≠ 125 → σ8 o = σ7 o) → (∀ j, (j < k ∨ 13 ≤ j) → σ8 125 j = 0) → SW G 11 mX10_duchy (aw_qi q) 0 0 193 [some (.ref 120), none, some (.int (nI k))] [] (n, σ8, τ, θ)) ?_ ?_ 0 (Nat.zero_le _)
        · exact l193 σ7 (fun _ _ => rfl) (fun j hj => q5 j (by omega))
        · intro σ8 ho8 h8
          refine sgX10_duchy_193 _ (Nat.le_refl _) hW ⟨fun _ => l214 σ8 ho8 (fun j => ?_), fun h => absurd (Int32.le_refl _) h⟩
          rw [if_neg (by omega)]; exact h8 j (by omega)
        · intro k hk ih σ8 ho8 h8
          refine sgX10_duchy_193 _ (Nat.le_refl _) hW ⟨fun h => absurd h (nI_ge (a := k) (b := 13) hk (by omega)), fun _ => ⟨ps_in (by omega) (by decide), ?_⟩⟩
          rw [ps_cl (by omega), nI_1]
          refine ih _ (fun o ho => (aw_uo ho).trans (ho8 o ho)) (fun j hj => ?_)
          by_cases e : j = k
          · rw [e, aw_u_eq]
          · rw [aw_u_nk e]; exact h8 j (by omega)
        · intro σ8 ho8 h8
          refine sgX10_duchy_214 _ (Nat.le_refl _) hW ?_
          rw [ho8 123 (by decide), q3, hv.d]
          refine ⟨fun _ => l251 σ8 ho8 (fun j => ?_), fun h => absurd (Int32.le_refl _) h⟩
          rw [h8 j]
          by_cases e7 : j < 7
          · rw [if_pos e7]
          · rw [if_neg e7, if_neg (by omega), if_neg (by omega)]
        · intro k hk ih σ8 ho8 h8
          refine sgX10_duchy_214 _ (Nat.le_refl _) hW ?_
          rw [ho8 123 (by decide), q3, hv.d, ix27, ps_cl (by omega), ps_cl (by omega), nI_1]
          refine ⟨fun h => absurd h (nI_ge hk (by omega)), fun _ => ⟨ps_in (by omega) (by decide), ps_in (by omega) (by decide), ih _ (fun o ho => (aw_uo ho).trans (ho8 o ho)) (fun j => ?_)⟩⟩
          by_cases e : j = k
          · subst e; rw [aw_u_eq, if_pos (by omega)]
          · rw [aw_u_nk e, h8 j]
            by_cases e2 : j < k
            · rw [if_pos e2, if_pos (by omega)]
            · rw [if_neg e2, if_neg (by omega)]
        · intro σ8 ho8 h8
          refine sgX10_duchy_251 _ (Nat.le_refl _) hW ?_
          rw [aw_u_ne (by decide), aw_u_ne (by decide), aw_u_ne (by decide), ho8 123 (by decide), q3]
          refine ⟨fun _ => fin σ8 ho8 (fun j => ?_), fun h => absurd (by rw [hv.m]; exact Int32.le_refl _) h⟩
          rw [h8 j]
          unfold stF
          by_cases e7 : j < 7
          · rw [if_pos e7, if_pos e7]
          · rw [if_neg e7, if_neg e7]
            by_cases e12 : j < 12
            · rw [if_pos e12]
              by_cases em : j - 7 < nM r'
              · rw [if_pos em, if_pos (by omega)]
              · rw [if_neg em, if_neg (by omega)]
            · rw [if_neg e12, if_neg (by omega)]
        · intro m hm2 ih σ8 ho8 h8
          refine sgX10_duchy_251 _ (Nat.le_refl _) hW ?_
          rw [ho8 123 (by decide), q3, hv.m, ix11, show (7 : Int32) + nI m = nI (7 + m) from nI_add 7 m, ps_cl (by omega), ps_cl (by omega), nI_1]
          refine ⟨fun h => absurd h (nI_ge hm2 (by omega)), fun _ => ⟨ps_in (by omega) (by decide), ps_in (by omega) (by decide), ih _ (fun o ho => (aw_uo ho).trans (ho8 o ho)) (fun j => ?_)⟩⟩
          by_cases e : j = 7 + m
          · subst e; rw [aw_u_eq, if_neg (by omega), if_pos (by omega), show 7 + m - 7 = m by omega]
          · rw [aw_u_nk e, h8 j]
            by_cases e7 : j < 7
            · rw [if_pos e7, if_pos e7]
            · rw [if_neg e7, if_neg e7]
              by_cases e2 : j < 7 + m ∧ j < 12
              · rw [if_pos e2, if_pos (by omega)]
              · rw [if_neg e2, if_neg (by omega)]
    · intro k hk ih σ2 ho hz
      refine sgX10_duchy_39 _ _ (Nat.le_refl _) hW ⟨fun h => absurd h (nI_ge (a := k) (b := 167) hk (by omega)), fun _ => ⟨ps_in (by omega) (by decide), ?_⟩⟩
      rw [ps_cl (by omega), nI_1]
      refine ih _ (fun o h => (aw_uo h).trans (ho o h)) (fun j hj => ?_)
      by_cases e : j = k
      · rw [e, aw_u_eq]
      · rw [aw_u_nk e]; exact hz j (by omega)
end Dp
