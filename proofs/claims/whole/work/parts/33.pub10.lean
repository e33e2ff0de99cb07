section Pub10
variable {G : GG} {n : Nat} {σ : SG} {τ : TU} {θ : TH} {f t : Nat} {r st row : Nat → Int32} {q : Int32 → Nat → SG → TU → TH → Prop} {qv : Nat → SG → TU → TH → Prop} {ql : Int64 → Nat → SG → TU → TH → Prop}
theorem k1_burdenWithin {m w kd : Nat} (hf : isF f) (hW : aw_WT n θ) (hF : FR σ f r) (hv : VR r) (hm : m < nM r) (hk : kd ≤ 3) (ek : r (10 + 3 * m) = nI kd) (hw : w ≤ 40) (hq : q (nI (bwN kd w)) n σ τ θ) : SMi G 1 mX1_burdenWithin 0 0 [.ref f, .int (nI m), .int (nI w)] n σ τ θ q := by
  have h5 := hv.m5
  unfold bwN at hq
  refine ctX1_burdenWithin f _ _ (sgX1_burdenWithin_0 f _ _ (Nat.le_refl _) hf hW ?_)
  rw [ps_cl (by omega), (hF.2.1 m hm).1, ek]
  have e2 : (nI kd = 2) ↔ kd = 2 := nI_eq (b := 2) (by omega) (by omega)
  have e3 : (nI kd = 3) ↔ kd = 3 := nI_eq (b := 3) (by omega) (by omega)
  rw [e2, e3]
  refine ⟨ps_in (by omega) (by decide), fun h => ?_, fun h => ?_, fun h => ?_⟩
  · rw [if_pos h] at hq
    rw [show nI w / 2 = nI (w / 2) from pk_div (d := 2) (by omega) (by omega) (by omega)]
    exact hq
  · rw [if_neg (by omega), if_pos h] at hq
    rw [show (2 : Int32) * nI w = nI (2 * w) from pk_mul 2 w]
    exact hq
  · rw [if_neg h.1, if_neg h.2] at hq
    exact hq
theorem k1_firstTinesAt {m : Int32} {c : Nat} (hf : isF f) (ht : isM t) (hW : aw_WT n θ) (hF : FR σ f r) (hM : MR σ t row) (hv : VR r) (hs : VS row) (hc : c ≤ 20) (hq : q (nI (sm (fcN r row (row 12) m c) (nD r))) n σ τ θ) : SMi G 2 mX1_firstTinesAt 0 0 [.ref f, .ref t, .int m, .int (nI c)] n σ τ θ q := by
  have h7 := hv.d7
  have e5 : σ (f + 8) 4 = nI (nD r) := hF.1.2.2.2.2.2.1.trans hv.d
  refine ctX1_firstTinesAt f t _ _ (sgX1_firstTinesAt_0 f t _ _ (Nat.le_refl _) hf ht hW ?_)
  refine ps_up (N := nD r) (P := fun j => SW G 2 mX1_firstTinesAt (aw_qi q) 0 0 6 [some (.ref f), some (.ref t), some (.int m), some (.int (nI c)), some (.int (nI (sm (fcN r row (row 12) m c) j))), some (.int (nI j))] [] (n, σ, τ, θ)) ?_ ?_ 0 (Nat.zero_le _)
  · exact sgX1_firstTinesAt_6 f t _ _ _ _ (Nat.le_refl _) hf ht hW (ps_done e5 hq)
  · intro j hj ih
    refine sgX1_firstTinesAt_6 f t _ _ _ _ (Nat.le_refl _) hf ht hW (ps_br e5 (by omega) (by omega) (fun h => absurd hj (by omega)) (fun _ => ?_))
    rw [ps_cl (by omega), (hF.2.2.2.2.1 j hj).1, ← nI_succ j, hM.2.2]
    simp only [sm] at ih
    rw [← nI_add] at ih
    refine ⟨ps_in (by omega) (by decide), fun h2 => ?_, fun h2 => ?_⟩
    · rw [show fcN r row (row 12) m c j = 0 from if_neg (fun e => h2 e.1.2), nI_0, Int32.add_zero] at ih
      exact ih
    · refine k1_isDue hf ht hW hF hM hv hj ⟨hW, ps_b (fun h3 => ?_) (fun h3 => ⟨ps_in (by omega) (by decide), ?_⟩)⟩
      · rw [show fcN r row (row 12) m c j = 0 from if_neg (fun e => h3 e.1.1), nI_0, Int32.add_zero] at ih
        exact ih
      · obtain ⟨a, hp, ha, ea⟩ := ps_due_a hs.1 (by omega) h3
        obtain ⟨f1, f2, f3, -⟩ := s_nt_e hv hs.1 hj h3
        have t2 := hv.t20
        rw [hM.2.1 j (by omega), ea]
        refine k1_nextTineCosts hf hW hF hv (hv.mD hj) hp ha ⟨hW, ?_⟩
        rw [← ea, f1, nI_eq (by omega) (by omega)]
        refine ⟨fun h4 => ?_, fun h4 => ?_⟩
        · rw [show fcN r row (row 12) m c j = 0 from if_neg (fun e => h4 e.2), nI_0, Int32.add_zero] at ih
          exact ih
        · rw [show fcN r row (row 12) m c j = 1 from if_pos ⟨⟨h3, h2⟩, h4⟩] at ih
          exact ih
theorem sm_fc_le {L : Nat → Int32} {s m : Int32} {c : Nat} : ∀ k, sm (fcN r L s m c) k ≤ k
  | 0 => Nat.le_refl _
  | k + 1 => by
    have : sm (fcN r L s m c) k ≤ k := sm_fc_le k
    show sm (fcN r L s m c) k + (if _ then _ else _) ≤ _
    split <;> omega
theorem k1_tollFor {m w kd : Nat} (hf : isF f) (ht : isM t) (hW : aw_WT n θ) (hF : FR σ f r) (hM : MR σ t row) (hv : VR r) (hs : VS row) (hm : m < nM r) (hk : kd ≤ 3) (ek : r (10 + 3 * m) = nI kd) (hw : w ≤ 40) (hq : q (nI (tollN r row (row 12) m kd w)) n σ τ θ) : SMi G 3 mX1_tollFor 0 0 [.ref f, .ref t, .int (nI m), .int (nI w)] n σ τ θ q := by
  have h5 := hv.m5
  have h7 := hv.d7
  have t1 := hv.t1 (by omega)
  have t2 := hv.t20
  have e9 : σ f 9 = nI (nT r) := hF.1.1.trans hv.t
  unfold tollN at hq
  refine ctX1_tollFor f t _ _ (sgX1_tollFor_0 f t _ _ (Nat.le_refl _) hf ht hW ?_)
  rw [ps_cl (by omega), (hF.2.1 m hm).1, ek]
  have e1 : (nI kd = 1) ↔ kd = 1 := nI_eq (b := 1) (by omega) (by omega)
  rw [e1]
  refine ⟨ps_in (by omega) (by decide), fun h => ?_, fun h => ?_⟩
  · rw [if_neg h] at hq
    rw [hM.2.2]
    obtain ⟨eb, hb⟩ := s_db_e (s := row 12) (m := nI m) hv hs.1 (nD r) (Nat.le_refl _)
    refine k1_burdenOf hf ht hW hF hM hv ⟨hW, k1_burdenWithin hf hW hF hv hm hk ek hw ⟨hW, ?_⟩⟩
    rw [eb]
    have hB : bwN kd w ≤ 100 := by unfold bwN; split <;> (try split) <;> omega
    generalize hb0 : sm (fdN r row (row 12) (nI m)) (nD r) = b at hb hq ⊢
    by_cases hle : b ≤ bwN kd w
    · rw [show b - bwN kd w = 0 by omega, tl_z] at hq
      have hx : nI b - nI (bwN kd w) ≤ 0 := by
        rw [Int32.le_iff_toInt_le, pk_sub_toInt (by omega) (by omega)]
        show ((b : Int) - (bwN kd w : Nat)) ≤ 0
        omega
      exact sgX1_tollFor_37 f t _ _ _ _ (Nat.le_refl _) hf ht hW ⟨fun _ => ⟨fun _ => hq, fun h => absurd hx h⟩, fun _ => ⟨fun _ => ⟨fun _ => hq, fun h => absurd hx h⟩, fun h => absurd hx h⟩⟩
    · rw [pk_sub (by omega)]
      have key : ∀ d c ov acc, c + d = nT r → ov ≤ 1000 → q (nI (acc + tl (fun c => sm (fcN r row (row 12) (nI m) c) (nD r)) (nT r) d c ov)) n σ τ θ → SW G 3 mX1_tollFor (aw_qi q) 0 0 37 [some (.ref f), some (.ref t), some (.int (nI m)), none, some (.int (nI ov)), some (.int (nI acc)), some (.int (nI c)), none] [] (n, σ, τ, θ) := by
        intro d
        induction d with
        | zero =>
          intro c ov acc hc ho hq
          refine sgX1_tollFor_37 f t _ _ _ _ (Nat.le_refl _) hf ht hW (ps_br e9 (by omega) (by omega) (fun _ => ?_) (fun h => absurd h (by omega)))
          have hq : q (nI (acc + ov * nT r)) n σ τ θ := hq
          refine ⟨fun h0 => ?_, fun h0 => ?_⟩
          · have h0 : ov ≤ 0 := (nI_leI (b := 0) (by omega) (by omega)).mp h0
            rw [show ov = 0 by omega, Nat.zero_mul, Nat.add_zero] at hq
            exact hq
          · rw [e9, pk_mul, nI_add]
            exact hq
        | succ d ih =>
          intro c ov acc hc ho hq
          refine sgX1_tollFor_37 f t _ _ _ _ (Nat.le_refl _) hf ht hW (ps_br e9 (by omega) (by omega) (fun h => absurd h (by omega)) (fun _ => ⟨fun h0 => ?_, fun h0 => ?_⟩))
          · have h1 : ov ≤ 0 := (nI_leI (b := 0) (by omega) (by omega)).mp h0
            rw [show ov = 0 by omega, tl_z, Nat.add_zero] at hq
            exact ⟨fun _ => hq, fun h => absurd h0 h⟩
          · refine k1_firstTinesAt hf ht hW hF hM hv hs (by omega) ⟨hW, ?_⟩
            have lc := sm_fc_le (r := r) (L := row) (s := row 12) (m := nI m) (c := c) (nD r)
            have em : (if nI (sm (fcN r row (row 12) (nI m) c) (nD r)) < nI ov then nI (sm (fcN r row (row 12) (nI m) c) (nD r)) else nI ov) = nI (min ov (sm (fcN r row (row 12) (nI m) c) (nD r))) := by
              by_cases hl : sm (fcN r row (row 12) (nI m) c) (nD r) < ov
              · rw [if_pos ((nI_ltI (by omega) (by omega)).mpr hl), Nat.min_eq_right (by omega)]
              · rw [if_neg (fun e => hl ((nI_ltI (by omega) (by omega)).mp e)), Nat.min_eq_left (by omega)]
            rw [em, pk_sub (Nat.min_le_left _ _), pk_mul, nI_add, ← nI_succ c]
            refine ih (c + 1) _ _ (by omega) (by omega) ?_
            simp only [tl, ← Nat.add_assoc] at hq
            exact hq
      refine key (nT r - 1) 1 _ 0 (by omega) (by omega) ?_
      rw [Nat.zero_add]
      exact hq
  · rw [if_pos h] at hq
    exact hq
theorem k9_afford {m d : Nat} (hW : aw_WT n θ) (hF : FR σ (θ 1 7) r) (hM : MR σ 6 st) (hv : VR r) (hs : VS st) (hm : m < nM r) (hd : d < nO r) (hq : q (s_toll r st m d) n σ τ θ) : SMi G 4 mX9_affordableToll 0 0 [.ref 1, .int (nI m), .int (nI d)] n σ τ θ q := by
  have h5 := hv.m5
  have h4 := hv.o4
  obtain ⟨kd, -, hk, ek⟩ := (hv.man hm).1
  obtain ⟨w, -, hw, ew⟩ := hv.door hd
  unfold s_toll at hq
  rw [ek, ew, ps_cl (by omega), ps_cl (by omega)] at hq
  refine ctX9_affordableToll _ _ (sgX9_affordableToll_0 _ _ (Nat.le_refl _) hW ?_)
  rw [ps_cl (by omega), hF.2.2.1 d hd, ew]
  refine ⟨ps_in (by omega) (by decide), k1_tollFor hW.f isM_now hW hF hM hv hs hm hk ek hw ⟨hW, ?_⟩⟩
  rw [ps_cl (by omega), show σ 7 m = st (7 + m) from hM.1 m (by omega)]
  refine ⟨ps_in (by omega) (by decide), fun h => ?_, fun h => ?_⟩
  · rwa [if_pos h] at hq
  · rwa [if_neg h] at hq
theorem k10_payOf {σ0 : SG} {m d : Nat} (hW : aw_WT n θ) (hS : RS σ0 σ 0) (hv : VR (σ0 123)) (hs : VS (σ0 125)) (hm : m < nM (σ0 123)) (hd : d < nO (σ0 123)) (hq : ∀ σ', RS σ0 σ' 0 → q (s_toll (σ0 123) (σ0 125) m d) n σ' τ θ) : SMi G 6 mX10_payOf 0 0 [.ref 120, .int (nI m), .int (nI d)] n σ τ θ q := by
  have h5 := hv.m5
  have h4 := hv.o4
  have h7 := hv.d7
  obtain ⟨kd, -, hk, ek⟩ := (hv.man hm).1
  obtain ⟨w, -, hw, ew⟩ := hv.door hd
  unfold s_toll at hq
  rw [ek, ew, ps_cl (by omega), ps_cl (by omega)] at hq
  refine ctX10_payOf _ _ (sgX10_payOf_0 _ _ (Nat.le_refl _) hW ?_)
  refine k10_goOver hW hS (fun σ1 h1 hb1 hk1 ht1 => ⟨hW, ?_⟩)
  rw [Int32.add_zero] at ht1
  have key : ∀ b σ1 acc, RS σ0 σ1 0 → σ1 120 22 = 0 → σ1 128 12 = σ0 125 12 → (∀ k, k < 7 → bI (σ1 128 k) 0 99) → sm (fdN (σ0 123) (σ1 128) (σ0 125 12) (nI m)) (nD (σ0 123)) = b → (∀ σ', RS σ0 σ' 0 → q (if nI (acc + tollN (σ0 123) (σ1 128) (σ0 125 12) m kd w) ≤ σ0 125 (7 + m) then nI (acc + tollN (σ0 123) (σ1 128) (σ0 125 12) m kd w) else -2) n σ' τ θ) → SW G 6 mX10_payOf (aw_qi q) 0 0 7 [some (.ref 120), some (.int (nI m)), some (.int (nI d)), some (.int (nI acc)), none, none] [] (n, σ1, τ, θ) := by
    intro b
    induction b with
    | zero =>
      intro σ1 acc h1 hb1 ht1 hL1 hb hq
      have eb := (s_db_e (s := σ0 125 12) (m := nI m) hv hL1 (nD (σ0 123)) (Nat.le_refl _)).1
      refine sgX10_payOf_7 _ _ _ (Nat.le_refl _) hW ?_
      refine k10_doesPass hW isA_trial (h1.vr hv) hb1 (by omega) (by omega) ⟨hW, ?_⟩
      rw [h1.e3, ht1]
      have hp : s_hd (σ0 123) (σ1 128) (σ0 125 12) m ≤ σ0 123 (69 + d) := by
        unfold s_hd
        rw [eb, hb, ek, ew]
        exact (ps_hb_le hk (by omega) hw).mpr (Or.inr (Nat.zero_le _))
      rw [if_pos hp]
      have ht0 : tollN (σ0 123) (σ1 128) (σ0 125 12) m kd w = 0 := by
        unfold tollN
        split
        · rfl
        · rw [hb, Nat.zero_sub, tl_z]
      rw [ht0, Nat.add_zero] at hq
      refine ⟨fun _ => ?_, fun e => absurd e (by decide)⟩
      rw [show (7 : Int32) + nI m = nI (7 + m) from nI_add 7 m, ps_cl (by omega), h1.e5]
      refine ⟨ps_in (by omega) (by decide), fun h => ?_, fun h => ?_⟩
      · have := hq _ h1; rwa [if_pos h] at this
      · have := hq _ h1; rwa [if_neg h] at this
    | succ b ih =>
      intro σ1 acc h1 hb1 ht1 hL1 hb hq
      obtain ⟨eb, lb⟩ := s_db_e (s := σ0 125 12) (m := nI m) hv hL1 (nD (σ0 123)) (Nat.le_refl _)
      refine sgX10_payOf_7 _ _ _ (Nat.le_refl _) hW ?_
      refine k10_doesPass hW isA_trial (h1.vr hv) hb1 (by omega) (by omega) ⟨hW, ?_⟩
      rw [h1.e3, ht1]
      have hpi : s_hd (σ0 123) (σ1 128) (σ0 125 12) m ≤ σ0 123 (69 + d) ↔ kd = 1 ∨ b + 1 ≤ bwN kd w := by
        unfold s_hd
        rw [eb, hb, ek, ew]
        exact ps_hb_le hk (by omega) hw
      refine And.symm (ps_b (fun hn => ?_) (fun hp => ?_))
      · have hn : ¬ (kd = 1 ∨ b + 1 ≤ bwN kd w) := fun e => hn (hpi.mpr e)
        obtain ⟨i, hi, hif⟩ := sm_ex (f := fdN (σ0 123) (σ1 128) (σ0 125 12) (nI m)) (nD (σ0 123)) (by omega)
        have hia : s_due (σ0 123) (σ1 128) (σ0 125 12) i = true ∧ σ0 123 (25 + 4 * i) = nI m := by
          apply Classical.byContradiction
          intro hc
          unfold fdN at hif
          rw [if_neg hc] at hif
          omega
        refine k10_cheapestOf hW isA_trial (h1.vr hv) ⟨hW, ?_⟩
        rw [h1.e3, ht1]
        rcases s_ch_p (s := σ0 125 12) (m := nI m) hv hL1 (nD (σ0 123)) (Nat.le_refl _) with ⟨-, hno⟩ | ⟨j, hj, ej, ha, hmin⟩
        · exact absurd hia (hno i hi)
        · obtain ⟨f1, f2, f3, -⟩ := s_nt_e hv hL1 hj ha.1
          rw [ej]
          refine k10_nextTine hW isA_trial (by omega) (by rw [h1.e3]; exact hv.pos (by omega)) ⟨hW, ?_⟩
          rw [h1.e3, ps_cl (by omega)]
          refine ⟨ps_in (by omega) (by decide), ps_in (by omega) (by decide), ?_⟩
          have hstep := pay_step (L' := (aw_u σ1 128 j (σ1 128 j - s_nt (σ1 128 j) (σ0 123 0))) 128) hv hL1 hj ha aw_u_eq (fun k hk => aw_u_nk hk) hmin
          have hR : RS σ0 (aw_u σ1 128 j (σ1 128 j - s_nt (σ1 128 j) (σ0 123 0))) 0 := h1.obj (fun o ho => aw_uo (by omega))
          have hb2 : (aw_u σ1 128 j (σ1 128 j - s_nt (σ1 128 j) (σ0 123 0))) 120 22 = 0 := by rw [aw_uo (by decide)]; exact hb1
          have ht2 : (aw_u σ1 128 j (σ1 128 j - s_nt (σ1 128 j) (σ0 123 0))) 128 12 = σ0 125 12 := by rw [aw_u_nk (by omega)]; exact ht1
          generalize (aw_u σ1 128 j (σ1 128 j - s_nt (σ1 128 j) (σ0 123 0))) = σ2 at hstep hR hb2 ht2 ⊢
          obtain ⟨g1, g2, g3⟩ := hstep
          rw [f1, nI_add]
          refine ih σ2 _ hR hb2 ht2 g1 (by omega) ?_
          have e3 : tollN (σ0 123) (σ1 128) (σ0 125 12) m kd w = ckN (σ0 123) (σ1 128) j + tollN (σ0 123) (σ2 128) (σ0 125 12) m kd w := by
            unfold tollN
            rw [if_neg (fun e => hn (Or.inl e)), if_neg (fun e => hn (Or.inl e)), ← g3, hb]
            congr 1
            omega
          rw [e3, ← Nat.add_assoc] at hq
          exact hq
      · have hp := hpi.mp hp
        have ht0 : tollN (σ0 123) (σ1 128) (σ0 125 12) m kd w = 0 := by
          unfold tollN
          rcases hp with h | h
          · rw [if_pos h]
          · split
            · rfl
            · rw [hb, show b + 1 - bwN kd w = 0 by omega, tl_z]
        rw [ht0, Nat.add_zero] at hq
        rw [show (7 : Int32) + nI m = nI (7 + m) from nI_add 7 m, ps_cl (by omega), h1.e5]
        refine ⟨ps_in (by omega) (by decide), fun h => ?_, fun h => ?_⟩
        · have := hq _ h1; rwa [if_pos h] at this
        · have := hq _ h1; rwa [if_neg h] at this
  refine key _ σ1 0 h1 hb1 ht1 (fun k hk2 => by rw [hk1 k (by omega)]; exact hs.1 k hk2) rfl ?_
  have eL : tollN (σ0 123) (σ1 128) (σ0 125 12) m kd w = tollN (σ0 123) (σ0 125) (σ0 125 12) m kd w := by
    have d1 : ∀ k, k < nD (σ0 123) → s_due (σ0 123) (σ1 128) (σ0 125 12) k = s_due (σ0 123) (σ0 125) (σ0 125 12) k := fun k hk2 => by unfold s_due; rw [hk1 k (by omega)]
    have d2 : ∀ k, k < nD (σ0 123) → tkN (σ0 123) (σ1 128) k = tkN (σ0 123) (σ0 125) k := fun k hk2 => by unfold tkN; rw [hk1 k (by omega)]
    have d3 : ∀ k, k < nD (σ0 123) → ckN (σ0 123) (σ1 128) k = ckN (σ0 123) (σ0 125) k := fun k hk2 => by unfold ckN; rw [d2 k hk2, hk1 k (by omega)]
    unfold tollN
    rw [sm_c (f := fdN (σ0 123) (σ1 128) (σ0 125 12) (nI m)) (g := fdN (σ0 123) (σ0 125) (σ0 125 12) (nI m)) (nD (σ0 123)) (fun k hk2 => by unfold fdN; rw [d1 k hk2, d2 k hk2])]
    rw [tl_c (C := fun c => sm (fcN (σ0 123) (σ1 128) (σ0 125 12) (nI m) c) (nD (σ0 123))) (C' := fun c => sm (fcN (σ0 123) (σ0 125) (σ0 125 12) (nI m) c) (nD (σ0 123))) _ _ _ (fun c _ _ => sm_c _ (fun k hk2 => by unfold fcN; rw [d1 k hk2, d3 k hk2]))]
  rw [Nat.zero_add, eL]
  exact hq
def sp_payFor (r st : Nat → Int32) (x y : Int32) : Int32 × Int32 := if s_in x (nM r) = true ∧ s_in y (nO r) = true then (s_toll r st x.toNatClampNeg y.toNatClampNeg, 0) else (-1, 1)
theorem p9_payFor {x y : Int32} (hW : aw_WT n θ) (hF : FR σ (θ 1 7) r) (hM : MR σ 6 st) (hv : VR r) (hs : VS st) (hq : ∀ σ' τ', CS σ σ' (sp_payFor r st x y).2 → q (sp_payFor r st x y).1 n σ' τ' θ) : SMi G 5 mX9_payFor 0 0 [.ref 1, .int x, .int y] n σ τ θ q := by
  unfold sp_payFor at hq
  have h5 := hv.m5
  have h4 := hv.o4
  refine ctX9_payFor _ _ (sgX9_payFor_0 _ _ (Nat.le_refl _) hW ?_)
  refine k9_isMan hW hF hv ⟨hW, ps_b (fun h => ?_) (fun h => k9_isDoor hW hF hv ⟨hW, And.symm (ps_b (fun h2 => ?_) (fun h2 => ?_))⟩)⟩
  · rw [if_neg (fun e => h e.1)] at hq
    exact k9_refuse hW ⟨hW, hq _ _ (CS.tr _ _)⟩
  · rw [if_neg (fun e => h2 e.2)] at hq
    exact k9_refuse hW ⟨hW, hq _ _ (CS.tr _ _)⟩
  · rw [if_pos ⟨h, h2⟩] at hq
    obtain ⟨m, hm, rfl⟩ := (s_in_iff (by omega)).mp h
    obtain ⟨d, hd, rfl⟩ := (s_in_iff (by omega)).mp h2
    rw [ps_cl (by omega), ps_cl (by omega)] at hq
    exact k9_afford hW hF hM hv hs hm hd ⟨hW, k9_grant hW ⟨hW, hq _ _ (CS.tr _ _)⟩⟩
theorem p10_payFor {x y : Int32} (hW : aw_WT n θ) (hv : VR (σ 123)) (hH : HR σ (σ 123)) (hs : VS (σ 125)) (hq : ∀ σ', RS σ σ' (sp_payFor (σ 123) (σ 125) x y).2 → q (sp_payFor (σ 123) (σ 125) x y).1 n σ' τ θ) : SMi G 7 mX10_payFor 0 0 [.ref 120, .int x, .int y] n σ τ θ q := by
  unfold sp_payFor at hq
  have h5 := hv.m5
  have h4 := hv.o4
  refine ctX10_payFor _ _ (sgX10_payFor_0 _ _ (Nat.le_refl _) hW ?_)
  refine k10_good' hW (fun σ1 h1 => ⟨hW, k10_isMan hW (h1.vr hv) (h1.hr hH) ⟨hW, ?_⟩⟩)
  rw [h1.e3]
  refine ps_b (fun h => ?_) (fun h => k10_isDoor hW (h1.vr hv) (h1.hr hH) ⟨hW, ?_⟩)
  · rw [if_neg (fun e => h e.1)] at hq
    exact k10_no hW ⟨hW, hq _ h1.no⟩
  · rw [h1.e3]
    refine ps_b (fun h2 => ?_) (fun h2 => ?_)
    · rw [if_neg (fun e => h2 e.2)] at hq
      exact k10_no hW ⟨hW, hq _ h1.no⟩
    · rw [if_pos ⟨h, h2⟩] at hq
      obtain ⟨m, hm, rfl⟩ := (s_in_iff (by omega)).mp h
      obtain ⟨d, hd, rfl⟩ := (s_in_iff (by omega)).mp h2
      rw [ps_cl (by omega), ps_cl (by omega)] at hq
      exact k10_payOf hW h1 hv hs hm hd (fun σ2 h2 => ⟨hW, hq _ h2⟩)
/-! all whom a door awaits -/
theorem tollN_lt {L : Nat → Int32} {s : Int32} {m kd w : Nat} (hv : VR r) (hL : ∀ k, k < 7 → bI (L k) 0 99) (hm : 0 < nM r) : tollN r L s m kd w ≤ 693 * 20 := by
  have t1 := hv.t1 hm
  have t2 := hv.t20
  have h7 := hv.d7
  have hb := (s_db_e (s := s) (m := nI m) hv hL (nD r) (Nat.le_refl _)).2
  have key : ∀ (C : Nat → Nat) d c ov, c + d = nT r → tl C (nT r) d c ov ≤ ov * nT r := by
    intro C d
    induction d with
    | zero => intro c ov _; exact Nat.le_refl _
    | succ d ih =>
      intro c ov hc
      have h1 := ih (c + 1) (ov - min ov (C c)) (by omega)
      have h2 : min ov (C c) * c ≤ min ov (C c) * nT r := Nat.mul_le_mul_left _ (by omega)
      have h3 : (ov - min ov (C c)) * nT r + min ov (C c) * nT r = ov * nT r := by rw [← Nat.add_mul, Nat.sub_add_cancel (Nat.min_le_left _ _)]
      simp only [tl]
      omega
  unfold tollN
  split
  · omega
  · refine Nat.le_trans (key _ _ _ _ (by omega)) (Nat.mul_le_mul (by omega) (by omega))
theorem s_toll_n (hv : VR r) (hs : VS st) {m d : Nat} (hm : 0 < nM r) : s_toll r st m d = -2 ∨ ∃ a, a ≤ 13860 ∧ s_toll r st m d = nI a := by
  unfold s_toll
  split
  · exact Or.inr ⟨_, tollN_lt hv hs.1 hm, rfl⟩
  · exact Or.inl rfl
/-- the sum over those invited, from the m-th on -/
def s_pa (r st : Nat → Int32) : Nat → Nat → Int32 → Int32
  | 0, _, acc => acc
  | d + 1, m, acc => if eN r m = 0 then s_pa r st d (m + 1) acc else if s_toll r st m (eN r m - 1) = -2 then -2 else s_pa r st d (m + 1) (acc + s_toll r st m (eN r m - 1))
def sp_payAll (r st : Nat → Int32) : Int32 × Int32 := if nM r = 0 then (-1, 1) else (s_pa r st (nM r) 0 0, 0)
theorem p9_payAll (hW : aw_WT n θ) (hF : FR σ (θ 1 7) r) (hM : MR σ 6 st) (hv : VR r) (hs : VS st) (hq : ∀ σ' τ', CS σ σ' (sp_payAll r st).2 → q (sp_payAll r st).1 n σ' τ' θ) : SMi G 5 mX9_payAll 0 0 [.ref 1] n σ τ θ q := by
  unfold sp_payAll at hq
  have h5 := hv.m5
  have h4 := hv.o4
  have e : σ (θ 1 7) 13 = nI (nM r) := hF.1.2.2.2.2.1.trans hv.m
  refine ctX9_payAll (sgX9_payAll_0 (Nat.le_refl _) hW ?_)
  refine k9_noDuchy hW hF hv ⟨hW, ps_b (fun h => ?_) (fun h => ?_)⟩
  · rw [if_neg h] at hq
    have key : ∀ d j acc, j + d = nM r → (∀ σ' τ', CS σ σ' 0 → q (s_pa r st d j acc) n σ' τ' θ) → SW G 5 mX9_payAll (aw_qi q) 0 0 17 [some (.ref 1), some (.int acc), some (.int (nI j)), none, none] [] (n, σ, τ, θ) := by
      intro d
      induction d with
      | zero =>
        intro j acc hj hq
        exact sgX9_payAll_17 _ _ (Nat.le_refl _) hW (ps_br e (by omega) (by omega) (fun _ => k9_grant hW ⟨hW, hq _ _ (CS.tr _ _)⟩) (fun h => absurd h (by omega)))
      | succ d ih =>
        intro j acc hj hq
        refine sgX9_payAll_17 _ _ (Nat.le_refl _) hW (ps_br e (by omega) (by omega) (fun h => absurd h (by omega)) (fun _ => ?_))
        obtain ⟨ee, he⟩ := hv.en (m := j) (by omega)
        rw [← nI_succ j, ps_cl (by omega), (hF.2.1 j (by omega)).2.2.2, ee]
        simp only [s_pa] at hq
        refine ⟨ps_in (by omega) (by decide), k9_isDoor hW hF hv ⟨hW, ps_b (fun h2 => ?_) (fun h2 => ?_)⟩⟩
        · have h0 : eN r j = 0 := by
            apply Classical.byContradiction
            intro hc
            obtain ⟨d', hd⟩ : ∃ d', eN r j = d' + 1 := ⟨eN r j - 1, by omega⟩
            rw [hd, nI_pred] at h2
            exact h2 ((s_in_iff (by omega)).mpr ⟨d', by omega, rfl⟩)
          simp only [if_pos h0] at hq
          refine ⟨fun _ => ?_, fun e2 => absurd e2 (by decide)⟩
          rw [Int32.add_zero]
          exact ih (j + 1) _ (by omega) hq
        · rcases Nat.eq_zero_or_pos (eN r j) with h0 | h0
          · rw [h0] at h2
            exact absurd h2 (show ¬ s_in (-1) _ = true from s_in_m1)
          · simp only [if_neg (show ¬ eN r j = 0 by omega)] at hq
            obtain ⟨d', hd⟩ : ∃ d', eN r j = d' + 1 := ⟨eN r j - 1, by omega⟩
            rw [hd, nI_pred]
            rw [hd, Nat.add_sub_cancel] at hq
            refine k9_afford hW hF hM hv hs (by omega) (by omega) ⟨hW, fun h3 => ?_, fun h3 => ?_⟩
            · simp only [if_neg h3] at hq
              exact ih (j + 1) _ (by omega) hq
            · simp only [if_pos h3] at hq
              exact k9_grant hW ⟨hW, hq _ _ (CS.tr _ _)⟩
    exact key (nM r) 0 0 (by omega) hq
  · rw [if_pos h] at hq
    exact k9_refuse hW ⟨hW, hq _ _ (CS.tr _ _)⟩
theorem p10_payAll (hW : aw_WT n θ) (hv : VR (σ 123)) (hH : HR σ (σ 123)) (hs : VS (σ 125)) (hq : ∀ σ', RS σ σ' (sp_payAll (σ 123) (σ 125)).2 → q (sp_payAll (σ 123) (σ 125)).1 n σ' τ θ) : SMi G 7 mX10_payAll 0 0 [.ref 120] n σ τ θ q := by
  unfold sp_payAll at hq
  have h5 := hv.m5
  have h4 := hv.o4
  refine ctX10_payAll (sgX10_payAll_0 (Nat.le_refl _) hW ?_)
  refine k10_good' hW (fun σ1 h1 => ⟨hW, ?_⟩)
  rw [h1.has, hH.iff]
  refine ⟨fun h => ?_, fun h => ?_⟩
  · rw [if_neg h] at hq
    have key : ∀ d j acc σ2, RS σ σ2 0 → j + d = nM (σ 123) → (∀ σ', RS σ σ' 0 → q (s_pa (σ 123) (σ 125) d j acc) n σ' τ θ) → SW G 7 mX10_payAll (aw_qi q) 0 0 21 [some (.ref 120), some (.int acc), some (.int (nI j)), none] [] (n, σ2, τ, θ) := by
      intro d
      induction d with
      | zero =>
        intro j acc σ2 h2 hj hq
        have e : σ2 123 4 = nI (nM (σ 123)) := by rw [h2.e3]; exact hv.m
        exact sgX10_payAll_21 _ _ (Nat.le_refl _) hW (ps_br e (by omega) (by omega) (fun _ => hq _ h2) (fun h => absurd h (by omega)))
      | succ d ih =>
        intro j acc σ2 h2 hj hq
        have e : σ2 123 4 = nI (nM (σ 123)) := by rw [h2.e3]; exact hv.m
        refine sgX10_payAll_21 _ _ (Nat.le_refl _) hW (ps_br e (by omega) (by omega) (fun h => absurd h (by omega)) (fun _ => ?_))
        obtain ⟨ee, he⟩ := hv.en (m := j) (by omega)
        rw [← nI_succ j, ix73, ps_cl (by omega), h2.e3, ee, ps_nI0 (by omega)]
        simp only [s_pa] at hq
        refine ⟨ps_in (by omega) (by decide), fun h0 => ⟨ps_in (by omega) (by decide), ?_⟩, fun h0 => ⟨fun _ => ?_, fun h9 => absurd (by decide) h9⟩⟩
        · simp only [if_neg h0] at hq
          obtain ⟨d', hd⟩ : ∃ d', eN (σ 123) j = d' + 1 := ⟨eN (σ 123) j - 1, by omega⟩
          rw [hd, nI_pred]
          rw [hd, Nat.add_sub_cancel] at hq
          refine k10_payOf hW h2 hv hs (by omega) (by omega) (fun σ3 h3 => ⟨hW, ?_⟩)
          rcases s_toll_n (m := j) (d := d') hv hs (by omega) with e9 | ⟨a, ha, e9⟩
          · rw [e9] at hq ⊢
            rw [if_pos rfl] at hq
            exact ⟨fun h9 => absurd h9 (by decide), fun _ => hq _ h3⟩
          · rw [e9] at hq ⊢
            rw [if_neg (ps_neg2' (by omega))] at hq
            exact ⟨fun _ => ih (j + 1) _ _ h3 (by omega) hq, fun h9 => absurd (nI_pos' (by omega)) h9⟩
        · simp only [if_pos h0] at hq
          rw [Int32.add_zero]
          exact ih (j + 1) _ _ h2 (by omega) hq
    exact key (nM (σ 123)) 0 0 σ1 h1 (by omega) hq
  · rw [if_pos h] at hq
    exact k10_no hW ⟨hW, hq _ h1.no⟩
def s_sh (r st : Nat → Int32) : Nat → Int32
  | 0 => 0
  | m + 1 => s_sh r st m ||| if 0 < eN r m ∧ s_toll r st m (eN r m - 1) = -2 then 1 <<< (nI m &&& 31) else 0
def sp_shamed (r st : Nat → Int32) : Int32 × Int32 := if nM r = 0 then (-1, 1) else (s_sh r st (nM r), 0)
theorem p9_shamed (hW : aw_WT n θ) (hF : FR σ (θ 1 7) r) (hM : MR σ 6 st) (hv : VR r) (hs : VS st) (hq : ∀ σ' τ', CS σ σ' (sp_shamed r st).2 → q (sp_shamed r st).1 n σ' τ' θ) : SMi G 5 mX9_shamed 0 0 [.ref 1] n σ τ θ q := by
  unfold sp_shamed at hq
  have h5 := hv.m5
  have h4 := hv.o4
  have e : σ (θ 1 7) 13 = nI (nM r) := hF.1.2.2.2.2.1.trans hv.m
  refine ctX9_shamed (sgX9_shamed_0 (Nat.le_refl _) hW ?_)
  refine k9_noDuchy hW hF hv ⟨hW, ps_b (fun h => ?_) (fun h => ?_)⟩
  · rw [if_neg h] at hq
    refine ps_up (N := nM r) (P := fun j => SW G 5 mX9_shamed (aw_qi q) 0 0 17 [some (.ref 1), some (.int (s_sh r st j)), some (.int (nI j)), none] [] (n, σ, τ, θ)) ?_ ?_ 0 (Nat.zero_le _)
    · exact sgX9_shamed_17 _ _ (Nat.le_refl _) hW (ps_done e (k9_grant hW ⟨hW, hq _ _ (CS.tr _ _)⟩))
    · intro j hj ih
      refine sgX9_shamed_17 _ _ (Nat.le_refl _) hW (ps_br e (by omega) (by omega) (fun h => absurd hj (by omega)) (fun _ => ?_))
      obtain ⟨ee, he⟩ := hv.en hj
      rw [← nI_succ j, ps_cl (by omega), (hF.2.1 j hj).2.2.2, ee]
      simp only [s_sh] at ih
      refine ⟨ps_in (by omega) (by decide), k9_isDoor hW hF hv ⟨hW, ps_b (fun h2 => ?_) (fun h2 => ?_)⟩⟩
      · rw [if_neg (fun e3 => h2 (by
          obtain ⟨d, hd⟩ : ∃ d, eN r j = d + 1 := ⟨eN r j - 1, by omega⟩
          rw [hd, nI_pred]
          exact (s_in_iff (by omega)).mpr ⟨d, by omega, rfl⟩)), Int32.or_zero] at ih
        exact ih
      · rcases Nat.eq_zero_or_pos (eN r j) with h0 | h0
        · rw [h0] at h2
          exact absurd h2 (show ¬ s_in (-1) _ = true from s_in_m1)
        · obtain ⟨d, hd⟩ : ∃ d, eN r j = d + 1 := ⟨eN r j - 1, by omega⟩
          rw [hd, nI_pred]
          rw [hd, Nat.add_sub_cancel] at ih
          refine k9_afford hW hF hM hv hs hj (by omega) ⟨hW, fun h3 => ?_, fun h3 => ?_⟩
          · rw [if_neg (fun e3 => h3 e3.2), Int32.or_zero] at ih; exact ih
          · rw [if_pos ⟨by omega, h3⟩] at ih; exact ih
  · rw [if_pos h] at hq
    exact k9_refuse hW ⟨hW, hq _ _ (CS.tr _ _)⟩
theorem p10_shamed (hW : aw_WT n θ) (hv : VR (σ 123)) (hH : HR σ (σ 123)) (hs : VS (σ 125)) (hq : ∀ σ', RS σ σ' (sp_shamed (σ 123) (σ 125)).2 → q (sp_shamed (σ 123) (σ 125)).1 n σ' τ θ) : SMi G 7 mX10_shamed 0 0 [.ref 120] n σ τ θ q := by
  unfold sp_shamed at hq
  have h5 := hv.m5
  have h4 := hv.o4
  refine ctX10_shamed (sgX10_shamed_0 (Nat.le_refl _) hW ?_)
  refine k10_good' hW (fun σ1 h1 => ⟨hW, ?_⟩)
  rw [h1.has, hH.iff]
  refine ⟨fun h => ?_, fun h => ?_⟩
  · rw [if_neg h] at hq
    refine ps_up (N := nM (σ 123)) (P := fun j => ∀ σ2, RS σ σ2 0 → SW G 7 mX10_shamed (aw_qi q) 0 0 21 [some (.ref 120), some (.int (s_sh (σ 123) (σ 125) j)), some (.int (nI j))] [] (n, σ2, τ, θ)) ?_ ?_ 0 (Nat.zero_le _) σ1 h1
    · intro σ2 h2
      have e : σ2 123 4 = nI (nM (σ 123)) := by rw [h2.e3]; exact hv.m
      exact sgX10_shamed_21 _ _ (Nat.le_refl _) hW (ps_done e (hq _ h2))
    · intro j hj ih σ2 h2
      have e : σ2 123 4 = nI (nM (σ 123)) := by rw [h2.e3]; exact hv.m
      refine sgX10_shamed_21 _ _ (Nat.le_refl _) hW (ps_br e (by omega) (by omega) (fun h => absurd hj (by omega)) (fun _ => ?_))
      obtain ⟨ee, he⟩ := hv.en hj
      rw [← nI_succ j, ix73, ps_cl (by omega), h2.e3, ee]
      simp only [s_sh] at ih
      refine ⟨ps_in (by omega) (by decide), fun h3 => ?_, fun h3 => ⟨ps_in (by omega) (by decide), ?_⟩⟩
      · have h0 : ¬ 0 < eN (σ 123) j := fun e3 => nI_nle e3 (by omega) h3
        rw [if_neg (fun e3 => h0 e3.1)] at ih
        exact ih _ h2
      · rcases Nat.eq_zero_or_pos (eN (σ 123) j) with h0 | h0
        · rw [h0] at h3
          exact absurd (by decide) h3
        · obtain ⟨d, hd⟩ : ∃ d, eN (σ 123) j = d + 1 := ⟨eN (σ 123) j - 1, by omega⟩
          rw [hd, nI_pred]
          rw [hd, Nat.add_sub_cancel] at ih
          refine k10_payOf hW h2 hv hs (by omega) (by omega) (fun σ3 h3 => ⟨hW, ?_⟩)
          rcases s_toll_n (m := j) (d := d) hv hs (by omega) with e9 | ⟨a, ha, e9⟩
          · rw [e9] at ih ⊢
            rw [if_pos ⟨by omega, rfl⟩] at ih
            exact ⟨fun h9 => absurd h9 (by decide), fun _ => ih _ h3⟩
          · rw [e9] at ih ⊢
            rw [if_neg (fun e3 => ps_neg2' (by omega) e3.2)] at ih
            exact ⟨fun _ => ih _ h3, fun h9 => absurd (nI_pos' (by omega)) h9⟩
  · rw [if_pos h] at hq
    exact k10_no hW ⟨hW, hq _ h1.no⟩
end Pub10
