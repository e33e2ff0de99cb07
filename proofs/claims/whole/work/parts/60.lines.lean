/-! ===== the text: the reference's lines ===== -/
section Lr
variable {G : GG} {n : Nat} {σ : SG} {τ : TU} {θ : TH} {q : Int32 → Nat → SG → TU → TH → Prop} {qv : Nat → SG → TU → TH → Prop} {b : Nat → Nat} {N s : Nat} {r : Nat → Int32}
theorem nI_n0 {t : Nat} (h : t < 1000) : nI t ≤ 0 ↔ t = 0 := nI_leI (b := 0) (by omega) (by omega) |>.trans (by omega)
set_option maxHeartbeats 4000000 in
theorem k10_duchyLine {a d u o k t : Nat} (hW : aw_WT n θ) (hT : RT σ b N s) (h13 : σ 120 13 = 0) (hr : σ 124 = r) (hv : VQ r a d u o k t)
    (h0 : ∀ e, tp_duchy b N s r = .inl e → ∀ σ', GF σ σ' → FS e.1 e.2 σ' → qv n σ' τ θ)
    (h1 : ∀ s' r', tp_duchy b N s r = .inr (s', r') → ∀ σ', OF σ σ' → RT σ' b N s' → σ' 120 13 = 0 → σ' 124 = r' → qv n σ' τ θ) : SMv G 9 mX10_duchyLine 0 0 [.ref 120] n σ τ θ qv := by
  obtain ⟨et, ht⟩ := hv.2.2.2.2.2.1
  refine ctX10_duchyLine (sgX10_duchyLine_0 (Nat.le_refl _) hW ?_)
  unfold tp_duchy at h0 h1
  rw [hr, et, nI_n0 (by omega)]
  refine ⟨fun hz => ⟨fun _ => ?_, fun h => absurd h13 h⟩, fun hz => ?_⟩
  · rw [if_pos (by rw [et, hz]; rfl)] at h0 h1
    refine k10_nx hW hT (fun σ1 f1 T1 => ⟨hW, ?_⟩)
    refine k10_after (j := 21) (i := 7) (lo := 1) (hi := 20) rfl tw_21 hW T1 (f1.f.trans h13) (by decide) (by decide) (fun v1 s1 e1 σ2 f2 T2 => ⟨hW, ?_⟩) (fun e he σ2 f2 x2 => ⟨hW, ?_⟩)
    · rw [e1] at h0 h1
      have g2 := f1.trans f2
      have z2 := g2.f.trans h13
      refine k10_after (j := 22) (i := 8) (lo := 0) (hi := 100) rfl tw_22 hW T2 z2 (by decide) (by decide) (fun v2 s2 e2 σ3 f3 T3 => ⟨hW, ?_⟩) (fun e he σ3 f3 x3 => ⟨hW, ?_⟩)
      · dsimp only at h0 h1
        rw [e2] at h0 h1
        have g3 : OF σ (aw_u σ3 124 1 (nI v2)) := (g2.of.nf f3).up
        have z3 : (aw_u σ3 124 1 (nI v2)) 120 13 = 0 := by rw [aw_u_ne (by decide), f3.f]; exact z2
        have r3 : (aw_u σ3 124 1 (nI v2)) 124 = pu r 1 (nI v2) := by rw [aw_row, f3.row, g2.row, hr]
        refine k10_after (j := 23) (i := 9) (lo := 0) (hi := 100) rfl tw_23 hW T3.up z3 (by decide) (by decide) (fun v3 s3 e3 σ4 f4 T4 => ⟨hW, ?_⟩) (fun e he σ4 f4 x4 => ⟨hW, ?_⟩)
        · dsimp only at h0 h1
          rw [e3] at h0 h1
          have g4 : OF σ (aw_u σ4 124 2 (nI v3)) := (g3.nf f4).up
          have z4 : (aw_u σ4 124 2 (nI v3)) 120 13 = 0 := by rw [aw_u_ne (by decide), f4.f]; exact z3
          have r4 : (aw_u σ4 124 2 (nI v3)) 124 = pu (pu r 1 (nI v2)) 2 (nI v3) := by rw [aw_row, f4.row, r3]
          refine k10_after (j := 24) (i := 10) (lo := 0) (hi := 100) rfl tw_24 hW T4.up z4 (by decide) (by decide) (fun v4 s4 e4 σ5 f5 T5 => ⟨hW, ?_⟩) (fun e he σ5 f5 x5 => ⟨hW, ?_⟩)
          · dsimp only at h1
            rw [e4] at h1
            have g5 : OF σ (aw_u σ5 124 3 (nI v4)) := (g4.nf f5).up
            have z5 : (aw_u σ5 124 3 (nI v4)) 120 13 = 0 := by rw [aw_u_ne (by decide), f5.f]; exact z4
            have r5 : (aw_u σ5 124 3 (nI v4)) 124 = pu (pu (pu r 1 (nI v2)) 2 (nI v3)) 3 (nI v4) := by rw [aw_row, f5.row, r4]
            refine ⟨fun h => absurd z5 h, fun _ => h1 _ _ rfl _ g5.up T5.up.up ?_ ?_⟩
            · rw [aw_u_ne (by decide)]; exact z5
            · rw [aw_row, r5]
          · dsimp only at h0
            rw [he] at h0
            have x6 : FS e.1 e.2 (aw_u σ5 124 3 0) := x5.up
            exact ⟨fun _ => h0 e rfl _ (g4.hf f5).up x6, fun h => absurd h x6.no⟩
        · dsimp only at h0
          rw [he] at h0
          refine k10_after_no (j := 24) rfl hW (x4.up (i := 2) (v := 0)).no ⟨hW, ?_⟩
          have x6 : FS e.1 e.2 (aw_u (aw_u σ4 124 2 0) 124 3 0) := x4.up.up
          exact ⟨fun _ => h0 e rfl _ (g3.hf f4).up.up x6, fun h => absurd h x6.no⟩
      · dsimp only at h0
        rw [he] at h0
        refine k10_after_no (j := 23) rfl hW (x3.up (i := 1) (v := 0)).no ⟨hW, k10_after_no (j := 24) rfl hW (x3.up (i := 1) (v := 0)).up.no ⟨hW, ?_⟩⟩
        have x6 : FS e.1 e.2 (aw_u (aw_u (aw_u σ3 124 1 0) 124 2 0) 124 3 0) := x3.up.up.up
        exact ⟨fun _ => h0 e rfl _ (g2.hf.gf.hf f3).up.up.up x6, fun h => absurd h x6.no⟩
    · rw [he] at h0
      refine k10_after_no (j := 22) rfl hW x2.no ⟨hW, k10_after_no (j := 23) rfl hW (x2.up (i := 1) (v := 0)).no ⟨hW, k10_after_no (j := 24) rfl hW (x2.up (i := 1) (v := 0)).up.no ⟨hW, ?_⟩⟩⟩
      have x6 : FS e.1 e.2 (aw_u (aw_u (aw_u σ2 124 1 0) 124 2 0) 124 3 0) := x2.up.up.up
      exact ⟨fun _ => h0 e rfl _ (f1.hf.gf.hf f2).up.up.up x6, fun h => absurd h x6.no⟩
  · rw [if_neg (by rw [et]; exact nI_ne0 (by omega) (by omega))] at h0
    rw [hT.2.2.1]
    exact k10_wrong (F := 3) hW h13 (fun σ' f e => ⟨hW, fun h => absurd h e.no, fun _ => h0 _ rfl σ' f.gf e⟩)
set_option maxHeartbeats 4000000 in
/-- a man's line, from his name on: s is the word that begins the line -/
theorem k10_manLine {a d u o k t : Nat} (hW : aw_WT n θ) (hT : RT σ b N (tp_ad b N s)) (h13 : σ 120 13 = 0) (hr : σ 124 = r) (hv : VQ r a d u o k t) (ha : a < 5)
    (h0 : ∀ e, tp_man b N s r = .inl e → ∀ σ', GF σ σ' → FS e.1 e.2 σ' → qv n σ' τ θ)
    (h1 : ∀ s' r', tp_man b N s r = .inr (s', r') → ∀ σ', OF σ σ' → RT σ' b N s' → σ' 120 13 = 0 → σ' 124 = r' → qv n σ' τ θ) : SMv G 9 mX10_manLine 0 0 [.ref 120] n σ τ θ qv := by
  have hnM := hv.n.1
  have e4 := hv.1.1
  refine ctX10_manLine (sgX10_manLine_0 (Nat.le_refl _) hW ⟨fun _ => ?_, fun h => absurd h13 h⟩)
  unfold tp_man at h0 h1
  rw [hr, e4, ix10]
  refine k10_newName (nn := a) hW hT h13 (by omega) (fun hn σ1 g1 T1 z1 r1 => ⟨hW, ?_⟩) (fun hn σ1 f1 x1 => ⟨hW, ?_⟩)
  · rw [hr] at hn r1
    rw [if_pos hn] at h0 h1
    have n1 := (tp_new_0 hn).1
    have m2 := (tp_kd1 n1).2.2.2.2.1
    have tail : ∀ kd : Nat, tp_kind b N (tp_ad b N (tp_ad b N s)) = kd → ∀ x : Int32, x = (if kd < 4 then nI kd else -1) → SW G 9 mX10_manLine (aw_qv qv) 0 0 83 [some (.ref 120), some (.int (nI (10 + 3 * a))), none] [.int x] (n, σ1, τ, θ) := by
      intro kd hkd x hx
      rw [hkd] at h0 h1
      refine sgX10_manLine_83 _ _ (Nat.le_refl _) hW ?_
      by_cases h4 : kd < 4
      · rw [if_pos h4] at h0 h1 hx
        subst hx
        refine ⟨fun _ => ?_, fun h => absurd (nI_pos' (by omega)) h⟩
        refine sgX10_manLine_97 _ _ (Nat.le_refl _) hW ⟨fun _ => ?_, fun h => absurd z1 h⟩
        refine k10_nx hW T1 (fun σ2 f2 T2 => ⟨hW, ?_⟩)
        rw [ps_cl (by omega), show nI (10 + 3 * a) + 1 = nI (11 + 3 * a) by rw [nI_1]; congr 1; omega, show nI (10 + 3 * a) + 2 = nI (12 + 3 * a) by rw [show nI (10 + 3 * a) + 2 = nI (10 + 3 * a + 2) from nI_add _ 2]; congr 1; omega, ps_cl (by omega), ps_cl (by omega)]
        have g2 : OF σ (aw_u σ2 124 (10 + 3 * a) (nI kd)) := (g1.nf f2).up
        have z2 : (aw_u σ2 124 (10 + 3 * a) (nI kd)) 120 13 = 0 := by rw [aw_u_ne (by decide), f2.f]; exact z1
        have r2 : (aw_u σ2 124 (10 + 3 * a) (nI kd)) 124 = pu (tp_put b N (tp_ad b N s) r a) (10 + 3 * a) (nI kd) := by rw [aw_row, f2.row, r1]
        refine ⟨ps_in (by omega) (by decide), ?_⟩
        refine k10_after (j := 35) (i := 15) (lo := 0) (hi := 99) rfl tw_35 hW T2.up z2 (by decide) (by decide) (fun c s1 e1 σ3 f3 T3 => ⟨hW, ps_in (by omega) (by decide), ?_⟩) (fun e he σ3 f3 x3 => ⟨hW, ps_in (by omega) (by decide), ?_⟩)
        · rw [e1] at h0 h1
          have g3 : OF σ (aw_u σ3 124 (11 + 3 * a) (nI c)) := (g2.nf f3).up
          have z3 : (aw_u σ3 124 (11 + 3 * a) (nI c)) 120 13 = 0 := by rw [aw_u_ne (by decide), f3.f]; exact z2
          have r3 : (aw_u σ3 124 (11 + 3 * a) (nI c)) 124 = pu (pu (tp_put b N (tp_ad b N s) r a) (10 + 3 * a) (nI kd)) (11 + 3 * a) (nI c) := by rw [aw_row, f3.row, r2]
          refine k10_after (j := 36) (i := 16) (lo := 0) (hi := 9) rfl tw_36 hW T3.up z3 (by decide) (by decide) (fun g s2 e2 σ4 f4 T4 => ⟨hW, ps_in (by omega) (by decide), ?_⟩) (fun e he σ4 f4 x4 => ⟨hW, ps_in (by omega) (by decide), ?_⟩)
          · dsimp only at h1
            rw [e2] at h1
            have g4 : OF σ (aw_u σ4 124 (12 + 3 * a) (nI g)) := (g3.nf f4).up
            have z4 : (aw_u σ4 124 (12 + 3 * a) (nI g)) 120 13 = 0 := by rw [aw_u_ne (by decide), f4.f]; exact z3
            have r4 : (aw_u σ4 124 (12 + 3 * a) (nI g)) 124 = pu (pu (pu (tp_put b N (tp_ad b N s) r a) (10 + 3 * a) (nI kd)) (11 + 3 * a) (nI c)) (12 + 3 * a) (nI g) := by rw [aw_row, f4.row, r3]
            refine ⟨fun h => absurd z4 h, fun _ => ?_⟩
            have e44 : (aw_u σ4 124 (12 + 3 * a) (nI g)) 124 4 = nI a := by
              rw [r4, pu_ne (by omega), pu_ne (by omega), pu_ne (by omega), tp_put_o m2 (by omega) (by omega)]; exact e4
            rw [e44, nI_1]
            rw [hnM] at h1
            refine h1 _ _ rfl _ g4.up T4.up.up ?_ ?_
            · rw [aw_u_ne (by decide)]; exact z4
            · rw [aw_row, r4]; rfl
          · dsimp only at h0
            rw [he] at h0
            have x6 : FS e.1 e.2 (aw_u σ4 124 (12 + 3 * a) 0) := x4.up
            exact ⟨fun _ => h0 e rfl _ (g3.hf f4).up x6, fun h => absurd h x6.no⟩
        · rw [he] at h0
          refine k10_after_no (j := 36) rfl hW (x3.up (i := 11 + 3 * a) (v := 0)).no ⟨hW, ps_in (by omega) (by decide), ?_⟩
          have x6 : FS e.1 e.2 (aw_u (aw_u σ3 124 (11 + 3 * a) 0) 124 (12 + 3 * a) 0) := x3.up.up
          exact ⟨fun _ => h0 e rfl _ (g2.hf f3).up.up x6, fun h => absurd h x6.no⟩
      · rw [if_neg h4] at h0 hx
        subst hx
        refine ⟨fun h => absurd h (by decide), fun _ => ?_⟩
        rw [T1.2.2.1]
        exact k10_wrong (F := 1) hW z1 (fun σ' f e => ⟨hW, sgX10_manLine_97 _ _ (Nat.le_refl _) hW ⟨fun h => absurd h e.no, fun _ => h0 (1, tp_ad b N (tp_ad b N s)) rfl σ' (g1.hf f) e⟩⟩)
    have hkd : ∀ kd, tp_kind b N (tp_ad b N (tp_ad b N s)) = kd → tp_kind b N (tp_ad b N (tp_ad b N s)) = kd := fun _ h => h
    refine k10_isWord (j := 31) rfl hW T1 z1 ⟨hW, ps_b (fun w0 => ?_) (fun w0 => ?_)⟩
    · rw [tp_w_c tw_31] at w0
      refine k10_isWord (j := 32) rfl hW T1 z1 ⟨hW, ps_b (fun w1 => ?_) (fun w1 => ?_)⟩
      · rw [tp_w_c tw_32] at w1
        refine k10_isWord (j := 33) rfl hW T1 z1 ⟨hW, ps_b (fun w2 => ?_) (fun w2 => ?_)⟩
        · rw [tp_w_c tw_33] at w2
          refine k10_isWord (j := 34) rfl hW T1 z1 ⟨hW, ps_b (fun w3 => ?_) (fun w3 => ?_)⟩
          · rw [tp_w_c tw_34] at w3
            exact tail 4 (by unfold tp_kind; rw [if_neg w0, if_neg w1, if_neg w2, if_neg w3]) _ (by rw [if_neg (by decide)])
          · rw [tp_w_c tw_34] at w3
            exact tail 3 (by unfold tp_kind; rw [if_neg w0, if_neg w1, if_neg w2, if_pos w3]) _ (by rw [if_pos (by decide)]; rfl)
        · rw [tp_w_c tw_33] at w2
          exact tail 2 (by unfold tp_kind; rw [if_neg w0, if_neg w1, if_pos w2]) _ (by rw [if_pos (by decide)]; rfl)
      · rw [tp_w_c tw_32] at w1
        exact tail 1 (by unfold tp_kind; rw [if_neg w0, if_pos w1]) _ (by rw [if_pos (by decide)]; rfl)
    · rw [tp_w_c tw_31] at w0
      exact tail 0 (by unfold tp_kind; rw [if_pos w0]) _ (by rw [if_pos (by decide)]; rfl)
  · rw [hr] at hn x1
    rw [if_neg hn] at h0
    have done : ∀ x, SW G 9 mX10_manLine (aw_qv qv) 0 0 83 [some (.ref 120), some (.int (nI (10 + 3 * a))), none] [.int x] (n, σ1, τ, θ) := by
      intro x
      have last : SW G 9 mX10_manLine (aw_qv qv) 0 0 97 [some (.ref 120), some (.int (nI (10 + 3 * a))), some (.int x)] [] (n, σ1, τ, θ) := sgX10_manLine_97 _ _ (Nat.le_refl _) hW ⟨fun h => absurd h x1.no, fun _ => h0 _ rfl σ1 f1.gf x1⟩
      exact sgX10_manLine_83 _ _ (Nat.le_refl _) hW ⟨fun _ => last, fun _ => k10_wrong_no hW x1.no ⟨hW, last⟩⟩
    exact k10_isWord_no (j := 31) rfl hW x1.no ⟨hW, fun _ => k10_isWord_no (j := 32) rfl hW x1.no ⟨hW, fun _ => k10_isWord_no (j := 33) rfl hW x1.no ⟨hW, fun _ => k10_isWord_no (j := 34) rfl hW x1.no ⟨hW, fun _ => done _, fun h => absurd rfl h⟩, fun h => absurd rfl h⟩, fun h => absurd rfl h⟩, fun h => absurd rfl h⟩
set_option maxHeartbeats 4000000 in
theorem k10_doorLine {a d u o k t : Nat} (hW : aw_WT n θ) (hT : RT σ b N (tp_ad b N s)) (h13 : σ 120 13 = 0) (hr : σ 124 = r) (hv : VQ r a d u o k t) (ha : o < 4)
    (h0 : ∀ e, tp_door b N s r = .inl e → ∀ σ', GF σ σ' → FS e.1 e.2 σ' → qv n σ' τ θ)
    (h1 : ∀ s' r', tp_door b N s r = .inr (s', r') → ∀ σ', OF σ σ' → RT σ' b N s' → σ' 120 13 = 0 → σ' 124 = r' → qv n σ' τ θ) : SMv G 9 mX10_doorLine 0 0 [.ref 120] n σ τ θ qv := by
  have hnO := hv.n.2.2.2.1
  have e7 := hv.2.2.2.1.1
  refine ctX10_doorLine (sgX10_doorLine_0 (Nat.le_refl _) hW ⟨fun _ => ?_, fun h => absurd h13 h⟩)
  unfold tp_door at h0 h1
  rw [hr, e7, show (5 : Int32) + nI o = nI (5 + o) from nI_add 5 o]
  refine k10_newName (nn := 5 + o) hW hT h13 (by omega) (fun hn σ1 g1 T1 z1 r1 => ⟨hW, ?_⟩) (fun hn σ1 f1 x1 => ⟨hW, ?_⟩)
  · rw [hr] at hn r1
    rw [if_pos hn] at h0 h1
    have n1 := (tp_new_0 hn).1
    have m2 := (tp_kd1 n1).2.2.2.2.1
    have e71 : σ1 124 7 = nI o := by rw [r1, tp_put_o m2 (by omega) (by omega)]; exact e7
    rw [e71, ix69, ps_cl (by omega)]
    refine k10_after (j := 38) (i := 18) (lo := 0) (hi := 40) rfl tw_38 hW T1 z1 (by decide) (by decide) (fun w s1 e1 σ2 f2 T2 => ⟨hW, ps_in (by omega) (by decide), ?_⟩) (fun e he σ2 f2 x2 => ⟨hW, ps_in (by omega) (by decide), ?_⟩)
    · rw [e1] at h1
      have g2 : OF σ (aw_u σ2 124 (69 + o) (nI w)) := (g1.nf f2).up
      have z2 : (aw_u σ2 124 (69 + o) (nI w)) 120 13 = 0 := by rw [aw_u_ne (by decide), f2.f]; exact z1
      have r2 : (aw_u σ2 124 (69 + o) (nI w)) 124 = pu (tp_put b N (tp_ad b N s) r (5 + o)) (69 + o) (nI w) := by rw [aw_row, f2.row, r1]
      refine ⟨fun h => absurd z2 h, fun _ => ?_⟩
      have e72 : (aw_u σ2 124 (69 + o) (nI w)) 124 7 = nI o := by rw [r2, pu_ne (by omega), tp_put_o m2 (by omega) (by omega)]; exact e7
      rw [e72, nI_1]
      dsimp only at h1
      rw [hnO] at h1
      refine h1 _ _ rfl _ g2.up T2.up.up ?_ ?_
      · rw [aw_u_ne (by decide)]; exact z2
      · rw [aw_row, r2]; rfl
    · rw [he] at h0
      have x6 : FS e.1 e.2 (aw_u σ2 124 (69 + o) 0) := x2.up
      exact ⟨fun _ => h0 e rfl _ (g1.hf f2).up x6, fun h => absurd h x6.no⟩
  · rw [hr] at hn x1
    rw [if_neg hn] at h0
    have e71 : σ1 124 7 = nI o := by rw [f1.row, hr]; exact e7
    rw [e71, ix69, ps_cl (by omega)]
    refine k10_after_no (j := 38) rfl hW x1.no ⟨hW, ps_in (by omega) (by decide), ?_⟩
    have x6 : FS (tp_new b N (tp_ad b N s) r) (tp_ad b N s) (aw_u σ1 124 (69 + o) 0) := x1.up
    exact ⟨fun _ => h0 _ rfl _ f1.gf.up x6, fun h => absurd h x6.no⟩
set_option maxHeartbeats 4000000 in
theorem k10_owesLine {B M cnt : Nat} (hW : aw_WT n θ) (hT : RT σ b N (tp_ad b N s)) (h13 : σ 120 13 = 0) (hr : σ 124 = r) (hB : 25 ≤ B) (hBe : B + 4 * cnt + 3 < 86) (hM : M < 10) (hMr : r M = nI cnt)
    (h0 : ∀ e, tp_claim b N s r B M = .inl e → ∀ σ', GF σ σ' → FS e.1 e.2 σ' → qv n σ' τ θ)
    (h1 : ∀ s' r', tp_claim b N s r B M = .inr (s', r') → ∀ σ', OF σ σ' → RT σ' b N s' → σ' 120 13 = 0 → σ' 124 = r' → qv n σ' τ θ) : SMv G 9 mX10_owesLine 0 0 [.ref 120, .int (nI (B + 4 * cnt)), .int (nI M)] n σ τ θ qv := by
  refine ctX10_owesLine _ _ (sgX10_owesLine_0 _ _ (Nat.le_refl _) hW ⟨fun _ => ?_, fun h => absurd h13 h⟩)
  unfold tp_claim at h0 h1
  rw [show nI (B + 4 * cnt) + 1 = nI (B + 1 + 4 * cnt) by rw [nI_1]; congr 1; omega, show nI (B + 4 * cnt) + 2 = nI (B + 2 + 4 * cnt) by rw [show nI (B + 4 * cnt) + 2 = nI (B + 4 * cnt + 2) from nI_add _ 2]; congr 1; omega, show nI (B + 4 * cnt) + 3 = nI (B + 3 + 4 * cnt) by rw [show nI (B + 4 * cnt) + 3 = nI (B + 4 * cnt + 3) from nI_add _ 3]; congr 1; omega, ps_cl (by omega), ps_cl (by omega), ps_cl (by omega), ps_cl (by omega), ps_cl (by omega)]
  have v1 : vp_in (nI (B + 4 * cnt)) 167 := ps_in (by omega) (by decide)
  have v2 : vp_in (nI (B + 1 + 4 * cnt)) 167 := ps_in (by omega) (by decide)
  have v3 : vp_in (nI (B + 2 + 4 * cnt)) 167 := ps_in (by omega) (by decide)
  have v4 : vp_in (nI (B + 3 + 4 * cnt)) 167 := ps_in (by omega) (by decide)
  have v5 : vp_in (nI M) 167 := ps_in (by omega) (by decide)
  have rest : ∀ (F P : Nat) (σ1 : SG), FS F P σ1 → GF σ σ1 → (∀ σ', GF σ σ' → FS F P σ' → qv n σ' τ θ) → SMv G 3 mX10_pass 0 0 [.ref 120] n σ1 τ θ (fun n4 σ4 τ4 θ4 => aw_WT n4 θ4 ∧ (SMi G 3 mX10_number 0 0 [.ref 120, .int 1, .int 99] n4 σ4 τ4 θ4 (fun a5 n5 σ5 τ5 θ5 => aw_WT n5 θ5 ∧ (vp_in (nI (B + 2 + 4 * cnt)) 167 ∧ (SMi G 8 mX10_after 0 0 [.ref 120, .ref (1000 + 37), .int 0, .int 9] n5 (aw_u σ5 124 (B + 2 + 4 * cnt) a5) τ5 θ5 (fun a6 n6 σ6 τ6 θ6 => aw_WT n6 θ6 ∧ (vp_in (nI (B + 3 + 4 * cnt)) 167 ∧ (((¬ ((aw_u σ6 124 (B + 3 + 4 * cnt) a6) 120 13) = 0) → (qv n6 (aw_u σ6 124 (B + 3 + 4 * cnt) a6) τ6 θ6)) ∧ ((((aw_u σ6 124 (B + 3 + 4 * cnt) a6) 120 13) = 0) → (vp_in (nI M) 167 ∧ (vp_in (nI M) 167 ∧ (qv n6 (aw_u (aw_u σ6 124 (B + 3 + 4 * cnt) a6) 124 M (((aw_u σ6 124 (B + 3 + 4 * cnt) a6) 124 M) + 1)) τ6 θ6)))))))))))) := by
    intro F P σ1 x g hh
    refine k10_pass_no hW x.no ⟨hW, k10_number_no hW x.no ⟨hW, v3, k10_after_no (j := 37) rfl hW (x.up (i := B + 2 + 4 * cnt) (v := 1)).no ⟨hW, v4, ?_⟩⟩⟩
    have x6 : FS F P (aw_u (aw_u σ1 124 (B + 2 + 4 * cnt) 1) 124 (B + 3 + 4 * cnt) 0) := x.up.up
    exact ⟨fun _ => hh _ g.up.up x6, fun h => absurd h x6.no⟩
  refine k10_manHere hW hT h13 (fun x hx => ⟨hW, v1, ?_⟩) (fun e he σ1 f1 x1 => ⟨hW, v1, ?_⟩)
  · rw [hr] at hx
    rw [hx] at h0 h1
    dsimp only at h0 h1
    have r1 : (aw_u σ 124 (B + 4 * cnt) (nI x)) 124 = pu r (B + 4 * cnt) (nI x) := by rw [aw_row, hr]
    have z1 : (aw_u σ 124 (B + 4 * cnt) (nI x)) 120 13 = 0 := by rw [aw_u_ne (by decide)]; exact h13
    have g1 : OF σ (aw_u σ 124 (B + 4 * cnt) (nI x)) := (OF.rf σ).up
    refine k10_pass hW hT.up z1 (fun σ2 f2 T2 => ⟨hW, ?_⟩)
    have r2 : σ2 124 = pu r (B + 4 * cnt) (nI x) := f2.row.trans r1
    have z2 := f2.f.trans z1
    have g2 := g1.nf f2
    have hmc : tp_mh b N (tp_ad b N (tp_ad b N s)) (σ2 124) = tp_mh b N (tp_ad b N (tp_ad b N s)) r := by rw [r2]; exact tp_mh_c (fun j hj => pu_ne (by omega))
    refine k10_manHere hW T2 z2 (fun y hy => ⟨hW, v2, ?_⟩) (fun e he σ3 f3 x3 => ⟨hW, v2, ?_⟩)
    · rw [hmc] at hy
      rw [hy] at h0 h1
      dsimp only at h0 h1
      have hx5 := (tp_mh_r hx).2.2.2
      have hy5 := (tp_mh_r hy).2.2.2
      have r3 : (aw_u σ2 124 (B + 1 + 4 * cnt) (nI y)) 124 = pu (pu r (B + 4 * cnt) (nI x)) (B + 1 + 4 * cnt) (nI y) := by rw [aw_row, r2]
      have z3 : (aw_u σ2 124 (B + 1 + 4 * cnt) (nI y)) 120 13 = 0 := by rw [aw_u_ne (by decide)]; exact z2
      have g3 : OF σ (aw_u σ2 124 (B + 1 + 4 * cnt) (nI y)) := g2.up
      have T3 : RT (aw_u σ2 124 (B + 1 + 4 * cnt) (nI y)) b N (tp_ad b N (tp_ad b N s)) := T2.up
      generalize aw_u σ2 124 (B + 1 + 4 * cnt) (nI y) = σ3 at r3 z3 g3 T3 ⊢
      refine ⟨fun h => absurd z3 h, fun _ => ⟨v1, v2, ?_⟩⟩
      rw [r3, pu_ne (w := pu r (B + 4 * cnt) (nI x)) (show B + 4 * cnt ≠ B + 1 + 4 * cnt by omega), pu_eq, pu_eq, nI_eq (by omega) (by omega)]
      refine ⟨fun hxy => ?_, fun hxy => ?_⟩
      · rw [if_neg hxy] at h0 h1
        refine k10_pass hW T3 z3 (fun σ4 f4 T4 => ⟨hW, ?_⟩)
        have r4 := f4.row.trans r3
        have z4 := f4.f.trans z3
        have g4 := g3.nf f4
        refine k10_number (lo := 1) (hi := 99) hW T4 z4 (by decide) (by decide) (fun hn σ5 f5 T5 => ⟨hW, v3, ?_⟩) (fun hn σ5 f5 x5 => ⟨hW, v3, ?_⟩)
        · rw [if_pos hn] at h0 h1
          generalize hcc : tp_val b N (tp_ad b N (tp_ad b N (tp_ad b N s))) = cc at h1 ⊢
          have r5 : (aw_u σ5 124 (B + 2 + 4 * cnt) (nI cc)) 124 = pu (pu (pu r (B + 4 * cnt) (nI x)) (B + 1 + 4 * cnt) (nI y)) (B + 2 + 4 * cnt) (nI cc) := by rw [aw_row, f5.row, r4]
          have z5 : (aw_u σ5 124 (B + 2 + 4 * cnt) (nI cc)) 120 13 = 0 := by rw [aw_u_ne (by decide), f5.f]; exact z4
          have g5 : OF σ (aw_u σ5 124 (B + 2 + 4 * cnt) (nI cc)) := (g4.nf f5).up
          refine k10_after (j := 37) (i := 17) (lo := 0) (hi := 9) rfl tw_37 hW T5.up z5 (by decide) (by decide) (fun g s2 e2 σ6 f6 T6 => ⟨hW, v4, ?_⟩) (fun e he σ6 f6 x6 => ⟨hW, v4, ?_⟩)
          · rw [e2] at h1
            dsimp only at h1
            rw [hMr, ps_cl (by omega)] at h1
            have r6 : (aw_u σ6 124 (B + 3 + 4 * cnt) (nI g)) 124 = pu (pu (pu (pu r (B + 4 * cnt) (nI x)) (B + 1 + 4 * cnt) (nI y)) (B + 2 + 4 * cnt) (nI cc)) (B + 3 + 4 * cnt) (nI g) := by rw [aw_row, f6.row, r5]
            have z6 : (aw_u σ6 124 (B + 3 + 4 * cnt) (nI g)) 120 13 = 0 := by rw [aw_u_ne (by decide), f6.f]; exact z5
            have g6 : OF σ (aw_u σ6 124 (B + 3 + 4 * cnt) (nI g)) := (g5.nf f6).up
            refine ⟨fun h => absurd z6 h, fun _ => ⟨v5, v5, ?_⟩⟩
            have e6M : (aw_u σ6 124 (B + 3 + 4 * cnt) (nI g)) 124 M = nI cnt := by rw [r6, pu_ne (by omega), pu_ne (by omega), pu_ne (by omega), pu_ne (by omega)]; exact hMr
            rw [e6M, nI_1]
            refine h1 _ _ rfl _ g6.up T6.up.up ?_ ?_
            · rw [aw_u_ne (by decide)]; exact z6
            · rw [aw_row, r6]; rfl
          · rw [he] at h0
            have x7 : FS e.1 e.2 (aw_u σ6 124 (B + 3 + 4 * cnt) 0) := x6.up
            exact ⟨fun _ => h0 e rfl _ (g5.hf f6).up x7, fun h => absurd h x7.no⟩
        · rw [if_neg hn] at h0
          refine k10_after_no (j := 37) rfl hW (x5.up (i := B + 2 + 4 * cnt) (v := 1)).no ⟨hW, v4, ?_⟩
          have x6 := (x5.up (i := B + 2 + 4 * cnt) (v := 1)).up (i := B + 3 + 4 * cnt) (v := 0)
          exact ⟨fun _ => h0 _ rfl _ (g4.hf f5).up.up x6, fun h => absurd h x6.no⟩
      · rw [if_pos hxy] at h0
        rw [T3.2.2.1]
        exact k10_wrong (F := 3) hW z3 (fun σ' f e => ⟨hW, rest _ _ σ' e (g3.hf f) (fun σ'' g x => h0 _ rfl σ'' g x)⟩)
    · rw [hmc] at he
      rw [he] at h0
      have x4 : FS e.1 e.2 (aw_u σ3 124 (B + 1 + 4 * cnt) 0) := x3.up
      exact ⟨fun _ => rest _ _ _ x4 (g2.hf f3).up (fun σ'' g x => h0 e rfl σ'' g x), fun h => absurd h x4.no⟩
  · rw [hr] at he
    rw [he] at h0
    have x2 : FS e.1 e.2 (aw_u σ1 124 (B + 4 * cnt) 0) := x1.up
    refine k10_pass_no hW x2.no ⟨hW, k10_manHere_no hW x2.no ⟨hW, v2, ?_⟩⟩
    have x4 : FS e.1 e.2 (aw_u (aw_u σ1 124 (B + 4 * cnt) 0) 124 (B + 1 + 4 * cnt) 0) := x2.up
    exact ⟨fun _ => rest _ _ _ x4 f1.gf.up.up (fun σ'' g x => h0 e rfl σ'' g x), fun h => absurd h x4.no⟩
set_option maxHeartbeats 4000000 in
theorem k10_invitedLine {a d u o k t : Nat} (hW : aw_WT n θ) (hT : RT σ b N (tp_ad b N s)) (h13 : σ 120 13 = 0) (hr : σ 124 = r) (hv : VQ r a d u o k t)
    (h0 : ∀ e, tp_invite b N s r = .inl e → ∀ σ', GF σ σ' → FS e.1 e.2 σ' → qv n σ' τ θ)
    (h1 : ∀ s' r', tp_invite b N s r = .inr (s', r') → ∀ σ', OF σ σ' → RT σ' b N s' → σ' 120 13 = 0 → σ' 124 = r' → qv n σ' τ θ) : SMv G 9 mX10_invitedLine 0 0 [.ref 120] n σ τ θ qv := by
  refine ctX10_invitedLine (sgX10_invitedLine_0 (Nat.le_refl _) hW ⟨fun _ => ?_, fun h => absurd h13 h⟩)
  unfold tp_invite at h0 h1
  refine k10_manHere hW hT h13 (fun m hm => ⟨hW, fun h => absurd h13 h, fun _ => ?_⟩) (fun e he σ1 f1 x1 => ⟨hW, fun _ => ?_, fun h => absurd h x1.no⟩)
  · rw [hr] at hm
    obtain ⟨mk, mo, mf, m5⟩ := tp_mh_r hm
    have hma := tp_fd_man hv mk (by omega)
    rw [← mf] at hma
    rw [hm] at h0 h1
    dsimp only at h0 h1
    obtain ⟨w, -, hw, ew⟩ := (hv.2.2.2.2.2.2.2.1 m hma).2.2.2
    have ho4 := hv.2.2.2.1.2
    have em : r (73 + m) = 0 ↔ w = 0 := by rw [ew]; exact nI_eq (b := 0) (by omega) (by omega)
    rw [ix73, ps_cl (by omega), hr, ew, nI_n0 (by omega)]
    have v1 : vp_in (nI (73 + m)) 167 := ps_in (by omega) (by decide)
    refine ⟨v1, fun hz => ?_, fun hz => ?_⟩
    · rw [if_pos (em.mpr hz)] at h0 h1
      refine k10_pass hW hT h13 (fun σ2 f2 T2 => ⟨hW, ?_⟩)
      have r2 := f2.row.trans hr
      have z2 := f2.f.trans h13
      refine k10_named (lo := 5) (hi := 8) hW T2 z2 (by decide) (by decide) (fun hok h9 l1 l2 => ⟨hW, ?_⟩) (fun hok hn σ3 f3 x3 => ⟨hW, ?_⟩) (fun hok σ3 f3 x3 => ⟨hW, ?_⟩)
      · rw [r2] at h9 l1 l2 ⊢
        have hd : tp_dh b N (tp_ad b N (tp_ad b N s)) r = .inr (tp_fd b N (tp_ad b N (tp_ad b N s)) r - 5) := by unfold tp_dh; rw [if_pos hok, if_pos ⟨l1, h9⟩]
        rw [hd] at h1
        dsimp only at h1
        generalize tp_fd b N (tp_ad b N (tp_ad b N s)) r - 5 = e at h1 ⊢
        refine k10_pass hW T2 z2 (fun σ3 f3 T3 => ⟨hW, fun _ => ⟨v1, ?_⟩, fun h => absurd (f3.f.trans z2) h⟩)
        have r3 := f3.row.trans r2
        rw [nI_1]
        have e8 : (aw_u σ3 124 (73 + m) (nI (e + 1))) 124 8 = r 8 := by rw [aw_u_nk (by omega), r3]
        rw [e8]
        refine h1 _ _ rfl _ ((f2.of.nf f3).up.up) T3.up.up ?_ ?_
        · rw [aw_u_ne (by decide), aw_u_ne (by decide)]; exact f3.f.trans z2
        · rw [aw_row, aw_row, r3]; rfl
      · rw [r2] at hn
        have hd : tp_dh b N (tp_ad b N (tp_ad b N s)) r = .inl (2, tp_ad b N (tp_ad b N s)) := by unfold tp_dh; rw [if_pos hok, if_neg (fun e => hn ⟨e.2, e.1, by omega⟩)]
        rw [hd] at h0
        exact k10_pass_no hW x3.no ⟨hW, fun h => absurd h x3.no, fun _ => h0 _ rfl σ3 (f2.hf.gf.hf f3) x3⟩
      · have hd : tp_dh b N (tp_ad b N (tp_ad b N s)) r = .inl (1, tp_ad b N (tp_ad b N s)) := by unfold tp_dh; rw [if_neg hok]
        rw [hd] at h0
        exact k10_pass_no hW x3.no ⟨hW, fun h => absurd h x3.no, fun _ => h0 _ rfl σ3 (f2.hf.gf.hf f3) x3⟩
    · rw [if_neg (fun e => hz (em.mp e))] at h0
      rw [hT.2.2.1]
      exact k10_wrong (F := 3) hW h13 (fun σ' f x => ⟨hW, k10_pass_no hW x.no ⟨hW, k10_named_no hW x.no ⟨hW, k10_pass_no hW x.no ⟨hW, fun h => absurd h x.no, fun _ => h0 _ rfl σ' f.gf x⟩⟩⟩⟩)
  · rw [hr] at he
    rw [he] at h0
    exact k10_pass_no hW x1.no ⟨hW, k10_named_no hW x1.no ⟨hW, k10_pass_no hW x1.no ⟨hW, fun h => absurd h x1.no, fun _ => h0 e rfl σ1 f1.gf x1⟩⟩⟩
set_option maxHeartbeats 4000000 in
theorem k10_readingLine {a d u o k t : Nat} (hW : aw_WT n θ) (hT : RT σ b N (tp_ad b N s)) (h13 : σ 120 13 = 0) (hr : σ 124 = r) (hv : VQ r a d u o k t) (hk : k < 4)
    (h0 : ∀ e, tp_read b N s r = .inl e → ∀ σ', GF σ σ' → FS e.1 e.2 σ' → qv n σ' τ θ)
    (h1 : ∀ s' r', tp_read b N s r = .inr (s', r') → ∀ σ', OF σ σ' → RT σ' b N s' → σ' 120 13 = 0 → σ' 124 = r' → qv n σ' τ θ) : SMv G 9 mX10_readingLine 0 0 [.ref 120] n σ τ θ qv := by
  have hnR := hv.n.2.2.2.2.1
  have e9 := hv.2.2.2.2.1.1
  refine ctX10_readingLine (sgX10_readingLine_0 (Nat.le_refl _) hW ⟨fun _ => ?_, fun h => absurd h13 h⟩)
  unfold tp_read at h0 h1
  rw [hr, e9, ix79, ix78, ps_cl (by omega), ps_cl (by omega)]
  have v1 : vp_in (nI (78 + 2 * k)) 167 := ps_in (by omega) (by decide)
  have v2 : vp_in (nI (79 + 2 * k)) 167 := ps_in (by omega) (by decide)
  refine k10_manHere hW hT h13 (fun m hm => ⟨hW, v1, ?_⟩) (fun e he σ1 f1 x1 => ⟨hW, v1, ?_⟩)
  · rw [hr] at hm
    rw [hm] at h0 h1
    dsimp only at h0 h1
    have r1 : (aw_u σ 124 (78 + 2 * k) (nI m)) 124 = pu r (78 + 2 * k) (nI m) := by rw [aw_row, hr]
    have z1 : (aw_u σ 124 (78 + 2 * k) (nI m)) 120 13 = 0 := by rw [aw_u_ne (by decide)]; exact h13
    have g1 : OF σ (aw_u σ 124 (78 + 2 * k) (nI m)) := (OF.rf σ).up
    refine k10_pass hW hT.up z1 (fun σ2 f2 T2 => ⟨hW, ?_⟩)
    have r2 := f2.row.trans r1
    have z2 := f2.f.trans z1
    have g2 := g1.nf f2
    refine k10_number (lo := 0) (hi := 40) hW T2 z2 (by decide) (by decide) (fun hn σ3 f3 T3 => ⟨hW, v2, ?_⟩) (fun hn σ3 f3 x3 => ⟨hW, v2, ?_⟩)
    · rw [if_pos hn] at h1
      generalize tp_val b N (tp_ad b N (tp_ad b N s)) = v at h1 ⊢
      have r3 : (aw_u σ3 124 (79 + 2 * k) (nI v)) 124 = pu (pu r (78 + 2 * k) (nI m)) (79 + 2 * k) (nI v) := by rw [aw_row, f3.row, r2]
      have z3 : (aw_u σ3 124 (79 + 2 * k) (nI v)) 120 13 = 0 := by rw [aw_u_ne (by decide), f3.f]; exact z2
      refine ⟨fun h => absurd z3 h, fun _ => ?_⟩
      have e93 : (aw_u σ3 124 (79 + 2 * k) (nI v)) 124 9 = nI k := by rw [r3, pu_ne (by omega), pu_ne (by omega)]; exact e9
      rw [e93, nI_1]
      rw [hnR] at h1
      refine h1 _ _ rfl _ (g2.nf f3).up.up T3.up.up ?_ ?_
      · rw [aw_u_ne (by decide)]; exact z3
      · rw [aw_row, r3]; rfl
    · rw [if_neg hn] at h0
      have x4 := x3.up (i := 79 + 2 * k) (v := 0)
      exact ⟨fun _ => h0 _ rfl _ (g2.hf f3).up x4, fun h => absurd h x4.no⟩
  · rw [hr] at he
    rw [he] at h0
    have x2 := x1.up (i := 78 + 2 * k) (v := 0)
    refine k10_pass_no hW x2.no ⟨hW, k10_number_no hW x2.no ⟨hW, v2, ?_⟩⟩
    have x4 := x2.up (i := 79 + 2 * k) (v := 0)
    exact ⟨fun _ => h0 e rfl _ f1.gf.up.up x4, fun h => absurd h x4.no⟩
end Lr
