/-! ===== third group: duels, judge, cheapest, shutIn .. ===== -/
def s_share (a b sum f g : Int32) : Int32 := if f = 0 then (if g = 0 then sum / 2 else 0) else if g = 0 then sum else if a ≤ b then -3 else sum - 3
def s_rs (a b sum : Int32) (j : Nat) : Bool := decide (¬ s_share a b sum (nI (j / 2)) (nI (j % 2)) < s_share a b sum (nI (1 - j / 2)) (nI (j % 2))) && decide (¬ s_share b a sum (nI (j % 2)) (nI (j / 2)) < s_share b a sum (nI (1 - j % 2)) (nI (j / 2)))
theorem s_rs_iff {a b sum : Int32} {j : Nat} : s_rs a b sum j = true ↔ (¬ s_share a b sum (nI (j / 2)) (nI (j % 2)) < s_share a b sum (nI (1 - j / 2)) (nI (j % 2))) ∧ ¬ s_share b a sum (nI (j % 2)) (nI (j / 2)) < s_share b a sum (nI (1 - j % 2)) (nI (j / 2)) := by
  unfold s_rs
  rw [Bool.and_eq_true, decide_eq_true_eq, decide_eq_true_eq]
def s_rc (a b sum : Int32) : Nat → Int32
  | 0 => 0
  | j + 1 => s_rc a b sum j + if s_rs a b sum j = true then 1 else 0
def s_cd (j : Nat) : Int32 := nI (10 * (j / 2) + j % 2)
def s_rp (a b sum : Int32) : Nat → Int32
  | 0 => -2
  | j + 1 => if s_rc a b sum j = 0 ∧ s_rs a b sum j = true then s_cd j else s_rp a b sum j
def s_r1 (a b sum : Int32) : Nat → Nat → Int32
  | 0, _ => -2
  | d + 1, j => if s_rs a b sum j = true then s_cd j else s_r1 a b sum d (j + 1)
theorem s_r1_p (a b sum : Int32) : s_r1 a b sum 4 0 = s_rp a b sum 4 := by
  simp only [s_r1, s_rp, s_rc]
  generalize s_rs a b sum 0 = b0
  generalize s_rs a b sum 1 = b1
  generalize s_rs a b sum 2 = b2
  generalize s_rs a b sum 3 = b3
  cases b0 <;> cases b1 <;> cases b2 <;> cases b3 <;> decide
section Pub3
variable {G : GG} {n : Nat} {σ : SG} {τ : TU} {θ : TH} {r st : Nat → Int32} {q : Int32 → Nat → SG → TU → TH → Prop} {qv : Nat → SG → TU → TH → Prop} {ql : Int64 → Nat → SG → TU → TH → Prop}
/-! what is told -/
theorem p9_fault (hW : aw_WT n θ) (hq : q (σ 1 9) n σ τ θ) : SMi G 1 mX9_fault 0 0 [.ref 1] n σ τ θ q := ctX9_fault (sgX9_fault_0 (Nat.le_refl _) hW hq)
theorem p9_trouble (hW : aw_WT n θ) (hq : q (σ 1 10) n σ τ θ) : SMi G 1 mX9_trouble 0 0 [.ref 1] n σ τ θ q := ctX9_trouble (sgX9_trouble_0 (Nat.le_refl _) hW hq)
theorem p9_where (hW : aw_WT n θ) (hq : q (if σ 1 10 = 4 then σ 2 1 else -1) n σ τ θ) : SMi G 1 mX9_where 0 0 [.ref 1] n σ τ θ q := by
  refine ctX9_where (sgX9_where_0 (Nat.le_refl _) hW ⟨fun h => ?_, fun h => ?_⟩)
  · rwa [if_neg h] at hq
  · rwa [if_pos h] at hq
theorem RS.thr : RS σ (aw_u σ 120 0 0) (σ 120 11) := ⟨fun o ho => aw_uo (by omega), fun s hs => aw_u_nk (by intro e; subst e; revert hs; decide), aw_u_nk (by decide)⟩
theorem p10_fault (hW : aw_WT n θ) (hq : ∀ σ', RS σ σ' (σ 120 11) → q (σ 120 9) n σ' τ θ) : SMi G 1 mX10_fault 0 0 [.ref 120] n σ τ θ q := ctX10_fault (sgX10_fault_0 (Nat.le_refl _) hW (by rw [aw_u_nk (by decide)]; exact hq _ RS.thr))
theorem p10_trouble (hW : aw_WT n θ) (hq : ∀ σ', RS σ σ' (σ 120 11) → q (σ 120 11) n σ' τ θ) : SMi G 1 mX10_trouble 0 0 [.ref 120] n σ τ θ q := ctX10_trouble (sgX10_trouble_0 (Nat.le_refl _) hW (by rw [aw_u_nk (by decide)]; exact hq _ RS.thr))
theorem p10_where (hW : aw_WT n θ) (hq : ∀ σ', RS σ σ' (σ 120 11) → q (if σ 120 11 = 4 then σ 120 10 else -1) n σ' τ θ) : SMi G 1 mX10_where 0 0 [.ref 120] n σ τ θ q := by
  refine ctX10_where (sgX10_where_0 (Nat.le_refl _) hW ?_)
  rw [aw_u_nk (by decide), aw_u_nk (by decide)]
  refine ⟨fun h => ?_, fun h => ?_⟩
  · have := hq _ RS.thr
    rwa [if_neg h] at this
  · have := hq _ RS.thr
    rwa [if_pos h] at this
/-! two who dispute -/
theorem k9_share {m o : Nat} {sum f g : Int32} (hW : aw_WT n θ) (hF : FR σ (θ 1 7) r) (hv : VR r) (hm : m < nM r) (ho : o < nM r) (hq : q (s_share (r (12 + 3 * m)) (r (12 + 3 * o)) sum f g) n σ τ θ) : SMi G 1 mX9_share 0 0 [.ref 1, .int (nI m), .int (nI o), .int sum, .int f, .int g] n σ τ θ q := by
  have h5 := hv.m5
  refine ctX9_share _ _ _ _ _ (sgX9_share_0 _ _ _ _ _ (Nat.le_refl _) hW ?_)
  rw [ps_cl (by omega), ps_cl (by omega), (hF.2.1 m hm).2.2.1, (hF.2.1 o ho).2.2.1]
  unfold s_share at hq
  by_cases hf : f = 0
  · by_cases hg : g = 0
    · rw [if_pos hf, if_pos hg] at hq
      exact ⟨fun _ => ⟨fun _ => ⟨fun _ => hq, fun h => absurd hg h⟩, fun h => absurd hf h⟩, fun h => absurd hf h⟩
    · rw [if_pos hf, if_neg hg] at hq
      exact ⟨fun _ => ⟨fun _ => ⟨fun h => absurd h hg, fun _ => hq⟩, fun h => absurd hf h⟩, fun h => absurd hf h⟩
  · by_cases hg : g = 0
    · rw [if_neg hf, if_pos hg] at hq
      exact ⟨fun h => absurd h hf, fun _ => ⟨fun _ => ⟨fun h => absurd h hf, fun _ => hq⟩, fun h => absurd hg h⟩⟩
    · rw [if_neg hf, if_neg hg] at hq
      refine ⟨fun h => absurd h hf, fun _ => ⟨fun h => absurd h hg, fun _ => ⟨ps_in (by omega) (by decide), ps_in (by omega) (by decide), fun h => ?_, fun h => ?_⟩⟩⟩
      · rwa [if_pos h] at hq
      · rwa [if_neg h] at hq
theorem k10_hasBy {m o : Nat} {sum f g : Int32} (hW : aw_WT n θ) (hm : m < 5) (ho : o < 5) (hq : q (s_share (σ 123 (12 + 3 * m)) (σ 123 (12 + 3 * o)) sum f g) n σ τ θ) : SMi G 2 mX10_hasBy 0 0 [.ref 120, .int (nI m), .int (nI o), .int sum, .int f, .int g] n σ τ θ q := by
  refine ctX10_hasBy _ _ _ _ _ (sgX10_hasBy_0 _ _ _ _ _ (Nat.le_refl _) hW ?_)
  refine k10_strongOf hW hm ⟨hW, k10_strongOf hW ho ⟨hW, ctX10_duelOf _ _ _ _ _ (sgX10_duelOf_0 _ _ _ _ _ (Nat.le_refl _) hW ?_)⟩⟩
  unfold s_share at hq
  refine ⟨fun hf => ⟨fun hg => ⟨fun h => ⟨hW, ?_⟩, fun h => ⟨hW, ?_⟩⟩, fun hg => ⟨hW, ?_⟩⟩, fun hf => ⟨fun hg => ⟨hW, ?_⟩, fun hg => ⟨hW, ?_⟩⟩⟩
  · rwa [if_neg hf, if_neg hg, if_pos h] at hq
  · rwa [if_neg hf, if_neg hg, if_neg h] at hq
  · rwa [if_neg hf, if_pos hg] at hq
  · rwa [if_pos hf, if_pos hg] at hq
  · rwa [if_pos hf, if_neg hg] at hq
theorem k9_isRest {m o j : Nat} {sum : Int32} (hW : aw_WT n θ) (hF : FR σ (θ 1 7) r) (hv : VR r) (hm : m < nM r) (ho : o < nM r) (hj : j < 4) (hq : q (if s_rs (r (12 + 3 * m)) (r (12 + 3 * o)) sum j = true then 1 else 0) n σ τ θ) : SMi G 2 mX9_isRest 0 0 [.ref 1, .int (nI m), .int (nI o), .int sum, .int (nI j)] n σ τ θ q := by
  refine ctX9_isRest _ _ _ _ (sgX9_isRest_0 _ _ _ _ (Nat.le_refl _) hW ?_)
  have key : ∀ (f g : Int32) (f' g' : Int32), nI (j / 2) = f → nI (j % 2) = g → nI (1 - j / 2) = f' → nI (1 - j % 2) = g' → SMi G 1 mX9_share 0 0 [.ref 1, .int (nI m), .int (nI o), .int sum, .int f, .int g] n σ τ θ (fun a1 n1 σ1 τ1 θ1 => aw_WT n1 θ1 ∧ SMi G 1 mX9_share 0 0 [.ref 1, .int (nI m), .int (nI o), .int sum, .int f', .int g] n1 σ1 τ1 θ1 (fun a2 n2 σ2 τ2 θ2 => aw_WT n2 θ2 ∧ (a1 < a2 → q 0 n2 σ2 τ2 θ2) ∧ (¬ a1 < a2 → SMi G 1 mX9_share 0 0 [.ref 1, .int (nI o), .int (nI m), .int sum, .int g, .int f] n2 σ2 τ2 θ2 (fun a3 n3 σ3 τ3 θ3 => aw_WT n3 θ3 ∧ SMi G 1 mX9_share 0 0 [.ref 1, .int (nI o), .int (nI m), .int sum, .int g', .int f] n3 σ3 τ3 θ3 (fun a4 n4 σ4 τ4 θ4 => aw_WT n4 θ4 ∧ (a3 < a4 → q 0 n4 σ4 τ4 θ4) ∧ (¬ a3 < a4 → q 1 n4 σ4 τ4 θ4)))))) := by
    rintro f g f' g' rfl rfl rfl rfl
    refine k9_share hW hF hv hm ho ⟨hW, k9_share hW hF hv hm ho ⟨hW, fun h => ?_, fun h => k9_share hW hF hv ho hm ⟨hW, k9_share hW hF hv ho hm ⟨hW, fun h2 => ?_, fun h2 => ?_⟩⟩⟩⟩
    · rwa [if_neg (fun e => (s_rs_iff.mp e).1 h)] at hq
    · rwa [if_neg (fun e => (s_rs_iff.mp e).2 h2)] at hq
    · rwa [if_pos (s_rs_iff.mpr ⟨h, h2⟩)] at hq
  rcases (show j = 0 ∨ j = 1 ∨ j = 2 ∨ j = 3 by omega) with rfl | rfl | rfl | rfl
  · have k1 := key 0 0 1 1 rfl rfl rfl rfl
    refine ⟨fun _ => ⟨fun _ => SMi.mono k1 (fun a1 n1 σ1 τ1 θ1 h => ⟨h.1, fun e => absurd rfl e, fun _ => SMi.mono h.2 (fun a2 n2 σ2 τ2 θ2 h => ⟨h.1, h.2.1, fun e => SMi.mono (h.2.2 e) (fun a3 n3 σ3 τ3 θ3 h => ⟨h.1, fun e => absurd rfl e, fun _ => h.2⟩)⟩)⟩), fun e => absurd (by decide) e⟩, fun e => absurd (by decide) e⟩
  · have k1 := key 0 1 1 0 rfl rfl rfl rfl
    refine ⟨fun _ => ⟨fun e => absurd e (by decide), fun _ => SMi.mono k1 (fun a1 n1 σ1 τ1 θ1 h => ⟨h.1, fun e => absurd rfl e, fun _ => SMi.mono h.2 (fun a2 n2 σ2 τ2 θ2 h => ⟨h.1, h.2.1, fun e => SMi.mono (h.2.2 e) (fun a3 n3 σ3 τ3 θ3 h => ⟨h.1, fun _ => h.2, fun e => absurd e (by decide)⟩)⟩)⟩)⟩, fun e => absurd (by decide) e⟩
  · have k1 := key 1 0 0 1 rfl rfl rfl rfl
    refine ⟨fun e => absurd e (by decide), fun _ => ⟨fun _ => SMi.mono k1 (fun a1 n1 σ1 τ1 θ1 h => ⟨h.1, fun _ => SMi.mono h.2 (fun a2 n2 σ2 τ2 θ2 h => ⟨h.1, h.2.1, fun e => SMi.mono (h.2.2 e) (fun a3 n3 σ3 τ3 θ3 h => ⟨h.1, fun e => absurd rfl e, fun _ => h.2⟩)⟩), fun e => absurd e (by decide)⟩), fun e => absurd (by decide) e⟩⟩
  · have k1 := key 1 1 0 0 rfl rfl rfl rfl
    refine ⟨fun e => absurd e (by decide), fun _ => ⟨fun e => absurd e (by decide), fun _ => SMi.mono k1 (fun a1 n1 σ1 τ1 θ1 h => ⟨h.1, fun _ => SMi.mono h.2 (fun a2 n2 σ2 τ2 θ2 h => ⟨h.1, h.2.1, fun e => SMi.mono (h.2.2 e) (fun a3 n3 σ3 τ3 θ3 h => ⟨h.1, fun _ => h.2, fun e => absurd e (by decide)⟩)⟩), fun e => absurd e (by decide)⟩)⟩⟩
/-- why a dispute is refused; 0: it isn't -/
def s_dw (r : Nat → Int32) (x y z : Int32) : Int32 := if s_in x (nM r) = true ∧ s_in y (nM r) = true ∧ ¬ x = y then (if ¬ z < 0 ∧ ¬ 99 < z then 0 else 2) else 1
theorem k9_dw {x y z : Int32} (hW : aw_WT n θ) (hF : FR σ (θ 1 7) r) (hv : VR r) (hq : q (s_dw r x y z) n σ τ θ) : SMi G 2 mX9_troubleOfDispute 0 0 [.ref 1, .int x, .int y, .int z] n σ τ θ q := by
  unfold s_dw at hq
  refine ctX9_troubleOfDispute _ _ _ (sgX9_troubleOfDispute_0 _ _ _ (Nat.le_refl _) hW ?_)
  refine k9_isMan hW hF hv ⟨hW, ps_b (fun h => ?_) (fun h => k9_isMan hW hF hv ⟨hW, ps_b (fun h2 => ?_) (fun h2 => ⟨fun h3 => ⟨fun h4 => ?_, fun h4 => ⟨fun h5 => ?_, fun h5 => ?_⟩⟩, fun h3 => ?_⟩)⟩)⟩
  · rwa [if_neg (fun e => h e.1)] at hq
  · rwa [if_neg (fun e => h2 e.2.1)] at hq
  · rwa [if_pos ⟨h, h2, h3⟩, if_neg (fun e => e.1 h4)] at hq
  · rwa [if_pos ⟨h, h2, h3⟩, if_pos ⟨h4, Int32.not_lt.mpr h5⟩] at hq
  · rwa [if_pos ⟨h, h2, h3⟩, if_neg (fun e => h5 (Int32.not_lt.mp e.2))] at hq
  · rwa [if_neg (fun e => e.2.2 h3)] at hq
theorem k10_why1 {d : Prop} [Decidable d] (hW : aw_WT n θ) (hq : q (if d then 0 else 2) n σ τ θ) : SMi G 1 mX10_why 0 0 [.ref 120, .int 1, .int (if d then 1 else 0)] n σ τ θ q := k10_why (c := True) hW (by rw [if_pos trivial]; exact hq)
theorem k10_why0 {d : Prop} [Decidable d] (hW : aw_WT n θ) (hq : q 1 n σ τ θ) : SMi G 1 mX10_why 0 0 [.ref 120, .int 0, .int (if d then 1 else 0)] n σ τ θ q := k10_why (c := False) hW (by rw [if_neg id]; exact hq)
theorem k10_dw {x y z : Int32} (hW : aw_WT n θ) (hv : VR (σ 123)) (hH : HR σ (σ 123)) (hq : q (s_dw (σ 123) x y z) n σ τ θ) : SMi G 3 mX10_duelWhy 0 0 [.ref 120, .int x, .int y, .int z] n σ τ θ q := by
  unfold s_dw at hq
  refine ctX10_duelWhy _ _ _ (sgX10_duelWhy_0 _ _ _ (Nat.le_refl _) hW ?_)
  refine k10_isMan hW hv hH ⟨hW, ps_b (fun h => ?_) (fun h => k10_isMan hW hv hH ⟨hW, ps_b (fun h2 => ?_) (fun h2 => ⟨fun h3 => ?_, fun h3 => ?_⟩)⟩)⟩
  · rw [if_neg (fun e => h e.1)] at hq
    exact k10_in hW ⟨hW, k10_why0 hW ⟨hW, hq⟩⟩
  · rw [if_neg (fun e => h2 e.2.1)] at hq
    exact k10_in hW ⟨hW, k10_why0 hW ⟨hW, hq⟩⟩
  · rw [if_neg (fun e => e.2.2 h3)] at hq
    exact k10_in hW ⟨hW, k10_why0 hW ⟨hW, hq⟩⟩
  · rw [if_pos ⟨h, h2, h3⟩] at hq
    exact k10_in hW ⟨hW, k10_why1 hW ⟨hW, hq⟩⟩
theorem s_dw0 {x y z : Int32} (hv : VR r) (h : s_dw r x y z = 0) : ∃ m o, m < nM r ∧ o < nM r ∧ x = nI m ∧ y = nI o := by
  have h5 := hv.m5
  unfold s_dw at h
  by_cases h1 : s_in x (nM r) = true ∧ s_in y (nM r) = true ∧ ¬ x = y
  · obtain ⟨m, hm, e1⟩ := (s_in_iff (by omega)).mp h1.1
    obtain ⟨o, ho, e2⟩ := (s_in_iff (by omega)).mp h1.2.1
    exact ⟨m, o, hm, ho, e1, e2⟩
  · rw [if_neg h1] at h
    exact absurd h (by decide)
def sp_duel (r : Nat → Int32) (x y z f g w : Int32) : Int32 × Int32 := if s_dw r x y z = 0 then ((if w = 0 then s_share (r (12 + 3 * x.toNatClampNeg)) (r (12 + 3 * y.toNatClampNeg)) z f g else s_share (r (12 + 3 * y.toNatClampNeg)) (r (12 + 3 * x.toNatClampNeg)) z g f), 0) else (-100, s_dw r x y z)
theorem p9_duel {x y z f g w : Int32} (hW : aw_WT n θ) (hF : FR σ (θ 1 7) r) (hv : VR r) (hq : ∀ σ' τ', CS σ σ' (sp_duel r x y z f g w).2 → q (sp_duel r x y z f g w).1 n σ' τ' θ) : SMi G 3 mX9_duel 0 0 [.ref 1, .int x, .int y, .int z, .int f, .int g, .int w] n σ τ θ q := by
  unfold sp_duel at hq
  have h5 := hv.m5
  refine ctX9_duel _ _ _ _ _ _ (sgX9_duel_0 _ _ _ _ _ _ (Nat.le_refl _) hW ?_)
  refine k9_dw hW hF hv ⟨hW, fun h => ?_, fun h => ?_⟩
  · rw [if_pos h] at hq
    obtain ⟨m, o, hm, ho, rfl, rfl⟩ := s_dw0 hv h
    rw [ps_cl (by omega), ps_cl (by omega)] at hq
    refine ⟨fun h2 => ?_, fun h2 => ?_⟩
    · rw [if_pos h2] at hq
      exact k9_share hW hF hv hm ho ⟨hW, k9_grant hW ⟨hW, hq _ _ (CS.tr _ _)⟩⟩
    · rw [if_neg h2] at hq
      exact k9_share hW hF hv ho hm ⟨hW, k9_grant hW ⟨hW, hq _ _ (CS.tr _ _)⟩⟩
  · rw [if_neg h] at hq
    exact k9_refuse hW ⟨hW, hq _ _ (CS.tr _ _)⟩
theorem p10_duel {x y z f g w : Int32} (hW : aw_WT n θ) (hv : VR (σ 123)) (hH : HR σ (σ 123)) (hq : ∀ σ', RS σ σ' (sp_duel (σ 123) x y z f g w).2 → q (sp_duel (σ 123) x y z f g w).1 n σ' τ θ) : SMi G 4 mX10_duel 0 0 [.ref 120, .int x, .int y, .int z, .int f, .int g, .int w] n σ τ θ q := by
  unfold sp_duel at hq
  have h5 := hv.m5
  refine ctX10_duel _ _ _ _ _ _ (sgX10_duel_0 _ _ _ _ _ _ (Nat.le_refl _) hW ?_)
  refine k10_good' hW (fun σ1 h1 => ⟨hW, k10_dw hW (h1.vr hv) (h1.hr hH) ⟨hW, ?_⟩⟩)
  rw [h1.e3]
  refine ⟨fun h => ?_, fun h => ?_⟩
  · rw [if_neg h] at hq
    exact hq _ h1.no
  · rw [if_pos h] at hq
    obtain ⟨m, o, hm, ho, rfl, rfl⟩ := s_dw0 hv h
    rw [ps_cl (by omega), ps_cl (by omega)] at hq
    refine ⟨fun h2 => ?_, fun h2 => ?_⟩
    · rw [if_pos h2] at hq
      exact k10_hasBy hW (by omega) (by omega) ⟨hW, by rw [h1.e3]; exact hq _ h1⟩
    · rw [if_neg h2] at hq
      exact k10_hasBy hW (by omega) (by omega) ⟨hW, by rw [h1.e3]; exact hq _ h1⟩
end Pub3
