/-! ===== seventh group: shutIn, passers, judge ===== -/
theorem ps_lt1 {w h : Nat} (hw : w < 100000) (hh : h < 100000) : nI w + 1 ≤ nI h ↔ ¬ nI h ≤ nI w := by
  rw [nI_1, nI_leI (by omega) (by omega), nI_leI (by omega) (by omega)]
  omega
theorem s_until_c {p p' : Nat → Bool} (h : ∀ i, p i = p' i) : ∀ d i, s_until p i d = s_until p' i d
  | 0, _ => rfl
  | d + 1, i => by simp only [s_until, h i, s_until_c h d (i + 1)]
section Pub7
variable {G : GG} {n : Nat} {σ : SG} {τ : TU} {θ : TH} {f t : Nat} {r st row : Nat → Int32} {q : Int32 → Nat → SG → TU → TH → Prop} {qv : Nat → SG → TU → TH → Prop} {ql : Int64 → Nat → SG → TU → TH → Prop}
def sp_shutIn (r st : Nat → Int32) (x y : Int32) : Int32 × Int32 := if s_in x (nM r) = true ∧ s_in y (nO r) = true then (s_until (fun i => decide (r (69 + y.toNatClampNeg) + 1 ≤ s_hd r st (st 12 + nI i) x.toNatClampNeg)) 0 21, 0) else (-1, 1)
theorem p9_shutIn {x y : Int32} (hW : aw_WT n θ) (hF : FR σ (θ 1 7) r) (hM : MR σ 6 st) (hv : VR r) (hq : ∀ σ' τ', CS σ σ' (sp_shutIn r st x y).2 → q (sp_shutIn r st x y).1 n σ' τ' θ) : SMi G 5 mX9_shutIn 0 0 [.ref 1, .int x, .int y] n σ τ θ q := by
  unfold sp_shutIn at hq
  have h5 := hv.m5
  have h4 := hv.o4
  refine ctX9_shutIn _ _ (sgX9_shutIn_0 _ _ (Nat.le_refl _) hW ?_)
  refine k9_isMan hW hF hv ⟨hW, ps_b (fun h => ?_) (fun h => k9_isDoor hW hF hv ⟨hW, And.symm (ps_b (fun h2 => ?_) (fun h2 => ?_))⟩)⟩
  · rw [if_neg (fun e => h e.1)] at hq
    exact k9_refuse hW ⟨hW, hq _ _ (CS.tr _ _)⟩
  · rw [if_neg (fun e => h2 e.2)] at hq
    exact k9_refuse hW ⟨hW, hq _ _ (CS.tr _ _)⟩
  · rw [if_pos ⟨h, h2⟩] at hq
    obtain ⟨m, hm, rfl⟩ := (s_in_iff (by omega)).mp h
    obtain ⟨d, hd, rfl⟩ := (s_in_iff (by omega)).mp h2
    rw [ps_cl (by omega), ps_cl (by omega)] at hq
    rw [ps_cl (by omega), hF.2.2.1 d hd]
    exact ⟨ps_in (by omega) (by decide), k9_springsUntil hW hF hM hv hm ⟨hW, k9_grant hW ⟨hW, hq _ _ (CS.tr _ _)⟩⟩⟩
theorem p10_shutIn {x y : Int32} (hW : aw_WT n θ) (hv : VR (σ 123)) (hH : HR σ (σ 123)) (hs : VS (σ 125)) (hq : ∀ σ', RS σ σ' (sp_shutIn (σ 123) (σ 125) x y).2 → q (sp_shutIn (σ 123) (σ 125) x y).1 n σ' τ θ) : SMi G 6 mX10_shutIn 0 0 [.ref 120, .int x, .int y] n σ τ θ q := by
  unfold sp_shutIn at hq
  have h5 := hv.m5
  have h4 := hv.o4
  refine ctX10_shutIn _ _ (sgX10_shutIn_0 _ _ (Nat.le_refl _) hW ?_)
  refine k10_good' hW (fun σ1 h1 => ⟨hW, k10_isMan hW (h1.vr hv) (h1.hr hH) ⟨hW, ?_⟩⟩)
  rw [h1.e3]
  refine ps_b (fun h => ?_) (fun h => k10_isDoor hW (h1.vr hv) (h1.hr hH) ⟨hW, ?_⟩)
  · rw [if_neg (fun e => h e.1)] at hq
    exact k10_no hW ⟨hW, hq _ h1.no⟩
  · rw [h1.e3]
    refine And.symm (ps_b (fun h2 => ?_) (fun h2 => ?_))
    · rw [if_neg (fun e => h2 e.2)] at hq
      exact k10_no hW ⟨hW, hq _ h1.no⟩
    · rw [if_pos ⟨h, h2⟩] at hq
      obtain ⟨m, hm, rfl⟩ := (s_in_iff (by omega)).mp h
      obtain ⟨d, hd, rfl⟩ := (s_in_iff (by omega)).mp h2
      rw [ps_cl (by omega), ps_cl (by omega)] at hq
      obtain ⟨w, -, hw, ew⟩ := hv.door hd
      have key : ∀ k j, j + k = 21 → (∀ σ', RS σ σ' 0 → q (s_until (fun i => decide (σ 123 (69 + d) + 1 ≤ s_hd (σ 123) (σ 125) (σ 125 12 + nI i) m)) j k) n σ' τ θ) → ∀ σ2, RS σ σ2 0 → SW G 6 mX10_shutIn (aw_qi q) 0 0 28 [some (.ref 120), some (.int (nI m)), some (.int (nI d)), some (.int (nI j))] [] (n, σ2, τ, θ) := by
        intro k
        induction k with
        | zero =>
          intro j hj hq σ2 h2
          exact sgX10_shutIn_28 _ _ _ (Nat.le_refl _) hW (ps_20 (by omega) (fun _ => hq _ h2) (fun h => absurd h (by omega)))
        | succ k ih =>
          intro j hj hq σ2 h2
          refine sgX10_shutIn_28 _ _ _ (Nat.le_refl _) hW (ps_20 (by omega) (fun h => absurd h (by omega)) (fun _ => ?_))
          rw [← nI_succ]
          refine k10_goOver hW h2 (fun σ3 h3 hb hk ht => ⟨hW, ?_⟩)
          refine k10_doesPass hW isA_trial (h3.vr hv) hb (by omega) (by omega) ⟨hW, ?_⟩
          rw [h3.e3, ht, s_hd_c hv (fun k hk' => hk k (by omega))]
          obtain ⟨z, -, hz, ez⟩ := s_hd_b (s := σ 125 12 + nI j) (m := m) hv hs.1
          simp only [s_until, decide_eq_true_eq] at hq
          rw [ew, ez] at hq
          rw [ew, ez]
          refine And.symm (ps_b (fun h => ?_) (fun h => ?_))
          · have := hq σ3 h3
            rwa [if_pos ((ps_lt1 (by omega) (by omega)).mpr h)] at this
          · refine ih (j + 1) (by omega) (fun σ' hs => ?_) σ3 h3
            have := hq σ' hs
            rw [if_neg (fun e => (ps_lt1 (by omega) (by omega)).mp e h), ← ew] at this
            exact this
      exact key 21 0 rfl hq σ1 h1
/-! who passes the door he is invited through -/
def eN (r : Nat → Int32) (m : Nat) : Nat := (r (73 + m)).toNatClampNeg
theorem VR.en {r : Nat → Int32} (h : VR r) {m : Nat} (hm : m < nM r) : r (73 + m) = nI (eN r m) ∧ eN r m ≤ nO r := by
  obtain ⟨a, -, ha, e⟩ := (h.man hm).2.2.2
  have h4 := h.o4
  unfold eN
  rw [e, ps_cl (by omega)]
  exact ⟨rfl, ha⟩
theorem s_in_m1 {N : Nat} : ¬ s_in (-1) N = true := by
  unfold s_in
  rw [Bool.and_eq_true, decide_eq_true_eq]
  exact fun e => absurd e.1 (by decide)
def s_pp (r st : Nat → Int32) : Nat → Int32
  | 0 => 0
  | m + 1 => s_pp r st m ||| if 0 < eN r m ∧ s_hd r st (st 12) m ≤ r (68 + eN r m) then 1 <<< (nI m &&& 31) else 0
def sp_passers (r st : Nat → Int32) : Int32 × Int32 := if nM r = 0 then (-1, 1) else (s_pp r st (nM r), 0)
theorem p9_passers (hW : aw_WT n θ) (hF : FR σ (θ 1 7) r) (hM : MR σ 6 st) (hv : VR r) (hq : ∀ σ' τ', CS σ σ' (sp_passers r st).2 → q (sp_passers r st).1 n σ' τ' θ) : SMi G 5 mX9_passers 0 0 [.ref 1] n σ τ θ q := by
  unfold sp_passers at hq
  have h5 := hv.m5
  have h4 := hv.o4
  have e : σ (θ 1 7) 13 = nI (nM r) := hF.1.2.2.2.2.1.trans hv.m
  refine ctX9_passers (sgX9_passers_0 (Nat.le_refl _) hW ?_)
  refine k9_noDuchy hW hF hv ⟨hW, ps_b (fun h => ?_) (fun h => ?_)⟩
  · rw [if_neg h] at hq
    refine ps_up (N := nM r) (P := fun j => SW G 5 mX9_passers (aw_qi q) 0 0 17 [some (.ref 1), some (.int (s_pp r st j)), some (.int (nI j)), none] [] (n, σ, τ, θ)) ?_ ?_ 0 (Nat.zero_le _)
    · exact sgX9_passers_17 _ _ (Nat.le_refl _) hW (ps_done e (k9_grant hW ⟨hW, hq _ _ (CS.tr _ _)⟩))
    · intro j hj ih
      refine sgX9_passers_17 _ _ (Nat.le_refl _) hW (ps_br e (by omega) (by omega) (fun h => absurd hj (by omega)) (fun _ => ?_))
      obtain ⟨ee, he⟩ := hv.en hj
      rw [← nI_succ j, ps_cl (by omega), (hF.2.1 j hj).2.2.2, ee]
      simp only [s_pp] at ih
      refine ⟨ps_in (by omega) (by decide), k9_isDoor hW hF hv ⟨hW, ps_b (fun h2 => ?_) (fun h2 => ?_)⟩⟩
      · rw [if_neg (fun e3 => h2 (by
          obtain ⟨d, hd⟩ : ∃ d, eN r j = d + 1 := ⟨eN r j - 1, by omega⟩
          rw [hd, nI_pred]
          exact (s_in_iff (by omega)).mpr ⟨d, by omega, rfl⟩)), Int32.or_zero] at ih
        exact ih
      · rcases Nat.eq_zero_or_pos (eN r j) with h0 | h0
        · rw [h0] at h2
          exact absurd h2 (show ¬ s_in (-1) _ = true from s_in_m1)
        · obtain ⟨d, hd⟩ : ∃ d, eN r j = d + 1 := ⟨eN r j - 1, by omega⟩
          rw [hd, nI_pred]
          rw [hd, show 68 + (d + 1) = 69 + d by omega] at ih
          refine k1_passes hW.f isM_now hW hF hM hv hj (by omega) ⟨hW, ps_b (fun h3 => ?_) (fun h3 => ?_)⟩
          · rw [if_neg (fun e3 => h3 e3.2), Int32.or_zero] at ih; exact ih
          · rw [if_pos ⟨by omega, h3⟩] at ih; exact ih
  · rw [if_pos h] at hq
    exact k9_refuse hW ⟨hW, hq _ _ (CS.tr _ _)⟩
theorem p10_passers (hW : aw_WT n θ) (hv : VR (σ 123)) (hH : HR σ (σ 123)) (hq : ∀ σ', RS σ σ' (sp_passers (σ 123) (σ 125)).2 → q (sp_passers (σ 123) (σ 125)).1 n σ' τ θ) : SMi G 6 mX10_passers 0 0 [.ref 120] n σ τ θ q := by
  unfold sp_passers at hq
  have h5 := hv.m5
  have h4 := hv.o4
  refine ctX10_passers (sgX10_passers_0 (Nat.le_refl _) hW ?_)
  refine k10_good' hW (fun σ1 h1 => ⟨hW, ?_⟩)
  have h2 := h1.slot (s := 22) (x := 0) (by decide)
  have hb : (aw_u σ1 120 22 0) 120 22 = 0 := aw_u_eq
  generalize aw_u σ1 120 22 0 = σ2 at h2 hb ⊢
  rw [h2.has, hH.iff]
  refine ⟨fun h => ?_, fun h => ?_⟩
  · rw [if_neg h] at hq
    have e : σ2 123 4 = nI (nM (σ 123)) := by rw [h2.e3]; exact hv.m
    refine ps_up (N := nM (σ 123)) (P := fun j => SW G 6 mX10_passers (aw_qi q) 0 0 26 [some (.ref 120), some (.int (s_pp (σ 123) (σ 125) j)), some (.int (nI j))] [] (n, σ2, τ, θ)) ?_ ?_ 0 (Nat.zero_le _)
    · exact sgX10_passers_26 _ _ (Nat.le_refl _) hW (ps_done e (hq _ h2))
    · intro j hj ih
      refine sgX10_passers_26 _ _ (Nat.le_refl _) hW (ps_br e (by omega) (by omega) (fun h => absurd hj (by omega)) (fun _ => ?_))
      obtain ⟨ee, he⟩ := hv.en hj
      rw [← nI_succ j, ix73, ps_cl (by omega), h2.e3, ee]
      simp only [s_pp] at ih
      refine ⟨ps_in (by omega) (by decide), fun h3 => ?_, fun h3 => ⟨ps_in (by omega) (by decide), ?_⟩⟩
      · have h0 : ¬ 0 < eN (σ 123) j := fun e3 => nI_nle e3 (by omega) h3
        rw [if_neg (fun e3 => h0 e3.1)] at ih
        exact ih
      · rcases Nat.eq_zero_or_pos (eN (σ 123) j) with h0 | h0
        · rw [h0] at h3
          exact absurd (by decide) h3
        · obtain ⟨d, hd⟩ : ∃ d, eN (σ 123) j = d + 1 := ⟨eN (σ 123) j - 1, by omega⟩
          rw [hd, nI_pred]
          rw [hd, show 68 + (d + 1) = 69 + d by omega] at ih
          refine k10_doesPass hW isA_st (h2.vr hv) hb (by omega) (by omega) ⟨hW, ?_⟩
          rw [h2.e3, h2.e5]
          refine ps_b (fun h9 => ?_) (fun h9 => ?_)
          · rw [if_neg (fun e3 => h9 e3.2)] at ih; exact ih
          · rw [if_pos ⟨by omega, h9⟩] at ih; exact ih
  · rw [if_pos h] at hq
    exact k10_no hW ⟨hW, hq _ h2.no⟩
/-! which reading can't be -/
theorem ps_e2 : ∀ e : Fin 101, (2 : Int64) * ((100 : Int32) - nI e.val).toInt64 = ((200 : Int32) - 2 * nI e.val).toInt64 ∧ (2 : Int64) * (nI e.val).toInt64 = ((2 : Int32) * nI e.val).toInt64 := by decide +kernel
theorem ps_l0 {x : Int32} : lg_cmp x.toInt64 0 = 0 ↔ x = 0 := by
  have h : x.toInt64 = 0 ↔ x = 0 := by
    rw [← Int64.toInt_inj, ← Int32.toInt_inj, Int32.toInt_toInt64]
    rfl
  unfold lg_cmp
  rw [← h]
  split
  · rename_i h1
    constructor
    · intro e; exact absurd e (by decide)
    · intro e
      rw [e] at h1
      exact absurd h1 (by decide)
  · split
    · rename_i h1 h2
      exact ⟨fun _ => h2, fun _ => rfl⟩
    · rename_i h1 h2
      exact ⟨fun e => absurd e (by decide), fun e => absurd e h2⟩
theorem k10_readAs {h told : Int32} (hW : aw_WT n θ) (hv : VR (σ 123)) (hq : ql (s_rw (σ 123 1) h told).toInt64 n σ τ θ) : SMl G 1 mX10_readAs 0 0 [.ref 120, .int h, .int told] n σ τ θ ql := by
  obtain ⟨e, -, he, ee⟩ := hv.e.1
  have h2 := ps_e2 ⟨e, by omega⟩
  refine ctX10_readAs _ _ (sgX10_readAs_0 _ _ (Nat.le_refl _) hW ?_)
  unfold s_rw at hq
  rw [ee] at hq ⊢
  have ha : (2 : Int64) * ((100 : Int32) - nI e).toInt64 = ((200 : Int32) - 2 * nI e).toInt64 := h2.1
  have hb : (2 : Int64) * (nI e).toInt64 = ((2 : Int32) * nI e).toInt64 := h2.2
  rw [ha, hb]
  refine ⟨fun h1 => ⟨fun h2 => ⟨fun h3 => ?_, fun h3 => ⟨fun h4 => ?_, fun h4 => ?_⟩⟩, fun h2 => ⟨fun h3 => ?_, fun h3 => ?_⟩⟩, fun h1 => ?_⟩
  · rwa [if_neg h1, if_neg h2, if_pos (Or.inl h3)] at hq
  · rwa [if_neg h1, if_neg h2, if_neg (fun e => e.elim h3 h4)] at hq
  · rwa [if_neg h1, if_neg h2, if_pos (Or.inr h4)] at hq
  · rwa [if_neg h1, if_pos h2, if_neg h3] at hq
  · rwa [if_neg h1, if_pos h2, if_pos h3] at hq
  · rwa [if_pos h1] at hq
def s_jp (r st : Nat → Int32) (k : Nat) : Bool := decide (s_rw (r 1) (s_hd r st (st 12) (r (78 + 2 * k)).toNatClampNeg) (r (79 + 2 * k)) = 0)
def sp_judge (r st : Nat → Int32) : Int32 × Int32 := if nM r = 0 then (-1, 1) else (s_until (s_jp r st) 0 (nR r), 0)
theorem p9_judge (hW : aw_WT n θ) (hF : FR σ (θ 1 7) r) (hM : MR σ 6 st) (hv : VR r) (hq : ∀ σ' τ', CS σ σ' (sp_judge r st).2 → q (sp_judge r st).1 n σ' τ' θ) : SMi G 5 mX9_judge 0 0 [.ref 1] n σ τ θ q := by
  unfold sp_judge at hq
  have h5 := hv.m5
  have h4 := hv.r4
  have e : σ (θ 1 7) 15 = nI (nR r) := hF.1.2.2.2.2.2.2.2.2.trans hv.r
  refine ctX9_judge (sgX9_judge_0 (Nat.le_refl _) hW ?_)
  refine k9_noDuchy hW hF hv ⟨hW, ps_b (fun h => ?_) (fun h => ?_)⟩
  · rw [if_neg h] at hq
    have key : ∀ d j, j + d = nR r → (∀ σ' τ', CS σ σ' 0 → q (s_until (s_jp r st) j d) n σ' τ' θ) → SW G 5 mX9_judge (aw_qi q) 0 0 15 [some (.ref 1), some (.int (nI j))] [] (n, σ, τ, θ) := by
      intro d
      induction d with
      | zero =>
        intro j hj hq
        exact sgX9_judge_15 _ (Nat.le_refl _) hW (ps_br e (by omega) (by omega) (fun _ => k9_grant hW ⟨hW, hq _ _ (CS.tr _ _)⟩) (fun h => absurd h (by omega)))
      | succ d ih =>
        intro j hj hq
        refine sgX9_judge_15 _ (Nat.le_refl _) hW (ps_br e (by omega) (by omega) (fun h => absurd h (by omega)) (fun _ => ?_))
        obtain ⟨⟨a, ha, ea⟩, -⟩ := hv.read (k := j) (by omega)
        rw [← nI_succ j, ps_cl (by omega), (hF.2.2.2.1 j (by omega)).1, ea]
        simp only [s_until, s_jp, decide_eq_true_eq, ea, ps_cl (show a < 100000 by omega)] at hq
        refine ⟨ps_in (by omega) (by decide), k9_headNow hW hF hM hv ha ⟨hW, k1_readingWeight hW.f hW hF hv (by omega) ⟨hW, fun h2 => ?_, fun h2 => ?_⟩⟩⟩
        · simp only [if_neg h2] at hq
          exact ih (j + 1) (by omega) hq
        · simp only [if_pos h2] at hq
          exact k9_grant hW ⟨hW, hq _ _ (CS.tr _ _)⟩
    exact key (nR r) 0 (by omega) hq
  · rw [if_pos h] at hq
    exact k9_refuse hW ⟨hW, hq _ _ (CS.tr _ _)⟩
theorem p10_judge (hW : aw_WT n θ) (hv : VR (σ 123)) (hH : HR σ (σ 123)) (hq : ∀ σ', RS σ σ' (sp_judge (σ 123) (σ 125)).2 → q (sp_judge (σ 123) (σ 125)).1 n σ' τ θ) : SMi G 5 mX10_judge 0 0 [.ref 120] n σ τ θ q := by
  unfold sp_judge at hq
  have h5 := hv.m5
  have h4 := hv.r4
  refine ctX10_judge (sgX10_judge_0 (Nat.le_refl _) hW ?_)
  refine k10_good' hW (fun σ1 h1 => ⟨hW, ?_⟩)
  have h2 := h1.slot (s := 22) (x := 0) (by decide)
  have hb : (aw_u σ1 120 22 0) 120 22 = 0 := aw_u_eq
  generalize aw_u σ1 120 22 0 = σ2 at h2 hb ⊢
  rw [h2.has, hH.iff]
  refine ⟨fun h => ?_, fun h => ?_⟩
  · rw [if_neg h] at hq
    have e : σ2 123 9 = nI (nR (σ 123)) := by rw [h2.e3]; exact hv.r
    have key : ∀ d j, j + d = nR (σ 123) → (∀ σ', RS σ σ' 0 → q (s_until (s_jp (σ 123) (σ 125)) j d) n σ' τ θ) → SW G 5 mX10_judge (aw_qi q) 0 0 24 [some (.ref 120), some (.int (nI j))] [] (n, σ2, τ, θ) := by
      intro d
      induction d with
      | zero =>
        intro j hj hq
        exact sgX10_judge_24 _ (Nat.le_refl _) hW (ps_br e (by omega) (by omega) (fun _ => hq _ h2) (fun h => absurd h (by omega)))
      | succ d ih =>
        intro j hj hq
        refine sgX10_judge_24 _ (Nat.le_refl _) hW (ps_br e (by omega) (by omega) (fun h => absurd h (by omega)) (fun _ => ?_))
        obtain ⟨⟨a, ha, ea⟩, -⟩ := hv.read (k := j) (by omega)
        rw [← nI_succ j, ix79, ix78, ps_cl (by omega), ps_cl (by omega), h2.e3, ea]
        simp only [s_until, s_jp, decide_eq_true_eq, ea, ps_cl (show a < 100000 by omega)] at hq
        refine ⟨ps_in (by omega) (by decide), k10_head hW isA_st (h2.vr hv) hb (by omega) ⟨hW, ps_in (by omega) (by decide), ?_⟩⟩
        rw [h2.e3]
        refine k10_readAs hW (h2.vr hv) ⟨hW, ?_⟩
        rw [ps_l0, h2.e3, h2.e5]
        refine ⟨fun h3 => ?_, fun h3 => ?_⟩
        · simp only [if_neg h3] at hq
          exact ih (j + 1) (by omega) hq
        · simp only [if_pos h3] at hq
          exact hq _ h2
    exact key (nR (σ 123)) 0 (by omega) hq
  · rw [if_pos h] at hq
    exact k10_no hW ⟨hW, hq _ h2.no⟩
end Pub7
