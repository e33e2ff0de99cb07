/-! ===== rings: the reference's search, sums ===== -/
theorem ps_pc_add : ∀ a : Fin 32, ∀ m : Fin 5, ¬ a.val.testBit m.val = true → pcN (a.val ||| 2 ^ m.val) = pcN a.val + 1 := by decide +kernel
theorem ps_pc_all : ∀ N : Fin 6, ∀ a : Fin 32, a.val < 2 ^ N.val → pcN a.val = N.val → ∀ m : Fin 5, m.val < N.val → a.val.testBit m.val = true := by decide +kernel
theorem ps_pc_one : ∀ m : Fin 5, pcN (2 ^ m.val) = 1 := by decide +kernel
def flN (r L : Nat → Int32) (s m w : Int32) (k : Nat) : Nat := if s_due r L s k = true ∧ r (25 + 4 * k) = m ∧ (w < 0 ∨ r (26 + 4 * k) = w) then (L k).toNatClampNeg else 0
theorem s_lf_e {r L : Nat → Int32} {s m w : Int32} (hL : ∀ k, k < 7 → bI (L k) 0 99) : ∀ k, k ≤ 7 → s_lf r L s m w k = nI (sm (flN r L s m w) k) ∧ sm (flN r L s m w) k ≤ 99 * k
  | 0, _ => ⟨rfl, Nat.le_refl _⟩
  | k + 1, hk => by
    obtain ⟨e, hb⟩ := s_lf_e (r := r) (s := s) (m := m) (w := w) hL k (by omega)
    obtain ⟨a, -, ha, ea⟩ := hL k (by omega)
    show s_lf r L s m w k + _ = nI (sm (flN r L s m w) k + flN r L s m w k) ∧ sm (flN r L s m w) k + flN r L s m w k ≤ _
    by_cases h : s_due r L s k = true ∧ r (25 + 4 * k) = m ∧ (w < 0 ∨ r (26 + 4 * k) = w)
    · have e2 : flN r L s m w k = a := by unfold flN; rw [if_pos h, ea, ps_cl (by omega)]
      rw [if_pos h, e, e2, ea, nI_add]
      exact ⟨rfl, by omega⟩
    · have e2 : flN r L s m w k = 0 := if_neg h
      rw [if_neg h, e, e2, Int32.add_zero]
      exact ⟨rfl, by omega⟩
theorem Eo_lf {r st : Nat → Int32} (hv : VR r) (hs : VS st) {a b : Nat} (hb : b < 5) : Eo r st a b = true ↔ 0 < sm (flN r st (st 12) (nI a) (nI b)) (nD r) := by
  have h7 := hv.d7
  rw [Eo_iff hv hb]
  constructor
  · rintro ⟨i, hi, h1, h2, h3⟩
    refine sm_pos (j := i) ?_ _ hi
    obtain ⟨x, hx, hx2, ex⟩ := ps_due_a hs.1 (by omega) h1
    unfold flN
    rw [if_pos ⟨h1, h2, Or.inr h3⟩, ex, ps_cl (by omega)]
    exact hx
  · intro h
    obtain ⟨i, hi, h1⟩ := sm_ex _ h
    unfold flN at h1
    by_cases hc : s_due r st (st 12) i = true ∧ r (25 + 4 * i) = nI a ∧ (nI b < 0 ∨ r (26 + 4 * i) = nI b)
    · exact ⟨i, hi, hc.1, hc.2.1, hc.2.2.elim (fun h => absurd h (nI_pos (by omega))) id⟩
    · rw [if_neg hc] at h1
      omega
/-- a row of men -/
def rM (N : Nat) (w : Nat → Int32) (k : Nat) : Prop := ∀ j, j < k → ∃ m, m < N ∧ w j = nI m
theorem pr_man {E : Nat → Nat → Bool} {N h : Nat} : ∀ rem k met c w, rM N w k → fr E N h rem k met c < 1000000 → rM N (pr E N h rem k met c w) (fr E N h rem k met c)
  | 0, k, met, c, w, hw, hl => by
    have hl : rown E h k c < 1000000 := hl
    obtain ⟨-, -, h3⟩ := rown_lt hl
    show rM N w (rown E h k c)
    rw [h3]
    exact hw
  | rem + 1, k, met, c, w, hw, hl => by
    obtain ⟨m1, m2, m3⟩ := rmin_p (own := rown E h k c) (g := fun m => fr E N h rem (k + 1) (met ||| 2 ^ m) m) (p := rop E met c) N
    have em : fr E N h (rem + 1) k met c = rmin (rown E h k c) (fun m => fr E N h rem (k + 1) (met ||| 2 ^ m) m) (rop E met c) N := rfl
    rw [← em] at m1 m2 m3
    simp only [pr]
    by_cases ho : rown E h k c = fr E N h (rem + 1) k met c
    · obtain ⟨-, -, h3⟩ := rown_lt (E := E) (h := h) (k := k) (c := c) (by omega)
      rw [if_pos ho, ← ho, h3]
      exact hw
    · rw [if_neg ho]
      rcases m3 with m3 | ⟨d, hd, g1, g2⟩
      · exact absurd m3.symm ho
      · have hp : prp E N h rem k met c d = true := by unfold prp; rw [Bool.and_eq_true, decide_eq_true_eq]; exact ⟨g1, g2.symm⟩
        have hex : ∃ x, x < N ∧ prp E N h rem k met c x = true ∧ s_fs (prp E N h rem k met c) N 0 = x := by
          have key : ∀ D i, (∃ d, i ≤ d ∧ d < i + D ∧ prp E N h rem k met c d = true) → ∃ x, i ≤ x ∧ x < i + D ∧ prp E N h rem k met c x = true ∧ s_fs (prp E N h rem k met c) D i = x := by
            intro D
            induction D with
            | zero => rintro i ⟨d, h1, h2, -⟩; omega
            | succ D ih =>
              rintro i ⟨d, h1, h2, h3⟩
              by_cases hi : prp E N h rem k met c i = true
              · exact ⟨i, Nat.le_refl _, by omega, hi, if_pos hi⟩
              · obtain ⟨x, a, b, c1, e⟩ := ih (i + 1) ⟨d, by
                  rcases Nat.eq_or_lt_of_le h1 with e | h9
                  · subst e; exact absurd h3 hi
                  · exact h9, by omega, h3⟩
                exact ⟨x, by omega, by omega, c1, (if_neg hi).trans e⟩
          obtain ⟨x, -, a, b, c⟩ := key N 0 ⟨d, by omega, by omega, hp⟩
          exact ⟨x, by omega, b, c⟩
        obtain ⟨x, hx, hx2, ex⟩ := hex
        rw [ex]
        unfold prp at hx2
        rw [Bool.and_eq_true, decide_eq_true_eq] at hx2
        have := pr_man (E := E) (N := N) (h := h) rem (k + 1) (met ||| 2 ^ x) x (pu w k (nI x)) (fun j hj => by
          by_cases hjk : j = k
          · exact ⟨x, hx, if_pos hjk⟩
          · obtain ⟨m, hm, e⟩ := hw j (by omega)
            exact ⟨m, hm, (if_neg hjk).trans e⟩) (by omega)
        rw [hx2.2] at this
        exact this
theorem fT_b {r st : Nat → Int32} (hv : VR r) {h : Nat} (hh : h < nM r) (hl : fT r st h < 1000000) : 2 ≤ fT r st h ∧ fT r st h ≤ 5 ∧ rM (nM r) (pT r st h) (fT r st h) := by
  have h5 := hv.m5
  obtain ⟨f1, f2, f3⟩ := fr_wk (E := Eo r st) hh (nM r - 1) 1 (2 ^ h) h hl
  have f1 : 1 ≤ fT r st h := f1
  have f2 : fT r st h ≤ 1 + (nM r - 1) := f2
  have f3 : wk (Eo r st) (nM r) h (fT r st h - 1 + 1) h := f3
  refine ⟨?_, by omega, pr_man (nM r - 1) 1 (2 ^ h) h (fun _ => nI h) (fun j _ => ⟨h, hh, rfl⟩) hl⟩
  apply Classical.byContradiction
  intro hc
  rw [show fT r st h - 1 = 0 by omega] at f3
  obtain ⟨x, hx, hE, e⟩ := f3
  have e : x = h := e
  rw [e, Eo_self hv (by omega)] at hE
  exact absurd hE (by decide)
def rsm (g : Nat → Nat) : Nat → Nat
  | 0 => 1000000
  | i + 1 => min (rsm g i) (g i)
def gS (r st R : Nat → Int32) (l i : Nat) : Nat := sm (flN r st (st 12) (R i) (R ((i + 1) % l))) (nD r)
theorem gS_b {r st R : Nat → Int32} {l i : Nat} (hv : VR r) (hs : VS st) : s_lf r st (st 12) (R i) (R ((i + 1) % l)) (nD r) = nI (gS r st R l i) ∧ gS r st R l i ≤ 693 := by
  have h7 := hv.d7
  obtain ⟨a, b⟩ := s_lf_e (r := r) (s := st 12) (m := R i) (w := R ((i + 1) % l)) hs.1 (nD r) h7
  exact ⟨a, by unfold gS; omega⟩
theorem rsm_b {g : Nat → Nat} (hg : ∀ i, g i ≤ 693) : ∀ i, (0 < i → rsm g i ≤ 693) ∧ rsm g i ≤ 1000000
  | 0 => ⟨fun h => absurd h (by omega), Nat.le_refl _⟩
  | i + 1 => by
    have := hg i
    have h2 : rsm g (i + 1) = min (rsm g i) (g i) := rfl
    exact ⟨fun _ => by omega, by omega⟩
section RingR
variable {G : GG} {n : Nat} {σ : SG} {τ : TU} {θ : TH} {f t : Nat} {r st row : Nat → Int32} {q : Int32 → Nat → SG → TU → TH → Prop} {qv : Nat → SG → TU → TH → Prop} {ql : Int64 → Nat → SG → TU → TH → Prop}
theorem isA_way : isA 131 5 := ⟨kp_131, by decide, by decide⟩
theorem isA_ring : isA 132 5 := ⟨kp_132, by decide, by decide⟩
theorem k10_owesNow {a b : Nat} (hW : aw_WT n θ) (hv : VR (σ 123)) (hs : VS (σ 125)) (hb : b < 5) (hq : q (if Eo (σ 123) (σ 125) a b = true then 1 else 0) n σ τ θ) : SMi G 4 mX10_owesNow 0 0 [.ref 120, .int (nI a), .int (nI b)] n σ τ θ q := by
  have h7 := hv.d7
  obtain ⟨e, hl⟩ := s_lf_e (r := σ 123) (s := σ 125 12) (m := nI a) (w := nI b) hs.1 (nD (σ 123)) h7
  refine ctX10_owesNow _ _ (sgX10_owesNow_0 _ _ (Nat.le_refl _) hW ?_)
  refine k10_leftFrom hW hv ⟨hW, ?_⟩
  rw [e]
  have hi := Eo_lf hv hs (a := a) hb
  refine ⟨fun h => ?_, fun h => ?_⟩
  · have h : sm (flN (σ 123) (σ 125) (σ 125 12) (nI a) (nI b)) (nD (σ 123)) ≤ 0 := (nI_leI (b := 0) (by omega) (by omega)).mp h
    rwa [if_neg (fun e2 => absurd (hi.mp e2) (by omega))] at hq
  · have h : ¬ sm (flN (σ 123) (σ 125) (σ 125 12) (nI a) (nI b)) (nD (σ 123)) ≤ 0 := fun e2 => h ((nI_leI (b := 0) (by omega) (by omega)).mpr e2)
    rwa [if_pos (hi.mpr (by omega))] at hq
/-- where the search for a ring stands -/
def TS (σ0 σ : SG) (s : Nat × (Nat → Int32)) (w : Nat → Int32) (k : Nat) : Prop := RS σ0 σ 0 ∧ σ 120 29 = nI s.1 ∧ (s.1 < 1000000 → ∀ j, j < s.1 → σ 132 j = s.2 j) ∧ (∀ j, j < k → σ 131 j = w j) ∧ s.1 ≤ 1000000
theorem TS.way {σ0 σ : SG} {s : Nat × (Nat → Int32)} {w : Nat → Int32} {k : Nat} (h : TS σ0 σ s w k) (x : Int32) : TS σ0 (aw_u σ 131 k x) s (pu w k x) (k + 1) := by
  obtain ⟨h1, h2, h3, h4, h5⟩ := h
  refine ⟨h1.obj (fun o ho => aw_uo (by omega)), ?_, fun h6 j hj => ?_, fun j hj => ?_, h5⟩
  · rw [aw_uo (by decide)]; exact h2
  · rw [aw_uo (by decide)]; exact h3 h6 j hj
  · by_cases h : j = k
    · rw [h, aw_u_eq]; exact (if_pos rfl).symm
    · rw [aw_u_nk h, h4 j (by omega)]; exact (if_neg h).symm
theorem TS.less {σ0 σ : SG} {s : Nat × (Nat → Int32)} {w : Nat → Int32} {k : Nat} {x : Int32} (h : TS σ0 σ s (pu w k x) (k + 1)) : TS σ0 σ s w k := by
  obtain ⟨h1, h2, h3, h4, h5⟩ := h
  exact ⟨h1, h2, h3, fun j hj => (h4 j (by omega)).trans (if_neg (by omega)), h5⟩
theorem k10_tryRing {σ0 : SG} {h : Nat} (hW : aw_WT n θ) (hv : VR (σ0 123)) (hs0 : VS (σ0 125)) (hh : h < nM (σ0 123)) : ∀ rem kk k met c w s, 6 + rem ≤ kk → k + rem = nM (σ0 123) → 1 ≤ k → met < 2 ^ nM (σ0 123) → pcN met = k → c < nM (σ0 123) → w (k - 1) = nI c → w 0 = nI h → ∀ (qv : Nat → SG → TU → TH → Prop) σ, TS σ0 σ s w k → (∀ σ', TS σ0 σ' (tr (Eo (σ0 123) (σ0 125)) (nM (σ0 123)) h rem k met c w s) w k → qv n σ' τ θ) → SMv G kk mX10_tryRing 0 0 [.ref 120, .int (nI k), .int (nI met)] n σ τ θ qv := by
  have h5 := hv.m5
  have h32 : 2 ^ nM (σ0 123) ≤ 2 ^ 5 := Nat.pow_le_pow_right (by decide) h5
  have h32 : 2 ^ nM (σ0 123) ≤ 32 := h32
  intro rem
  induction rem with
  | zero =>
    intro kk k met c w s hkk hk h1 hm hpc hc hwc hw0 qv σ hT hq
    -- nobody is left
    have fin : ∀ σ1, TS σ0 σ1 (if rown (Eo (σ0 123) (σ0 125)) h k c < s.1 then (rown (Eo (σ0 123) (σ0 125)) h k c, w) else s) w k → SW G kk mX10_tryRing (aw_qv qv) 0 0 55 [some (.ref 120), some (.int (nI k)), some (.int (nI met)), some (.int (nI 0))] [] (n, σ1, τ, θ) := by
      intro σ1 t1
      have e4 : σ1 123 4 = nI (nM (σ0 123)) := by rw [t1.1.e3]; exact hv.m
      refine ps_up (N := nM (σ0 123)) (P := fun m => SW G kk mX10_tryRing (aw_qv qv) 0 0 55 [some (.ref 120), some (.int (nI k)), some (.int (nI met)), some (.int (nI m))] [] (n, σ1, τ, θ)) ?_ ?_ 0 (Nat.zero_le _)
      · exact sgX10_tryRing_55 (kr := kk - 1) _ _ _ (by omega) (by omega) hW (ps_done e4 (hq _ t1))
      · intro m hmN ih
        refine sgX10_tryRing_55 (kr := kk - 1) _ _ _ (by omega) (by omega) hW (ps_br e4 (by omega) (by omega) (fun h => absurd hmN (by omega)) (fun _ => ?_))
        rw [← nI_succ m]
        have eb : s_bit (nI met) m = met.testBit m := ps_tb ⟨met, by omega⟩ ⟨m, by omega⟩
        have ea : met.testBit m = true := ps_pc_all ⟨nM (σ0 123), by omega⟩ ⟨met, by omega⟩ hm (by dsimp only; omega) ⟨m, by omega⟩ hmN
        refine k10_hasBit hW ⟨hW, And.symm (ps_b (fun h2 => absurd (eb.trans ea) h2) (fun _ => ih))⟩
    refine ctX10_tryRing _ _ (sgX10_tryRing_0 (kr := kk - 1) _ _ (by omega) (by omega) hW ?_)
    obtain ⟨t1, t2, t3, t4, t5⟩ := hT
    have ek : nI k - 1 = nI (k - 1) := pk_sub (b := 1) h1
    rw [ek, ps_cl (by omega), t4 (k - 1) (by omega), hwc, t4 0 (by omega), hw0]
    have same : ¬ rown (Eo (σ0 123) (σ0 125)) h k c < s.1 → SW G kk mX10_tryRing (aw_qv qv) 0 0 55 [some (.ref 120), some (.int (nI k)), some (.int (nI met)), some (.int (nI 0))] [] (n, σ, τ, θ) := by
      intro hn
      refine fin σ ?_
      rw [if_neg hn]
      exact ⟨t1, t2, t3, t4, t5⟩
    refine ⟨fun hlt => same ?_, fun hge => ⟨ps_in (by omega) (by decide), ?_⟩⟩
    · have : k < 2 := (nI_ltI (b := 2) (by omega) (by omega)).mp hlt
      have : rown (Eo (σ0 123) (σ0 125)) h k c = 1000000 := if_neg (fun e => absurd e.1 (by omega))
      omega
    · have hge : ¬ k < 2 := fun e => hge (nI_lt (b := 2) e (by omega))
      refine k10_owesNow hW (t1.vr hv) (by rw [t1.e5]; exact hs0) (by omega) ⟨hW, ?_⟩
      rw [t1.e3, t1.e5]
      refine ps_b (fun hE => same ?_) (fun hE => ?_)
      · have : rown (Eo (σ0 123) (σ0 125)) h k c = 1000000 := if_neg (fun e => hE e.2)
        omega
      · have ho : rown (Eo (σ0 123) (σ0 125)) h k c = k := if_pos ⟨by omega, hE⟩
        rw [t2]
        refine ⟨fun hle => same ?_, fun hnl => ?_⟩
        · have := (nI_leI (a := s.1) (b := k) (by omega) (by omega)).mp hle
          omega
        · have hlt : k < s.1 := Nat.not_le.mp (fun e => hnl (nI_le e (by omega)))
          refine k10_copy (i := 0) (j := 0) (m := 5) hW isA_way isA_ring (by decide) (by decide) (by decide) (by decide) (by decide) ⟨hW, fin _ ?_⟩
          rw [if_pos (by omega)]
          have r1 := t1.slot (s := 29) (x := nI k) (by decide)
          refine ⟨r1.obj (fun o ho => funext fun k => s_cp_out (by omega)), ?_, fun _ j hj => ?_, fun j hj => ?_, by dsimp only; omega⟩
          · rw [s_cp_out (by decide), aw_u_eq, ho]
          · dsimp only at hj
            rw [s_cp_in (by omega) (by omega), aw_uo (by decide)]
            exact (congrArg (σ 131) (show 0 + (j - 0) = j by omega)).trans (t4 j (by omega))
          · rw [s_cp_out (by decide), aw_uo (by decide)]; exact t4 j hj
  | succ rem ih =>
    intro kk k met c w s hkk hk h1 hm hpc hc hwc hw0 qv σ hT hq
    have fin : ∀ σ1, TS σ0 σ1 (if rown (Eo (σ0 123) (σ0 125)) h k c < s.1 then (rown (Eo (σ0 123) (σ0 125)) h k c, w) else s) w k → SW G kk mX10_tryRing (aw_qv qv) 0 0 55 [some (.ref 120), some (.int (nI k)), some (.int (nI met)), some (.int (nI 0))] [] (n, σ1, τ, θ) := by
      intro σ1 t1
      refine ps_up (N := nM (σ0 123)) (P := fun m => ∀ σ1, TS σ0 σ1 (tgd (fun m s => tr (Eo (σ0 123) (σ0 125)) (nM (σ0 123)) h rem (k + 1) (met ||| 2 ^ m) m (pu w k (nI m)) s) (rop (Eo (σ0 123) (σ0 125)) met c) m (if rown (Eo (σ0 123) (σ0 125)) h k c < s.1 then (rown (Eo (σ0 123) (σ0 125)) h k c, w) else s)) w k → SW G kk mX10_tryRing (aw_qv qv) 0 0 55 [some (.ref 120), some (.int (nI k)), some (.int (nI met)), some (.int (nI m))] [] (n, σ1, τ, θ)) ?_ ?_ 0 (Nat.zero_le _) σ1 t1
      · intro σ2 t2
        have e4 : σ2 123 4 = nI (nM (σ0 123)) := by rw [t2.1.e3]; exact hv.m
        exact sgX10_tryRing_55 (kr := kk - 1) _ _ _ (by omega) (by omega) hW (ps_done e4 (hq _ t2))
      · intro m hmN ihm σ2 t2
        have e4 : σ2 123 4 = nI (nM (σ0 123)) := by rw [t2.1.e3]; exact hv.m
        refine sgX10_tryRing_55 (kr := kk - 1) _ _ _ (by omega) (by omega) hW (ps_br e4 (by omega) (by omega) (fun h => absurd hmN (by omega)) (fun _ => ?_))
        have ek : nI k - 1 = nI (k - 1) := pk_sub (b := 1) h1
        rw [← nI_succ m, ek, ps_cl (by omega)]
        have eb : s_bit (nI met) m = met.testBit m := ps_tb ⟨met, by omega⟩ ⟨m, by omega⟩
        simp only [tgd] at ihm
        refine k10_hasBit hW ⟨hW, And.symm (ps_b (fun h2 => ⟨ps_in (by omega) (by decide), ?_⟩) (fun h2 => ?_))⟩
        · rw [t2.2.2.2.1 (k - 1) (by omega), hwc]
          refine k10_owesNow hW (t2.1.vr hv) (by rw [t2.1.e5]; exact hs0) (by omega) ⟨hW, ?_⟩
          rw [t2.1.e3, t2.1.e5]
          refine And.symm (ps_b (fun hE => ?_) (fun hE => ⟨ps_in (by omega) (by decide), ?_⟩))
          · rw [if_neg (fun e => hE (rop_iff.mp e).2)] at ihm
            exact ihm _ t2
          · rw [if_pos (rop_iff.mpr ⟨fun e => h2 (eb.trans e), hE⟩)] at ihm
            have u2 : nI met ||| ((1 : Int32) <<< (nI m &&& 31)) = nI (met ||| 2 ^ m) := by
              rw [show (1 : Int32) <<< (nI m &&& 31) = nI (2 ^ m) from ps_sh_all ⟨m, by omega⟩]
              exact ps_or_all ⟨met, by omega⟩ ⟨2 ^ m, show 2 ^ m < 2 ^ 5 from Nat.pow_lt_pow_right (by decide) (by omega)⟩
            have u3 : pcN (met ||| 2 ^ m) = pcN met + 1 := ps_pc_add ⟨met, by omega⟩ ⟨m, by omega⟩ (fun e => h2 (eb.trans e))
            rw [ps_cl (by omega), ← nI_succ, u2]
            refine ih (kk - 1) (k + 1) (met ||| 2 ^ m) m (pu w k (nI m)) _ (by omega) (by omega) (by omega) (ps_ltp hm hmN) (by omega) hmN (if_pos (by omega)) ((if_neg (by omega)).trans hw0) _ _ (t2.way (nI m)) (fun σ3 t3 => ⟨hW, ihm _ t3.less⟩)
        · rw [if_neg (fun e => (rop_iff.mp e).1 (eb.symm.trans h2))] at ihm
          exact ihm _ t2
    refine ctX10_tryRing _ _ (sgX10_tryRing_0 (kr := kk - 1) _ _ (by omega) (by omega) hW ?_)
    obtain ⟨t1, t2, t3, t4, t5⟩ := hT
    have ek : nI k - 1 = nI (k - 1) := pk_sub (b := 1) h1
    rw [ek, ps_cl (by omega), t4 (k - 1) (by omega), hwc, t4 0 (by omega), hw0]
    have same : ¬ rown (Eo (σ0 123) (σ0 125)) h k c < s.1 → SW G kk mX10_tryRing (aw_qv qv) 0 0 55 [some (.ref 120), some (.int (nI k)), some (.int (nI met)), some (.int (nI 0))] [] (n, σ, τ, θ) := by
      intro hn
      refine fin σ ?_
      rw [if_neg hn]
      exact ⟨t1, t2, t3, t4, t5⟩
    refine ⟨fun hlt => same ?_, fun hge => ⟨ps_in (by omega) (by decide), ?_⟩⟩
    · have : k < 2 := (nI_ltI (b := 2) (by omega) (by omega)).mp hlt
      have : rown (Eo (σ0 123) (σ0 125)) h k c = 1000000 := if_neg (fun e => absurd e.1 (by omega))
      omega
    · have hge : ¬ k < 2 := fun e => hge (nI_lt (b := 2) e (by omega))
      refine k10_owesNow hW (t1.vr hv) (by rw [t1.e5]; exact hs0) (by omega) ⟨hW, ?_⟩
      rw [t1.e3, t1.e5]
      refine ps_b (fun hE => same ?_) (fun hE => ?_)
      · have : rown (Eo (σ0 123) (σ0 125)) h k c = 1000000 := if_neg (fun e => hE e.2)
        omega
      · have ho : rown (Eo (σ0 123) (σ0 125)) h k c = k := if_pos ⟨by omega, hE⟩
        rw [t2]
        refine ⟨fun hle => same ?_, fun hnl => ?_⟩
        · have := (nI_leI (a := s.1) (b := k) (by omega) (by omega)).mp hle
          omega
        · have hlt : k < s.1 := Nat.not_le.mp (fun e => hnl (nI_le e (by omega)))
          refine k10_copy (i := 0) (j := 0) (m := 5) hW isA_way isA_ring (by decide) (by decide) (by decide) (by decide) (by decide) ⟨hW, fin _ ?_⟩
          rw [if_pos (by omega)]
          have r1 := t1.slot (s := 29) (x := nI k) (by decide)
          refine ⟨r1.obj (fun o ho => funext fun k => s_cp_out (by omega)), ?_, fun _ j hj => ?_, fun j hj => ?_, by dsimp only; omega⟩
          · rw [s_cp_out (by decide), aw_u_eq, ho]
          · dsimp only at hj
            rw [s_cp_in (by omega) (by omega), aw_uo (by decide)]
            exact (congrArg (σ 131) (show 0 + (j - 0) = j by omega)).trans (t4 j (by omega))
          · rw [s_cp_out (by decide), aw_uo (by decide)]; exact t4 j hj
theorem k10_seekRing {σ0 : SG} {h : Nat} (hW : aw_WT n θ) (hS : RS σ0 σ 0) (hv : VR (σ0 123)) (hs : VS (σ0 125)) (hh : h < nM (σ0 123)) (hq : ∀ σ', RS σ0 σ' 0 → (fT (σ0 123) (σ0 125) h < 1000000 → σ' 120 29 = nI (fT (σ0 123) (σ0 125) h) ∧ ∀ j, j < fT (σ0 123) (σ0 125) h → σ' 132 j = pT (σ0 123) (σ0 125) h j) → q (if fT (σ0 123) (σ0 125) h < 1000000 then 1 else 0) n σ' τ θ) : SMi G 12 mX10_seekRing 0 0 [.ref 120, .int (nI h)] n σ τ θ q := by
  have h5 := hv.m5
  refine ctX10_seekRing _ (sgX10_seekRing_0 _ (Nat.le_refl _) hW ?_)
  rw [show (1 : Int32) <<< (nI h &&& 31) = nI (2 ^ h) from ps_sh_all ⟨h, by omega⟩]
  have t : TS σ0 (aw_u (aw_u σ 120 29 1000000) 131 0 (nI h)) (1000000, fun _ => 0) (fun _ => nI h) 1 := by
    refine ⟨(hS.slot (by decide)).obj (fun o ho => aw_uo (by omega)), ?_, fun h9 => absurd h9 (by decide), fun j hj => ?_, Nat.le_refl _⟩
    · rw [aw_uo (by decide), aw_u_eq]; rfl
    · rw [show j = 0 by omega, aw_u_eq]
  refine k10_tryRing hW hv hs hh (nM (σ0 123) - 1) 11 1 (2 ^ h) h (fun _ => nI h) (1000000, fun _ => 0) (by omega) (by omega) (by omega) (Nat.pow_lt_pow_right (by decide) hh) (ps_pc_one ⟨h, by omega⟩) hh rfl rfl _ _ t (fun σ2 t2 => ⟨hW, ?_⟩)
  rw [tr_e _ _ _ _ _ _ _ _ _ (Nat.le_refl _)] at t2
  have t2 : TS σ0 σ2 (if fT (σ0 123) (σ0 125) h < 1000000 then (fT (σ0 123) (σ0 125) h, pT (σ0 123) (σ0 125) h) else (1000000, fun _ => 0)) (fun _ => nI h) 1 := t2
  by_cases hl : fT (σ0 123) (σ0 125) h < 1000000
  · rw [if_pos hl] at t2 hq
    obtain ⟨a1, a2, a3, -, -⟩ := t2
    rw [a2]
    refine ⟨fun h9 => absurd h9 (nI_ge (b := 1000000) hl (by omega)), fun _ => hq _ a1 (fun _ => ⟨a2, a3 hl⟩)⟩
  · rw [if_neg hl] at t2 hq
    obtain ⟨a1, a2, a3, -, -⟩ := t2
    rw [a2]
    exact ⟨fun _ => hq _ a1 (fun h9 => absurd h9 hl), fun h9 => absurd (Int32.le_refl _) h9⟩
end RingR
