/-! ===== rings: the class ===== -/
def Eo (r st : Nat → Int32) (a b : Nat) : Bool := s_bit (s_oR r st a) b
theorem s_ob_bit {r L : Nat → Int32} {s m : Int32} (hv : VR r) : ∀ k, k ≤ nD r → ∀ b, b < 5 → (s_bit (s_ob r L s m k) b = true ↔ ∃ i, i < k ∧ s_due r L s i = true ∧ r (25 + 4 * i) = m ∧ r (26 + 4 * i) = nI b)
  | 0, _, b, hb => by
    show s_bit 0 b = true ↔ _
    rw [ps_bit0 (by omega)]
    exact ⟨fun h => absurd h (by decide), fun ⟨i, hi, _⟩ => absurd hi (by omega)⟩
  | k + 1, hk, b, hb => by
    have ih := s_ob_bit (L := L) (s := s) (m := m) hv k (by omega) b hb
    have h5 := hv.m5
    obtain ⟨⟨x, y, hx, hy, -, -, ey⟩, -⟩ := hv.debt (k := k) (by omega)
    have h1 := s_ob_s (L := L) (s := s) (m := m) hv k (by omega)
    have hp : sN (nM r) (1 <<< (nI y &&& 31)) := by
      rw [show (1 : Int32) <<< (nI y &&& 31) = nI (2 ^ y) from ps_sh_all ⟨y, by omega⟩]
      exact ⟨_, Nat.pow_lt_pow_right (by decide) hy, rfl⟩
    have hy2 : sN (nM r) (if s_due r L s k = true ∧ r (25 + 4 * k) = m then 1 <<< (r (26 + 4 * k) &&& 31) else 0) := by
      split
      · rw [ey]; exact hp
      · exact ⟨0, Nat.two_pow_pos _, rfl⟩
    show s_bit (s_ob r L s m k ||| _) b = true ↔ _
    rw [sN_bit h5 h1 hy2 hb, Bool.or_eq_true, ih]
    by_cases hc : s_due r L s k = true ∧ r (25 + 4 * k) = m
    · have e1 : s_bit (nI (2 ^ y)) b = (2 ^ y).testBit b := ps_tb ⟨2 ^ y, show 2 ^ y < 2 ^ 5 from Nat.pow_lt_pow_right (by decide) (by omega)⟩ ⟨b, hb⟩
      have e2 : (2 ^ y).testBit b = decide (y = b) := ps_tb2 ⟨y, by omega⟩ ⟨b, hb⟩
      rw [if_pos hc, ey, show (1 : Int32) <<< (nI y &&& 31) = nI (2 ^ y) from ps_sh_all ⟨y, by omega⟩, e1, e2, decide_eq_true_eq]
      constructor
      · rintro (⟨i, hi, h⟩ | rfl)
        · exact ⟨i, by omega, h⟩
        · exact ⟨k, by omega, hc.1, hc.2, ey⟩
      · rintro ⟨i, hi, h⟩
        rcases Nat.eq_or_lt_of_le (Nat.lt_succ_iff.mp hi) with rfl | h9
        · refine Or.inr ((nI_eq (by omega) (by omega)).mp ?_)
          rw [← ey]; exact h.2.2
        · exact Or.inl ⟨i, h9, h⟩
    · rw [if_neg hc, ps_bit0 (by omega)]
      constructor
      · rintro (⟨i, hi, h⟩ | h)
        · exact ⟨i, by omega, h⟩
        · exact absurd h (by decide)
      · rintro ⟨i, hi, h⟩
        rcases Nat.eq_or_lt_of_le (Nat.lt_succ_iff.mp hi) with rfl | h9
        · exact absurd ⟨h.1, h.2.1⟩ hc
        · exact Or.inl ⟨i, h9, h⟩
theorem Eo_iff {r st : Nat → Int32} (hv : VR r) {a b : Nat} (hb : b < 5) : Eo r st a b = true ↔ ∃ i, i < nD r ∧ s_due r st (st 12) i = true ∧ r (25 + 4 * i) = nI a ∧ r (26 + 4 * i) = nI b := s_ob_bit hv _ (Nat.le_refl _) b hb
theorem Eo_self {r st : Nat → Int32} (hv : VR r) {a : Nat} (ha : a < 5) : Eo r st a a = false := by
  rw [Bool.eq_false_iff]
  intro h
  obtain ⟨i, hi, -, e1, e2⟩ := (Eo_iff hv ha).mp h
  obtain ⟨⟨x, y, hx, hy, hne, ex, ey⟩, -⟩ := hv.debt hi
  have h5 := hv.m5
  rw [ex, nI_eq (by omega) (by omega)] at e1
  rw [ey, nI_eq (by omega) (by omega)] at e2
  omega
def sf (E : Nat → Nat → Bool) (S : Nat → Nat) (c : Nat) : Nat → Nat
  | 0 => 0
  | j + 1 => if E c j = true ∧ 0 < S j then (if sf E S c j = 0 then S j + 1 else min (sf E S c j) (S j + 1)) else sf E S c j
theorem sf_p {E : Nat → Nat → Bool} {S : Nat → Nat} {c : Nat} : ∀ J, (sf E S c J = 0 ∧ ∀ j, j < J → E c j = true → S j = 0) ∨ (0 < sf E S c J ∧ (∃ j, j < J ∧ E c j = true ∧ 0 < S j ∧ sf E S c J = S j + 1) ∧ ∀ j, j < J → E c j = true → 0 < S j → sf E S c J ≤ S j + 1)
  | 0 => Or.inl ⟨rfl, fun j hj => absurd hj (by omega)⟩
  | J + 1 => by
    have l : ∀ d, d < J + 1 → d = J ∨ d < J := fun d hd => by omega
    unfold sf
    by_cases hc : E c J = true ∧ 0 < S J
    · rw [if_pos hc]
      rcases sf_p (E := E) (S := S) (c := c) J with ⟨h1, h2⟩ | ⟨h1, ⟨j, hj, g1, g2, g3⟩, h3⟩
      · rw [if_pos h1]
        refine Or.inr ⟨by omega, ⟨J, by omega, hc.1, hc.2, rfl⟩, fun j hj a b => ?_⟩
        rcases l j hj with rfl | h9
        · exact Nat.le_refl _
        · have := h2 j h9 a; omega
      · rw [if_neg (by omega)]
        refine Or.inr ⟨by omega, ?_, fun j hj a b => ?_⟩
        · by_cases hm : sf E S c J ≤ S J + 1
          · exact ⟨j, by omega, g1, g2, by omega⟩
          · exact ⟨J, by omega, hc.1, hc.2, by omega⟩
        · rcases l j hj with rfl | h9
          · omega
          · have := h3 j h9 a b; omega
    · rw [if_neg hc]
      rcases sf_p (E := E) (S := S) (c := c) J with ⟨h1, h2⟩ | ⟨h1, ⟨j, hj, g1, g2, g3⟩, h3⟩
      · refine Or.inl ⟨h1, fun j hj a => ?_⟩
        rcases l j hj with rfl | h9
        · have := hc
          apply Classical.byContradiction
          intro h0
          exact hc ⟨a, by omega⟩
        · exact h2 j h9 a
      · refine Or.inr ⟨h1, ⟨j, by omega, g1, g2, g3⟩, fun j hj a b => ?_⟩
        rcases l j hj with rfl | h9
        · exact absurd ⟨a, b⟩ hc
        · exact h3 j h9 a b
theorem ps_m1 {a : Nat} (ha : a < 1000) : nI a - 1 = -1 ↔ a = 0 := by
  rw [show (-1 : Int32) = nI 0 - 1 from rfl]
  constructor
  · intro h
    have h2 : nI a - 1 + 1 = nI 0 - 1 + 1 := by rw [h]
    rw [Int32.sub_add_cancel, Int32.sub_add_cancel] at h2
    exact (nI_eq (by omega) (by omega)).mp h2
  · rintro rfl; rfl
theorem ps_m1e {a b : Nat} (ha : a < 1000) (hb : b < 1000) : nI a - 1 = nI b ↔ a = b + 1 := by
  rw [ps_sub1, nI_1]
  exact nI_eq (by omega) (by omega)
theorem ps_m1l {a b : Nat} (ha : a < 1000) (hb : b < 1000) : nI a - 1 ≤ nI b ↔ a ≤ b + 1 := by
  rw [Int32.le_iff_toInt_le, show nI a - 1 = nI a - nI 1 from rfl, pk_sub_toInt (by omega) (by omega), nI_toInt (by omega)]
  omega
/-- the measures of the rounds up to R -/
def DR (E : Nat → Nat → Bool) (N h R : Nat) (s m : Nat) : Prop := (s = 0 ∧ ∀ j, j ≤ R → ¬ wk E N h j m) ∨ ∃ j, j ≤ R ∧ s = j + 1 ∧ wk E N h j m ∧ ∀ i, i < j → ¬ wk E N h i m
section RingC
variable {G : GG} {n : Nat} {σ : SG} {τ : TU} {θ : TH} {f t : Nat} {r st row : Nat → Int32} {q : Int32 → Nat → SG → TU → TH → Prop} {qv : Nat → SG → TU → TH → Prop} {ql : Int64 → Nat → SG → TU → TH → Prop}
/-- the rows owed and stepsHome stand for E and S -/
def RW (σ : SG) (r st : Nat → Int32) (S : Nat → Nat) : Prop := ∀ m, m < nM r → σ 75 m = s_oR r st m ∧ σ 76 m = nI (S m) - 1 ∧ S m ≤ 6
theorem k6_stepsFrom {S : Nat → Nat} {c : Nat} (hf : isF f) (hW : aw_WT n θ) (hF : FR σ f r) (hv : VR r) (hc : c < nM r) (hR : RW σ r st S) (hq : q (nI (sf (Eo r st) S c (nM r)) - 1) n σ τ θ) : SMi G 1 mX6_stepsFrom 0 0 [.ref 73, .ref f, .int (nI c)] n σ τ θ q := by
  have h5 := hv.m5
  have e13 : σ f 13 = nI (nM r) := hF.1.2.2.2.2.1.trans hv.m
  refine ctX6_stepsFrom f _ (sgX6_stepsFrom_0 f _ (Nat.le_refl _) hf hW ?_)
  refine ps_up (N := nM r) (P := fun j => SW G 1 mX6_stepsFrom (aw_qi q) 0 0 5 [some (.ref 73), some (.ref f), some (.int (nI c)), some (.int (nI (sf (Eo r st) S c j) - 1)), some (.int (nI j)), none] [] (n, σ, τ, θ)) ?_ ?_ 0 (Nat.zero_le _)
  · exact sgX6_stepsFrom_5 f _ _ _ (Nat.le_refl _) hf hW (ps_done e13 hq)
  · intro j hj ih
    refine sgX6_stepsFrom_5 f _ _ _ (Nat.le_refl _) hf hW (ps_br e13 (by omega) (by omega) (fun h => absurd hj (by omega)) (fun _ => ⟨ps_in (by omega) (by decide), ps_in (by omega) (by decide), ?_⟩))
    obtain ⟨-, ej, bj⟩ := hR j hj
    rw [ps_cl (by omega), ps_cl (by omega), (hR c hc).1, ej, ← nI_succ, Int32.sub_add_cancel, ps_m1 (by omega)]
    simp only [sf] at ih
    have bs : sf (Eo r st) S c j ≤ 7 := by
      rcases sf_p (E := Eo r st) (S := S) (c := c) j with ⟨h1, -⟩ | ⟨-, ⟨i, hi, -, -, h1⟩, -⟩
      · omega
      · have := (hR i (by omega)).2.2; omega
    rw [ps_m1 (by omega), ps_m1l (by omega) (by omega)]
    refine ⟨fun h => ?_, fun h => ⟨fun h2 => ?_, fun h2 => ⟨fun h3 => ?_, fun h3 => ⟨fun h4 => ?_, fun h4 => ?_⟩⟩⟩⟩
    · rw [if_neg (fun e => ps_bitn.mpr e.1 h)] at ih
      exact ih
    · rw [if_neg (fun e => absurd e.2 (by omega))] at ih
      exact ih
    · rw [if_pos ⟨ps_bitn.mp h, by omega⟩, if_pos h3, nI_pred] at ih
      exact ih
    · rw [if_pos ⟨ps_bitn.mp h, by omega⟩, if_neg h3, Nat.min_eq_left h4] at ih
      exact ih
    · rw [if_pos ⟨ps_bitn.mp h, by omega⟩, if_neg h3, Nat.min_eq_right (by omega), nI_pred] at ih
      exact ih
theorem k6_firstTowards {S : Nat → Nat} {c v : Nat} (hf : isF f) (hW : aw_WT n θ) (hF : FR σ f r) (hv : VR r) (hc : c < nM r) (hv2 : v ≤ 10) (hR : RW σ r st S) (hq : ∀ x, ((∀ m, m < nM r → ¬ (Eo r st c m = true ∧ S m = v + 1)) ∨ ∃ m, m < nM r ∧ x = nI m ∧ (Eo r st c m = true ∧ S m = v + 1) ∧ ∀ e, e < m → ¬ (Eo r st c e = true ∧ S e = v + 1)) → q x n σ τ θ) : SMi G 1 mX6_firstTowards 0 0 [.ref 73, .ref f, .int (nI c), .int (nI v)] n σ τ θ q := by
  have h5 := hv.m5
  have e13 : σ f 13 = nI (nM r) := hF.1.2.2.2.2.1.trans hv.m
  refine ctX6_firstTowards f _ _ (sgX6_firstTowards_0 f _ _ (Nat.le_refl _) hf hW ?_)
  refine ps_up (N := nM r) (P := fun j => (∀ e, e < j → ¬ (Eo r st c e = true ∧ S e = v + 1)) → SW G 1 mX6_firstTowards (aw_qi q) 0 0 3 [some (.ref 73), some (.ref f), some (.int (nI c)), some (.int (nI v)), some (.int (nI j))] [] (n, σ, τ, θ)) ?_ ?_ 0 (Nat.zero_le _) (fun e he => absurd he (by omega))
  · intro h
    exact sgX6_firstTowards_3 f _ _ _ (Nat.le_refl _) hf hW (ps_done e13 (hq _ (Or.inl h)))
  · intro j hj ih hno
    refine sgX6_firstTowards_3 f _ _ _ (Nat.le_refl _) hf hW (ps_br e13 (by omega) (by omega) (fun h => absurd hj (by omega)) (fun _ => ⟨ps_in (by omega) (by decide), ?_⟩))
    obtain ⟨-, ej, bj⟩ := hR j hj
    rw [ps_cl (by omega), ps_cl (by omega), (hR c hc).1, ej, ← nI_succ, ps_m1e (by omega) (by omega)]
    have l : ¬ (Eo r st c j = true ∧ S j = v + 1) → ∀ e, e < j + 1 → ¬ (Eo r st c e = true ∧ S e = v + 1) := by
      intro h e he
      rcases Nat.eq_or_lt_of_le (Nat.lt_succ_iff.mp he) with rfl | h9
      · exact h
      · exact hno e h9
    refine ⟨fun h => ih (l (fun e => ps_bitn.mpr e.1 h)), fun h => ⟨ps_in (by omega) (by decide), fun h2 => ih (l (fun e => h2 e.2)), fun h2 => hq _ (Or.inr ⟨j, hj, rfl, ⟨ps_bitn.mp h, h2⟩, hno⟩)⟩⟩
theorem k6_measure {h : Nat} (hf : isF f) (hW : aw_WT n θ) (hF : FR σ f r) (hM : MR σ 6 st) (hv : VR r) (hh : h < nM r) (hq : ∀ σ' S, SC σ σ' → RW σ' r st S → DS (Eo r st) (nM r) h S → qv n σ' τ θ) : SMv G 3 mX6_measure 0 0 [.ref 73, .ref f, .ref 6, .int (nI h)] n σ τ θ qv := by
  have h5 := hv.m5
  refine ctX6_measure f 6 _ (sgX6_measure_0 f 6 _ (Nat.le_refl _) hf isM_now hW ?_)
  have p1 := ps_up (N := nM r) (P := fun j => ∀ σ1, SC σ σ1 → (∀ m, m < j → σ1 75 m = s_oR r st m ∧ σ1 76 m = nI (if m = h then 1 else 0) - 1) → SW G 3 mX6_measure (aw_qv qv) 0 0 3 [some (.ref 73), some (.ref f), some (.ref 6), some (.int (nI h)), some (.int (nI j)), none] [] (n, σ1, τ, θ)) ?_ ?_ 0 (Nat.zero_le _)
  · exact p1 σ (SC.refl σ) (fun m hm => absurd hm (by omega))
  · intro σ1 s1 hZ
    have e13 : σ1 f 13 = nI (nM r) := (s1.fr hf hF).1.2.2.2.2.1.trans hv.m
    refine sgX6_measure_3 f 6 _ _ (Nat.le_refl _) hf isM_now hW (ps_done e13 ?_)
    -- the rounds
    have p2 := ps_up (N := nM r - 1) (P := fun R => ∀ σ1 S, SC σ σ1 → RW σ1 r st S → (∀ m, m < nM r → DR (Eo r st) (nM r) h R (S m) m) → SW G 3 mX6_measure (aw_qv qv) 0 0 53 [some (.ref 73), some (.ref f), none, none, some (.int (nI (R + 1))), none] [] (n, σ1, τ, θ)) ?_ ?_ 0 (Nat.zero_le _)
    · refine p2 σ1 (fun m => if m = h then 1 else 0) s1 (fun m hm => ⟨(hZ m hm).1, (hZ m hm).2, by dsimp only; split <;> omega⟩) (fun m hm => ?_)
      by_cases hc : m = h
      · rw [if_pos hc]
        exact Or.inr ⟨0, Nat.le_refl _, rfl, hc, fun i hi => absurd hi (by omega)⟩
      · rw [if_neg hc]
        refine Or.inl ⟨rfl, fun j hj hw => ?_⟩
        rw [show j = 0 by omega] at hw
        exact hc hw
    · intro σ1 S s1 hR hD
      have e13 : σ1 f 13 = nI (nM r) := (s1.fr hf hF).1.2.2.2.2.1.trans hv.m
      refine sgX6_measure_53 f 6 _ (Nat.le_refl _) hf isM_now hW (ps_br e13 (by omega) (by omega) (fun _ => hq _ S s1 hR (fun m hm => ?_)) (fun h => absurd h (by omega)))
      rcases hD m hm with ⟨a, b⟩ | ⟨j, a, b, c⟩
      · exact Or.inl ⟨a, fun j hj => b j (by omega)⟩
      · exact Or.inr ⟨j, by omega, b, c⟩
    · intro R hRN ihR σ1 S s1 hR hD
      have e13 : σ1 f 13 = nI (nM r) := (s1.fr hf hF).1.2.2.2.2.1.trans hv.m
      refine sgX6_measure_53 f 6 _ (Nat.le_refl _) hf isM_now hW (ps_br e13 (by omega) (by omega) (fun h => absurd h (by omega)) (fun _ => ?_))
      have p3 := ps_up (N := nM r) (P := fun j => ∀ σ1 S, SC σ σ1 → RW σ1 r st S → (∀ m, m < j → DR (Eo r st) (nM r) h (R + 1) (S m) m) → (∀ m, j ≤ m → m < nM r → DR (Eo r st) (nM r) h R (S m) m) → SW G 3 mX6_measure (aw_qv qv) 0 0 65 [some (.ref 73), some (.ref f), none, none, some (.int (nI (R + 1))), some (.int (nI j))] [] (n, σ1, τ, θ)) ?_ ?_ 0 (Nat.zero_le _)
      · exact p3 σ1 S s1 hR (fun m hm => absurd hm (by omega)) (fun m _ hm => hD m hm)
      · intro σ1 S s1 hR hD1 _
        have e13 : σ1 f 13 = nI (nM r) := (s1.fr hf hF).1.2.2.2.2.1.trans hv.m
        refine sgX6_measure_65 f 6 _ _ (Nat.le_refl _) hf isM_now hW (ps_done e13 ?_)
        rw [← nI_succ]
        exact ihR σ1 S s1 hR hD1
      · intro j hj ih σ1 S s1 hR hD1 hD2
        have e13 : σ1 f 13 = nI (nM r) := (s1.fr hf hF).1.2.2.2.2.1.trans hv.m
        refine sgX6_measure_65 f 6 _ _ (Nat.le_refl _) hf isM_now hW (ps_br e13 (by omega) (by omega) (fun h => absurd hj (by omega)) (fun _ => ⟨ps_in (by omega) (by decide), ?_⟩))
        obtain ⟨-, ej, bj⟩ := hR j hj
        rw [ps_cl (by omega), ej, ← nI_succ j, ps_m1 (by omega)]
        have hb : ∀ m, m < nM r → (S m = 0 ∧ ∀ i, i ≤ R → ¬ wk (Eo r st) (nM r) h i m) ∨ ∃ i, S m = i + 1 ∧ wk (Eo r st) (nM r) h i m := by
          intro m hm
          by_cases hmj : m < j
          · rcases hD1 m hmj with ⟨a, b⟩ | ⟨i, a, b, c, -⟩
            · exact Or.inl ⟨a, fun i hi => b i (by omega)⟩
            · exact Or.inr ⟨i, b, c⟩
          · rcases hD2 m (by omega) hm with ⟨a, b⟩ | ⟨i, a, b, c, -⟩
            · exact Or.inl ⟨a, b⟩
            · exact Or.inr ⟨i, b, c⟩
        refine ⟨fun h0 => ih σ1 S s1 hR (fun m hm => ?_) (fun m h1 h2 => hD2 m (by omega) h2), fun h0 => ?_⟩
        · rcases Nat.eq_or_lt_of_le (Nat.lt_succ_iff.mp hm) with rfl | h9
          · rcases hD2 m (Nat.le_refl _) hj with ⟨a, b⟩ | ⟨i, a, b, c⟩
            · exact absurd a h0
            · exact Or.inr ⟨i, by omega, b, c⟩
          · exact hD1 m h9
        · refine k6_stepsFrom hf hW (s1.fr hf hF) hv hj hR ⟨hW, ?_⟩
          have nw : ∀ i, i ≤ R → ¬ wk (Eo r st) (nM r) h i j := by
            rcases hD2 j (Nat.le_refl _) hj with ⟨a, b⟩ | ⟨i, a, b, c, -⟩
            · exact b
            · omega
          have bs : sf (Eo r st) S j (nM r) ≤ 7 := by
            rcases sf_p (E := Eo r st) (S := S) (c := j) (nM r) with ⟨h1, -⟩ | ⟨-, ⟨i, hi, -, -, h1⟩, -⟩
            · omega
            · have := (hR i hi).2.2; omega
          have low : ∀ x, x < nM r → Eo r st j x = true → 0 < S x → R + 1 ≤ S x := by
            intro x hx hE h1
            rcases hb x hx with ⟨a, -⟩ | ⟨i, a, b⟩
            · omega
            · apply Classical.byContradiction
              intro hc
              exact nw (i + 1) (by omega) ⟨x, hx, hE, b⟩
          rw [ps_m1e (by omega) (by omega)]
          refine ⟨fun h1 => ih σ1 S s1 hR (fun m hm => ?_) (fun m h1 h2 => hD2 m (by omega) h2), fun h1 => ⟨ps_in (by omega) (by decide), ?_⟩⟩
          · rcases Nat.eq_or_lt_of_le (Nat.lt_succ_iff.mp hm) with rfl | h9
            · refine Or.inl ⟨h0, fun i hi hw => ?_⟩
              rcases Nat.eq_or_lt_of_le hi with rfl | h8
              · obtain ⟨x, hx, hE, hw2⟩ := hw
                have h2 : 0 < S x ∧ S x ≤ R + 1 := by
                  by_cases hxj : x < m
                  · rcases hD1 x hxj with ⟨a, b⟩ | ⟨i, a, b, c, d⟩
                    · exact absurd hw2 (b R (by omega))
                    · refine ⟨by omega, ?_⟩
                      apply Classical.byContradiction
                      intro hc
                      exact d R (by omega) hw2
                  · rcases hD2 x (by omega) hx with ⟨a, b⟩ | ⟨i, a, b, c, d⟩
                    · exact absurd hw2 (b R (by omega))
                    · exact ⟨by omega, by omega⟩
                rcases sf_p (E := Eo r st) (S := S) (c := m) (nM r) with ⟨g1, g2⟩ | ⟨g1, ⟨y, hy, y1, y2, y3⟩, g3⟩
                · have := g2 x hx hE; omega
                · have := g3 x hx hE h2.1
                  have := low y hy y1 y2
                  omega
              · exact nw i (by omega) hw
            · exact hD1 m h9
          · have hwj : wk (Eo r st) (nM r) h (R + 1) j := by
              rcases sf_p (E := Eo r st) (S := S) (c := j) (nM r) with ⟨g1, g2⟩ | ⟨g1, ⟨y, hy, y1, y2, y3⟩, g3⟩
              · omega
              · rcases hb y hy with ⟨a, -⟩ | ⟨i, a, b⟩
                · omega
                · rw [show R = i by omega]
                  exact ⟨y, hy, y1, b⟩
            refine ih _ (fun m => if m = j then R + 2 else S m) (s1.up (by omega) (by omega)) (fun m hm => ?_) (fun m hm => ?_) (fun m h2 h3 => ?_)
            · rw [aw_uo (by decide)]
              refine ⟨(hR m hm).1, ?_, ?_⟩
              · dsimp only
                by_cases hmj : m = j
                · rw [if_pos hmj, hmj, aw_u_eq]
                  exact (nI_pred (R + 1)).symm
                · rw [if_neg hmj, aw_u_nk hmj]
                  exact (hR m hm).2.1
              · dsimp only
                split
                · omega
                · exact (hR m hm).2.2
            · by_cases hmj : m = j
              · rw [if_pos hmj, hmj]
                exact Or.inr ⟨R + 1, Nat.le_refl _, rfl, hwj, fun i hi => nw i (by omega)⟩
              · rw [if_neg hmj]
                exact hD1 m (by omega)
            · rw [if_neg (by omega)]
              exact hD2 m (by omega) h3
  · intro j hj ih σ1 s1 hZ
    have e13 : σ1 f 13 = nI (nM r) := (s1.fr hf hF).1.2.2.2.2.1.trans hv.m
    refine sgX6_measure_3 f 6 _ _ (Nat.le_refl _) hf isM_now hW (ps_br e13 (by omega) (by omega) (fun h => absurd hj (by omega)) (fun _ => ?_))
    refine k1_owedBits hf isM_now hW (s1.fr hf hF) (s1.mr hM) hv ⟨hW, ps_in (by omega) (by decide), ?_⟩
    rw [ps_cl (by omega), ← nI_succ, nI_eq (by omega) (by omega)]
    have fin : ∀ v : Nat, (v = if j = h then 1 else 0) → ∀ m, m < j + 1 → (aw_u (aw_u σ1 75 j (s_oR r st j)) 76 j (nI v - 1)) 75 m = s_oR r st m ∧ (aw_u (aw_u σ1 75 j (s_oR r st j)) 76 j (nI v - 1)) 76 m = nI (if m = h then 1 else 0) - 1 := by
      intro v hv3 m hm
      rw [aw_uo (by decide)]
      by_cases hmj : m = j
      · rw [hmj, aw_u_eq, aw_u_eq, hv3]
        exact ⟨rfl, rfl⟩
      · rw [aw_u_nk hmj, aw_u_nk hmj, aw_uo (by decide)]
        exact hZ m (by omega)
    refine ⟨fun h1 => ⟨ps_in (by omega) (by decide), ih _ ((s1.up (by omega) (by omega)).up (by omega) (by omega)) (fin 0 (by rw [if_neg h1]))⟩, fun h1 => ⟨ps_in (by omega) (by decide), ih _ ((s1.up (by omega) (by omega)).up (by omega) (by omega)) (fin 1 (by rw [if_pos h1]))⟩⟩
def fT (r st : Nat → Int32) (h : Nat) : Nat := fr (Eo r st) (nM r) h (nM r - 1) 1 (2 ^ h) h
def pT (r st : Nat → Int32) (h : Nat) : Nat → Int32 := pr (Eo r st) (nM r) h (nM r - 1) 1 (2 ^ h) h (fun _ => nI h)
theorem k6_find {h : Nat} (hf : isF f) (hW : aw_WT n θ) (hF : FR σ f r) (hM : MR σ 6 st) (hv : VR r) (hh : h < nM r) (hq : ∀ σ', SC σ σ' → (fT r st h < 1000000 → σ' 73 1 = nI (fT r st h) ∧ fT r st h ≤ 5 ∧ 2 ≤ fT r st h ∧ ∀ j, j < fT r st h → σ' 74 j = pT r st h j) → q (if fT r st h < 1000000 then 1 else 0) n σ' τ θ) : SMi G 4 mX6_find 0 0 [.ref 73, .ref f, .ref 6, .int (nI h)] n σ τ θ q := by
  have h5 := hv.m5
  refine ctX6_find f 6 _ (sgX6_find_0 f 6 _ (Nat.le_refl _) hf isM_now hW ?_)
  refine k6_measure hf hW hF hM hv hh (fun σ1 S s1 hR hD => ⟨hW, ?_⟩)
  refine k6_stepsFrom hf hW (s1.fr hf hF) hv hh hR ⟨hW, ?_⟩
  have bs : sf (Eo r st) S h (nM r) ≤ 7 := by
    rcases sf_p (E := Eo r st) (S := S) (c := h) (nM r) with ⟨h1, -⟩ | ⟨-, ⟨i, hi, -, -, h1⟩, -⟩
    · omega
    · have := (hR i hi).2.2; omega
  rw [ps_m1 (by omega)]
  rcases sf_p (E := Eo r st) (S := S) (c := h) (nM r) with ⟨g1, g2⟩ | ⟨g1, ⟨y, hy, y1, y2, y3⟩, g3⟩
  · have hno : ¬ fT r st h < 1000000 := nc_none hh hD (by omega) g2
    rw [if_neg hno] at hq
    refine ⟨fun h1 => absurd g1 h1, fun _ => ?_⟩
    have e0 : (aw_u σ1 73 1 0) 73 1 = 0 := aw_u_eq
    refine sgX6_find_41 f 6 _ _ (Nat.le_refl _) hf isM_now hW ⟨fun _ => ⟨fun _ => hq _ (s1.up (by omega) (by omega)) (fun h2 => absurd h2 hno), fun h1 => absurd (by rw [e0]; decide) h1⟩, fun h1 => absurd (by rw [e0]; decide) h1⟩
  · have y4 : y ≠ h := fun e => by subst e; rw [Eo_self hv (by omega)] at y1; exact absurd y1 (by decide)
    obtain ⟨rem, hrem⟩ : ∃ rem, rem + 1 + 1 = nM r := ⟨nM r - 2, by omega⟩
    obtain ⟨t1, t2, t3, t4, t5⟩ := nc_top (rem := rem) (l := S y) hh (by omega) hD (Eo_self hv (by omega)) hrem (fun m hm hE h0 => by have := g3 m hm hE h0; omega) ⟨y, hy, y1, rfl⟩ y2
    have ef : fT r st h = S y := by unfold fT; rw [show nM r - 1 = rem + 1 by omega]; exact t1
    have ep : pT r st h = pr (Eo r st) (nM r) h (rem + 1) 1 (2 ^ h) h (fun _ => nI h) := by unfold pT; rw [show nM r - 1 = rem + 1 by omega]
    rw [if_pos (by omega)] at hq
    generalize hl : S y = l at *
    refine ⟨fun _ => ?_, fun h1 => absurd h1 (by omega)⟩
    rw [y3, nI_pred, if_neg (show ¬ (5 : Int32) < nI l from nI_nlt (a := 5) (by omega) (by omega))]
    have s2 : SC σ (aw_u σ1 73 1 (nI l)) := s1.up (by omega) (by omega)
    have hR2 : RW (aw_u σ1 73 1 (nI l)) r st S := fun m hm => by rw [aw_uo (by decide), aw_uo (by decide)]; exact hR m hm
    have hl2 : (aw_u σ1 73 1 (nI l)) 73 1 = nI l := aw_u_eq
    generalize aw_u σ1 73 1 (nI l) = σ2 at s2 hR2 hl2 ⊢
    -- from a node on the way
    have fin : ∀ σ3, SC σ σ3 → σ3 73 1 = nI l → (∀ j, j < l → σ3 74 j = pT r st h j) → ∀ x, SW G 4 mX6_find (aw_qi q) 0 0 41 [some (.ref 73), some (.ref f), none, none, none, some (.int x), some (.int (nI l))] [] (n, σ3, τ, θ) := by
      intro σ3 s3 e3 h3 x
      refine sgX6_find_41 f 6 _ _ (Nat.le_refl _) hf isM_now hW (ps_done e3 ⟨fun h1 => absurd h1 ?_, fun _ => hq _ s3 (fun _ => ⟨by rw [e3, ef], by omega, by omega, fun j hj => h3 j (by omega)⟩)⟩)
      rw [e3]
      exact nI_nle (by omega) (by omega)
    have key : ∀ e rem k met c (w : Nat → Int32) σ2, NC (Eo r st) (nM r) h S rem k met c e → k + e = l → SC σ σ2 → RW σ2 r st S → σ2 73 1 = nI l → (∀ j, j < k - 1 → σ2 74 j = w j) → w (k - 1) = nI c → pT r st h = pr (Eo r st) (nM r) h rem k met c w → SW G 4 mX6_find (aw_qi q) 0 0 41 [some (.ref 73), some (.ref f), none, none, none, some (.int (nI c)), some (.int (nI (k - 1)))] [] (n, σ2, τ, θ) := by
      intro e
      induction e with
      | zero =>
        intro rem k met c w σ2 hn hke s2 hR2 hl2 hw hwk hp
        have hfr := nc_fr hh (by omega) hD _ _ _ _ _ hn
        obtain ⟨n1, n2, n3, n4, n5, n6, n7⟩ := hn
        obtain ⟨d1, ⟨x, hx, hE, (rfl : x = h)⟩, -⟩ := hD.n n3 n4
        have ho : rown (Eo r st) x k c = k := if_pos ⟨n1, hE⟩
        refine sgX6_find_41 f 6 _ _ (Nat.le_refl _) hf isM_now hW (ps_br hl2 (by omega) (by omega) (fun h1 => absurd h1 (by omega)) (fun _ => ⟨fun h1 => ?_, fun _ => ⟨ps_in (by omega) (by decide), ?_⟩⟩))
        · exact absurd h1 (by intro e2; have h1 := nI_pos (n := c) (by omega); rw [e2] at h1; exact h1 (by decide))
        · rw [ps_cl (by omega), aw_uo (by decide), hl2, ← nI_succ, show k - 1 + 1 = l by omega, show nI l - 1 = nI (l - 1) from pk_sub (b := 1) (by omega), pk_sub (by omega)]
          have s3 : SC σ (aw_u σ2 74 (k - 1) (nI c)) := s2.up (by omega) (by omega)
          refine k6_firstTowards hf hW (s3.fr hf hF) hv n3 (by omega) (fun m hm => by rw [aw_uo (by decide), aw_uo (by decide)]; exact hR2 m hm) (fun x1 _ => ⟨hW, fin _ s3 (by rw [aw_uo (by decide)]; exact hl2) (fun j hj => ?_) x1⟩)
          have hpw : pT r st x = w := by
            rw [hp]
            cases rem with
            | zero => rfl
            | succ rem => simp only [pr]; rw [if_pos (by omega)]
          rw [hpw]
          by_cases hjk : j = k - 1
          · rw [hjk, aw_u_eq]; exact hwk.symm
          · rw [aw_u_nk hjk]; exact hw j (by omega)
      | succ e ihe =>
        intro rem k met c w σ2 hn hke s2 hR2 hl2 hw hwk hp
        have hn0 := hn
        obtain ⟨n1, n2, n3, n4, n5, n6, n7⟩ := hn0
        obtain ⟨rem, rfl⟩ : ∃ rem', rem = rem' + 1 := ⟨rem - 1, by omega⟩
        obtain ⟨a1, a2, a3, a4⟩ := nc_step hh (by omega) hD hn
        refine sgX6_find_41 f 6 _ _ (Nat.le_refl _) hf isM_now hW (ps_br hl2 (by omega) (by omega) (fun h1 => absurd h1 (by omega)) (fun _ => ⟨fun h1 => ?_, fun _ => ⟨ps_in (by omega) (by decide), ?_⟩⟩))
        · exact absurd h1 (by intro e2; have h1 := nI_pos (n := c) (by omega); rw [e2] at h1; exact h1 (by decide))
        · rw [ps_cl (by omega), aw_uo (by decide), hl2, ← nI_succ, show k - 1 + 1 = k by omega, show nI l - 1 = nI (l - 1) from pk_sub (b := 1) (by omega), pk_sub (by omega)]
          have s3 : SC σ (aw_u σ2 74 (k - 1) (nI c)) := s2.up (by omega) (by omega)
          have hR3 : RW (aw_u σ2 74 (k - 1) (nI c)) r st S := fun m hm => by rw [aw_uo (by decide), aw_uo (by decide)]; exact hR2 m hm
          refine k6_firstTowards hf hW (s3.fr hf hF) hv n3 (by omega) hR3 (fun x1 hx1 => ⟨hW, ?_⟩)
          rcases hx1 with hx1 | ⟨m, hm, rfl, hm2, hm3⟩
          · obtain ⟨m, hm, b1, b2⟩ := a4
            exact absurd ⟨b1, by omega⟩ (hx1 m hm)
          · have hs : S m = e + 2 := by omega
            have efs : s_fs (prp (Eo r st) (nM r) h rem k met c) (nM r) 0 = m := s_fs_1 (nM r) 0 (Nat.zero_le _) (by omega) ((a2 m hm).mpr ⟨hm2.1, hs⟩) (fun e2 _ he2 hp2 => by
              obtain ⟨c1, c2⟩ := (a2 e2 (by omega)).mp hp2
              exact hm3 e2 he2 ⟨c1, by omega⟩)
            have := ihe rem (k + 1) (met ||| 2 ^ m) m (pu w k (nI m)) _ (a3 m hm hm2.1 hs) (by omega) s3 hR3 (by rw [aw_uo (by decide)]; exact hl2) (fun j hj => ?_) ?_ ?_
            · exact this
            · rw [show k + 1 - 1 = k by omega] at hj
              rw [show pu w k (nI m) j = w j from if_neg (by omega)]
              by_cases hjk : j = k - 1
              · rw [hjk, aw_u_eq]; exact hwk.symm
              · rw [aw_u_nk hjk]; exact hw j (by omega)
            · exact if_pos (by omega)
            · rw [hp]
              show (if _ then _ else _) = _
              rw [if_neg a1, efs]
    -- the first step
    refine sgX6_find_41 f 6 _ _ (Nat.le_refl _) hf isM_now hW (ps_br (j := 0) hl2 (by omega) (by omega) (fun h1 => absurd h1 (by omega)) (fun _ => ⟨fun h1 => ?_, fun _ => ⟨ps_in (i := 0) (by omega) (by decide), ?_⟩⟩))
    · exact absurd h1 (by intro e2; have h1 := nI_pos (n := h) (by omega); rw [e2] at h1; exact h1 (by decide))
    · have s3 : SC σ (aw_u σ2 74 0 (nI h)) := s2.up (by omega) (by omega)
      have hR3 : RW (aw_u σ2 74 0 (nI h)) r st S := fun m hm => by rw [aw_uo (by decide), aw_uo (by decide)]; exact hR2 m hm
      show SMi G 1 mX6_firstTowards 0 0 [.ref 73, .ref f, .int (nI h), .int ((aw_u σ2 74 0 (nI h)) 73 1 - 1 - nI 0)] n (aw_u σ2 74 0 (nI h)) τ θ _
      rw [aw_uo (by decide), hl2, show nI l - 1 = nI (l - 1) from pk_sub (b := 1) (by omega), pk_sub (by omega)]
      refine k6_firstTowards hf hW (s3.fr hf hF) hv hh (by omega) hR3 (fun x1 hx1 => ⟨hW, ?_⟩)
      rcases hx1 with hx1 | ⟨m, hm, rfl, hm2, hm3⟩
      · exact absurd ⟨y1, by omega⟩ (hx1 y hy)
      · have hs : S m = l := by omega
        have efs : s_fs (prp (Eo r st) (nM r) h rem 1 (2 ^ h) h) (nM r) 0 = m := s_fs_1 (nM r) 0 (Nat.zero_le _) (by omega) ((t4 m hm).mpr ⟨hm2.1, hs⟩) (fun e2 _ he2 hp2 => by
          obtain ⟨c1, c2⟩ := (t4 e2 (by omega)).mp hp2
          exact hm3 e2 he2 ⟨c1, by omega⟩)
        refine key (l - 2) rem 2 (2 ^ h ||| 2 ^ m) m (pu (fun _ => nI h) 1 (nI m)) _ (t5 m hm hm2.1 hs) (by omega) s3 hR3 (by rw [aw_uo (by decide)]; exact hl2) (fun j hj => ?_) rfl ?_
        · rw [show j = 0 by omega, aw_u_eq]
          rfl
        · rw [ep]
          show (if _ then _ else _) = _
          rw [if_neg (fun e2 => ?_), efs]
          have : rown (Eo r st) h 1 h = 1000000 := if_neg (fun e => absurd e.1 (by omega))
          rw [t1] at e2
          omega
end RingC
