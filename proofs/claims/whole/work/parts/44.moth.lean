/-! ===== moments copied; moths ===== -/
theorem isM.r {t : Nat} (h : isM t) : t % 3 = 0 ∧ 6 ≤ t ∧ t ≤ 81 := by
  unfold isM at h
  simp only [List.mem_cons, List.not_mem_nil, or_false] at h
  omega
section Moth
variable {G : GG} {n : Nat} {σ : SG} {τ : TU} {θ : TH} {f t t1 : Nat} {r st row : Nat → Int32} {q : Int32 → Nat → SG → TU → TH → Prop} {qv : Nat → SG → TU → TH → Prop} {ql : Int64 → Nat → SG → TU → TH → Prop}
theorem k2_copyOf (ht : isM t) (ht1 : isM t1) (hne : t ≠ t1) (hW : aw_WT n θ) (hM : MR σ t1 row) (hq : ∀ σ', (∀ o, (o < t ∨ t + 2 < o) → σ' o = σ o) → MR σ' t row → qv n σ' τ θ) : SMv G 1 mX2_copyOf 0 0 [.ref t, .ref t1] n σ τ θ qv := by
  have r1 := ht.r
  have r2 := ht1.r
  refine ctX2_copyOf t t1 (sgX2_copyOf_0 t t1 (Nat.le_refl _) ht ht1 hW ?_)
  refine ps_up (N := 5) (P := fun j => ∀ σ1, (∀ o, (o < t ∨ t + 2 < o) → σ1 o = σ o) → (∀ m, m < j → σ1 (t + 1) m = row (7 + m)) → SW G 1 mX2_copyOf (aw_qv qv) 0 0 2 [some (.ref t), some (.ref t1), some (.int (nI j))] [] (n, σ1, τ, θ)) ?_ ?_ 0 (Nat.zero_le _) σ (fun _ _ => rfl) (fun m hm => absurd hm (by omega))
  · intro σ1 h1 hp
    refine sgX2_copyOf_2 t t1 _ (Nat.le_refl _) ht ht1 hW (ps_br (c := 5) (N := 5) rfl (by omega) (by omega) (fun _ => ?_) (fun h => absurd h (by omega)))
    refine ps_up (N := 7) (P := fun j => ∀ σ1, (∀ o, (o < t ∨ t + 2 < o) → σ1 o = σ o) → (∀ m, m < 5 → σ1 (t + 1) m = row (7 + m)) → (∀ k, k < j → σ1 (t + 2) k = row k) → SW G 1 mX2_copyOf (aw_qv qv) 0 0 27 [some (.ref t), some (.ref t1), some (.int (nI j))] [] (n, σ1, τ, θ)) ?_ ?_ 0 (Nat.zero_le _) σ1 h1 hp (fun m hm => absurd hm (by omega))
    · intro σ1 h1 hp hl
      refine sgX2_copyOf_27 t t1 _ (Nat.le_refl _) ht ht1 hW (ps_br (c := 7) (N := 7) rfl (by omega) (by omega) (fun _ => ?_) (fun h => absurd h (by omega)))
      refine hq _ (fun o ho => (aw_uo (by omega)).trans (h1 o ho)) ⟨fun m hm => ?_, fun k hk => ?_, ?_⟩
      · rw [aw_uo (by omega)]; exact hp m hm
      · rw [aw_uo (by omega)]; exact hl k hk
      · rw [aw_u_eq, h1 t1 (by omega)]; exact hM.2.2
    · intro j hj ih σ1 h1 hp hl
      refine sgX2_copyOf_27 t t1 _ (Nat.le_refl _) ht ht1 hW (ps_br (c := 7) (N := 7) rfl (by omega) (by omega) (fun h => absurd h (by omega)) (fun _ => ⟨ps_in hj (by decide), ps_in hj (by decide), ?_⟩))
      rw [ps_cl (by omega), ← nI_succ]
      refine ih _ (fun o ho => (aw_uo (by omega)).trans (h1 o ho)) (fun m hm => ?_) (fun k hk => ?_)
      · rw [aw_uo (by omega)]; exact hp m hm
      · by_cases h : k = j
        · rw [h, aw_u_eq, h1 (t1 + 2) (by omega)]; exact hM.2.1 j hj
        · rw [aw_u_nk h]; exact hl k (by omega)
  · intro j hj ih σ1 h1 hp
    refine sgX2_copyOf_2 t t1 _ (Nat.le_refl _) ht ht1 hW (ps_br (c := 5) (N := 5) rfl (by omega) (by omega) (fun h => absurd h (by omega)) (fun _ => ⟨ps_in hj (by decide), ps_in hj (by decide), ?_⟩))
    rw [ps_cl (by omega), ← nI_succ]
    refine ih _ (fun o ho => (aw_uo (by omega)).trans (h1 o ho)) (fun m hm => ?_)
    by_cases h : m = j
    · rw [h, aw_u_eq, h1 (t1 + 1) (by omega)]; exact hM.1 j hj
    · rw [aw_u_nk h]; exact hp m (by omega)
/-! the flight -/
def eatK (r L : Nat → Int32) (m : Int32) (k : Nat) : Bool := decide (s_due r L (L 12) k = true ∧ r (25 + 4 * k) = m)
def eatX (r L : Nat → Int32) (k : Nat) : Int32 := if r 0 ≤ L k then r 0 else L k
def eatP (r : Nat → Int32) (m : Int32) (S : (Nat → Int32) × Int32) : (Nat → Int32) × Int32 := if s_fs (eatK r S.1 m) (nD r) 0 < nD r then (pu S.1 (s_fs (eatK r S.1 m) (nD r) 0) (S.1 (s_fs (eatK r S.1 m) (nD r) 0) - eatX r S.1 (s_fs (eatK r S.1 m) (nD r) 0)), S.2 + eatX r S.1 (s_fs (eatK r S.1 m) (nD r) 0)) else S
def LB (L : Nat → Int32) : Prop := ∀ k, k < 7 → bI (L k) 0 99
theorem eatP_b (hv : VR r) {m : Int32} {S : (Nat → Int32) × Int32} (h : LB S.1) : LB (eatP r m S).1 := by
  unfold eatP
  split
  · rename_i hk
    generalize s_fs (eatK r S.1 m) (nD r) 0 = j at hk
    intro k hk2
    show bI (if k = j then _ else _) 0 99
    split
    · have t20 := hv.t20
      have d7 := hv.d7
      obtain ⟨a, -, ha, ea⟩ := h j (by omega)
      unfold eatX
      rw [ea, hv.t]
      split
      · rename_i hle
        have := (nI_leI (by omega) (by omega)).mp hle
        rw [pk_sub this]
        exact ⟨_, Nat.zero_le _, by omega, rfl⟩
      · rw [Int32.sub_self]
        exact ⟨0, by omega, by omega, rfl⟩
    · exact h k hk2
  · exact h
theorem k3_eatFirst {σ0 : SG} {m : Int32} {S : (Nat → Int32) × Int32} (hf : isF f) (hW : aw_WT n θ) (hF : FR σ0 f r) (hv : VR r) (s0 : SC σ0 σ) (hM : MR σ 81 S.1) (hl : σ 80 1 = S.2) (hq : ∀ σ', SC σ0 σ' → MR σ' 81 (eatP r m S).1 → σ' 80 1 = (eatP r m S).2 → qv n σ' τ θ) : SMv G 2 mX3_eatFirst 0 0 [.ref 80, .ref f, .int m] n σ τ θ qv := by
  have h7 := hv.d7
  have hF := s0.fr hf hF
  have e5 : σ (f + 8) 4 = nI (nD r) := hF.1.2.2.2.2.2.1.trans hv.d
  refine ctX3_eatFirst f _ (sgX3_eatFirst_0 f _ (Nat.le_refl _) hf hW ?_)
  refine ps_up (N := nD r) (P := fun j => (∀ e, e < j → ¬ eatK r S.1 m e = true) → SW G 2 mX3_eatFirst (aw_qv qv) 0 0 2 [some (.ref 80), some (.ref f), some (.int m), some (.int (nI j)), none] [] (n, σ, τ, θ)) ?_ ?_ 0 (Nat.zero_le _) (fun e he => absurd he (by omega))
  · intro hno
    have hz : ∀ D i, i + D = nD r → s_fs (eatK r S.1 m) D i = nD r := by
      intro D
      induction D with
      | zero => intro i hi; exact hi
      | succ D ih =>
        intro i hi
        unfold s_fs
        rw [if_neg (hno i (by omega))]
        exact ih (i + 1) (by omega)
    have eP : eatP r m S = S := by
      unfold eatP
      rw [hz (nD r) 0 (by omega), if_neg (by omega)]
    rw [eP] at hq
    exact sgX3_eatFirst_2 f _ _ (Nat.le_refl _) hf hW (ps_done e5 (hq _ s0 hM hl))
  · intro j hj ih hno
    refine sgX3_eatFirst_2 f _ _ (Nat.le_refl _) hf hW (ps_br e5 (by omega) (by omega) (fun h => absurd h (by omega)) (fun _ => ⟨ps_in (by omega) (by decide), ?_⟩))
    have l : ¬ eatK r S.1 m j = true → ∀ e, e < j + 1 → ¬ eatK r S.1 m e = true := by
      intro h e he
      rcases Nat.eq_or_lt_of_le (Nat.lt_succ_iff.mp he) with rfl | h9
      · exact h
      · exact hno e h9
    have ek : eatK r S.1 m j = true ↔ s_due r S.1 (S.1 12) j = true ∧ r (25 + 4 * j) = m := by unfold eatK; rw [decide_eq_true_eq]
    rw [ps_cl (by omega), (hF.2.2.2.2.1 j hj).1, ← nI_succ, hM.2.2]
    refine ⟨fun h => ih (l (fun e => h (ek.mp e).2)), fun h => ?_⟩
    refine k1_isDue hf isM_dream hW hF hM hv hj ⟨hW, ps_b (fun h2 => ih (l (fun e => h2 (ek.mp e).1))) (fun h2 => ⟨ps_in (by omega) (by decide), ps_in (by omega) (by decide), ps_in (by omega) (by decide), ?_⟩)⟩
    have hfs : s_fs (eatK r S.1 m) (nD r) 0 = j := s_fs_1 (nD r) 0 (Nat.zero_le _) (by omega) (ek.mpr ⟨h2, h⟩) (fun e _ he => hno e he)
    have eP : eatP r m S = (pu S.1 j (S.1 j - eatX r S.1 j), S.2 + eatX r S.1 j) := by
      unfold eatP
      rw [hfs, if_pos hj]
    rw [eP] at hq
    have e83 : σ 83 j = S.1 j := hM.2.1 j (by omega)
    have ex : (if S.1 j < r 0 then S.1 j else r 0) = eatX r S.1 j := by
      unfold eatX
      by_cases hc : r 0 ≤ S.1 j
      · rw [if_pos hc, if_neg (Int32.not_lt.mpr hc)]
      · rw [if_neg hc, if_pos (Int32.not_le.mp hc)]
    rw [hF.1.1, e83, ex]
    refine hq _ ((s0.up (by omega) (by omega)).up (by omega) (by omega)) ⟨fun m hm => ?_, fun k hk => ?_, ?_⟩ ?_
    · rw [aw_uo (by decide), aw_uo (by decide)]
      exact (hM.1 m hm).trans (if_neg (by omega)).symm
    · rw [aw_uo (by decide)]
      by_cases hc : k = j
      · rw [hc, aw_u_eq]; exact (if_pos rfl).symm
      · rw [aw_u_nk hc]; exact (hM.2.1 k hk).trans (if_neg hc).symm
    · rw [aw_uo (by decide), aw_uo (by decide)]
      exact hM.2.2.trans (if_neg (by omega)).symm
    · rw [aw_u_eq, aw_uo (by decide), hl]
def dwX (x : Int32) : Int32 := ((75 : Int32) * x + 74) - ((75 : Int32) * x + 74) / 65537 * 65537
def dwC (x : Int32) : Int32 := dwX x - dwX x / 100 * 100

def flM (r : Nat → Int32) : Nat → ((Nat → Int32) × Int32) × Int32 → ((Nat → Int32) × Int32) × Int32
  | 0, S => S
  | m + 1, S => if s_hd r (flM r m S).1.1 ((flM r m S).1.1 12) m = 0 then flM r m S else if r 3 ≤ dwC (flM r m S).2 then ((flM r m S).1, dwX (flM r m S).2) else (eatP r (nI m) (flM r m S).1, dwX (flM r m S).2)
def flB (S : ((Nat → Int32) × Int32) × Int32) : ((Nat → Int32) × Int32) × Int32 := ((pu S.1.1 12 (S.1.1 12 + 1), S.1.2), S.2)
def flS (r : Nat → Int32) : Nat → ((Nat → Int32) × Int32) × Int32 → ((Nat → Int32) × Int32) × Int32
  | 0, S => S
  | i + 1, S => flM r (nM r) (flB (flS r i S))
theorem flM_b (hv : VR r) {S : ((Nat → Int32) × Int32) × Int32} (h : LB S.1.1) : ∀ m, LB (flM r m S).1.1
  | 0 => h
  | m + 1 => by
    have ih := flM_b hv h m
    unfold flM
    split
    · exact ih
    · split
      · exact ih
      · exact eatP_b hv ih
theorem flB_12 (S : ((Nat → Int32) × Int32) × Int32) : (flB S).1.1 12 = S.1.1 12 + 1 := by
  show (if (12 : Nat) = 12 then S.1.1 12 + 1 else S.1.1 12) = _
  exact if_pos rfl
theorem flB_b {S : ((Nat → Int32) × Int32) × Int32} (h : LB S.1.1) : LB (flB S).1.1 := fun k hk => by
  show bI (if k = 12 then _ else _) 0 99
  rw [if_neg (by omega)]
  exact h k hk
theorem flS_b (hv : VR r) {S : ((Nat → Int32) × Int32) × Int32} (h : LB S.1.1) : ∀ i, LB (flS r i S).1.1
  | 0 => h
  | i + 1 => flM_b hv (flB_b (flS_b hv h i)) _
theorem ps_nI0' {N : Nat} (hN : N < 10000) : nI N = 0 ↔ N = 0 := by
  rw [← nI_0]
  exact nI_eq (by omega) (by omega)
theorem ps_le0 {x : Int32} (h : bI x 0 1386) : x ≤ 0 ↔ x = 0 := by
  obtain ⟨a, -, ha, rfl⟩ := h
  rw [show (nI a ≤ 0) ↔ a ≤ 0 from nI_leI (b := 0) (by omega) (by omega), ps_nI0' (by omega)]
  omega
theorem k3_fly {x : Int32} {j : Nat} (hf : isF f) (hW : aw_WT n θ) (hF : FR σ f r) (hM : MR σ 6 st) (hv : VR r) (hs : VS st) (hj : j ≤ 20) (hq : ∀ σ', SC σ σ' → MR σ' 81 (flS r j ((st, 0), x)).1.1 → σ' 80 1 = (flS r j ((st, 0), x)).1.2 → qv n σ' τ θ) : SMv G 4 mX3_fly 0 0 [.ref 80, .ref f, .ref 6, .int x, .int (nI j)] n σ τ θ qv := by
  have h5 := hv.m5
  refine ctX3_fly f 6 _ _ (sgX3_fly_0 f 6 _ _ (Nat.le_refl _) hf isM_now hW ?_)
  refine k2_copyOf isM_dream isM_now (by decide) hW hM (fun σ1 h1 hM1 => ⟨hW, ?_⟩)
  have s1 : SC σ (aw_u σ1 80 1 0) := fun o ho => (aw_uo (by omega)).trans (h1 o (by omega))
  have hM2 : MR (aw_u σ1 80 1 0) 81 st := hM1.mono (fun o _ _ => aw_uo (by omega))
  refine ps_up (N := j) (P := fun i => ∀ σ1, SC σ σ1 → MR σ1 81 (flS r i ((st, 0), x)).1.1 → σ1 80 1 = (flS r i ((st, 0), x)).1.2 → SW G 4 mX3_fly (aw_qv qv) 0 0 19 [some (.ref 80), some (.ref f), none, none, some (.int (nI j)), some (.int (flS r i ((st, 0), x)).2), some (.int (nI i)), none] [] (n, σ1, τ, θ)) ?_ ?_ 0 (Nat.zero_le _) _ s1 hM2 aw_u_eq
  · intro σ1 s1 m1 l1
    exact sgX3_fly_19 f 6 _ _ _ (Nat.le_refl _) hf isM_now hW (ps_done rfl (hq _ s1 m1 l1))
  · intro i hi ih σ1 s1 m1 l1
    have lb := flS_b (S := ((st, 0), x)) hv hs.1 i
    refine sgX3_fly_19 f 6 _ _ _ (Nat.le_refl _) hf isM_now hW (ps_br rfl (by omega) (by omega) (fun h => absurd h (by omega)) (fun _ => ?_))
    simp only [flS] at ih
    generalize flS r i ((st, 0), x) = S at m1 l1 ih lb ⊢
    have m2 : MR (aw_u σ1 81 2 (σ1 81 2 + 1)) 81 (flB S).1.1 := by
      refine ⟨fun m hm => ?_, fun k hk => ?_, ?_⟩
      · rw [aw_uo (by decide)]; exact (m1.1 m hm).trans (if_neg (by omega)).symm
      · rw [aw_uo (by decide)]; exact (m1.2.1 k hk).trans (if_neg (by omega)).symm
      · rw [aw_u_eq, m1.2.2]; exact (flB_12 S).symm
    have l2 : (aw_u σ1 81 2 (σ1 81 2 + 1)) 80 1 = (flB S).1.2 := by rw [aw_uo (by decide)]; exact l1
    have lb2 := flB_b lb
    refine ps_up (N := nM r) (P := fun m => ∀ σ1, SC σ σ1 → MR σ1 81 (flM r m (flB S)).1.1 → σ1 80 1 = (flM r m (flB S)).1.2 → SW G 4 mX3_fly (aw_qv qv) 0 0 42 [some (.ref 80), some (.ref f), none, none, some (.int (nI j)), some (.int (flM r m (flB S)).2), some (.int (nI i)), some (.int (nI m))] [] (n, σ1, τ, θ)) ?_ ?_ 0 (Nat.zero_le _) _ (s1.up (by omega) (by omega)) m2 l2
    · intro σ2 s2 m3 l3
      have e13 : σ2 f 13 = nI (nM r) := (s2.fr hf hF).1.2.2.2.2.1.trans hv.m
      refine sgX3_fly_42 f 6 _ _ _ _ (Nat.le_refl _) hf isM_now hW (ps_done e13 ?_)
      rw [← nI_succ]
      exact ih _ s2 m3 l3
    · intro m hm ihm σ2 s2 m3 l3
      have e13 : σ2 f 13 = nI (nM r) := (s2.fr hf hF).1.2.2.2.2.1.trans hv.m
      refine sgX3_fly_42 f 6 _ _ _ _ (Nat.le_refl _) hf isM_now hW (ps_br e13 (by omega) (by omega) (fun h => absurd h (by omega)) (fun _ => ?_))
      have lb3 := flM_b hv lb2 m
      simp only [flM] at ihm
      generalize flM r m (flB S) = T at m3 l3 ihm lb3 ⊢
      rw [m3.2.2, ← nI_succ]
      refine k1_headOf hf isM_dream hW (s2.fr hf hF) m3 hv hm ⟨hW, ?_⟩
      rw [ps_le0 (s_hd_b hv lb3), show σ2 f 12 = r 3 from (s2.fr hf hF).1.2.2.2.1]
      refine ⟨fun h => ?_, fun h => ?_⟩
      · rw [if_pos h] at ihm
        exact ihm _ s2 m3 l3
      · rw [if_neg h] at ihm
        refine ⟨fun h2 => ?_, fun h2 => ?_⟩
        · rw [if_pos (show r 3 ≤ dwC T.2 from h2)] at ihm
          exact ihm _ s2 m3 l3
        · rw [if_neg (show ¬ r 3 ≤ dwC T.2 from h2)] at ihm
          exact k3_eatFirst hf hW hF hv s2 m3 l3 (fun σ3 s3 m4 l4 => ⟨hW, ihm _ s3 m4 l4⟩)
theorem k9_isFlight {x y : Int32} (hW : aw_WT n θ) (hq : q (if (¬ x < 0 ∧ ¬ 65536 < x) ∧ ¬ y < 0 ∧ ¬ 20 < y then 1 else 0) n σ τ θ) : SMi G 1 mX9_isFlight 0 0 [.ref 1, .int x, .int y] n σ τ θ q := by
  refine ctX9_isFlight _ _ (sgX9_isFlight_0 _ _ (Nat.le_refl _) hW ⟨fun h => ?_, fun h => ⟨fun h2 => ?_, fun h2 => ⟨fun h3 => ?_, fun h3 => ⟨fun h4 => ?_, fun h4 => ?_⟩⟩⟩⟩)
  · rwa [if_neg (fun e => e.1.1 h)] at hq
  · rwa [if_neg (fun e => e.1.2 h2)] at hq
  · rwa [if_neg (fun e => e.2.1 h3)] at hq
  · rwa [if_neg (fun e => e.2.2 h4)] at hq
  · rwa [if_pos ⟨⟨h, h2⟩, h3, h4⟩] at hq
def flT (r st : Nat → Int32) (x y : Int32) : ((Nat → Int32) × Int32) × Int32 := flS r y.toNatClampNeg ((st, 0), x)
def sp_moths (r st : Nat → Int32) (x y z : Int32) : Int32 × Int32 := if s_in x (nM r) = true then (if (¬ y < 0 ∧ ¬ 65536 < y) ∧ ¬ z < 0 ∧ ¬ 20 < z then (s_hd r (flT r st y z).1.1 ((flT r st y z).1.1 12) x.toNatClampNeg, 0) else (-1, 2)) else (-1, 1)
def sp_eaten (r st : Nat → Int32) (y z : Int32) : Int32 × Int32 := if nM r = 0 then (-1, 1) else (if (¬ y < 0 ∧ ¬ 65536 < y) ∧ ¬ z < 0 ∧ ¬ 20 < z then ((flT r st y z).1.2, 0) else (-1, 2))
theorem p9_moths {x y z : Int32} (hW : aw_WT n θ) (hF : FR σ (θ 1 7) r) (hM : MR σ 6 st) (hv : VR r) (hs : VS st) (hq : ∀ σ' τ', CS σ σ' (sp_moths r st x y z).2 → q (sp_moths r st x y z).1 n σ' τ' θ) : SMi G 5 mX9_moths 0 0 [.ref 1, .int x, .int y, .int z] n σ τ θ q := by
  unfold sp_moths at hq
  have h5 := hv.m5
  refine ctX9_moths _ _ _ (sgX9_moths_0 _ _ _ (Nat.le_refl _) hW ?_)
  refine k9_isMan hW hF hv ⟨hW, And.symm (ps_b (fun h => ?_) (fun h => k9_isFlight hW ⟨hW, And.symm (ps_b (fun h2 => ?_) (fun h2 => ?_))⟩))⟩
  · rw [if_neg h] at hq
    exact k9_refuse hW ⟨hW, hq _ _ (CS.tr _ _)⟩
  · rw [if_pos h, if_neg h2] at hq
    exact k9_refuse hW ⟨hW, hq _ _ (CS.tr _ _)⟩
  · rw [if_pos h, if_pos h2] at hq
    obtain ⟨m, hm, rfl⟩ := (s_in_iff (by omega)).mp h
    obtain ⟨j, hj, rfl⟩ := ps_inx (N := 20) (by omega) h2.2.1 (Int32.not_lt.mp h2.2.2)
    unfold flT at hq
    rw [ps_cl (by omega), ps_cl (by omega)] at hq
    refine k3_fly hW.f hW hF hM hv hs hj (fun σ1 s1 m1 _ => ⟨hW, ?_⟩)
    rw [m1.2.2]
    exact k1_headOf hW.f isM_dream hW (s1.fr hW.f hF) m1 hv hm ⟨hW, k9_grant hW ⟨hW, hq _ _ (s1.tr 0)⟩⟩
theorem p9_eaten {y z : Int32} (hW : aw_WT n θ) (hF : FR σ (θ 1 7) r) (hM : MR σ 6 st) (hv : VR r) (hs : VS st) (hq : ∀ σ' τ', CS σ σ' (sp_eaten r st y z).2 → q (sp_eaten r st y z).1 n σ' τ' θ) : SMi G 5 mX9_eaten 0 0 [.ref 1, .int y, .int z] n σ τ θ q := by
  unfold sp_eaten at hq
  have h5 := hv.m5
  refine ctX9_eaten _ _ (sgX9_eaten_0 _ _ (Nat.le_refl _) hW ?_)
  refine k9_noDuchy hW hF hv ⟨hW, ps_b (fun h => k9_isFlight hW ⟨hW, And.symm (ps_b (fun h2 => ?_) (fun h2 => ?_))⟩) (fun h => ?_)⟩
  · rw [if_neg h, if_neg h2] at hq
    exact k9_refuse hW ⟨hW, hq _ _ (CS.tr _ _)⟩
  · rw [if_neg h, if_pos h2] at hq
    obtain ⟨j, hj, rfl⟩ := ps_inx (N := 20) (by omega) h2.2.1 (Int32.not_lt.mp h2.2.2)
    unfold flT at hq
    rw [ps_cl (by omega)] at hq
    refine k3_fly hW.f hW hF hM hv hs hj (fun σ1 s1 _ l1 => ⟨hW, ?_⟩)
    rw [l1]
    exact k9_grant hW ⟨hW, hq _ _ (s1.tr 0)⟩
  · rw [if_pos h] at hq
    exact k9_refuse hW ⟨hW, hq _ _ (CS.tr _ _)⟩
/-! the reference's flight -/
def FT (σ0 σ : SG) (S : (Nat → Int32) × Int32) : Prop := RS σ0 σ 0 ∧ σ 120 22 = 0 ∧ (∀ k, k < 13 → σ 128 k = S.1 k) ∧ σ 120 32 = S.2
theorem k10_eat {σ0 : SG} {m : Int32} {S : (Nat → Int32) × Int32} (hW : aw_WT n θ) (hv : VR (σ0 123)) (h0 : FT σ0 σ S) (hq : ∀ σ', FT σ0 σ' (eatP (σ0 123) m S) → qv n σ' τ θ) : SMv G 3 mX10_eat 0 0 [.ref 120, .int m] n σ τ θ qv := by
  have h7 := hv.d7
  obtain ⟨g1, g2, g3, g4⟩ := h0
  have e5 : σ 123 5 = nI (nD (σ0 123)) := by rw [g1.e3]; exact hv.d
  refine ctX10_eat _ (sgX10_eat_0 _ (Nat.le_refl _) hW ?_)
  refine ps_up (N := nD (σ0 123)) (P := fun j => (∀ e, e < j → ¬ eatK (σ0 123) S.1 m e = true) → SW G 3 mX10_eat (aw_qv qv) 0 0 2 [some (.ref 120), some (.int m), some (.int (nI j)), none] [] (n, σ, τ, θ)) ?_ ?_ 0 (Nat.zero_le _) (fun e he => absurd he (by omega))
  · intro hno
    have hz : ∀ D i, i + D = nD (σ0 123) → s_fs (eatK (σ0 123) S.1 m) D i = nD (σ0 123) := by
      intro D
      induction D with
      | zero => intro i hi; exact hi
      | succ D ih =>
        intro i hi
        unfold s_fs
        rw [if_neg (hno i (by omega))]
        exact ih (i + 1) (by omega)
    have eP : eatP (σ0 123) m S = S := by
      unfold eatP
      rw [hz (nD (σ0 123)) 0 (by omega), if_neg (by omega)]
    rw [eP] at hq
    exact sgX10_eat_2 _ _ (Nat.le_refl _) hW (ps_done e5 (hq _ ⟨g1, g2, g3, g4⟩))
  · intro j hj ih hno
    refine sgX10_eat_2 _ _ (Nat.le_refl _) hW (ps_br e5 (by omega) (by omega) (fun h => absurd h (by omega)) (fun _ => ?_))
    have l : ¬ eatK (σ0 123) S.1 m j = true → ∀ e, e < j + 1 → ¬ eatK (σ0 123) S.1 m e = true := by
      intro h e he
      rcases Nat.eq_or_lt_of_le (Nat.lt_succ_iff.mp he) with rfl | h9
      · exact h
      · exact hno e h9
    have ed : s_due (σ 123) (σ 128) (σ 128 12) j = s_due (σ0 123) S.1 (S.1 12) j := by
      unfold s_due
      rw [g1.e3, g3 12 (by omega), g3 j (by omega)]
    have ek : eatK (σ0 123) S.1 m j = true ↔ s_due (σ0 123) S.1 (S.1 12) j = true ∧ σ0 123 (25 + 4 * j) = m := by unfold eatK; rw [decide_eq_true_eq]
    refine k10_isOf hW isA_trial (by omega) ⟨hW, ?_⟩
    rw [ed, ps_cl (by omega), g1.e3, g3 j (by omega), ← nI_succ]
    refine And.symm (ps_b (fun h => ih (l (fun e => h (ek.mp e)))) (fun h => ⟨ps_in (by omega) (by decide), ?_⟩))
    have hfs : s_fs (eatK (σ0 123) S.1 m) (nD (σ0 123)) 0 = j := s_fs_1 (nD (σ0 123)) 0 (Nat.zero_le _) (by omega) (ek.mpr h) (fun e _ he => hno e he)
    have eP : eatP (σ0 123) m S = (pu S.1 j (S.1 j - eatX (σ0 123) S.1 j), S.2 + eatX (σ0 123) S.1 j) := by
      unfold eatP
      rw [hfs, if_pos hj]
    have fin : ∀ v, v = eatX (σ0 123) S.1 j → qv n (aw_u (aw_u σ 128 j (S.1 j - v)) 120 32 ((aw_u σ 128 j (S.1 j - v)) 120 32 + v)) τ θ := by
      intro v hv2
      refine hq _ ?_
      rw [eP]
      refine ⟨(g1.obj (fun o ho => aw_uo (by omega))).slot (by decide), ?_, fun k hk => ?_, ?_⟩
      · rw [aw_u_nk (by decide), aw_uo (by decide)]; exact g2
      · rw [aw_uo (by decide)]
        by_cases hc : k = j
        · rw [hc, aw_u_eq, hv2]; exact (if_pos rfl).symm
        · rw [aw_u_nk hc]; exact (g3 k hk).trans (if_neg hc).symm
      · rw [aw_u_eq, aw_uo (by decide), g4, hv2]
    refine ⟨fun h2 => ⟨ps_in (by omega) (by decide), ps_in (by omega) (by decide), fin _ ?_⟩, fun h2 => ⟨ps_in (by omega) (by decide), ps_in (by omega) (by decide), ps_in (by omega) (by decide), fin _ ?_⟩⟩
    · unfold eatX; rw [if_pos h2]
    · unfold eatX; rw [if_neg h2]
def s_mw2 (b : Bool) (y z : Int32) : Int32 := if b = true then (if (¬ y < 0 ∧ ¬ 65536 < y) ∧ ¬ z < 0 ∧ ¬ 20 < z then 0 else 2) else 1
theorem k10_mothsWhy {σ0 : SG} {b : Bool} {x y z : Int32} (hW : aw_WT n θ) (hS : RS σ0 σ 0) (hv : VR (σ0 123)) (hs : VS (σ0 125)) (hx : x = 0 ↔ b = false) (hq : ∀ σ', RS σ0 σ' 0 → (s_mw2 b y z = 0 → FT σ0 σ' (flT (σ0 123) (σ0 125) y z).1) → q (s_mw2 b y z) n σ' τ θ) : SMi G 5 mX10_mothsWhy 0 0 [.ref 120, .int x, .int y, .int z] n σ τ θ q := by
  have h5 := hv.m5
  unfold s_mw2 at hq
  refine ctX10_mothsWhy _ _ _ (sgX10_mothsWhy_0 _ _ _ (Nat.le_refl _) hW ?_)
  rw [hx]
  refine ⟨fun h => ?_, fun h => ?_⟩
  · have hb : b = true := by cases b with | true => rfl | false => exact absurd rfl h
    rw [if_pos hb] at hq
    refine k10_in hW ⟨hW, ps_b (fun h2 => ?_) (fun h2 => k10_in hW ⟨hW, And.symm (ps_b (fun h3 => ?_) (fun h3 => ?_))⟩)⟩
    · rw [if_neg (fun e => h2 e.1)] at hq
      exact hq _ hS (fun e => absurd e (by decide))
    · rw [if_neg (fun e => h3 e.2)] at hq
      exact hq _ hS (fun e => absurd e (by decide))
    · rw [if_pos ⟨h2, h3⟩] at hq
      obtain ⟨j, hj, rfl⟩ := ps_inx (N := 20) (by omega) h3.1 (Int32.not_lt.mp h3.2)
      unfold flT at hq
      rw [ps_cl (by omega)] at hq
      refine k10_goOver hW hS (fun σ1 h1 hb1 hk1 ht1 => ⟨hW, ?_⟩)
      rw [Int32.add_zero] at ht1
      have t0 : FT σ0 (aw_u σ1 120 32 0) (σ0 125, 0) := by
        refine ⟨h1.slot (by decide), by rw [aw_u_nk (by decide)]; exact hb1, fun k hk => ?_, aw_u_eq⟩
        rw [aw_uo (by decide)]
        by_cases hc : k = 12
        · rw [hc]; exact ht1
        · exact hk1 k (by omega)
      refine ps_up (N := j) (P := fun i => ∀ σ1, FT σ0 σ1 (flS (σ0 123) i ((σ0 125, 0), y)).1 → SW G 5 mX10_mothsWhy (aw_qi q) 0 0 45 [some (.ref 120), none, none, some (.int (nI j)), some (.int (flS (σ0 123) i ((σ0 125, 0), y)).2), some (.int (nI i)), none] [] (n, σ1, τ, θ)) ?_ ?_ 0 (Nat.zero_le _) _ t0
      · intro σ1 t1
        exact sgX10_mothsWhy_45 _ _ _ (Nat.le_refl _) hW (ps_done rfl (hq _ t1.1 (fun _ => t1)))
      · intro i hi ih σ1 t1
        have lb := flS_b (S := ((σ0 125, 0), y)) hv hs.1 i
        refine sgX10_mothsWhy_45 _ _ _ (Nat.le_refl _) hW (ps_br rfl (by omega) (by omega) (fun h => absurd h (by omega)) (fun _ => ?_))
        simp only [flS] at ih
        generalize flS (σ0 123) i ((σ0 125, 0), y) = S at t1 ih lb ⊢
        have lb2 := flB_b lb
        have t2 : FT σ0 (aw_u σ1 128 12 (σ1 128 12 + 1)) (flB S).1 := by
          obtain ⟨g1, g2, g3, g4⟩ := t1
          refine ⟨g1.obj (fun o ho => aw_uo (by omega)), by rw [aw_uo (by decide)]; exact g2, fun k hk => ?_, by rw [aw_uo (by decide)]; exact g4⟩
          by_cases hc : k = 12
          · rw [hc, aw_u_eq, g3 12 (by omega)]; exact (flB_12 S).symm
          · rw [aw_u_nk hc]; exact (g3 k hk).trans (if_neg hc).symm
        refine ps_up (N := nM (σ0 123)) (P := fun m => ∀ σ1, FT σ0 σ1 (flM (σ0 123) m (flB S)).1 → SW G 5 mX10_mothsWhy (aw_qi q) 0 0 65 [some (.ref 120), none, none, some (.int (nI j)), some (.int (flM (σ0 123) m (flB S)).2), some (.int (nI i)), some (.int (nI m))] [] (n, σ1, τ, θ)) ?_ ?_ 0 (Nat.zero_le _) _ t2
        · intro σ2 t3
          have e4 : σ2 123 4 = nI (nM (σ0 123)) := by rw [t3.1.e3]; exact hv.m
          refine sgX10_mothsWhy_65 _ _ _ _ (Nat.le_refl _) hW (ps_done e4 ?_)
          rw [← nI_succ]
          exact ih _ t3
        · intro m hm ihm σ2 t3
          have e4 : σ2 123 4 = nI (nM (σ0 123)) := by rw [t3.1.e3]; exact hv.m
          refine sgX10_mothsWhy_65 _ _ _ _ (Nat.le_refl _) hW (ps_br e4 (by omega) (by omega) (fun h => absurd h (by omega)) (fun _ => ?_))
          have lb3 := flM_b hv lb2 m
          simp only [flM] at ihm
          generalize flM (σ0 123) m (flB S) = T at t3 ihm lb3 ⊢
          rw [← nI_succ]
          refine k10_head hW isA_trial (t3.1.vr hv) t3.2.1 (by omega) ⟨hW, ?_⟩
          rw [t3.1.e3, t3.2.2.1 12 (by omega), s_hd_c (L' := T.1.1) hv (fun k hk => t3.2.2.1 k (by omega))]
          refine ⟨fun h => ?_, fun h => ?_⟩
          · rw [if_neg h] at ihm
            refine ⟨fun h2 => ?_, fun h2 => ?_⟩
            · rw [if_pos (show σ0 123 3 ≤ dwC T.2 from h2)] at ihm
              exact ihm _ t3
            · rw [if_neg (show ¬ σ0 123 3 ≤ dwC T.2 from h2)] at ihm
              exact k10_eat hW hv t3 (fun σ3 t4 => ⟨hW, ihm _ t4⟩)
          · rw [if_pos h] at ihm
            exact ihm _ t3
  · rw [if_neg (by rw [h]; decide)] at hq
    exact hq _ hS (fun e => absurd e (by decide))
theorem p10_moths {x y z : Int32} (hW : aw_WT n θ) (hv : VR (σ 123)) (hH : HR σ (σ 123)) (hs : VS (σ 125)) (hq : ∀ σ', RS σ σ' (sp_moths (σ 123) (σ 125) x y z).2 → q (sp_moths (σ 123) (σ 125) x y z).1 n σ' τ θ) : SMi G 6 mX10_moths 0 0 [.ref 120, .int x, .int y, .int z] n σ τ θ q := by
  unfold sp_moths at hq
  have h5 := hv.m5
  refine ctX10_moths _ _ _ (sgX10_moths_0 _ _ _ (Nat.le_refl _) hW ?_)
  refine k10_good' hW (fun σ1 h1 => ⟨hW, k10_isMan hW (h1.vr hv) (h1.hr hH) ⟨hW, ?_⟩⟩)
  rw [h1.e3]
  refine k10_mothsWhy (b := s_in x (nM (σ 123))) hW h1 hv hs ?_ (fun σ2 h2 hT => ⟨hW, ?_⟩)
  · cases s_in x (nM (σ 123)) <;> decide
  · unfold s_mw2 at hT ⊢
    by_cases h : s_in x (nM (σ 123)) = true
    · rw [if_pos h] at hq hT ⊢
      by_cases h3 : (¬ y < 0 ∧ ¬ 65536 < y) ∧ ¬ z < 0 ∧ ¬ 20 < z
      · rw [if_pos h3] at hq hT ⊢
        obtain ⟨m, hm, rfl⟩ := (s_in_iff (by omega)).mp h
        rw [ps_cl (by omega)] at hq
        obtain ⟨g1, g2, g3, g4⟩ := hT rfl
        refine ⟨fun _ => k10_head hW isA_trial (g1.vr hv) g2 (by omega) ⟨hW, ?_⟩, fun h9 => absurd rfl h9⟩
        rw [g1.e3, g3 12 (by omega), s_hd_c (L' := (flT (σ 123) (σ 125) y z).1.1) hv (fun k hk => g3 k (by omega))]
        exact hq _ g1
      · rw [if_neg h3] at hq ⊢
        exact ⟨fun h9 => absurd h9 (by decide), fun _ => k10_no hW ⟨hW, hq _ h2.no⟩⟩
    · rw [if_neg h] at hq ⊢
      exact ⟨fun h9 => absurd h9 (by decide), fun _ => k10_no hW ⟨hW, hq _ h2.no⟩⟩
theorem p10_eaten {y z : Int32} (hW : aw_WT n θ) (hv : VR (σ 123)) (hH : HR σ (σ 123)) (hs : VS (σ 125)) (hq : ∀ σ', RS σ σ' (sp_eaten (σ 123) (σ 125) y z).2 → q (sp_eaten (σ 123) (σ 125) y z).1 n σ' τ θ) : SMi G 6 mX10_eaten 0 0 [.ref 120, .int y, .int z] n σ τ θ q := by
  unfold sp_eaten at hq
  have h5 := hv.m5
  refine ctX10_eaten _ _ (sgX10_eaten_0 _ _ (Nat.le_refl _) hW ?_)
  refine k10_good' hW (fun σ1 h1 => ⟨hW, ?_⟩)
  rw [h1.has]
  refine k10_mothsWhy (b := decide (¬ nM (σ 123) = 0)) hW h1 hv hs ?_ (fun σ2 h2 hT => ⟨hW, ?_⟩)
  · rw [hH.iff, decide_eq_false_iff_not, Classical.not_not]
  · unfold s_mw2 at hT ⊢
    by_cases h : nM (σ 123) = 0
    · rw [if_pos h] at hq
      rw [if_neg (show ¬ decide (¬ nM (σ 123) = 0) = true from fun e => (of_decide_eq_true e) h)]
      exact ⟨fun h9 => absurd h9 (by decide), fun _ => k10_no hW ⟨hW, hq _ h2.no⟩⟩
    · rw [if_neg h] at hq
      rw [if_pos (decide_eq_true h)] at hT ⊢
      by_cases h3 : (¬ y < 0 ∧ ¬ 65536 < y) ∧ ¬ z < 0 ∧ ¬ 20 < z
      · rw [if_pos h3] at hq hT ⊢
        obtain ⟨g1, g2, g3, g4⟩ := hT rfl
        rw [g4]
        exact ⟨fun _ => hq _ g1, fun h9 => absurd rfl h9⟩
      · rw [if_neg h3] at hq ⊢
        exact ⟨fun h9 => absurd h9 (by decide), fun _ => k10_no hW ⟨hW, hq _ h2.no⟩⟩
end Moth
