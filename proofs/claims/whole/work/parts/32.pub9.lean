/-! ===== payFor, payAll, shamed ===== -/
def sm (f : Nat → Nat) : Nat → Nat
  | 0 => 0
  | k + 1 => sm f k + f k
theorem sm_c {f g : Nat → Nat} : ∀ N, (∀ k, k < N → f k = g k) → sm f N = sm g N
  | 0, _ => rfl
  | N + 1, h => by
    show sm f N + f N = sm g N + g N
    rw [sm_c N (fun k hk => h k (by omega)), h N (by omega)]
theorem sm_upd {f g : Nat → Nat} {j : Nat} (h : ∀ k, k ≠ j → g k = f k) : ∀ N, j < N → sm g N + f j = sm f N + g j
  | 0, hj => absurd hj (by omega)
  | N + 1, hj => by
    show sm g N + g N + f j = sm f N + f N + g j
    rcases Nat.eq_or_lt_of_le (Nat.lt_succ_iff.mp hj) with e | hlt
    · subst e
      rw [sm_c j (fun k hk => h k (by omega))]
      omega
    · have := sm_upd h N hlt
      have := h N (by omega)
      omega
theorem sm_0 {f : Nat → Nat} : ∀ N, (∀ k, k < N → f k = 0) → sm f N = 0
  | 0, _ => rfl
  | N + 1, h => by
    show sm f N + f N = 0
    rw [sm_0 N (fun k hk => h k (by omega)), h N (by omega)]
theorem sm_pos {f : Nat → Nat} {j : Nat} (h : 0 < f j) : ∀ N, j < N → 0 < sm f N
  | 0, hj => absurd hj (by omega)
  | N + 1, hj => by
    show 0 < sm f N + f N
    rcases Nat.eq_or_lt_of_le (Nat.lt_succ_iff.mp hj) with e | hlt
    · subst e; omega
    · have := sm_pos h N hlt; omega
theorem sm_ex {f : Nat → Nat} : ∀ N, 0 < sm f N → ∃ j, j < N ∧ 0 < f j
  | 0, h => absurd h (by simp only [sm]; omega)
  | N + 1, h => by
    have h : 0 < sm f N + f N := h
    rcases Nat.eq_zero_or_pos (f N) with e | e
    · obtain ⟨j, hj, h2⟩ := sm_ex N (f := f) (by omega)
      exact ⟨j, by omega, h2⟩
    · exact ⟨N, by omega, e⟩
/-- what the tines cost, taken by cost: C c first tines cost c, all others T -/
def tl (C : Nat → Nat) (T : Nat) : Nat → Nat → Nat → Nat
  | 0, _, ov => ov * T
  | d + 1, c, ov => min ov (C c) * c + tl C T d (c + 1) (ov - min ov (C c))
theorem tl_z (C : Nat → Nat) (T : Nat) : ∀ d c, tl C T d c 0 = 0
  | 0, _ => Nat.zero_mul _
  | d + 1, c => by
    simp only [tl, Nat.zero_min, Nat.zero_mul, Nat.zero_sub, tl_z C T d]
theorem tl_c {C C' : Nat → Nat} {T : Nat} : ∀ d c ov, (∀ i, c ≤ i → i < c + d → C i = C' i) → tl C T d c ov = tl C' T d c ov
  | 0, _, _, _ => rfl
  | d + 1, c, ov, h => by
    simp only [tl]
    rw [h c (by omega) (by omega), tl_c d (c + 1) _ (fun i h1 h2 => h i (by omega) (by omega))]
theorem tl_0 {C : Nat → Nat} {T : Nat} : ∀ d c ov, (∀ i, c ≤ i → i < c + d → C i = 0) → tl C T d c ov = ov * T
  | 0, _, _, _ => rfl
  | d + 1, c, ov, h => by
    simp only [tl]
    rw [h c (by omega) (by omega), Nat.min_zero, Nat.zero_mul, Nat.zero_add, Nat.sub_zero, tl_0 d (c + 1) _ (fun i h1 h2 => h i (by omega) (by omega))]
theorem tl_s {C C' : Nat → Nat} {T c0 : Nat} (h0 : C' c0 + 1 = C c0) (hs : ∀ i, i < T → i ≠ c0 → C' i = C i) (hz : ∀ i, i < c0 → C i = 0) (hT : c0 < T) : ∀ d c ov, c + d = T → c ≤ c0 → tl C T d c (ov + 1) = c0 + tl C' T d c ov
  | 0, c, ov, h1, h2 => absurd h1 (by omega)
  | d + 1, c, ov, h1, h2 => by
    simp only [tl]
    rcases Nat.eq_or_lt_of_le h2 with e | hlt
    · subst e
      rw [show min (ov + 1) (C c) = min ov (C' c) + 1 by omega, show ov + 1 - (min ov (C' c) + 1) = ov - min ov (C' c) by omega, tl_c (C := C) (C' := C') d (c + 1) _ (fun i h3 h4 => (hs i (by omega) (by omega)).symm), Nat.add_mul, Nat.one_mul]
      omega
    · rw [hz c hlt, hs c (by omega) (by omega), hz c hlt, Nat.min_zero, Nat.min_zero, Nat.zero_mul, Nat.zero_add, Nat.zero_add, Nat.sub_zero, Nat.sub_zero]
      exact tl_s h0 hs hz hT d (c + 1) ov (by omega) (by omega)
def tkN (r L : Nat → Int32) (k : Nat) : Nat := ((L k).toNatClampNeg + nT r - 1) / nT r
def ckN (r L : Nat → Int32) (k : Nat) : Nat := (L k).toNatClampNeg - (tkN r L k - 1) * nT r
def fdN (r L : Nat → Int32) (s m : Int32) (k : Nat) : Nat := if s_due r L s k = true ∧ r (25 + 4 * k) = m then tkN r L k else 0
def fcN (r L : Nat → Int32) (s m : Int32) (c k : Nat) : Nat := if (s_due r L s k = true ∧ r (25 + 4 * k) = m) ∧ ckN r L k = c then 1 else 0
theorem ps_tn_all : ∀ a : Fin 100, ∀ t : Fin 21, 1 ≤ a.val → 1 ≤ t.val → s_nt (nI a.val) (nI t.val) = nI (a.val - ((a.val + t.val - 1) / t.val - 1) * t.val) ∧ nI a.val - s_nt (nI a.val) (nI t.val) = nI (((a.val + t.val - 1) / t.val - 1) * t.val) ∧ ((a.val + t.val - 1) / t.val - 1) * t.val < a.val ∧ a.val - ((a.val + t.val - 1) / t.val - 1) * t.val ≤ t.val ∧ 1 ≤ (a.val + t.val - 1) / t.val ∧ (((a.val + t.val - 1) / t.val - 1) * t.val + t.val - 1) / t.val = (a.val + t.val - 1) / t.val - 1 ∧ (((a.val + t.val - 1) / t.val - 1) * t.val = 0 → (a.val + t.val - 1) / t.val = 1) ∧ (0 < ((a.val + t.val - 1) / t.val - 1) * t.val → ((a.val + t.val - 1) / t.val - 1) * t.val - ((((a.val + t.val - 1) / t.val - 1) * t.val + t.val - 1) / t.val - 1) * t.val = t.val) := by decide +kernel
section Pay
variable {r L : Nat → Int32} {s m : Int32}
theorem ps_due_a (hL : ∀ k, k < 7 → bI (L k) 0 99) {k : Nat} (hk : k < 7) (h : s_due r L s k = true) : ∃ a, 1 ≤ a ∧ a ≤ 99 ∧ L k = nI a := by
  obtain ⟨a, -, ha, ea⟩ := hL k hk
  have hp := (s_due_iff.mp h).2
  rw [ea] at hp
  exact ⟨a, (nI_ltI (a := 0) (by omega) (by omega)).mp hp, ha, ea⟩
theorem s_db_e (hv : VR r) (hL : ∀ k, k < 7 → bI (L k) 0 99) : ∀ k, k ≤ nD r → s_db r L s m k = nI (sm (fdN r L s m) k) ∧ sm (fdN r L s m) k ≤ 99 * k
  | 0, _ => ⟨rfl, Nat.le_refl _⟩
  | k + 1, hk => by
    obtain ⟨e, hb⟩ := s_db_e hv hL k (by omega)
    have h7 := hv.d7
    have ht := hv.t1 (hv.mD (k := k) (by omega))
    obtain ⟨a, -, ha, ea⟩ := hL k (by omega)
    show s_db r L s m k + _ = nI (sm (fdN r L s m) k + fdN r L s m k) ∧ sm (fdN r L s m) k + fdN r L s m k ≤ _
    unfold fdN tkN
    by_cases h : s_due r L s k = true ∧ r (25 + 4 * k) = m
    · have := ps_up_le (a := a) ht
      rw [if_pos h, if_pos h, e, ea, hv.t, ps_up_nat ha ht hv.t20, nI_add, ps_cl (by omega)]
      unfold fdN tkN at hb
      exact ⟨rfl, by omega⟩
    · rw [if_neg h, if_neg h, e, Int32.add_zero]
      unfold fdN tkN at hb
      exact ⟨rfl, by omega⟩
theorem s_nt_e (hv : VR r) (hL : ∀ k, k < 7 → bI (L k) 0 99) {k : Nat} (hk : k < nD r) (h : s_due r L s k = true) : s_nt (L k) (r 0) = nI (ckN r L k) ∧ 1 ≤ ckN r L k ∧ ckN r L k ≤ nT r ∧ L k - s_nt (L k) (r 0) = nI ((tkN r L k - 1) * nT r) ∧ (tkN r L k - 1) * nT r ≤ 99 ∧ 1 ≤ tkN r L k ∧ ((tkN r L k - 1) * nT r + nT r - 1) / nT r = tkN r L k - 1 ∧ ((tkN r L k - 1) * nT r = 0 → tkN r L k = 1) ∧ (0 < (tkN r L k - 1) * nT r → (tkN r L k - 1) * nT r - (((tkN r L k - 1) * nT r + nT r - 1) / nT r - 1) * nT r = nT r) := by
  have h7 := hv.d7
  have ht := hv.t1 (hv.mD hk)
  have ht2 := hv.t20
  obtain ⟨a, h1, ha, ea⟩ := ps_due_a hL (by omega) h
  have h9 := ps_tn_all ⟨a, by omega⟩ ⟨nT r, by omega⟩ h1 ht
  dsimp only at h9
  unfold ckN tkN
  rw [ea, hv.t, ps_cl (by omega)]
  exact ⟨h9.1, by omega, h9.2.2.2.1, h9.2.1, by omega, h9.2.2.2.2.1, h9.2.2.2.2.2.1, h9.2.2.2.2.2.2.1, h9.2.2.2.2.2.2.2⟩
/-- one tine of the debt j paid off -/
theorem pay_step (hv : VR r) (hL : ∀ k, k < 7 → bI (L k) 0 99) {L' : Nat → Int32} {j : Nat} (hj : j < nD r) (ha : s_due r L s j = true ∧ r (25 + 4 * j) = m) (e1 : L' j = L j - s_nt (L j) (r 0)) (e2 : ∀ k, k ≠ j → L' k = L k) (hmin : ∀ k, k < nD r → s_due r L s k = true ∧ r (25 + 4 * k) = m → ckN r L j ≤ ckN r L k) : (∀ k, k < 7 → bI (L' k) 0 99) ∧ sm (fdN r L' s m) (nD r) + 1 = sm (fdN r L s m) (nD r) ∧ ∀ ov, tl (fun c => sm (fcN r L s m c) (nD r)) (nT r) (nT r - 1) 1 (ov + 1) = ckN r L j + tl (fun c => sm (fcN r L' s m c) (nD r)) (nT r) (nT r - 1) 1 ov := by
  have h7 := hv.d7
  have ht := hv.t1 (hv.mD hj)
  have ht2 := hv.t20
  obtain ⟨f1, f2, f3, f4, f5, f6, f7, f8, f9⟩ := s_nt_e hv hL hj ha.1
  rw [f4] at e1
  have k1 : ∀ k, k ≠ j → s_due r L' s k = s_due r L s k := fun k hk => by unfold s_due; rw [e2 k hk]
  have k2 : ∀ k, k ≠ j → tkN r L' k = tkN r L k := fun k hk => by unfold tkN; rw [e2 k hk]
  have k3 : ∀ k, k ≠ j → ckN r L' k = ckN r L k := fun k hk => by unfold ckN; rw [k2 k hk, e2 k hk]
  have dj : s_due r L' s j = true ↔ 0 < (tkN r L j - 1) * nT r := by
    rw [s_due_iff, e1]
    have := (s_due_iff.mp ha.1).1
    have h : (0 : Int32) < nI ((tkN r L j - 1) * nT r) ↔ 0 < (tkN r L j - 1) * nT r := nI_ltI (a := 0) (by omega) (by omega)
    rw [h]
    exact ⟨fun h => h.2, fun h => ⟨this, h⟩⟩
  have tj : tkN r L' j = tkN r L j - 1 := by
    rw [← f7]
    show ((L' j).toNatClampNeg + nT r - 1) / nT r = _
    rw [e1, ps_cl (by omega)]
  have cj : 0 < (tkN r L j - 1) * nT r → ckN r L' j = nT r := by
    intro h
    rw [← f9 h]
    show (L' j).toNatClampNeg - (tkN r L' j - 1) * nT r = _
    rw [e1, ps_cl (by omega), tj, f7]
  refine ⟨?_, ?_, ?_⟩
  · intro k hk
    by_cases h : k = j
    · subst h
      exact ⟨_, Nat.zero_le _, f5, e1⟩
    · rw [e2 k h]; exact hL k hk
  · have hu := sm_upd (f := fdN r L s m) (g := fdN r L' s m) (j := j) (fun k hk => by unfold fdN; rw [k1 k hk, k2 k hk]) _ hj
    have a1 : fdN r L s m j = tkN r L j := if_pos ha
    have a2 : fdN r L' s m j = tkN r L j - 1 := by
      unfold fdN
      by_cases h : 0 < (tkN r L j - 1) * nT r
      · rw [if_pos ⟨dj.mpr h, ha.2⟩, tj]
      · rw [if_neg (fun e => h (dj.mp e.1)), f8 (by omega)]
    omega
  · intro ov
    have u : ∀ c, sm (fcN r L' s m c) (nD r) + fcN r L s m c j = sm (fcN r L s m c) (nD r) + fcN r L' s m c j := fun c => sm_upd (fun k hk => by unfold fcN; rw [k1 k hk, k3 k hk]) _ hj
    have u2 : ∀ c, c < nT r → fcN r L' s m c j = 0 := by
      intro c hc
      unfold fcN
      refine if_neg (fun e => ?_)
      have := cj (dj.mp e.1.1)
      omega
    have u3 : ∀ c, c < ckN r L j → sm (fcN r L s m c) (nD r) = 0 := by
      intro c hc
      refine sm_0 _ (fun k hk => ?_)
      unfold fcN
      refine if_neg (fun e => ?_)
      have := hmin k hk e.1
      omega
    have u4 : ∀ c, c ≠ ckN r L j → fcN r L s m c j = 0 := fun c hc => by
      unfold fcN
      exact if_neg (fun e => hc e.2.symm)
    rcases Nat.eq_or_lt_of_le f3 with e | hlt
    · rw [tl_0 _ _ _ (fun i h1 h2 => u3 i (by omega)), tl_0 _ _ _ (fun i h1 h2 => by
        have := u i
        have := u2 i (by omega)
        have := u3 i (by omega)
        have := u4 i (by omega)
        omega), e, Nat.add_mul, Nat.one_mul]
      omega
    · refine tl_s (c0 := ckN r L j) ?_ ?_ u3 hlt (nT r - 1) 1 ov (by omega) f2
      · have := u (ckN r L j)
        have := u2 _ hlt
        have : fcN r L s m (ckN r L j) j = 1 := if_pos ⟨ha, rfl⟩
        omega
      · intro i hi hne
        have := u i
        have := u2 i hi
        have := u4 i hne
        omega
theorem s_ch_p (hv : VR r) (hL : ∀ k, k < 7 → bI (L k) 0 99) : ∀ k, k ≤ nD r → (s_ch r L s m k = -2 ∧ ∀ i, i < k → ¬ (s_due r L s i = true ∧ r (25 + 4 * i) = m)) ∨ ∃ j, j < k ∧ s_ch r L s m k = nI j ∧ (s_due r L s j = true ∧ r (25 + 4 * j) = m) ∧ ∀ i, i < k → s_due r L s i = true ∧ r (25 + 4 * i) = m → ckN r L j ≤ ckN r L i
  | 0, _ => Or.inl ⟨rfl, fun i hi => absurd hi (by omega)⟩
  | k + 1, hk => by
    have h7 := hv.d7
    have ih := s_ch_p hv hL k (by omega)
    by_cases ha : s_due r L s k = true ∧ r (25 + 4 * k) = m
    · obtain ⟨f1, f2, f3, -⟩ := s_nt_e hv hL (by omega) ha.1
      have t2 := hv.t20
      rcases ih with ⟨e, hi⟩ | ⟨j, hj, e, hj2, hm⟩
      · refine Or.inr ⟨k, by omega, ?_, ha, fun i hi2 ha2 => ?_⟩
        · show (if _ then _ else _) = _
          rw [if_pos ⟨ha.1, ha.2, Or.inl (by rw [e]; decide)⟩]
        · rcases Nat.eq_or_lt_of_le (Nat.lt_succ_iff.mp hi2) with rfl | h9
          · exact Nat.le_refl _
          · exact absurd ha2 (hi i h9)
      · obtain ⟨g1, g2, g3, -⟩ := s_nt_e hv hL (k := j) (by omega) hj2.1
        by_cases hc : ckN r L k < ckN r L j
        · refine Or.inr ⟨k, by omega, ?_, ha, fun i hi2 ha2 => ?_⟩
          · show (if _ then _ else _) = _
            rw [if_pos ⟨ha.1, ha.2, Or.inr (by rw [e, ps_cl (by omega), f1, g1]; exact nI_lt hc (by omega))⟩]
          · rcases Nat.eq_or_lt_of_le (Nat.lt_succ_iff.mp hi2) with rfl | h9
            · exact Nat.le_refl _
            · have := hm i h9 ha2; omega
        · refine Or.inr ⟨j, by omega, ?_, hj2, fun i hi2 ha2 => ?_⟩
          · show (if _ then _ else _) = _
            rw [if_neg (fun e2 => e2.2.2.elim (fun e3 => by rw [e] at e3; exact nI_pos (by omega) e3) (fun e3 => by rw [e, ps_cl (by omega), f1, g1, nI_ltI (by omega) (by omega)] at e3; exact hc e3)), e]
          · rcases Nat.eq_or_lt_of_le (Nat.lt_succ_iff.mp hi2) with rfl | h9
            · omega
            · exact hm i h9 ha2
    · have e0 : s_ch r L s m (k + 1) = s_ch r L s m k := by
        show (if _ then _ else _) = _
        rw [if_neg (fun e => ha ⟨e.1, e.2.1⟩)]
      rw [e0]
      rcases ih with ⟨e, hi⟩ | ⟨j, hj, e, hj2, hm⟩
      · refine Or.inl ⟨e, fun i hi2 => ?_⟩
        rcases Nat.eq_or_lt_of_le (Nat.lt_succ_iff.mp hi2) with rfl | h9
        · exact ha
        · exact hi i h9
      · refine Or.inr ⟨j, by omega, e, hj2, fun i hi2 ha2 => ?_⟩
        rcases Nat.eq_or_lt_of_le (Nat.lt_succ_iff.mp hi2) with rfl | h9
        · exact absurd ha2 ha
        · exact hm i h9 ha2
end Pay
/-- the burden that a head within the width may have -/
def bwN (kd w : Nat) : Nat := if kd = 2 then w / 2 else if kd = 3 then 2 * w else w
theorem ps_hb_le {kd b w : Nat} (hk : kd ≤ 3) (hb : b ≤ 1000) (hw : w ≤ 40) : s_hb (nI kd) (nI b) ≤ nI w ↔ kd = 1 ∨ b ≤ bwN kd w := by
  unfold s_hb bwN
  have e1 : (nI kd = 1) ↔ kd = 1 := nI_eq (b := 1) (by omega) (by omega)
  have e2 : (nI kd = 2) ↔ kd = 2 := nI_eq (b := 2) (by omega) (by omega)
  have e3 : (nI kd = 3) ↔ kd = 3 := nI_eq (b := 3) (by omega) (by omega)
  rcases (show kd = 0 ∨ kd = 1 ∨ kd = 2 ∨ kd = 3 by omega) with rfl | rfl | rfl | rfl
  · rw [if_neg (fun e => absurd (e1.mp e) (by omega)), if_neg (fun e => absurd (e2.mp e) (by omega)), if_neg (fun e => absurd (e3.mp e) (by omega)), if_neg (by omega), if_neg (by omega), nI_leI (by omega) (by omega)]
    omega
  · rw [if_pos (e1.mpr rfl)]
    exact ⟨fun _ => Or.inl rfl, fun _ => nI_le (a := 0) (by omega) (by omega)⟩
  · rw [if_neg (fun e => absurd (e1.mp e) (by omega)), if_pos (e2.mpr rfl), if_pos rfl, show (2 : Int32) * nI b = nI (2 * b) from pk_mul 2 b, nI_leI (by omega) (by omega)]
    omega
  · rw [if_neg (fun e => absurd (e1.mp e) (by omega)), if_neg (fun e => absurd (e2.mp e) (by omega)), if_pos (e3.mpr rfl), if_neg (show ¬ 3 = 2 by omega), if_pos rfl, nI_1, show nI (b + 1) / 2 = nI ((b + 1) / 2) from pk_div (d := 2) (by omega) (by omega) (by omega), nI_leI (by omega) (by omega)]
    omega
/-- what must be paid -/
def tollN (r L : Nat → Int32) (s : Int32) (m : Nat) (kd w : Nat) : Nat := if kd = 1 then 0 else tl (fun c => sm (fcN r L s (nI m) c) (nD r)) (nT r) (nT r - 1) 1 (sm (fdN r L s (nI m)) (nD r) - bwN kd w)
def s_toll (r st : Nat → Int32) (m d : Nat) : Int32 := if nI (tollN r st (st 12) m (r (10 + 3 * m)).toNatClampNeg (r (69 + d)).toNatClampNeg) ≤ st (7 + m) then nI (tollN r st (st 12) m (r (10 + 3 * m)).toNatClampNeg (r (69 + d)).toNatClampNeg) else -2
theorem ps_neg2' {j : Nat} (hj : j < 100000) : ¬ nI j = -2 := by
  intro e
  have h1 := nI_pos (n := j) (by omega)
  rw [e] at h1
  exact h1 (by decide)
