/-! ===== rings: the pure part ===== -/
def rmin (own : Nat) (g : Nat → Nat) (p : Nat → Bool) : Nat → Nat
  | 0 => own
  | d + 1 => if p d = true then min (rmin own g p d) (g d) else rmin own g p d
def rown (E : Nat → Nat → Bool) (h k c : Nat) : Nat := if 2 ≤ k ∧ E c h = true then k else 1000000
def rop (E : Nat → Nat → Bool) (met c m : Nat) : Bool := !met.testBit m && E c m
def fr (E : Nat → Nat → Bool) (N h : Nat) : Nat → Nat → Nat → Nat → Nat
  | 0, k, _, c => rown E h k c
  | rem + 1, k, met, c => rmin (rown E h k c) (fun m => fr E N h rem (k + 1) (met ||| 2 ^ m) m) (rop E met c) N
def prp (E : Nat → Nat → Bool) (N h rem k met c m : Nat) : Bool := rop E met c m && decide (fr E N h rem (k + 1) (met ||| 2 ^ m) m = fr E N h (rem + 1) k met c)
def pr (E : Nat → Nat → Bool) (N h : Nat) : Nat → Nat → Nat → Nat → (Nat → Int32) → (Nat → Int32)
  | 0, _, _, _, w => w
  | rem + 1, k, met, c, w => if rown E h k c = fr E N h (rem + 1) k met c then w else pr E N h rem (k + 1) (met ||| 2 ^ s_fs (prp E N h rem k met c) N 0) (s_fs (prp E N h rem k met c) N 0) (pu w k (nI (s_fs (prp E N h rem k met c) N 0)))
def tr (E : Nat → Nat → Bool) (N h : Nat) : Nat → Nat → Nat → Nat → (Nat → Int32) → (Nat × (Nat → Int32)) → (Nat × (Nat → Int32))
  | 0, k, _, c, w, s => if rown E h k c < s.1 then (rown E h k c, w) else s
  | rem + 1, k, met, c, w, s => tgd (fun m s => tr E N h rem (k + 1) (met ||| 2 ^ m) m (pu w k (nI m)) s) (rop E met c) N (if rown E h k c < s.1 then (rown E h k c, w) else s)
theorem rmin_p {own : Nat} {g : Nat → Nat} {p : Nat → Bool} : ∀ D, rmin own g p D ≤ own ∧ (∀ d, d < D → p d = true → rmin own g p D ≤ g d) ∧ (rmin own g p D = own ∨ ∃ d, d < D ∧ p d = true ∧ rmin own g p D = g d)
  | 0 => ⟨Nat.le_refl _, fun d hd => absurd hd (by omega), Or.inl rfl⟩
  | D + 1 => by
    obtain ⟨h1, h2, h3⟩ := rmin_p (own := own) (g := g) (p := p) D
    unfold rmin
    by_cases hp : p D = true
    · rw [if_pos hp]
      refine ⟨by omega, fun d hd hd2 => ?_, ?_⟩
      · rcases Nat.eq_or_lt_of_le (Nat.lt_succ_iff.mp hd) with rfl | h9
        · omega
        · have := h2 d h9 hd2; omega
      · by_cases hm : g D ≤ rmin own g p D
        · exact Or.inr ⟨D, by omega, hp, by omega⟩
        · rw [Nat.min_eq_left (by omega)]
          rcases h3 with h3 | ⟨d, hd, h4, h5⟩
          · exact Or.inl h3
          · exact Or.inr ⟨d, by omega, h4, h5⟩
    · rw [if_neg hp]
      refine ⟨h1, fun d hd hd2 => ?_, ?_⟩
      · rcases Nat.eq_or_lt_of_le (Nat.lt_succ_iff.mp hd) with rfl | h9
        · exact absurd hd2 hp
        · exact h2 d h9 hd2
      · rcases h3 with h3 | ⟨d, hd, h4, h5⟩
        · exact Or.inl h3
        · exact Or.inr ⟨d, by omega, h4, h5⟩
/-- the first is the one -/
theorem s_fs_1 {p : Nat → Bool} {d : Nat} : ∀ D i, i ≤ d → d < i + D → p d = true → (∀ e, i ≤ e → e < d → ¬ p e = true) → s_fs p D i = d
  | 0, i, h1, h2, _, _ => absurd h1 (by omega)
  | D + 1, i, h1, h2, h3, h4 => by
    unfold s_fs
    by_cases hp : p i = true
    · rw [if_pos hp]
      rcases Nat.eq_or_lt_of_le h1 with e | h9
      · exact e
      · exact absurd hp (h4 i (Nat.le_refl _) h9)
    · rw [if_neg hp]
      rcases Nat.eq_or_lt_of_le h1 with e | h9
      · subst e; exact absurd h3 hp
      · exact s_fs_1 D (i + 1) (by omega) (by omega) h3 (fun e h5 h6 => h4 e (by omega) h6)
theorem tr_e (E : Nat → Nat → Bool) (N h : Nat) : ∀ rem k met c w s, s.1 ≤ 1000000 → tr E N h rem k met c w s = if fr E N h rem k met c < s.1 then (fr E N h rem k met c, pr E N h rem k met c w) else s
  | 0, k, met, c, w, s, _ => rfl
  | rem + 1, k, met, c, w, s, hs => by
    have ih := tr_e E N h rem
    show tgd (fun m s => tr E N h rem (k + 1) (met ||| 2 ^ m) m (pu w k (nI m)) s) (rop E met c) N (if rown E h k c < s.1 then (rown E h k c, w) else s) = _
    obtain ⟨m1, m2, m3⟩ := rmin_p (own := rown E h k c) (g := fun m => fr E N h rem (k + 1) (met ||| 2 ^ m) m) (p := rop E met c) N
    have em : fr E N h (rem + 1) k met c = rmin (rown E h k c) (fun m => fr E N h rem (k + 1) (met ||| 2 ^ m) m) (rop E met c) N := rfl
    have efd : ∀ d, prp E N h rem k met c d = true ↔ rop E met c d = true ∧ fr E N h rem (k + 1) (met ||| 2 ^ d) d = fr E N h (rem + 1) k met c := fun d => by unfold prp; rw [Bool.and_eq_true, decide_eq_true_eq]
    rw [← em] at m1 m2 m3
    have inv : ∀ D, D ≤ N → (tgd (fun m s => tr E N h rem (k + 1) (met ||| 2 ^ m) m (pu w k (nI m)) s) (rop E met c) D (if rown E h k c < s.1 then (rown E h k c, w) else s) = s ∧ s.1 ≤ rown E h k c ∧ ∀ d, d < D → rop E met c d = true → s.1 ≤ fr E N h rem (k + 1) (met ||| 2 ^ d) d) ∨ (tgd (fun m s => tr E N h rem (k + 1) (met ||| 2 ^ m) m (pu w k (nI m)) s) (rop E met c) D (if rown E h k c < s.1 then (rown E h k c, w) else s) = (rown E h k c, w) ∧ rown E h k c < s.1 ∧ ∀ d, d < D → rop E met c d = true → rown E h k c ≤ fr E N h rem (k + 1) (met ||| 2 ^ d) d) ∨ ∃ d, d < D ∧ rop E met c d = true ∧ tgd (fun m s => tr E N h rem (k + 1) (met ||| 2 ^ m) m (pu w k (nI m)) s) (rop E met c) D (if rown E h k c < s.1 then (rown E h k c, w) else s) = (fr E N h rem (k + 1) (met ||| 2 ^ d) d, pr E N h rem (k + 1) (met ||| 2 ^ d) d (pu w k (nI d))) ∧ fr E N h rem (k + 1) (met ||| 2 ^ d) d < s.1 ∧ fr E N h rem (k + 1) (met ||| 2 ^ d) d < rown E h k c ∧ (∀ e, e < D → rop E met c e = true → fr E N h rem (k + 1) (met ||| 2 ^ d) d ≤ fr E N h rem (k + 1) (met ||| 2 ^ e) e) ∧ ∀ e, e < d → rop E met c e = true → fr E N h rem (k + 1) (met ||| 2 ^ d) d < fr E N h rem (k + 1) (met ||| 2 ^ e) e := by
      intro D
      induction D with
      | zero =>
        intro _
        by_cases ho : rown E h k c < s.1
        · exact Or.inr (Or.inl ⟨if_pos ho, ho, fun d hd => absurd hd (by omega)⟩)
        · exact Or.inl ⟨if_neg ho, by omega, fun d hd => absurd hd (by omega)⟩
      | succ D ihD =>
        intro hD
        have h0 := ihD (by omega)
        have e0 : ∀ s', s'.1 ≤ 1000000 → tgd (fun m s => tr E N h rem (k + 1) (met ||| 2 ^ m) m (pu w k (nI m)) s) (rop E met c) D (if rown E h k c < s.1 then (rown E h k c, w) else s) = s' → tgd (fun m s => tr E N h rem (k + 1) (met ||| 2 ^ m) m (pu w k (nI m)) s) (rop E met c) (D + 1) (if rown E h k c < s.1 then (rown E h k c, w) else s) = if rop E met c D = true then (if fr E N h rem (k + 1) (met ||| 2 ^ D) D < s'.1 then (fr E N h rem (k + 1) (met ||| 2 ^ D) D, pr E N h rem (k + 1) (met ||| 2 ^ D) D (pu w k (nI D))) else s') else s' := by
          intro s' hs' e
          show (if _ then tr E N h rem _ _ _ _ _ else _) = _
          rw [e, ih _ _ _ _ _ hs']
        have l : ∀ d, d < D + 1 → d = D ∨ d < D := fun d hd => by omega
        rcases h0 with ⟨h1, h2, h3⟩ | ⟨h1, h2, h3⟩ | ⟨d, hd, h1, h2, h3, h4, h5, h6⟩
        · have e1 := e0 _ hs h1
          by_cases hp : rop E met c D = true
          · rw [if_pos hp] at e1
            by_cases hc : fr E N h rem (k + 1) (met ||| 2 ^ D) D < s.1
            · rw [if_pos hc] at e1
              refine Or.inr (Or.inr ⟨D, by omega, hp, e1, hc, by omega, fun e he he2 => ?_, fun e he he2 => ?_⟩)
              · rcases l e he with rfl | h9
                · exact Nat.le_refl _
                · have := h3 e h9 he2; omega
              · have := h3 e he he2; omega
            · rw [if_neg hc] at e1
              refine Or.inl ⟨e1, h2, fun e he he2 => ?_⟩
              rcases l e he with rfl | h9
              · omega
              · exact h3 e h9 he2
          · rw [if_neg hp] at e1
            refine Or.inl ⟨e1, h2, fun e he he2 => ?_⟩
            rcases l e he with rfl | h9
            · exact absurd he2 hp
            · exact h3 e h9 he2
        · have e1 := e0 _ (by dsimp only; omega) h1
          dsimp only at e1
          by_cases hp : rop E met c D = true
          · rw [if_pos hp] at e1
            by_cases hc : fr E N h rem (k + 1) (met ||| 2 ^ D) D < rown E h k c
            · rw [if_pos hc] at e1
              refine Or.inr (Or.inr ⟨D, by omega, hp, e1, by omega, hc, fun e he he2 => ?_, fun e he he2 => ?_⟩)
              · rcases l e he with rfl | h9
                · exact Nat.le_refl _
                · have := h3 e h9 he2; omega
              · have := h3 e he he2; omega
            · rw [if_neg hc] at e1
              refine Or.inr (Or.inl ⟨e1, h2, fun e he he2 => ?_⟩)
              rcases l e he with rfl | h9
              · omega
              · exact h3 e h9 he2
          · rw [if_neg hp] at e1
            refine Or.inr (Or.inl ⟨e1, h2, fun e he he2 => ?_⟩)
            rcases l e he with rfl | h9
            · exact absurd he2 hp
            · exact h3 e h9 he2
        · have e1 := e0 _ (by dsimp only; omega) h2
          dsimp only at e1
          by_cases hp : rop E met c D = true
          · rw [if_pos hp] at e1
            by_cases hc : fr E N h rem (k + 1) (met ||| 2 ^ D) D < fr E N h rem (k + 1) (met ||| 2 ^ d) d
            · rw [if_pos hc] at e1
              refine Or.inr (Or.inr ⟨D, by omega, hp, e1, by omega, by omega, fun e he he2 => ?_, fun e he he2 => ?_⟩)
              · rcases l e he with rfl | h9
                · exact Nat.le_refl _
                · have := h5 e h9 he2; omega
              · have := h5 e he he2; omega
            · rw [if_neg hc] at e1
              refine Or.inr (Or.inr ⟨d, by omega, h1, e1, h3, h4, fun e he he2 => ?_, h6⟩)
              rcases l e he with rfl | h9
              · omega
              · exact h5 e h9 he2
          · rw [if_neg hp] at e1
            refine Or.inr (Or.inr ⟨d, by omega, h1, e1, h3, h4, fun e he he2 => ?_, h6⟩)
            rcases l e he with rfl | h9
            · exact absurd he2 hp
            · exact h5 e h9 he2
    simp only [pr]
    rcases inv N (Nat.le_refl _) with ⟨h1, h2, h3⟩ | ⟨h1, h2, h3⟩ | ⟨d, hd, h1, h2, h3, h4, h5, h6⟩
    · rw [h1, if_neg]
      rcases m3 with m3 | ⟨d, hd, g1, g2⟩
      · omega
      · have := h3 d hd g1; omega
    · have e2 : rown E h k c = fr E N h (rem + 1) k met c := by
        rcases m3 with m3 | ⟨d, hd, g1, g2⟩
        · exact m3.symm
        · have := h3 d hd g1; omega
      rw [h1, if_pos e2, ← e2, if_pos h2]
    · have e2 : fr E N h rem (k + 1) (met ||| 2 ^ d) d = fr E N h (rem + 1) k met c := by
        have := m2 d hd h1
        rcases m3 with m3 | ⟨d', hd', g1, g2⟩
        · omega
        · have := h5 d' hd' g1; omega
      have e3 : s_fs (prp E N h rem k met c) N 0 = d := s_fs_1 N 0 (Nat.zero_le _) (by omega) ((efd d).mpr ⟨h1, e2⟩) (fun e _ he he2 => by
        obtain ⟨g1, g2⟩ := (efd e).mp he2
        have := h6 e he g1
        omega)
      rw [h2, if_pos (by omega), if_neg (by omega), e3, e2]
/-! walks home -/
def wk (E : Nat → Nat → Bool) (N h : Nat) : Nat → Nat → Prop
  | 0, m => m = h
  | j + 1, m => ∃ x, x < N ∧ E m x = true ∧ wk E N h j x
theorem rown_lt {E : Nat → Nat → Bool} {h k c : Nat} (hl : rown E h k c < 1000000) : 2 ≤ k ∧ E c h = true ∧ rown E h k c = k := by
  unfold rown at hl ⊢
  by_cases hc : 2 ≤ k ∧ E c h = true
  · rw [if_pos hc]; exact ⟨hc.1, hc.2, rfl⟩
  · rw [if_neg hc] at hl; omega
theorem rop_iff {E : Nat → Nat → Bool} {met c m : Nat} : rop E met c m = true ↔ ¬ met.testBit m = true ∧ E c m = true := by
  unfold rop
  rw [Bool.and_eq_true, Bool.not_eq_true', Bool.not_eq_true]
theorem fr_wk {E : Nat → Nat → Bool} {N h : Nat} (hh : h < N) : ∀ rem k met c, fr E N h rem k met c < 1000000 → k ≤ fr E N h rem k met c ∧ fr E N h rem k met c ≤ k + rem ∧ wk E N h (fr E N h rem k met c - k + 1) c
  | 0, k, met, c, hl => by
    have hl : rown E h k c < 1000000 := hl
    obtain ⟨h1, h2, h3⟩ := rown_lt hl
    show k ≤ rown E h k c ∧ rown E h k c ≤ k + 0 ∧ wk E N h (rown E h k c - k + 1) c
    rw [h3, Nat.sub_self]
    exact ⟨Nat.le_refl _, Nat.le_refl _, h, hh, h2, rfl⟩
  | rem + 1, k, met, c, hl => by
    obtain ⟨m1, m2, m3⟩ := rmin_p (own := rown E h k c) (g := fun m => fr E N h rem (k + 1) (met ||| 2 ^ m) m) (p := rop E met c) N
    have em : fr E N h (rem + 1) k met c = rmin (rown E h k c) (fun m => fr E N h rem (k + 1) (met ||| 2 ^ m) m) (rop E met c) N := rfl
    rw [← em] at m1 m2 m3
    rcases m3 with m3 | ⟨d, hd, g1, g2⟩
    · obtain ⟨h1, h2, h3⟩ := rown_lt (show rown E h k c < 1000000 by omega)
      rw [m3, h3, Nat.sub_self]
      exact ⟨Nat.le_refl _, by omega, h, hh, h2, rfl⟩
    · obtain ⟨i1, i2, i3⟩ := fr_wk (E := E) hh rem (k + 1) (met ||| 2 ^ d) d (by omega)
      rw [g2]
      refine ⟨by omega, by omega, ?_⟩
      rw [show fr E N h rem (k + 1) (met ||| 2 ^ d) d - k + 1 = (fr E N h rem (k + 1) (met ||| 2 ^ d) d - (k + 1) + 1) + 1 by omega]
      exact ⟨d, hd, (rop_iff.mp g1).2, i3⟩
/-- S m is one more than the steps home, 0 if there is no way -/
def DS (E : Nat → Nat → Bool) (N h : Nat) (S : Nat → Nat) : Prop := ∀ m, m < N → (S m = 0 ∧ ∀ j, j < N → ¬ wk E N h j m) ∨ ∃ j, j < N ∧ S m = j + 1 ∧ wk E N h j m ∧ ∀ i, i < j → ¬ wk E N h i m
theorem DS.w {E : Nat → Nat → Bool} {N h : Nat} {S : Nat → Nat} (hS : DS E N h S) {m j : Nat} (hm : m < N) (hj : j < N) (hw : wk E N h j m) : 0 < S m ∧ S m ≤ j + 1 := by
  rcases hS m hm with ⟨-, h2⟩ | ⟨i, h1, h2, h3, h4⟩
  · exact absurd hw (h2 j hj)
  · refine ⟨by omega, ?_⟩
    by_cases h : j < i
    · exact absurd hw (h4 j h)
    · omega
theorem DS.n {E : Nat → Nat → Bool} {N h : Nat} {S : Nat → Nat} (hS : DS E N h S) {m s : Nat} (hm : m < N) (e : S m = s + 1) : s < N ∧ wk E N h s m ∧ ∀ i, i < s → ¬ wk E N h i m := by
  rcases hS m hm with ⟨h1, -⟩ | ⟨i, h1, h2, h3, h4⟩
  · omega
  · have : i = s := by omega
    subst this
    exact ⟨h1, h3, h4⟩
/-- a node of the search on a shortest way -/
def NC (E : Nat → Nat → Bool) (N h : Nat) (S : Nat → Nat) (rem k met c e : Nat) : Prop := 2 ≤ k ∧ k + rem = N ∧ c < N ∧ S c = e + 2 ∧ k + e ≤ N ∧ met < 2 ^ N ∧ ∀ x, x < N → met.testBit x = true → x ≠ h → S c ≤ S x
theorem ps_tbo {a m x : Nat} : (a ||| 2 ^ m).testBit x = (a.testBit x || decide (m = x)) := by
  rw [Nat.testBit_or, Nat.testBit_two_pow]
theorem ps_ltp {N a m : Nat} (ha : a < 2 ^ N) (hm : m < N) : (a ||| 2 ^ m) < 2 ^ N := Nat.or_lt_two_pow ha (Nat.pow_lt_pow_right (by decide) hm)
theorem nc_fr {E : Nat → Nat → Bool} {N h : Nat} {S : Nat → Nat} (hh : h < N) (hN : N ≤ 1000) (hS : DS E N h S) : ∀ e rem k met c, NC E N h S rem k met c e → fr E N h rem k met c = k + e
  | 0, rem, k, met, c, hn => by
    obtain ⟨n1, n2, n3, n4, n5, n6, n7⟩ := hn
    obtain ⟨d1, ⟨x, hx, hE, (rfl : x = h)⟩, -⟩ := hS.n n3 n4
    have ho : rown E x k c = k := if_pos ⟨n1, hE⟩
    cases rem with
    | zero => exact ho
    | succ rem =>
      have m1 := (rmin_p (own := rown E x k c) (g := fun m => fr E N x rem (k + 1) (met ||| 2 ^ m) m) (p := rop E met c) N).1
      have em : fr E N x (rem + 1) k met c = rmin (rown E x k c) (fun m => fr E N x rem (k + 1) (met ||| 2 ^ m) m) (rop E met c) N := rfl
      rw [← em] at m1
      have := (fr_wk (E := E) hh (rem + 1) k met c (by omega)).1
      omega
  | e + 1, rem, k, met, c, hn => by
    obtain ⟨n1, n2, n3, n4, n5, n6, n7⟩ := hn
    obtain ⟨d1, ⟨m, hm, hE, hw⟩, d3⟩ := hS.n n3 n4
    cases rem with
    | zero => omega
    | succ rem =>
      have sm1 := hS.w hm (by omega) hw
      have sm2 : S m = e + 2 := by
        apply Classical.byContradiction
        intro hc
        obtain ⟨s, hs⟩ : ∃ s, S m = s + 1 := ⟨S m - 1, by omega⟩
        obtain ⟨-, w2, -⟩ := hS.n hm hs
        exact d3 (s + 1) (by omega) ⟨m, hm, hE, w2⟩
      have mh : m ≠ h := by
        intro e2
        subst e2
        have := hS.w (j := 0) hm (by omega) rfl
        omega
      have un : ¬ met.testBit m = true := by
        intro e2
        have := n7 m hm e2 mh
        omega
      have ih := nc_fr hh hN hS e rem (k + 1) (met ||| 2 ^ m) m ⟨by omega, by omega, hm, sm2, by omega, ps_ltp n6 hm, fun x hx hb hne => by
        rw [ps_tbo, Bool.or_eq_true, decide_eq_true_eq] at hb
        rcases hb with hb | rfl
        · have := n7 x hx hb hne; omega
        · omega⟩
      have m2 := (rmin_p (own := rown E h k c) (g := fun m => fr E N h rem (k + 1) (met ||| 2 ^ m) m) (p := rop E met c) N).2.1 m hm (rop_iff.mpr ⟨un, hE⟩)
      have em : fr E N h (rem + 1) k met c = rmin (rown E h k c) (fun m => fr E N h rem (k + 1) (met ||| 2 ^ m) m) (rop E met c) N := rfl
      rw [← em] at m2
      obtain ⟨f1, f2, f3⟩ := fr_wk (E := E) hh (rem + 1) k met c (by omega)
      have := hS.w n3 (by omega) f3
      omega
/-- the step on from there -/
theorem nc_step {E : Nat → Nat → Bool} {N h : Nat} {S : Nat → Nat} (hh : h < N) (hN : N ≤ 1000) (hS : DS E N h S) {e rem k met c : Nat} (hn : NC E N h S (rem + 1) k met c (e + 1)) : ¬ rown E h k c = fr E N h (rem + 1) k met c ∧ (∀ m, m < N → (prp E N h rem k met c m = true ↔ E c m = true ∧ S m = e + 2)) ∧ (∀ m, m < N → E c m = true → S m = e + 2 → NC E N h S rem (k + 1) (met ||| 2 ^ m) m e) ∧ ∃ m, m < N ∧ E c m = true ∧ S m = e + 2 := by
  have hf := nc_fr hh hN hS _ _ _ _ _ hn
  obtain ⟨n1, n2, n3, n4, n5, n6, n7⟩ := hn
  obtain ⟨d1, ⟨m0, hm0, hE0, hw0⟩, d3⟩ := hS.n n3 n4
  have low : ∀ m, m < N → E c m = true → 0 < S m → e + 2 ≤ S m := by
    intro m hm hE h0
    apply Classical.byContradiction
    intro hc
    obtain ⟨s, hs⟩ : ∃ s, S m = s + 1 := ⟨S m - 1, by omega⟩
    obtain ⟨-, w2, -⟩ := hS.n hm hs
    exact d3 (s + 1) (by omega) ⟨m, hm, hE, w2⟩
  have nch : ∀ m, m < N → E c m = true → S m = e + 2 → NC E N h S rem (k + 1) (met ||| 2 ^ m) m e := by
    intro m hm hE sm2
    exact ⟨by omega, by omega, hm, sm2, by omega, ps_ltp n6 hm, fun x hx hb hne => by
      rw [ps_tbo, Bool.or_eq_true, decide_eq_true_eq] at hb
      rcases hb with hb | rfl
      · have := n7 x hx hb hne; omega
      · omega⟩
  refine ⟨fun hr => ?_, fun m hm => ?_, nch, m0, hm0, hE0, ?_⟩
  · obtain ⟨-, -, r3⟩ := rown_lt (E := E) (h := h) (k := k) (c := c) (by omega)
    omega
  · unfold prp
    rw [Bool.and_eq_true, decide_eq_true_eq, rop_iff, hf]
    constructor
    · rintro ⟨⟨un, hE⟩, hc⟩
      obtain ⟨f1, f2, f3⟩ := fr_wk (E := E) hh rem (k + 1) (met ||| 2 ^ m) m (by omega)
      have := hS.w hm (by omega) f3
      have := low m hm hE this.1
      exact ⟨hE, by omega⟩
    · rintro ⟨hE, sm2⟩
      refine ⟨⟨fun e2 => ?_, hE⟩, ?_⟩
      · have mh : m ≠ h := by
          intro e3
          subst e3
          have := hS.w (j := 0) hm (by omega) rfl
          omega
        have := n7 m hm e2 mh
        omega
      · have := nc_fr hh hN hS _ _ _ _ _ (nch m hm hE sm2)
        omega
  · have := hS.w hm0 (by omega) hw0
    have := low m0 hm0 hE0 this.1
    omega
/-- the search as it begins -/
theorem nc_top {E : Nat → Nat → Bool} {N h : Nat} {S : Nat → Nat} (hh : h < N) (hN : N ≤ 1000) (hS : DS E N h S) (hr : E h h = false) {rem : Nat} (hrem : rem + 1 + 1 = N) {l : Nat} (hl : ∀ m, m < N → E h m = true → 0 < S m → l ≤ S m) (hx : ∃ m, m < N ∧ E h m = true ∧ S m = l) (l0 : 0 < l) : fr E N h (rem + 1) 1 (2 ^ h) h = l ∧ l ≤ N ∧ 2 ≤ l ∧ (∀ m, m < N → (prp E N h rem 1 (2 ^ h) h m = true ↔ E h m = true ∧ S m = l)) ∧ ∀ m, m < N → E h m = true → S m = l → NC E N h S rem 2 (2 ^ h ||| 2 ^ m) m (l - 2) := by
  have lN : ∀ m, m < N → 0 < S m → S m ≤ N := by
    intro m hm h0
    obtain ⟨s, hs⟩ : ∃ s, S m = s + 1 := ⟨S m - 1, by omega⟩
    have := (hS.n hm hs).1
    omega
  have ne : ∀ m, E h m = true → m ≠ h := fun m hE e => by subst e; rw [hr] at hE; exact absurd hE (by decide)
  have s2 : ∀ m, m < N → E h m = true → 0 < S m → 2 ≤ S m := by
    intro m hm hE h0
    apply Classical.byContradiction
    intro hc
    obtain ⟨-, w2, -⟩ := hS.n (s := 0) hm (by omega)
    exact ne m hE w2
  have un : ∀ m, E h m = true → ¬ (2 ^ h).testBit m = true := by
    intro m hE e
    rw [Nat.testBit_two_pow, decide_eq_true_eq] at e
    exact ne m hE e.symm
  have nch : ∀ m, m < N → E h m = true → 0 < S m → NC E N h S rem 2 (2 ^ h ||| 2 ^ m) m (S m - 2) := by
    intro m hm hE h0
    have a := s2 m hm hE h0
    have b := lN m hm h0
    refine ⟨Nat.le_refl _, by omega, hm, by omega, by omega, ps_ltp (Nat.pow_lt_pow_right (by decide) hh) hm, fun x hx hb hne => ?_⟩
    rw [ps_tbo, Bool.or_eq_true, decide_eq_true_eq, Nat.testBit_two_pow, decide_eq_true_eq] at hb
    rcases hb with hb | rfl
    · exact absurd hb.symm hne
    · omega
  have fc : ∀ m, m < N → E h m = true → 0 < S m → fr E N h rem 2 (2 ^ h ||| 2 ^ m) m = S m := by
    intro m hm hE h0
    have a := s2 m hm hE h0
    have := nc_fr hh hN hS _ _ _ _ _ (nch m hm hE h0)
    omega
  have fi : ∀ m, m < N → fr E N h rem 2 (2 ^ h ||| 2 ^ m) m < 1000000 → 0 < S m := by
    intro m hm hlt
    obtain ⟨f1, f2, f3⟩ := fr_wk (E := E) hh rem 2 (2 ^ h ||| 2 ^ m) m hlt
    exact (hS.w hm (by omega) f3).1
  obtain ⟨x, hx1, hx2, hx3⟩ := hx
  have xb := lN x hx1 (by omega)
  have x2 := s2 x hx1 hx2 (by omega)
  obtain ⟨m1, m2, m3⟩ := rmin_p (own := rown E h 1 h) (g := fun m => fr E N h rem (1 + 1) (2 ^ h ||| 2 ^ m) m) (p := rop E (2 ^ h) h) N
  have em : fr E N h (rem + 1) 1 (2 ^ h) h = rmin (rown E h 1 h) (fun m => fr E N h rem (1 + 1) (2 ^ h ||| 2 ^ m) m) (rop E (2 ^ h) h) N := rfl
  rw [← em] at m1 m2 m3
  have top : fr E N h (rem + 1) 1 (2 ^ h) h = l := by
    have a := m2 x hx1 (rop_iff.mpr ⟨un x hx2, hx2⟩)
    rw [fc x hx1 hx2 (by omega)] at a
    rcases m3 with m3 | ⟨d, hd, g1, g2⟩
    · have : rown E h 1 h = 1000000 := if_neg (fun e => absurd e.1 (by omega))
      omega
    · obtain ⟨-, g3⟩ := rop_iff.mp g1
      have g2 : fr E N h (rem + 1) 1 (2 ^ h) h = fr E N h rem 2 (2 ^ h ||| 2 ^ d) d := g2
      have h0 := fi d hd (by omega)
      rw [fc d hd g3 h0] at g2
      have := hl d hd g3 h0
      omega
  refine ⟨top, by omega, by omega, fun m hm => ?_, fun m hm hE hs => ?_⟩
  · unfold prp
    rw [Bool.and_eq_true, decide_eq_true_eq, rop_iff, top]
    constructor
    · rintro ⟨⟨-, hE⟩, hc⟩
      have hc : fr E N h rem 2 (2 ^ h ||| 2 ^ m) m = l := hc
      have h0 := fi m hm (by omega)
      rw [fc m hm hE h0] at hc
      exact ⟨hE, hc⟩
    · rintro ⟨hE, hs⟩
      exact ⟨⟨un m hE, hE⟩, by rw [fc m hm hE (by omega)]; exact hs⟩
  · have := nch m hm hE (by omega)
    rw [hs] at this
    exact this
theorem nc_none {E : Nat → Nat → Bool} {N h : Nat} {S : Nat → Nat} (hh : h < N) (hS : DS E N h S) {rem : Nat} (hrem : rem + 1 = N) (hx : ∀ m, m < N → E h m = true → S m = 0) : ¬ fr E N h rem 1 (2 ^ h) h < 1000000 := by
  intro hl
  obtain ⟨f1, f2, f3⟩ := fr_wk (E := E) hh rem 1 (2 ^ h) h hl
  obtain ⟨x, a, b, c⟩ := f3
  have := hS.w a (by omega) c
  have := hx x a b
  omega
