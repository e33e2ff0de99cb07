/-! ===== guests ===== -/
def mo (f : Nat → Nat) (p : Nat → Bool) (U : Nat) : Nat → Nat
  | 0 => f U
  | d + 1 => if p d = true then max (mo f p U d) (1 + f (U ||| 2 ^ d)) else mo f p U d
def opn (ok : Nat → Nat → Bool) (U m d : Nat) : Bool := !U.testBit d && ok m d
def mx (ok : Nat → Nat → Bool) (N O : Nat) : Nat → Nat → Nat
  | 0, _ => 0
  | k + 1, U => mo (mx ok N O k) (opn ok U (N - (k + 1))) U O
def fdp (ok : Nat → Nat → Bool) (N O k U d : Nat) : Bool := opn ok U (N - (k + 1)) d && decide (1 + mx ok N O k (U ||| 2 ^ d) = mx ok N O (k + 1) U)
def pu (w : Nat → Int32) (m : Nat) (x : Int32) : Nat → Int32 := fun j => if j = m then x else w j
def pth (ok : Nat → Nat → Bool) (N O : Nat) : Nat → Nat → (Nat → Int32) → (Nat → Int32)
  | 0, _, w => w
  | k + 1, U, w => pth ok N O k (if s_until (fdp ok N O k U) 0 O = -2 then U else U ||| 2 ^ (s_until (fdp ok N O k U) 0 O).toNatClampNeg) (pu w (N - (k + 1)) (s_until (fdp ok N O k U) 0 O))
def tgd (g : Nat → (Nat × (Nat → Int32)) → (Nat × (Nat → Int32))) (p : Nat → Bool) : Nat → (Nat × (Nat → Int32)) → (Nat × (Nat → Int32))
  | 0, s => s
  | d + 1, s => if p d = true then g d (tgd g p d s) else tgd g p d s
def tg (ok : Nat → Nat → Bool) (N O : Nat) : Nat → Nat → Nat → (Nat → Int32) → (Nat × (Nat → Int32)) → (Nat × (Nat → Int32))
  | 0, _, many, w, s => if s.1 ≤ many then (many + 1, w) else s
  | k + 1, U, many, w, s => tg ok N O k U many (pu w (N - (k + 1)) (-2)) (tgd (fun d s => tg ok N O k (U ||| 2 ^ d) (many + 1) (pu w (N - (k + 1)) (nI d)) s) (opn ok U (N - (k + 1))) O s)
theorem mo_p {f : Nat → Nat} {p : Nat → Bool} {U : Nat} : ∀ D, f U ≤ mo f p U D ∧ (∀ d, d < D → p d = true → 1 + f (U ||| 2 ^ d) ≤ mo f p U D) ∧ (mo f p U D = f U ∨ ∃ d, d < D ∧ p d = true ∧ mo f p U D = 1 + f (U ||| 2 ^ d))
  | 0 => ⟨Nat.le_refl _, fun d hd => absurd hd (by omega), Or.inl rfl⟩
  | D + 1 => by
    obtain ⟨h1, h2, h3⟩ := mo_p (f := f) (p := p) (U := U) D
    unfold mo
    by_cases hp : p D = true
    · rw [if_pos hp]
      refine ⟨by omega, fun d hd hd2 => ?_, ?_⟩
      · rcases Nat.eq_or_lt_of_le (Nat.lt_succ_iff.mp hd) with rfl | h9
        · omega
        · have := h2 d h9 hd2; omega
      · by_cases hm : mo f p U D ≤ 1 + f (U ||| 2 ^ D)
        · exact Or.inr ⟨D, by omega, hp, by omega⟩
        · rw [Nat.max_eq_left (by omega)]
          rcases h3 with h3 | ⟨d, hd, h4, h5⟩
          · exact Or.inl h3
          · exact Or.inr ⟨d, by omega, h4, h5⟩
    · rw [if_neg hp]
      refine ⟨h1, fun d hd hd2 => ?_, ?_⟩
      · rcases Nat.eq_or_lt_of_le (Nat.lt_succ_iff.mp hd) with rfl | h9
        · exact absurd hd2 hp
        · exact h2 d h9 hd2
      · rcases h3 with h3 | ⟨d, hd, h4, h5⟩
        · exact Or.inl h3
        · exact Or.inr ⟨d, by omega, h4, h5⟩
theorem s_un_p {p : Nat → Bool} : ∀ D i, (s_until p i D = -2 ∧ ∀ d, i ≤ d → d < i + D → ¬ p d = true) ∨ ∃ d, i ≤ d ∧ d < i + D ∧ s_until p i D = nI d ∧ p d = true ∧ ∀ e, i ≤ e → e < d → ¬ p e = true
  | 0, i => Or.inl ⟨rfl, fun d h1 h2 => absurd h1 (by omega)⟩
  | D + 1, i => by
    unfold s_until
    by_cases hp : p i = true
    · rw [if_pos hp]
      exact Or.inr ⟨i, by omega, by omega, rfl, hp, fun e h1 h2 => absurd h1 (by omega)⟩
    · rw [if_neg hp]
      rcases s_un_p (p := p) D (i + 1) with ⟨h1, h2⟩ | ⟨d, h1, h2, h3, h4, h5⟩
      · refine Or.inl ⟨h1, fun d h3 h4 => ?_⟩
        rcases Nat.eq_or_lt_of_le h3 with rfl | h9
        · exact hp
        · exact h2 d h9 (by omega)
      · refine Or.inr ⟨d, by omega, by omega, h3, h4, fun e h6 h7 => ?_⟩
        rcases Nat.eq_or_lt_of_le h6 with rfl | h9
        · exact hp
        · exact h5 e h9 h7
theorem mx_le (ok : Nat → Nat → Bool) (N O : Nat) : ∀ k U, mx ok N O k U ≤ k
  | 0, _ => Nat.le_refl _
  | k + 1, U => by
    show mo (mx ok N O k) (opn ok U (N - (k + 1))) U O ≤ k + 1
    obtain ⟨-, -, h | ⟨d, -, -, h⟩⟩ := mo_p (f := mx ok N O k) (p := opn ok U (N - (k + 1))) (U := U) O
    · have := mx_le ok N O k U; omega
    · have := mx_le ok N O k (U ||| 2 ^ d); omega
theorem tg_e (ok : Nat → Nat → Bool) (N O : Nat) (hO : O < 1000) : ∀ k U many w s, tg ok N O k U many w s = if s.1 ≤ many + mx ok N O k U then (many + mx ok N O k U + 1, pth ok N O k U w) else s
  | 0, U, many, w, s => rfl
  | k + 1, U, many, w, s => by
    have ih := tg_e ok N O hO k
    show tg ok N O k U many (pu w (N - (k + 1)) (-2)) (tgd (fun d s => tg ok N O k (U ||| 2 ^ d) (many + 1) (pu w (N - (k + 1)) (nI d)) s) (opn ok U (N - (k + 1))) O s) = _
    obtain ⟨m1, m2, m3⟩ := mo_p (f := mx ok N O k) (p := opn ok U (N - (k + 1))) (U := U) O
    have em : mx ok N O (k + 1) U = mo (mx ok N O k) (opn ok U (N - (k + 1))) U O := rfl
    have efd : ∀ d, fdp ok N O k U d = true ↔ opn ok U (N - (k + 1)) d = true ∧ 1 + mx ok N O k (U ||| 2 ^ d) = mx ok N O (k + 1) U := fun d => by unfold fdp; rw [Bool.and_eq_true, decide_eq_true_eq]
    rw [← em] at m1 m2 m3
    have inv : ∀ D, D ≤ O → (tgd (fun d s => tg ok N O k (U ||| 2 ^ d) (many + 1) (pu w (N - (k + 1)) (nI d)) s) (opn ok U (N - (k + 1))) D s = s ∧ ∀ d, d < D → opn ok U (N - (k + 1)) d = true → many + 1 + mx ok N O k (U ||| 2 ^ d) < s.1) ∨ ∃ d, d < D ∧ opn ok U (N - (k + 1)) d = true ∧ tgd (fun d s => tg ok N O k (U ||| 2 ^ d) (many + 1) (pu w (N - (k + 1)) (nI d)) s) (opn ok U (N - (k + 1))) D s = (many + 1 + mx ok N O k (U ||| 2 ^ d) + 1, pth ok N O k (U ||| 2 ^ d) (pu w (N - (k + 1)) (nI d))) ∧ s.1 ≤ many + 1 + mx ok N O k (U ||| 2 ^ d) ∧ (∀ e, e < D → opn ok U (N - (k + 1)) e = true → mx ok N O k (U ||| 2 ^ e) ≤ mx ok N O k (U ||| 2 ^ d)) ∧ ∀ e, e < d → opn ok U (N - (k + 1)) e = true → mx ok N O k (U ||| 2 ^ e) < mx ok N O k (U ||| 2 ^ d) := by
      intro D
      induction D with
      | zero => intro _; exact Or.inl ⟨rfl, fun d hd => absurd hd (by omega)⟩
      | succ D ihD =>
        intro hD
        have h0 := ihD (by omega)
        have e0 : ∀ s', tgd (fun d s => tg ok N O k (U ||| 2 ^ d) (many + 1) (pu w (N - (k + 1)) (nI d)) s) (opn ok U (N - (k + 1))) D s = s' → tgd (fun d s => tg ok N O k (U ||| 2 ^ d) (many + 1) (pu w (N - (k + 1)) (nI d)) s) (opn ok U (N - (k + 1))) (D + 1) s = if opn ok U (N - (k + 1)) D = true then (if s'.1 ≤ many + 1 + mx ok N O k (U ||| 2 ^ D) then (many + 1 + mx ok N O k (U ||| 2 ^ D) + 1, pth ok N O k (U ||| 2 ^ D) (pu w (N - (k + 1)) (nI D))) else s') else s' := by
          intro s' e
          show (if _ then tg ok N O k _ _ _ _ else _) = _
          rw [e, ih]
        by_cases hp : opn ok U (N - (k + 1)) D = true
        · rcases h0 with ⟨h1, h2⟩ | ⟨d, hd, h1, h2, h3, h4, h5⟩
          · have e1 := e0 _ h1
            rw [if_pos hp] at e1
            by_cases hc : s.1 ≤ many + 1 + mx ok N O k (U ||| 2 ^ D)
            · rw [if_pos hc] at e1
              refine Or.inr ⟨D, by omega, hp, e1, hc, fun e he he2 => ?_, fun e he he2 => ?_⟩
              · rcases Nat.eq_or_lt_of_le (Nat.lt_succ_iff.mp he) with rfl | h9
                · exact Nat.le_refl _
                · have := h2 e h9 he2; omega
              · have := h2 e he he2; omega
            · rw [if_neg hc] at e1
              refine Or.inl ⟨e1, fun d hd hd2 => ?_⟩
              rcases Nat.eq_or_lt_of_le (Nat.lt_succ_iff.mp hd) with rfl | h9
              · omega
              · exact h2 d h9 hd2
          · have e1 := e0 _ h2
            rw [if_pos hp] at e1
            dsimp only at e1
            by_cases hc : many + 1 + mx ok N O k (U ||| 2 ^ d) + 1 ≤ many + 1 + mx ok N O k (U ||| 2 ^ D)
            · rw [if_pos hc] at e1
              refine Or.inr ⟨D, by omega, hp, e1, by omega, fun e he he2 => ?_, fun e he he2 => ?_⟩
              · rcases Nat.eq_or_lt_of_le (Nat.lt_succ_iff.mp he) with rfl | h9
                · exact Nat.le_refl _
                · have := h4 e h9 he2; omega
              · have := h4 e he he2; omega
            · rw [if_neg hc] at e1
              refine Or.inr ⟨d, by omega, h1, e1, h3, fun e he he2 => ?_, h5⟩
              rcases Nat.eq_or_lt_of_le (Nat.lt_succ_iff.mp he) with rfl | h9
              · omega
              · exact h4 e h9 he2
        · rcases h0 with ⟨h1, h2⟩ | ⟨d, hd, h1, h2, h3, h4, h5⟩
          · have e1 := e0 _ h1
            rw [if_neg hp] at e1
            refine Or.inl ⟨e1, fun d hd hd2 => ?_⟩
            rcases Nat.eq_or_lt_of_le (Nat.lt_succ_iff.mp hd) with rfl | h9
            · exact absurd hd2 hp
            · exact h2 d h9 hd2
          · have e1 := e0 _ h2
            rw [if_neg hp] at e1
            refine Or.inr ⟨d, by omega, h1, e1, h3, fun e he he2 => ?_, h5⟩
            rcases Nat.eq_or_lt_of_le (Nat.lt_succ_iff.mp he) with rfl | h9
            · exact absurd he2 hp
            · exact h4 e h9 he2
    rw [ih]
    simp only [pth]
    rcases inv O (Nat.le_refl _) with ⟨h1, h2⟩ | ⟨d, hd, h1, h2, h3, h4, h5⟩
    · rw [h1]
      rcases s_un_p (p := fdp ok N O k U) O 0 with ⟨u1, u2⟩ | ⟨d, -, u2, u3, u4, -⟩
      · have e2 : mx ok N O (k + 1) U = mx ok N O k U := by
          rcases m3 with m3 | ⟨d, hd, g1, g2⟩
          · exact m3
          · exact absurd ((efd d).mpr ⟨g1, g2.symm⟩) (u2 d (Nat.zero_le _) (by omega))
        rw [u1, if_pos rfl, e2]
      · obtain ⟨g1, g2⟩ := (efd d).mp u4
        have := h2 d (by omega) g1
        rw [if_neg (by omega), if_neg (by omega)]
    · rw [h2]
      dsimp only
      have k1 := m2 d hd h1
      rcases s_un_p (p := fdp ok N O k U) O 0 with ⟨u1, u2⟩ | ⟨e, -, u2, u3, u4, u5⟩
      · have n1 : ¬ 1 + mx ok N O k (U ||| 2 ^ d) = mx ok N O (k + 1) U := fun e => u2 d (Nat.zero_le _) (by omega) ((efd d).mpr ⟨h1, e⟩)
        have e2 : mx ok N O (k + 1) U = mx ok N O k U := by
          rcases m3 with m3 | ⟨d', hd', g1, g2⟩
          · exact m3
          · exact absurd ((efd d').mpr ⟨g1, g2.symm⟩) (u2 d' (Nat.zero_le _) (by omega))
        rw [u1, if_pos rfl, e2, if_pos (by omega), if_pos (by omega)]
      · obtain ⟨g1, g2⟩ := (efd e).mp u4
        have k2 := h4 e (by omega) g1
        have ed : e = d := by
          rcases Nat.lt_trichotomy e d with hlt | heq | hgt
          · have := h5 e hlt g1; omega
          · exact heq
          · exact absurd ((efd d).mpr ⟨h1, by omega⟩) (u5 d (Nat.zero_le _) hgt)
        subst ed
        rw [u3, if_neg (ps_neg2 (by omega)), ps_cl (by omega), if_neg (by omega), if_pos (by omega), ← g2]
        congr 1
        omega
