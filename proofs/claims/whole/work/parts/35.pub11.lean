/-! ===== guests, doorOf: the contracts ===== -/
theorem ps_tb : ∀ a : Fin 32, ∀ j : Fin 5, s_bit (nI a.val) j.val = a.val.testBit j.val := by decide +kernel
theorem ps_tb2 : ∀ i : Fin 5, ∀ j : Fin 5, (2 ^ i.val).testBit j.val = decide (i.val = j.val) := by decide +kernel
theorem sN_bit {N : Nat} (hN : N ≤ 5) {x y : Int32} (hx : sN N x) (hy : sN N y) {j : Nat} (hj : j < 5) : s_bit (x ||| y) j = (s_bit x j || s_bit y j) := by
  obtain ⟨a, ha, rfl⟩ := hx
  obtain ⟨b, hb, rfl⟩ := hy
  have h5 : 2 ^ N ≤ 2 ^ 5 := Nat.pow_le_pow_right (by decide) hN
  have h5 : 2 ^ N ≤ 32 := h5
  have e : nI a ||| nI b = nI (a ||| b) := ps_or_all ⟨a, by omega⟩ ⟨b, by omega⟩
  have hl : (a ||| b) < 2 ^ N := (ps_or_nat ⟨N, by omega⟩ ⟨a, by omega⟩ ⟨b, by omega⟩ ha hb).1
  have e1 : s_bit (nI a) j = a.testBit j := ps_tb ⟨a, by omega⟩ ⟨j, hj⟩
  have e2 : s_bit (nI b) j = b.testBit j := ps_tb ⟨b, by omega⟩ ⟨j, hj⟩
  have e3 : s_bit (nI (a ||| b)) j = (a ||| b).testBit j := ps_tb ⟨a ||| b, by omega⟩ ⟨j, hj⟩
  rw [e, e1, e2, e3, Nat.testBit_or]
theorem s_pb_bit {r L : Nat → Int32} {s : Int32} {d : Nat} : ∀ k, k ≤ 5 → sN 5 (s_pb r L s d k) ∧ ∀ m, m < 5 → s_bit (s_pb r L s d k) m = decide (m < k ∧ s_hd r L s m ≤ r (69 + d))
  | 0, _ => ⟨⟨0, by decide, rfl⟩, fun m hm => by
      show s_bit 0 m = _
      rw [ps_bit0 (by omega)]
      exact (decide_eq_false (fun e => absurd e.1 (by omega))).symm⟩
  | k + 1, hk => by
    obtain ⟨h1, h2⟩ := s_pb_bit (r := r) (L := L) (s := s) (d := d) k (by omega)
    have hy : sN 5 (if s_hd r L s k ≤ r (69 + d) then 1 <<< (nI k &&& 31) else 0) := by
      split
      · rw [show (1 : Int32) <<< (nI k &&& 31) = nI (2 ^ k) from ps_sh_all ⟨k, by omega⟩]
        exact ⟨_, Nat.pow_lt_pow_right (by decide) (by omega), rfl⟩
      · exact ⟨0, by decide, rfl⟩
    refine ⟨(sN_or (by decide) h1 hy).1, fun m hm => ?_⟩
    show s_bit (s_pb r L s d k ||| _) m = _
    rw [sN_bit (by decide) h1 hy hm, h2 m hm, Bool.eq_iff_iff, Bool.or_eq_true, decide_eq_true_eq, decide_eq_true_eq]
    by_cases hc : s_hd r L s k ≤ r (69 + d)
    · have e1 : s_bit (nI (2 ^ k)) m = (2 ^ k).testBit m := ps_tb ⟨2 ^ k, show 2 ^ k < 2 ^ 5 from Nat.pow_lt_pow_right (by decide) (by omega)⟩ ⟨m, hm⟩
      have e2 : (2 ^ k).testBit m = decide (k = m) := ps_tb2 ⟨k, by omega⟩ ⟨m, hm⟩
      rw [if_pos hc, show (1 : Int32) <<< (nI k &&& 31) = nI (2 ^ k) from ps_sh_all ⟨k, by omega⟩, e1, e2, decide_eq_true_eq]
      constructor
      · rintro (h | h)
        · exact ⟨by omega, h.2⟩
        · subst h; exact ⟨by omega, hc⟩
      · intro h
        rcases Nat.eq_or_lt_of_le (Nat.lt_succ_iff.mp h.1) with h9 | h9
        · exact Or.inr h9.symm
        · exact Or.inl ⟨h9, h.2⟩
    · rw [if_neg hc, ps_bit0 (by omega)]
      constructor
      · rintro (h | h)
        · exact ⟨by omega, h.2⟩
        · exact absurd h (by decide)
      · intro h
        rcases Nat.eq_or_lt_of_le (Nat.lt_succ_iff.mp h.1) with h9 | h9
        · subst h9; exact absurd h.2 hc
        · exact Or.inl ⟨h9, h.2⟩
/-- the class's scratch rows apart, all as before -/
def SC (σ σ' : SG) : Prop := ∀ o, (o < 69 ∨ 83 < o) → σ' o = σ o
theorem SC.refl (σ : SG) : SC σ σ := fun _ _ => rfl
theorem SC.up {σ σ' : SG} {o k : Nat} {v : Int32} (h : SC σ σ') (h1 : 69 ≤ o) (h2 : o ≤ 83) : SC σ (aw_u σ' o k v) := fun o' ho' => (aw_uo (by omega)).trans (h o' ho')
theorem SC.tr {σ σ' : SG} (h : SC σ σ') (w : Int32) : CS σ (aw_u σ' 1 10 w) w := ⟨fun o ho h1 => (aw_uo h1).trans (h o ho), fun s hs => (aw_u_nk hs).trans (by rw [h 1 (by omega)]), aw_u_eq⟩
theorem FR.mono {σ σ' : SG} {f : Nat} {r : Nat → Int32} (hF : FR σ f r) (h : ∀ o, f ≤ o → o ≤ f + 17 → σ' o = σ o) : FR σ' f r := by
  unfold FR at hF ⊢
  rw [h f (by omega) (by omega), h (f + 1) (by omega) (by omega), h (f + 2) (by omega) (by omega), h (f + 3) (by omega) (by omega), h (f + 4) (by omega) (by omega), h (f + 5) (by omega) (by omega), h (f + 6) (by omega) (by omega), h (f + 7) (by omega) (by omega), h (f + 8) (by omega) (by omega), h (f + 9) (by omega) (by omega), h (f + 10) (by omega) (by omega), h (f + 11) (by omega) (by omega), h (f + 12) (by omega) (by omega), h (f + 13) (by omega) (by omega), h (f + 14) (by omega) (by omega), h (f + 15) (by omega) (by omega), h (f + 16) (by omega) (by omega), h (f + 17) (by omega) (by omega)]
  exact hF
theorem MR.mono {σ σ' : SG} {t : Nat} {row : Nat → Int32} (hM : MR σ t row) (h : ∀ o, t ≤ o → o ≤ t + 2 → σ' o = σ o) : MR σ' t row := by
  unfold MR at hM ⊢
  rw [h t (by omega) (by omega), h (t + 1) (by omega) (by omega), h (t + 2) (by omega) (by omega)]
  exact hM
theorem isF.r {f : Nat} (h : isF f) : f = 84 ∨ f = 102 := by
  unfold isF at h
  simp only [List.mem_cons, List.not_mem_nil, or_false] at h
  exact h
theorem SC.fr {σ σ' : SG} {f : Nat} {r : Nat → Int32} (h : SC σ σ') (hf : isF f) (hF : FR σ f r) : FR σ' f r := hF.mono (fun o h1 h2 => h o (by have := hf.r; omega))
theorem SC.mr {σ σ' : SG} {row : Nat → Int32} (h : SC σ σ') (hM : MR σ 6 row) : MR σ' 6 row := hM.mono (fun o h1 h2 => h o (by omega))
theorem ps_U {U d : Nat} (hU : U < 16) (hd : d < 4) : (U ||| 2 ^ d) < 16 ∧ nI U ||| ((1 : Int32) <<< (nI d &&& 31)) = nI (U ||| 2 ^ d) ∧ s_bit (nI U) d = U.testBit d := by
  have h1 : 2 ^ d < 2 ^ 4 := Nat.pow_lt_pow_right (by decide) hd
  have h1 : 2 ^ d < 16 := h1
  have h2 : (U ||| 2 ^ d) < 2 ^ 4 := (ps_or_nat ⟨4, by omega⟩ ⟨U, by omega⟩ ⟨2 ^ d, by omega⟩ hU h1).1
  refine ⟨h2, ?_, ps_tb ⟨U, by omega⟩ ⟨d, by omega⟩⟩
  rw [show (1 : Int32) <<< (nI d &&& 31) = nI (2 ^ d) from ps_sh_all ⟨d, by omega⟩]
  exact ps_or_all ⟨U, by omega⟩ ⟨2 ^ d, by omega⟩
def okG (r st : Nat → Int32) (m d : Nat) : Bool := decide (s_hd r st (st 12) m ≤ r (69 + d))
section Pub11
variable {G : GG} {n : Nat} {σ : SG} {τ : TU} {θ : TH} {f t : Nat} {r st row : Nat → Int32} {q : Int32 → Nat → SG → TU → TH → Prop} {qv : Nat → SG → TU → TH → Prop} {ql : Int64 → Nat → SG → TU → TH → Prop}
theorem k7_isOpen {m d U : Nat} (hW : aw_WT n θ) (hv : VR r) (hP : σ 71 d = s_pb r st (st 12) d (nM r)) (hm : m < nM r) (hd : d < 4) (hU : U < 16) (hq : q (if opn (okG r st) U m d = true then 1 else 0) n σ τ θ) : SMi G 1 mX7_isOpen 0 0 [.ref 69, .int (nI m), .int (nI d), .int (nI U)] n σ τ θ q := by
  have h5 := hv.m5
  obtain ⟨-, -, e1⟩ := ps_U hU hd
  have e2 := (s_pb_bit (r := r) (L := st) (s := st 12) (d := d) (nM r) h5).2 m (by omega)
  refine ctX7_isOpen _ _ _ (sgX7_isOpen_0 _ _ _ (Nat.le_refl _) hW ?_)
  rw [ps_cl (by omega), hP]
  have eo : opn (okG r st) U m d = true ↔ ¬ s_bit (nI U) d = true ∧ s_hd r st (st 12) m ≤ r (69 + d) := by
    unfold opn okG
    rw [e1, Bool.and_eq_true, decide_eq_true_eq, Bool.not_eq_true', Bool.not_eq_true]
  refine ⟨fun h => ?_, fun h => ⟨ps_in hd (by decide), fun h2 => ?_, fun h2 => ?_⟩⟩
  · rwa [if_neg (fun e => (eo.mp e).1 (ps_bitn.mp h))] at hq
  · rwa [if_neg (fun e => ps_bitn.mpr (e2.trans (decide_eq_true ⟨hm, (eo.mp e).2⟩)) h2)] at hq
  · have h3 := ps_bitn.mp h2
    rw [e2, decide_eq_true_eq] at h3
    rwa [if_pos (eo.mpr ⟨fun e => ps_bitn.mpr e h, h3.2⟩)] at hq
theorem ix72 (m U : Nat) : nI m * 16 + nI U = nI (m * 16 + U) := by
  rw [show nI m * 16 = nI (m * 16) from pk_mul m 16, nI_add]
theorem k7_mostFrom {k U : Nat} (hf : isF f) (hW : aw_WT n θ) (hF : FR σ f r) (hv : VR r) (hP : ∀ d, d < nO r → σ 71 d = s_pb r st (st 12) d (nM r)) (hk : k < nM r) (hU : U < 16) (hT : ∀ V, V < 16 → σ 72 ((nM r - k) * 16 + V) = nI (mx (okG r st) (nM r) (nO r) k V)) (hq : q (nI (mx (okG r st) (nM r) (nO r) (k + 1) U)) n σ τ θ) : SMi G 2 mX7_mostFrom 0 0 [.ref 69, .ref f, .int (nI (nM r - (k + 1))), .int (nI U)] n σ τ θ q := by
  have h5 := hv.m5
  have h4 := hv.o4
  have e14 : σ f 14 = nI (nO r) := hF.1.2.2.2.2.2.2.2.1.trans hv.o
  refine ctX7_mostFrom f _ _ (sgX7_mostFrom_0 f _ _ (Nat.le_refl _) hf hW ?_)
  rw [← nI_succ, show nM r - (k + 1) + 1 = nM r - k by omega, ix72, ps_cl (by omega), hT U hU]
  refine ⟨ps_in (by omega) (by decide), ?_⟩
  refine ps_up (N := nO r) (P := fun d => SW G 2 mX7_mostFrom (aw_qi q) 0 0 18 [some (.ref 69), some (.ref f), some (.int (nI (nM r - (k + 1)))), some (.int (nI U)), some (.int (nI (mo (mx (okG r st) (nM r) (nO r) k) (opn (okG r st) U (nM r - (k + 1))) U d))), some (.int (nI d))] [] (n, σ, τ, θ)) ?_ ?_ 0 (Nat.zero_le _)
  · exact sgX7_mostFrom_18 f _ _ _ _ (Nat.le_refl _) hf hW (ps_done e14 hq)
  · intro d hd ih
    refine sgX7_mostFrom_18 f _ _ _ _ (Nat.le_refl _) hf hW (ps_br e14 (by omega) (by omega) (fun h => absurd hd (by omega)) (fun _ => ?_))
    obtain ⟨u1, u2, u3⟩ := ps_U hU (show d < 4 by omega)
    rw [← nI_succ, ← nI_succ, show nM r - (k + 1) + 1 = nM r - k by omega, u2, ix72, ps_cl (by omega)]
    simp only [mo] at ih
    refine k7_isOpen hW hv (hP d hd) (by omega) (by omega) hU ⟨hW, ps_b (fun h => ?_) (fun h => ⟨ps_in (by omega) (by decide), ?_⟩)⟩
    · rw [if_neg h] at ih
      exact ih
    · rw [if_pos h] at ih
      rw [hT _ u1, show (1 : Int32) + nI (mx (okG r st) (nM r) (nO r) k (U ||| 2 ^ d)) = nI (1 + mx (okG r st) (nM r) (nO r) k (U ||| 2 ^ d)) from nI_add 1 _]
      have b1 := mx_le (okG r st) (nM r) (nO r) k (U ||| 2 ^ d)
      have b2 : mo (mx (okG r st) (nM r) (nO r) k) (opn (okG r st) U (nM r - (k + 1))) U d ≤ k + 1 := by
        obtain ⟨-, -, h | ⟨d', -, -, h⟩⟩ := mo_p (f := mx (okG r st) (nM r) (nO r) k) (p := opn (okG r st) U (nM r - (k + 1))) (U := U) d
        · have := mx_le (okG r st) (nM r) (nO r) k U; omega
        · have := mx_le (okG r st) (nM r) (nO r) k (U ||| 2 ^ d'); omega
      have em : (if nI (mo (mx (okG r st) (nM r) (nO r) k) (opn (okG r st) U (nM r - (k + 1))) U d) < nI (1 + mx (okG r st) (nM r) (nO r) k (U ||| 2 ^ d)) then nI (1 + mx (okG r st) (nM r) (nO r) k (U ||| 2 ^ d)) else nI (mo (mx (okG r st) (nM r) (nO r) k) (opn (okG r st) U (nM r - (k + 1))) U d)) = nI (max (mo (mx (okG r st) (nM r) (nO r) k) (opn (okG r st) U (nM r - (k + 1))) U d) (1 + mx (okG r st) (nM r) (nO r) k (U ||| 2 ^ d))) := by
        by_cases hl : mo (mx (okG r st) (nM r) (nO r) k) (opn (okG r st) U (nM r - (k + 1))) U d < 1 + mx (okG r st) (nM r) (nO r) k (U ||| 2 ^ d)
        · rw [if_pos ((nI_ltI (by omega) (by omega)).mpr hl), Nat.max_eq_right (by omega)]
        · rw [if_neg (fun e => hl ((nI_ltI (by omega) (by omega)).mp e)), Nat.max_eq_left (by omega)]
      rw [em]
      exact ih
theorem k7_firstDoor {k U : Nat} (hf : isF f) (hW : aw_WT n θ) (hF : FR σ f r) (hv : VR r) (hP : ∀ d, d < nO r → σ 71 d = s_pb r st (st 12) d (nM r)) (hk : k < nM r) (hU : U < 16) (hT : ∀ k, k ≤ nM r → ∀ V, V < 16 → σ 72 ((nM r - k) * 16 + V) = nI (mx (okG r st) (nM r) (nO r) k V)) (hq : q (s_until (fdp (okG r st) (nM r) (nO r) k U) 0 (nO r)) n σ τ θ) : SMi G 2 mX7_firstDoor 0 0 [.ref 69, .ref f, .int (nI (nM r - (k + 1))), .int (nI U)] n σ τ θ q := by
  have h5 := hv.m5
  have h4 := hv.o4
  have e14 : σ f 14 = nI (nO r) := hF.1.2.2.2.2.2.2.2.1.trans hv.o
  refine ctX7_firstDoor f _ _ (sgX7_firstDoor_0 f _ _ (Nat.le_refl _) hf hW ?_)
  have key : ∀ c d, d + c = nO r → q (s_until (fdp (okG r st) (nM r) (nO r) k U) d c) n σ τ θ → SW G 2 mX7_firstDoor (aw_qi q) 0 0 3 [some (.ref 69), some (.ref f), some (.int (nI (nM r - (k + 1)))), some (.int (nI U)), some (.int (nI d))] [] (n, σ, τ, θ) := by
    intro c
    induction c with
    | zero =>
      intro d hd hq
      exact sgX7_firstDoor_3 f _ _ _ (Nat.le_refl _) hf hW (ps_br e14 (by omega) (by omega) (fun _ => hq) (fun h => absurd h (by omega)))
    | succ c ih =>
      intro d hd hq
      refine sgX7_firstDoor_3 f _ _ _ (Nat.le_refl _) hf hW (ps_br e14 (by omega) (by omega) (fun h => absurd h (by omega)) (fun _ => ?_))
      obtain ⟨u1, u2, u3⟩ := ps_U hU (show d < 4 by omega)
      rw [← nI_succ, ← nI_succ, show nM r - (k + 1) + 1 = nM r - k by omega, u2, ix72, ix72, ps_cl (by omega), ps_cl (by omega)]
      simp only [s_until] at hq
      have efd : fdp (okG r st) (nM r) (nO r) k U d = true ↔ opn (okG r st) U (nM r - (k + 1)) d = true ∧ 1 + mx (okG r st) (nM r) (nO r) k (U ||| 2 ^ d) = mx (okG r st) (nM r) (nO r) (k + 1) U := by unfold fdp; rw [Bool.and_eq_true, decide_eq_true_eq]
      refine k7_isOpen hW hv (hP d (by omega)) (by omega) (by omega) hU ⟨hW, ps_b (fun h => ?_) (fun h => ⟨ps_in (by omega) (by decide), ps_in (by omega) (by decide), ?_⟩)⟩
      · rw [if_neg (fun e => h (efd.mp e).1)] at hq
        exact ih (d + 1) (by omega) hq
      · rw [hT k (by omega) _ u1, hT (k + 1) (by omega) _ hU, show (1 : Int32) + nI (mx (okG r st) (nM r) (nO r) k (U ||| 2 ^ d)) = nI (1 + mx (okG r st) (nM r) (nO r) k (U ||| 2 ^ d)) from nI_add 1 _]
        have b1 := mx_le (okG r st) (nM r) (nO r) k (U ||| 2 ^ d)
        have b2 := mx_le (okG r st) (nM r) (nO r) (k + 1) U
        rw [nI_eq (by omega) (by omega)]
        refine ⟨fun h2 => ?_, fun h2 => ?_⟩
        · rw [if_neg (fun e => h2 (efd.mp e).2)] at hq
          exact ih (d + 1) (by omega) hq
        · rw [if_pos (efd.mpr ⟨h, h2⟩)] at hq
          exact hq
  exact key (nO r) 0 (by omega) hq
theorem ps_16 {A B : Prop} {j : Nat} (hj : j < 100) (f : 16 ≤ j → A) (g : j < 16 → B) : ((16 : Int32) ≤ nI j → A) ∧ (¬ (16 : Int32) ≤ nI j → B) := ps_br (c := 16) (N := 16) rfl (by omega) (by omega) f g
theorem pth_lt {ok : Nat → Nat → Bool} {N O : Nat} : ∀ k U w j, k ≤ N → j < N - k → pth ok N O k U w j = w j
  | 0, _, _, _, _, _ => rfl
  | k + 1, U, w, j, h, hj => by
    show pth ok N O k _ (pu w _ _) j = _
    rw [pth_lt k _ _ j (by omega) (by omega)]
    exact if_neg (by omega)
theorem k7_assign (hf : isF f) (hW : aw_WT n θ) (hF : FR σ f r) (hM : MR σ 6 st) (hv : VR r) (h0 : 0 < nM r) (hq : ∀ σ', SC σ σ' → (∀ w j, j < nM r → σ' 70 j = pth (okG r st) (nM r) (nO r) (nM r) 0 w j) → q (nI (mx (okG r st) (nM r) (nO r) (nM r) 0)) n σ' τ θ) : SMi G 6 mX7_assign 0 0 [.ref 69, .ref f, .ref 6] n σ τ θ q := by
  have h5 := hv.m5
  have h4 := hv.o4
  refine ctX7_assign f 6 (sgX7_assign_0 f 6 (Nat.le_refl _) hf isM_now hW ?_)
  have p1 : ∀ j, j ≤ nO r → ∀ σ1, SC σ σ1 → (∀ d, d < j → σ1 71 d = s_pb r st (st 12) d (nM r)) → SW G 6 mX7_assign (aw_qi q) 0 0 2 [some (.ref 69), some (.ref f), some (.ref 6), some (.int (nI j)), none, none] [] (n, σ1, τ, θ) := by
    refine fun j hj => ps_up (N := nO r) (P := fun j => ∀ σ1, SC σ σ1 → (∀ d, d < j → σ1 71 d = s_pb r st (st 12) d (nM r)) → SW G 6 mX7_assign (aw_qi q) 0 0 2 [some (.ref 69), some (.ref f), some (.ref 6), some (.int (nI j)), none, none] [] (n, σ1, τ, θ)) ?_ ?_ j hj
    · intro σ1 s1 hP
      have e14 : σ1 f 14 = nI (nO r) := (s1.fr hf hF).1.2.2.2.2.2.2.2.1.trans hv.o
      refine sgX7_assign_2 f 6 _ (Nat.le_refl _) hf isM_now hW (ps_done e14 ?_)
      -- the row without men
      have p2 := ps_up (N := 16) (P := fun u => ∀ σ1, SC σ σ1 → (∀ d, d < nO r → σ1 71 d = s_pb r st (st 12) d (nM r)) → (∀ V, V < u → σ1 72 (nM r * 16 + V) = 0) → SW G 6 mX7_assign (aw_qi q) 0 0 30 [some (.ref 69), some (.ref f), none, some (.int (nI u)), none, none] [] (n, σ1, τ, θ)) ?_ ?_ 0 (Nat.zero_le _)
      · exact p2 σ1 s1 hP (fun V hV => absurd hV (by omega))
      · intro σ1 s1 hP hZ
        have e13 : σ1 f 13 = nI (nM r) := (s1.fr hf hF).1.2.2.2.2.1.trans hv.m
        refine sgX7_assign_30 f 6 _ (Nat.le_refl _) hf isM_now hW (ps_16 (by omega) (fun _ => ?_) (fun h => absurd h (by omega)))
        rw [e13]
        -- the men, from the last on
        have p3 : ∀ c, c ≤ nM r → ∀ σ1, SC σ σ1 → (∀ d, d < nO r → σ1 71 d = s_pb r st (st 12) d (nM r)) → (∀ k, k ≤ nM r - c → ∀ V, V < 16 → σ1 72 ((nM r - k) * 16 + V) = nI (mx (okG r st) (nM r) (nO r) k V)) → SW G 6 mX7_assign (aw_qi q) 0 0 64 [some (.ref 69), some (.ref f), none, some (.int (nI c - 1)), none, none] [] (n, σ1, τ, θ) := by
          intro c
          induction c with
          | zero =>
            intro _ σ1 s1 hP hT
            refine sgX7_assign_64 f 6 _ (Nat.le_refl _) hf isM_now hW ⟨fun _ => ?_, fun h => absurd (by decide) h⟩
            rw [Nat.sub_zero] at hT
            -- the row of doors
            have p5 : ∀ c, c ≤ nM r → ∀ σ1 U w, SC σ σ1 → U < 16 → (∀ d, d < nO r → σ1 71 d = s_pb r st (st 12) d (nM r)) → (∀ k, k ≤ nM r → ∀ V, V < 16 → σ1 72 ((nM r - k) * 16 + V) = nI (mx (okG r st) (nM r) (nO r) k V)) → (∀ j, j < nM r - c → σ1 70 j = w j) → (∀ σ', SC σ σ' → (∀ j, j < nM r → σ' 70 j = pth (okG r st) (nM r) (nO r) c U w j) → q (nI (mx (okG r st) (nM r) (nO r) (nM r) 0)) n σ' τ θ) → SW G 6 mX7_assign (aw_qi q) 0 0 115 [some (.ref 69), some (.ref f), none, some (.int (nI U)), some (.int (nI (nM r - c))), none] [] (n, σ1, τ, θ) := by
              intro c
              induction c with
              | zero =>
                intro _ σ1 U w s1 hU hP hT hw hq
                have e13 : σ1 f 13 = nI (nM r) := (s1.fr hf hF).1.2.2.2.2.1.trans hv.m
                refine sgX7_assign_115 f 6 _ _ (Nat.le_refl _) hf isM_now hW (ps_done e13 ?_)
                have := hT (nM r) (Nat.le_refl _) 0 (by omega)
                rw [Nat.sub_self, Nat.zero_mul, Nat.zero_add] at this
                rw [this]
                exact hq _ s1 hw
              | succ c ih =>
                intro hc σ1 U w s1 hU hP hT hw hq
                have e13 : σ1 f 13 = nI (nM r) := (s1.fr hf hF).1.2.2.2.2.1.trans hv.m
                refine sgX7_assign_115 f 6 _ _ (Nat.le_refl _) hf isM_now hW (ps_br e13 (by omega) (by omega) (fun h => absurd h (by omega)) (fun _ => ?_))
                refine k7_firstDoor hf hW (s1.fr hf hF) hv hP (by omega) hU hT ⟨hW, ps_in (by omega) (by decide), ?_⟩
                rw [ps_cl (by omega), ← nI_succ, show nM r - (c + 1) + 1 = nM r - c by omega]
                have hq2 := hq
                simp only [pth] at hq2
                have hs2 : SC σ (aw_u σ1 70 (nM r - (c + 1)) (s_until (fdp (okG r st) (nM r) (nO r) c U) 0 (nO r))) := s1.up (by omega) (by omega)
                have hP2 : ∀ d, d < nO r → (aw_u σ1 70 (nM r - (c + 1)) (s_until (fdp (okG r st) (nM r) (nO r) c U) 0 (nO r))) 71 d = s_pb r st (st 12) d (nM r) := fun d hd => by rw [aw_uo (by decide)]; exact hP d hd
                have hT2 : ∀ k, k ≤ nM r → ∀ V, V < 16 → (aw_u σ1 70 (nM r - (c + 1)) (s_until (fdp (okG r st) (nM r) (nO r) c U) 0 (nO r))) 72 ((nM r - k) * 16 + V) = nI (mx (okG r st) (nM r) (nO r) k V) := fun k hk V hV => by rw [aw_uo (by decide)]; exact hT k hk V hV
                have hw2 : ∀ j, j < nM r - c → (aw_u σ1 70 (nM r - (c + 1)) (s_until (fdp (okG r st) (nM r) (nO r) c U) 0 (nO r))) 70 j = pu w (nM r - (c + 1)) (s_until (fdp (okG r st) (nM r) (nO r) c U) 0 (nO r)) j := by
                  intro j hj
                  by_cases h : j = nM r - (c + 1)
                  · rw [h, aw_u_eq]; exact (if_pos rfl).symm
                  · rw [aw_u_nk h, hw j (by omega)]; exact (if_neg h).symm
                rcases s_un_p (p := fdp (okG r st) (nM r) (nO r) c U) (nO r) 0 with ⟨u1, -⟩ | ⟨d, -, ud, u3, -, -⟩
                · rw [u1] at hs2 hP2 hT2 hw2 hq2 ⊢
                  rw [if_pos rfl] at hq2
                  refine ⟨fun h => absurd rfl h, fun _ => ?_⟩
                  rw [Int32.or_zero]
                  exact ih (by omega) _ U _ hs2 hU hP2 hT2 hw2 hq2
                · rw [u3] at hs2 hP2 hT2 hw2 hq2 ⊢
                  have hn := ps_neg2 (j := d) (by omega)
                  rw [if_neg hn, ps_cl (by omega)] at hq2
                  refine ⟨fun _ => ?_, fun h => absurd h hn⟩
                  obtain ⟨v1, v2, -⟩ := ps_U hU (show d < 4 by omega)
                  rw [v2]
                  exact ih (by omega) _ _ _ hs2 v1 hP2 hT2 hw2 hq2
            have := p5 (nM r) (Nat.le_refl _) σ1 0 (pth (okG r st) (nM r) (nO r) (nM r) 0 (fun _ => 0)) s1 (by omega) hP hT (fun j hj => absurd hj (by omega)) (fun σ' s' hw => hq σ' s' (fun w j hj => ?_))
            · rw [Nat.sub_self] at this
              exact this
            · rw [hw j hj]
              have key : ∀ c U (w w' : Nat → Int32) j, nM r - c ≤ j → j < nM r → c ≤ nM r → pth (okG r st) (nM r) (nO r) c U w j = pth (okG r st) (nM r) (nO r) c U w' j := by
                intro c
                induction c with
                | zero => intro U w w' j h1 h2 _; omega
                | succ c ih =>
                  intro U w w' j h1 h2 h3
                  simp only [pth]
                  by_cases h : j = nM r - (c + 1)
                  · rw [pth_lt c _ _ j (by omega) (by omega), pth_lt c _ _ j (by omega) (by omega)]
                    exact (if_pos h).trans (if_pos h).symm
                  · exact ih _ _ _ j (by omega) h2 (by omega)
              exact key (nM r) 0 _ _ j (by omega) hj (Nat.le_refl _)
          | succ c ih =>
            intro hc σ1 s1 hP hT
            rw [nI_pred]
            refine sgX7_assign_64 f 6 _ (Nat.le_refl _) hf isM_now hW ⟨fun h => absurd h (nI_pos (by omega)), fun _ => ?_⟩
            have p4 := ps_up (N := 16) (P := fun u => ∀ σ1, SC σ σ1 → (∀ d, d < nO r → σ1 71 d = s_pb r st (st 12) d (nM r)) → (∀ k, k ≤ nM r - (c + 1) → ∀ V, V < 16 → σ1 72 ((nM r - k) * 16 + V) = nI (mx (okG r st) (nM r) (nO r) k V)) → (∀ V, V < u → σ1 72 (c * 16 + V) = nI (mx (okG r st) (nM r) (nO r) (nM r - c) V)) → SW G 6 mX7_assign (aw_qi q) 0 0 71 [some (.ref 69), some (.ref f), none, some (.int (nI c)), some (.int (nI u)), none] [] (n, σ1, τ, θ)) ?_ ?_ 0 (Nat.zero_le _)
            · exact p4 σ1 s1 hP hT (fun V hV => absurd hV (by omega))
            · intro σ1 s1 hP hT hZ
              refine sgX7_assign_71 f 6 _ _ (Nat.le_refl _) hf isM_now hW (ps_16 (by omega) (fun _ => ?_) (fun h => absurd h (by omega)))
              rw [show nI c + (-1) = nI c - 1 from (Int32.sub_eq_add_neg _ _).symm]
              refine ih (by omega) σ1 s1 hP (fun k hk V hV => ?_)
              by_cases h : k = nM r - c
              · rw [h, show nM r - (nM r - c) = c by omega]
                exact hZ V hV
              · exact hT k (by omega) V hV
            · intro u hu ihu σ1 s1 hP hT hZ
              refine sgX7_assign_71 f 6 _ _ (Nat.le_refl _) hf isM_now hW (ps_16 (by omega) (fun h => absurd h (by omega)) (fun _ => ?_))
              have hmf := k7_mostFrom (G := G) (τ := τ) (q := fun a1 n1 σ1 τ1 θ1 => aw_WT n1 θ1 ∧ (vp_in ((nI c * 16) + nI u) 96 ∧ SW G 6 mX7_assign (aw_qi q) 0 0 71 [some (.ref 69), some (.ref f), none, some (.int (nI c)), some (.int (nI u + 1)), none] [] (n1, (aw_u σ1 72 ((nI c * 16) + nI u).toNatClampNeg a1), τ1, θ1))) (k := nM r - (c + 1)) (U := u) hf hW (s1.fr hf hF) hv hP (by omega) (by omega) (fun V hV => hT _ (Nat.le_refl _) V hV)
              rw [show nM r - (nM r - (c + 1) + 1) = c by omega] at hmf
              refine hmf ⟨hW, ?_⟩
              rw [ix72, ps_cl (by omega), ← nI_succ u]
              refine ⟨ps_in (by omega) (by decide), ihu _ (s1.up (by omega) (by omega)) (fun d hd => ?_) (fun k hk V hV => ?_) (fun V hV => ?_)⟩
              · rw [aw_uo (by decide)]; exact hP d hd
              · rw [aw_u_nk (by omega)]; exact hT k hk V hV
              · by_cases h : V = u
                · rw [h, aw_u_eq, show nM r - (c + 1) + 1 = nM r - c by omega]
                · rw [aw_u_nk (by omega)]; exact hZ V (by omega)
        refine p3 (nM r) (Nat.le_refl _) σ1 s1 hP (fun k hk V hV => ?_)
        have : k = 0 := by omega
        subst this
        rw [Nat.sub_zero, hZ V hV]
        rfl
      · intro u hu ihu σ1 s1 hP hZ
        have e13 : σ1 f 13 = nI (nM r) := (s1.fr hf hF).1.2.2.2.2.1.trans hv.m
        refine sgX7_assign_30 f 6 _ (Nat.le_refl _) hf isM_now hW (ps_16 (by omega) (fun h => absurd h (by omega)) (fun _ => ?_))
        rw [e13, ix72, ps_cl (by omega), ← nI_succ u]
        refine ⟨ps_in (by omega) (by decide), ihu _ (s1.up (by omega) (by omega)) (fun d hd => ?_) (fun V hV => ?_)⟩
        · rw [aw_uo (by decide)]; exact hP d hd
        · by_cases h : V = u
          · rw [h, aw_u_eq]
          · rw [aw_u_nk (by omega)]; exact hZ V (by omega)
    · intro j hj ih σ1 s1 hP
      have e14 : σ1 f 14 = nI (nO r) := (s1.fr hf hF).1.2.2.2.2.2.2.2.1.trans hv.o
      refine sgX7_assign_2 f 6 _ (Nat.le_refl _) hf isM_now hW (ps_br e14 (by omega) (by omega) (fun h => absurd hj (by omega)) (fun _ => ?_))
      refine k1_passingBits hf isM_now hW (s1.fr hf hF) (s1.mr hM) hv hj ⟨hW, ps_in (by omega) (by decide), ?_⟩
      rw [ps_cl (by omega), ← nI_succ]
      refine ih _ (s1.up (by omega) (by omega)) (fun d hd => ?_)
      by_cases h : d = j
      · rw [h, aw_u_eq]
      · rw [aw_u_nk h]; exact hP d (by omega)
  exact p1 0 (Nat.zero_le _) σ (SC.refl σ) (fun d hd => absurd hd (by omega))
def sp_guests (r st : Nat → Int32) : Int32 × Int32 := if nM r = 0 then (-1, 1) else (nI (mx (okG r st) (nM r) (nO r) (nM r) 0), 0)
theorem p9_guests (hW : aw_WT n θ) (hF : FR σ (θ 1 7) r) (hM : MR σ 6 st) (hv : VR r) (hq : ∀ σ' τ', CS σ σ' (sp_guests r st).2 → q (sp_guests r st).1 n σ' τ' θ) : SMi G 7 mX9_guests 0 0 [.ref 1] n σ τ θ q := by
  unfold sp_guests at hq
  refine ctX9_guests (sgX9_guests_0 (Nat.le_refl _) hW ?_)
  refine k9_noDuchy hW hF hv ⟨hW, ps_b (fun h => ?_) (fun h => ?_)⟩
  · rw [if_neg h] at hq
    exact k7_assign hW.f hW hF hM hv (by omega) (fun σ1 s1 _ => ⟨hW, k9_grant hW ⟨hW, hq _ _ (s1.tr 0)⟩⟩)
  · rw [if_pos h] at hq
    exact k9_refuse hW ⟨hW, hq _ _ (CS.tr _ _)⟩
def sp_doorOf (r st : Nat → Int32) (x : Int32) : Int32 × Int32 := if s_in x (nM r) = true then (pth (okG r st) (nM r) (nO r) (nM r) 0 (fun _ => 0) x.toNatClampNeg, 0) else (-1, 1)
theorem p9_doorOf {x : Int32} (hW : aw_WT n θ) (hF : FR σ (θ 1 7) r) (hM : MR σ 6 st) (hv : VR r) (hq : ∀ σ' τ', CS σ σ' (sp_doorOf r st x).2 → q (sp_doorOf r st x).1 n σ' τ' θ) : SMi G 7 mX9_doorOf 0 0 [.ref 1, .int x] n σ τ θ q := by
  unfold sp_doorOf at hq
  have h5 := hv.m5
  refine ctX9_doorOf _ (sgX9_doorOf_0 _ (Nat.le_refl _) hW ?_)
  refine k9_isMan hW hF hv ⟨hW, And.symm (ps_b (fun h => ?_) (fun h => ?_))⟩
  · rw [if_neg h] at hq
    exact k9_refuse hW ⟨hW, hq _ _ (CS.tr _ _)⟩
  · rw [if_pos h] at hq
    obtain ⟨m, hm, rfl⟩ := (s_in_iff (by omega)).mp h
    rw [ps_cl (by omega)] at hq
    refine k7_assign hW.f hW hF hM hv (by omega) (fun σ1 s1 hw => ⟨hW, ps_in (by omega) (by decide), ?_⟩)
    rw [ps_cl (by omega), hw (fun _ => 0) m hm]
    exact k9_grant hW ⟨hW, hq _ _ (s1.tr 0)⟩
end Pub11
