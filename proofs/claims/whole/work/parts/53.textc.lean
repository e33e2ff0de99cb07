/-! ===== the text: the class's tokens ===== -/
def CB (σ : SG) (b : Nat → Nat) (N : Nat) : Prop := σ 2 7 = nI N ∧ N ≤ 900 ∧ ∀ j, j < N → b j < 256 ∧ σ 3 j = b8 (b j)
def CT (σ : SG) (b : Nat → Nat) (N s : Nat) : Prop := CB σ b N ∧ s ≤ N ∧ σ 2 9 = nI s ∧ σ 2 10 = nI (tp_en b N s) ∧ σ 2 8 = nI (tp_kd b N s)
/-- what the reading of tokens may write -/
def AF (σ σ' : SG) : Prop := ∀ o k, ¬ (o = 2 ∧ (k = 8 ∨ k = 9 ∨ k = 10)) → σ' o k = σ o k
def TF (σ σ' : SG) : Prop := ∀ o k, ¬ (o = 2 ∧ (k = 1 ∨ k = 6 ∨ k = 8 ∨ k = 9 ∨ k = 10 ∨ k = 11)) → σ' o k = σ o k
theorem AF.tf {σ σ' : SG} (h : AF σ σ') : TF σ σ' := fun o k hn => h o k (fun e => hn (by omega))
theorem TF.rf (σ : SG) : TF σ σ := fun _ _ _ => rfl
theorem TF.trans {σ σ' σ'' : SG} (h : TF σ σ') (h' : TF σ' σ'') : TF σ σ'' := fun o k hn => (h' o k hn).trans (h o k hn)
theorem AF.up {σ σ' : SG} (h : AF σ σ') {k : Nat} {v : Int32} (hk : k = 8 ∨ k = 9 ∨ k = 10) : AF σ (aw_u σ' 2 k v) := by
  intro o k' hn
  unfold aw_u
  rw [if_neg (fun e => hn (by omega))]
  exact h o k' hn
theorem TF.up {σ σ' : SG} (h : TF σ σ') {k : Nat} {v : Int32} (hk : k = 1 ∨ k = 6 ∨ k = 8 ∨ k = 9 ∨ k = 10 ∨ k = 11) : TF σ (aw_u σ' 2 k v) := by
  intro o k' hn
  unfold aw_u
  rw [if_neg (fun e => hn (by omega))]
  exact h o k' hn
theorem TF.o {σ σ' : SG} (h : TF σ σ') {o : Nat} (ho : o ≠ 2) : σ' o = σ o := funext fun k => h o k (fun e => ho e.1)
theorem tp_lw_i {b : Nat → Nat} {N s : Nat} : tp_lw b N s = true ↔ ∃ i, i < 7 ∧ tp_w b N s i = true := by
  unfold tp_lw
  simp only [Bool.or_eq_true]
  constructor
  · rintro ((((((h | h) | h) | h) | h) | h) | h)
    · exact ⟨0, by decide, h⟩
    · exact ⟨1, by decide, h⟩
    · exact ⟨2, by decide, h⟩
    · exact ⟨3, by decide, h⟩
    · exact ⟨4, by decide, h⟩
    · exact ⟨5, by decide, h⟩
    · exact ⟨6, by decide, h⟩
  · rintro ⟨i, hi, h⟩
    rcases (show i = 0 ∨ i = 1 ∨ i = 2 ∨ i = 3 ∨ i = 4 ∨ i = 5 ∨ i = 6 by omega) with rfl | rfl | rfl | rfl | rfl | rfl | rfl
    · exact Or.inl (Or.inl (Or.inl (Or.inl (Or.inl (Or.inl h)))))
    · exact Or.inl (Or.inl (Or.inl (Or.inl (Or.inl (Or.inr h)))))
    · exact Or.inl (Or.inl (Or.inl (Or.inl (Or.inr h))))
    · exact Or.inl (Or.inl (Or.inl (Or.inr h)))
    · exact Or.inl (Or.inl (Or.inr h))
    · exact Or.inl (Or.inr h)
    · exact Or.inr h
section Tc
variable {G : GG} {n : Nat} {σ : SG} {τ : TU} {θ : TH} {q : Int32 → Nat → SG → TU → TH → Prop} {ql : Int64 → Nat → SG → TU → TH → Prop} {qv : Nat → SG → TU → TH → Prop} {b : Nat → Nat} {N s : Nat}
theorem CB.af {σ' : SG} (h : CB σ b N) (hf : TF σ σ') : CB σ' b N := ⟨(hf 2 7 (by omega)).trans h.1, h.2.1, fun j hj => ⟨(h.2.2 j hj).1, (hf 3 j (by omega)).trans (h.2.2 j hj).2⟩⟩
theorem CT.mono {σ' : SG} (h : CT σ b N s) (h2 : ∀ k, (k = 7 ∨ k = 8 ∨ k = 9 ∨ k = 10) → σ' 2 k = σ 2 k) (h3 : ∀ j, σ' 3 j = σ 3 j) : CT σ' b N s :=
  ⟨⟨(h2 7 (by omega)).trans h.1.1, h.1.2.1, fun j hj => ⟨(h.1.2.2 j hj).1, (h3 j).trans (h.1.2.2 j hj).2⟩⟩, h.2.1, (h2 9 (by omega)).trans h.2.2.1, (h2 10 (by omega)).trans h.2.2.2.1, (h2 8 (by omega)).trans h.2.2.2.2⟩
theorem CT.k (h : CT σ b N s) (v : Nat) (hv : v < 100) : σ 2 8 = nI v ↔ tp_kd b N s = v := by
  rw [h.2.2.2.2]
  have := tp_kd_le (b := b) (N := N) (s := s)
  exact nI_eq (by omega) (by omega)
theorem k8_runEnd {lo hi : Nat} (hW : aw_WT n θ) (hB : CB σ b N) (hs : σ 2 9 = nI s) (hsN : s ≤ N) (h0 : 0 < lo) (hl : lo < 128) (hh : hi < 128) (hq : q (nI (tp_up N (tp_rg b lo hi) s)) n σ τ θ) : SMi G 1 mX8_runEnd 0 0 [.ref 2, .int (nI lo), .int (nI hi)] n σ τ θ q := by
  obtain ⟨e7, h9, hb⟩ := hB
  refine ctX8_runEnd _ _ (sgX8_runEnd_0 _ _ (Nat.le_refl _) hW ?_)
  rw [hs]
  refine tp_ind (N := N) (P := tp_rg b lo hi) (M := fun p => p ≤ N → tp_up N (tp_rg b lo hi) p = tp_up N (tp_rg b lo hi) s → SW G 1 mX8_runEnd (aw_qi q) 0 0 5 [some (.ref 2), some (.int (nI lo)), some (.int (nI hi)), some (.int (nI p))] [] (n, σ, τ, θ)) ?_ ?_ ?_ s hsN rfl
  · intro p hp hpN he
    rw [tp_up_ge hp] at he
    refine sgX8_runEnd_5 _ _ _ (Nat.le_refl _) hW ?_
    rw [e7]
    exact ⟨fun _ => by rw [he]; exact hq, fun h => absurd (nI_le hp (by omega)) h⟩
  · intro p hp hb' ih hpN he
    obtain ⟨g1, g2⟩ := (b8_rg (hb p hp).1 h0 hl hh).mp hb'
    refine sgX8_runEnd_5 _ _ _ (Nat.le_refl _) hW ?_
    rw [e7, ps_cl (by omega), (hb p hp).2]
    refine ⟨fun h => absurd h (nI_ge hp (by omega)), fun _ => ⟨ps_in (by omega) (by decide), fun h => absurd h g1, fun _ => ⟨ps_in (by omega) (by decide), fun h => absurd h g2, fun _ => ?_⟩⟩⟩
    rw [nI_1]
    exact ih (by omega) (by rw [← tp_up_t hp hb']; exact he)
  · intro p hp hb' hpN he
    rw [tp_up_f hp hb'] at he
    refine sgX8_runEnd_5 _ _ _ (Nat.le_refl _) hW ?_
    rw [e7, ps_cl (by omega), (hb p hp).2]
    exact ⟨fun h => absurd h (nI_ge hp (by omega)), fun _ => ⟨ps_in (by omega) (by decide), fun _ => by rw [he]; exact hq, fun g1 => ⟨ps_in (by omega) (by decide), fun _ => by rw [he]; exact hq, fun g2 => absurd ((b8_rg (hb p hp).1 h0 hl hh).mpr ⟨g1, g2⟩) hb'⟩⟩⟩
theorem CT.fin {σ1 : SG} {e kd : Nat} (hB : CB σ b N) (hf : AF σ σ1) (e9 : σ1 2 9 = nI s) (hs : s ≤ N) (he : tp_en b N s = e) (hk : tp_kd b N s = kd) : AF σ (aw_u (aw_u σ1 2 10 (nI e)) 2 8 (nI kd)) ∧ CT (aw_u (aw_u σ1 2 10 (nI e)) 2 8 (nI kd)) b N s := by
  have h1 : AF σ (aw_u (aw_u σ1 2 10 (nI e)) 2 8 (nI kd)) := (hf.up (by omega)).up (by omega)
  refine ⟨h1, hB.af h1.tf, hs, ?_, ?_, ?_⟩
  · rw [aw_u_nk (by decide), aw_u_nk (by decide)]; exact e9
  · rw [aw_u_nk (by decide), aw_u_eq, he]
  · rw [aw_u_eq, hk]
set_option maxHeartbeats 4000000 in
theorem k8_advance {p : Nat} (hW : aw_WT n θ) (hB : CB σ b N) (hp : σ 2 10 = nI p) (hpN : p ≤ N) (hq : ∀ σ', AF σ σ' → CT σ' b N (tp_st b N p) → qv n σ' τ θ) : SMv G 2 mX8_advance 0 0 [.ref 2] n σ τ θ qv := by
  refine ctX8_advance (sgX8_advance_0 (Nat.le_refl _) hW ?_)
  rw [hp]
  have key := tp_ind (N := N) (P := tp_rg b 32 32) (M := fun p' => ∀ σ1, AF σ σ1 → σ1 2 9 = nI p' → p' ≤ N → tp_st b N p' = tp_st b N p → SW G 2 mX8_advance (aw_qv qv) 0 0 8 [some (.ref 2), none] [] (n, σ1, τ, θ)) ?_ ?_ ?_ p
  · exact key (aw_u σ 2 9 (nI p)) (AF.up (fun _ _ _ => rfl) (by omega)) aw_u_eq hpN rfl
  · intro p' h1 σ1 hf e9 hN he
    obtain ⟨e7, h9, hb⟩ := hB.af hf.tf
    refine sgX8_advance_8 (Nat.le_refl _) hW ?_
    rw [e9, e7]
    refine ⟨fun _ => ⟨fun h => absurd h (nI_nlt h1 (by omega)), fun _ => ?_⟩, fun h => absurd (nI_le h1 (by omega)) h⟩
    unfold tp_st at he
    rw [tp_up_ge h1] at he
    have hfin := CT.fin (s := p') (e := N) (kd := 0) hB hf e9 hN (by unfold tp_en; rw [if_neg (by omega)]) (tp_kd0.mpr h1)
    exact hq _ hfin.1 (by unfold tp_st; rw [← he]; exact hfin.2)
  · intro p' hp' hbl ih σ1 hf e9 hN he
    obtain ⟨e7, h9, hb⟩ := hB.af hf.tf
    have h32 := tp_rg_iff.mp hbl
    refine sgX8_advance_8 (Nat.le_refl _) hW ?_
    rw [e9, e7, ps_cl (by omega), (hb p' hp').2]
    refine ⟨fun h => absurd h (nI_ge hp' (by omega)), fun _ => ⟨ps_in (by omega) (by decide), fun h => absurd ((b8_eq (v := 32) (hb p' hp').1 (by decide)).mpr (by omega)) h, fun _ => ?_⟩⟩
    rw [nI_1]
    exact ih _ (hf.up (by omega)) aw_u_eq (by omega) (by rw [← he]; unfold tp_st; rw [tp_up_t hp' hbl])
  · intro s hs hnb σ1 hf e9 hN he
    have hB1 := hB.af hf.tf
    obtain ⟨e7, h9, hb⟩ := id hB1
    have es : tp_st b N s = s := by unfold tp_st; rw [tp_up_f hs hnb]
    have hn32 : ¬ b8 (b s) = 32 := fun e => hnb (tp_rg_iff.mpr (by have := (b8_eq (v := 32) (hb s hs).1 (by decide)).mp e; omega))
    have fin : ∀ e kd, tp_en b N s = e → tp_kd b N s = kd → qv n (aw_u (aw_u σ1 2 10 (nI e)) 2 8 (nI kd)) τ θ := by
      intro e kd h1 h2
      have hfin := CT.fin hB hf e9 hN h1 h2
      exact hq _ hfin.1 (by rw [← he, es]; exact hfin.2)
    have oth : ¬ tp_rg b 97 122 s = true → ¬ tp_rg b 48 57 s = true → (¬ b8 (b s) = 59 → qv n (aw_u (aw_u σ1 2 10 (nI s + 1)) 2 8 4) τ θ) ∧ (b8 (b s) = 59 → qv n (aw_u (aw_u σ1 2 10 (nI s + 1)) 2 8 3) τ θ) := by
      intro h1 h2
      rw [nI_1]
      refine ⟨fun h => fin (s + 1) 4 ?_ ?_, fun h => fin (s + 1) 3 ?_ ?_⟩
      · unfold tp_en; rw [if_pos hs, if_neg h1, if_neg h2]
      · unfold tp_kd; rw [if_pos hs, if_neg h1, if_neg h2, if_neg (fun e => h ((b8_eq (v := 59) (hb s hs).1 (by decide)).mpr e))]
      · unfold tp_en; rw [if_pos hs, if_neg h1, if_neg h2]
      · unfold tp_kd; rw [if_pos hs, if_neg h1, if_neg h2, if_pos ((b8_eq (v := 59) (hb s hs).1 (by decide)).mp h)]
    have dig : ¬ tp_rg b 97 122 s = true → tp_rg b 48 57 s = true → SMi G 1 mX8_runEnd 0 0 [.ref 2, .int 48, .int 57] n σ1 τ θ (fun a1 n1 σ1 τ1 θ1 => aw_WT n1 θ1 ∧ ((3 < (aw_u σ1 2 10 a1) 2 10 - (aw_u σ1 2 10 a1) 2 9 → qv n1 (aw_u (aw_u σ1 2 10 a1) 2 8 4) τ1 θ1) ∧ (¬ 3 < (aw_u σ1 2 10 a1) 2 10 - (aw_u σ1 2 10 a1) 2 9 → qv n1 (aw_u (aw_u σ1 2 10 a1) 2 8 2) τ1 θ1))) := by
      intro h1 h2
      have hu := tp_up_le (N := N) (P := tp_rg b 48 57) s hN
      refine k8_runEnd (lo := 48) (hi := 57) hW hB1 e9 hN (by decide) (by decide) (by decide) ⟨hW, ?_⟩
      rw [aw_u_eq, aw_u_nk (by decide), e9, pk_sub hu.1]
      refine ⟨fun h => fin _ 4 ?_ ?_, fun h => fin _ 2 ?_ ?_⟩
      · unfold tp_en; rw [if_pos hs, if_neg h1, if_pos h2]
      · have := (nI_ltI (a := 3) (by decide) (by omega)).mp h
        unfold tp_kd; rw [if_pos hs, if_neg h1, if_pos h2, if_neg (by omega)]
      · unfold tp_en; rw [if_pos hs, if_neg h1, if_pos h2]
      · have h3 : ¬ 3 < tp_up N (tp_rg b 48 57) s - s := fun e => h ((nI_ltI (a := 3) (by decide) (by omega)).mpr e)
        unfold tp_kd; rw [if_pos hs, if_neg h1, if_pos h2, if_pos (by omega)]
    refine sgX8_advance_8 (Nat.le_refl _) hW ?_
    rw [e9, e7, ps_cl (by omega), (hb s hs).2]
    refine ⟨fun h => absurd h (nI_ge hs (by omega)), fun _ => ⟨ps_in (by omega) (by decide), fun _ => ⟨fun _ => ⟨ps_in (by omega) (by decide), fun g => ?_, fun g => ⟨fun g2 => ?_, fun g2 => ?_⟩⟩, fun h => absurd (nI_lt hs (by omega)) h⟩, fun h => absurd h hn32⟩⟩
    · have h1 : ¬ tp_rg b 97 122 s = true := fun e => ((b8_rg (hb s hs).1 (by decide) (by decide) (by decide)).mp e).1 g
      refine ⟨fun g3 => oth h1 (fun e => ((b8_rg (hb s hs).1 (by decide) (by decide) (by decide)).mp e).1 g3), fun g3 => ⟨fun g4 => oth h1 (fun e => ((b8_rg (hb s hs).1 (by decide) (by decide) (by decide)).mp e).2 g4), fun g4 => dig h1 ((b8_rg (hb s hs).1 (by decide) (by decide) (by decide)).mpr ⟨g3, g4⟩)⟩⟩
    · have h1 : ¬ tp_rg b 97 122 s = true := fun e => ((b8_rg (hb s hs).1 (by decide) (by decide) (by decide)).mp e).2 g2
      refine ⟨fun g3 => oth h1 (fun e => ((b8_rg (hb s hs).1 (by decide) (by decide) (by decide)).mp e).1 g3), fun g3 => ⟨fun g4 => oth h1 (fun e => ((b8_rg (hb s hs).1 (by decide) (by decide) (by decide)).mp e).2 g4), fun g4 => dig h1 ((b8_rg (hb s hs).1 (by decide) (by decide) (by decide)).mpr ⟨g3, g4⟩)⟩⟩
    · have h1 : tp_rg b 97 122 s = true := (b8_rg (hb s hs).1 (by decide) (by decide) (by decide)).mpr ⟨g, g2⟩
      have hu := tp_up_le (N := N) (P := tp_rg b 97 122) s hN
      refine k8_runEnd (lo := 97) (hi := 122) hW hB1 e9 hN (by decide) (by decide) (by decide) ⟨hW, ?_⟩
      rw [aw_u_eq, aw_u_nk (by decide), e9, pk_sub hu.1]
      refine ⟨fun h => fin _ 4 ?_ ?_, fun h => fin _ 1 ?_ ?_⟩
      · unfold tp_en; rw [if_pos hs, if_pos h1]
      · have := (nI_ltI (a := 8) (by decide) (by omega)).mp h
        unfold tp_kd; rw [if_pos hs, if_pos h1, if_neg (by omega)]
      · unfold tp_en; rw [if_pos hs, if_pos h1]
      · have h3 : ¬ 8 < tp_up N (tp_rg b 97 122) s - s := fun e => h ((nI_ltI (a := 8) (by decide) (by omega)).mpr e)
        unfold tp_kd; rw [if_pos hs, if_pos h1, if_pos (by omega)]
/-- from token to token -/
theorem k8_adv (hW : aw_WT n θ) (hT : CT σ b N s) (hq : ∀ σ', AF σ σ' → CT σ' b N (tp_ad b N s) → qv n σ' τ θ) : SMv G 2 mX8_advance 0 0 [.ref 2] n σ τ θ qv := k8_advance hW hT.1 hT.2.2.2.1 (tp_en_le hT.2.1).2 hq
theorem k8_blame {x : Int32} (hW : aw_WT n θ) (hs : σ 2 9 = nI s) (hq : ∀ σ', TF σ σ' → σ' 2 6 = x → σ' 2 1 = nI s → q 0 n σ' τ θ) : SMi G 1 mX8_blame 0 0 [.ref 2, .int x] n σ τ θ q := by
  refine ctX8_blame _ (sgX8_blame_0 _ (Nat.le_refl _) hW ?_)
  refine hq _ (((TF.rf σ).up (by omega)).up (by omega)) ?_ ?_
  · rw [aw_u_nk (by decide), aw_u_eq]
  · rw [aw_u_eq, aw_u_nk (by decide)]; exact hs
theorem k8_is {j : Nat} {st : String × Nat × String × List Int32} (hj : aw_strs[j]? = some st) (hW : aw_WT n θ) (hT : CT σ b N s) (hq : q (if tp_w b N s j = true then 1 else 0) n σ τ θ) : SMi G 5 mX8_is 0 0 [.ref 2, .ref (1000 + j)] n σ τ θ q := by
  have ew := tw_of hj
  have h64 := (jd_str st (List.mem_of_getElem? hj)).1
  obtain ⟨⟨e7, h9, hb⟩, hsN, e9, e10, e8⟩ := id hT
  have hen := tp_en_le (b := b) hsN
  refine ctX8_is j (sgX8_is_0 j st (Nat.le_refl _) hj hW ⟨fun h => ?_, fun h => ?_⟩)
  · rw [if_neg (fun e => h ((hT.k 1 (by decide)).mpr (tp_w_iff.mp e).1))] at hq
    exact hq
  · have hk1 := (hT.k 1 (by decide)).mp h
    obtain ⟨k1, k2, k3, k4, k5, k6, k7, k8⟩ := tp_kd1 hk1
    refine kJ_length hj ⟨hW, ?_⟩
    rw [e10, e9, pk_sub hen.1, nI_eq (by omega) (by omega)]
    refine ⟨fun hL => ?_, fun hL => ?_⟩
    · have key := ps_up (N := st.2.2.2.length) (P := fun k => (∀ i, i < k → nI (b (s + i)) = (tw j).getD i 0) → SW G 5 mX8_is (aw_qi q) 0 0 28 [some (.ref 2), some (.ref (1000 + j)), some (.int (nI k))] [] (n, σ, τ, θ)) ?_ ?_ 0 (Nat.zero_le _)
      · exact key (fun i hi => absurd hi (by omega))
      · intro hi
        refine sgX8_is_28 j st _ (Nat.le_refl _) hj hW (kJ_length hj ⟨hW, fun _ => ?_, fun h2 => absurd (Int32.le_refl _) h2⟩)
        rw [if_pos (tp_w_iff.mpr ⟨hk1, by rw [ew]; omega, by rw [ew] at hi ⊢; exact hi⟩)] at hq
        exact hq
      · intro k hk ih hi
        refine sgX8_is_28 j st _ (Nat.le_refl _) hj hW (kJ_length hj ⟨hW, fun h2 => absurd h2 (nI_ge hk (by omega)), fun _ => ?_⟩)
        rw [e9, nI_add, ps_cl (by omega), (hb (s + k) (by omega)).2, (b8_all (b (s + k)) (hb (s + k) (by omega)).1).1 (by have := k8 k (by omega); omega), nI_1]
        refine ⟨ps_in (by omega) (by decide), kJ_charAt hj hk ⟨hW, fun he => ?_, fun he => ?_⟩⟩
        · refine ih (fun i hi2 => ?_)
          by_cases e : i = k
          · rw [e, ew]; exact he
          · exact hi i (by omega)
        · rw [if_neg (fun e => he (by have := (tp_w_iff.mp e).2.2 k (by rw [ew]; exact hk); rw [ew] at this; exact this))] at hq
          exact hq
    · rw [if_neg (fun e => hL (by have := (tp_w_iff.mp e).2.1; rw [ew] at this; omega))] at hq
      exact hq
theorem ps_if1 {B : Bool} {P : Int32 → Prop} (h1 : B = true → P 1) (h0 : ¬ B = true → P 0) : P (if B = true then 1 else 0) := by
  by_cases h : B = true
  · rw [if_pos h]; exact h1 h
  · rw [if_neg h]; exact h0 h
theorem k8_isLineWord (hW : aw_WT n θ) (hT : CT σ b N s) (hq : q (if tp_lw b N s = true then 1 else 0) n σ τ θ) : SMi G 6 mX8_isLineWord 0 0 [.ref 2] n σ τ θ q := by
  refine ctX8_isLineWord (sgX8_isLineWord_0 (Nat.le_refl _) hW ?_)
  have yes : (∃ i, i < 7 ∧ tp_w b N s i = true) → q 1 n σ τ θ := by
    rintro ⟨i, hi, h⟩
    rwa [if_pos (tp_lw_i.mpr ⟨i, hi, h⟩)] at hq
  refine k8_is (j := 0) rfl hW hT ⟨hW, And.symm (ps_b (fun h0 => ?_) (fun h => yes ⟨0, by decide, h⟩))⟩
  refine k8_is (j := 1) rfl hW hT ⟨hW, And.symm (ps_b (fun h1 => ?_) (fun h => yes ⟨1, by decide, h⟩))⟩
  refine k8_is (j := 2) rfl hW hT ⟨hW, And.symm (ps_b (fun h2 => ?_) (fun h => yes ⟨2, by decide, h⟩))⟩
  refine k8_is (j := 3) rfl hW hT ⟨hW, And.symm (ps_b (fun h3 => ?_) (fun h => yes ⟨3, by decide, h⟩))⟩
  refine k8_is (j := 4) rfl hW hT ⟨hW, And.symm (ps_b (fun h4 => ?_) (fun h => yes ⟨4, by decide, h⟩))⟩
  refine k8_is (j := 5) rfl hW hT ⟨hW, And.symm (ps_b (fun h5 => ?_) (fun h => yes ⟨5, by decide, h⟩))⟩
  refine k8_is (j := 6) rfl hW hT ⟨hW, ps_b (fun h6 => ?_) (fun h => yes ⟨6, by decide, h⟩)⟩
  rwa [if_neg (fun e => ?_)] at hq
  obtain ⟨i, hi, h⟩ := tp_lw_i.mp e
  rcases (show i = 0 ∨ i = 1 ∨ i = 2 ∨ i = 3 ∨ i = 4 ∨ i = 5 ∨ i = 6 by omega) with rfl | rfl | rfl | rfl | rfl | rfl | rfl
  · exact h0 h
  · exact h1 h
  · exact h2 h
  · exact h3 h
  · exact h4 h
  · exact h5 h
  · exact h6 h
theorem k8_expect {j : Nat} {st : String × Nat × String × List Int32} (hj : aw_strs[j]? = some st) (hW : aw_WT n θ) (hT : CT σ b N s) (h1 : tp_w b N s j = true → ∀ σ', TF σ σ' → CT σ' b N (tp_ad b N s) → q 1 n σ' τ θ) (h0 : ¬ tp_w b N s j = true → ∀ σ', TF σ σ' → σ' 2 6 = 1 → σ' 2 1 = nI s → q 0 n σ' τ θ) : SMi G 6 mX8_expect 0 0 [.ref 2, .ref (1000 + j)] n σ τ θ q := by
  refine ctX8_expect j (sgX8_expect_0 j st (Nat.le_refl _) hj hW ?_)
  refine k8_is hj hW hT ⟨hW, And.symm (ps_b (fun h => ?_) (fun h => ?_))⟩
  · exact k8_blame hW hT.2.2.1 (fun σ' f e6 e1 => ⟨hW, Or.inl rfl, h0 h σ' f e6 e1⟩)
  · exact k8_adv hW hT (fun σ' f hT' => ⟨hW, h1 h σ' f.tf hT'⟩)
def tp_num (b : Nat → Nat) (N s lo hi : Nat) : Nat := if tp_kd b N s = 2 then (if lo ≤ tp_val b N s ∧ tp_val b N s ≤ hi then 0 else 4) else 1
theorem k8_whole {lo hi : Nat} (hW : aw_WT n θ) (hT : CT σ b N s) (hlo : lo < 1000) (hhi : hi < 1000) (h1 : tp_num b N s lo hi = 0 → ∀ σ', TF σ σ' → CT σ' b N (tp_ad b N s) → σ' 2 11 = nI (tp_val b N s) → q 1 n σ' τ θ) (h0 : tp_num b N s lo hi ≠ 0 → ∀ σ', TF σ σ' → σ' 2 6 = nI (tp_num b N s lo hi) → σ' 2 1 = nI s → q 0 n σ' τ θ) : SMi G 3 mX8_wholeWithin 0 0 [.ref 2, .int (nI lo), .int (nI hi)] n σ τ θ q := by
  obtain ⟨⟨e7, h9, hb⟩, hsN, e9, e10, e8⟩ := id hT
  refine ctX8_wholeWithin _ _ (sgX8_wholeWithin_0 _ _ (Nat.le_refl _) hW ⟨fun h => ?_, fun h => ?_⟩)
  · have hk2 := (hT.k 2 (by decide)).mp h
    obtain ⟨k1, k2, k3, k4, k5, k6, k7, k8⟩ := tp_kd2 hk2
    have hv := tp_val_lt hk2
    rw [e9]
    have key := ps_up (N := tp_en b N s - s) (P := fun k => SW G 3 mX8_wholeWithin (aw_qi q) 0 0 22 [some (.ref 2), some (.int (nI lo)), some (.int (nI hi)), some (.int (nI (tp_v b s k))), some (.int (nI (s + k)))] [] (n, σ, τ, θ)) ?_ ?_ 0 (Nat.zero_le _)
    · exact key
    · refine sgX8_wholeWithin_22 _ _ _ _ (Nat.le_refl _) hW ?_
      rw [e10]
      refine ⟨fun _ => ?_, fun h2 => absurd (nI_le (by omega) (by omega)) h2⟩
      have ev : tp_v b s (tp_en b N s - s) = tp_val b N s := rfl
      rw [ev, nI_ltI (by omega) (by omega), nI_leI (by omega) (by omega)]
      refine ⟨fun h2 => ?_, fun h2 => ⟨fun h3 => ?_, fun h3 => ?_⟩⟩
      · have hn : tp_num b N s lo hi = 4 := by unfold tp_num; rw [if_pos hk2, if_neg (by omega)]
        exact k8_blame hW e9 (fun σ' f e6 e1 => ⟨hW, Or.inl rfl, h0 (by omega) σ' f (by rw [e6, hn]; rfl) e1⟩)
      · have hn : tp_num b N s lo hi = 0 := by unfold tp_num; rw [if_pos hk2, if_pos (by omega)]
        have hT' : CT (aw_u σ 2 11 (nI (tp_val b N s))) b N s := hT.mono (fun k hk => aw_u_nk (by omega)) (fun j => aw_u_ne (by decide))
        refine k8_adv hW hT' (fun σ' f hT2 => ⟨hW, h1 hn σ' (((TF.rf σ).up (by omega)).trans f.tf) hT2 ?_⟩)
        rw [f 2 11 (by omega), aw_u_eq]
      · have hn : tp_num b N s lo hi = 4 := by unfold tp_num; rw [if_pos hk2, if_neg (by omega)]
        exact k8_blame hW e9 (fun σ' f e6 e1 => ⟨hW, Or.inl rfl, h0 (by omega) σ' f (by rw [e6, hn]; rfl) e1⟩)
    · intro k hk ih
      have h8 := k8 k hk
      refine sgX8_wholeWithin_22 _ _ _ _ (Nat.le_refl _) hW ?_
      rw [e10]
      refine ⟨fun h2 => absurd h2 (nI_ge (by omega) (by omega)), fun _ => ⟨ps_in (by omega) (by decide), ?_⟩⟩
      rw [ps_cl (by omega), (hb (s + k) (by omega)).2, (b8_all (b (s + k)) (hb (s + k) (by omega)).1).1 (by omega), show nI (b (s + k)) - 48 = nI (b (s + k) - 48) from pk_sub (b := 48) h8.1, show nI (tp_v b s k) * 10 = nI (tp_v b s k * 10) from pk_mul _ 10, nI_add, nI_1, show tp_v b s k * 10 + (b (s + k) - 48) = tp_v b s (k + 1) by show _ = 10 * tp_v b s k + (b (s + k) - 48); omega]
      exact ih
  · have hn : tp_num b N s lo hi = 1 := by unfold tp_num; rw [if_neg (fun e => h ((hT.k 2 (by decide)).mpr e))]
    exact k8_blame hW e9 (fun σ' f e6 e1 => ⟨hW, Or.inl rfl, h0 (by omega) σ' f (by rw [e6, hn]; rfl) e1⟩)
theorem k8_code (hW : aw_WT n θ) (hT : CT σ b N s) (hk : tp_kd b N s = 1) (hq : ql (lN (tp_cd (fun k => b (s + k)) (tp_en b N s - s))) n σ τ θ) : SMl G 1 mX8_code 0 0 [.ref 2] n σ τ θ ql := by
  obtain ⟨⟨e7, h9, hb⟩, hsN, e9, e10, e8⟩ := id hT
  obtain ⟨k1, k2, k3, k4, k5, k6, k7, k8⟩ := tp_kd1 hk
  refine ctX8_code (sgX8_code_0 (Nat.le_refl _) hW ?_)
  rw [e9]
  have key := ps_up (N := tp_en b N s - s) (P := fun k => SW G 1 mX8_code (aw_ql ql) 0 0 7 [some (.ref 2), some (.long (lN (tp_cd (fun k => b (s + k)) k))), none, some (.int (nI (s + k)))] [] (n, σ, τ, θ)) ?_ ?_ 0 (Nat.zero_le _)
  · exact key
  · refine sgX8_code_7 _ _ (Nat.le_refl _) hW ?_
    rw [e10]
    exact ⟨fun _ => hq, fun h2 => absurd (nI_le (by omega) (by omega)) h2⟩
  · intro k hk ih
    have h8 := k8 k hk
    refine sgX8_code_7 _ _ (Nat.le_refl _) hW ?_
    rw [e10]
    refine ⟨fun h2 => absurd h2 (nI_ge (by omega) (by omega)), fun _ => ⟨ps_in (by omega) (by decide), ?_⟩⟩
    have e1 : nI (b (s + k)) - 97 + 1 = nI (b (s + k) - 96) := by
      rw [show nI (b (s + k)) - 97 = nI (b (s + k) - 97) from pk_sub (b := 97) h8.1, nI_1, show b (s + k) - 97 + 1 = b (s + k) - 96 by omega]
    rw [ps_cl (by omega), (hb (s + k) (by omega)).2, (b8_all (b (s + k)) (hb (s + k) (by omega)).1).1 (by omega), e1, nI_l (by omega), nI_1, show lN (tp_cd (fun k => b (s + k)) k) * 27 = lN (tp_cd (fun k => b (s + k)) k * 27) from (Int64.ofNat_mul _ 27).symm, show lN (tp_cd (fun k => b (s + k)) k * 27) + lN (b (s + k) - 96) = lN (tp_cd (fun k => b (s + k)) k * 27 + (b (s + k) - 96)) from (Int64.ofNat_add _ _).symm]
    exact ih
theorem k8_indexOf {r0 rn0 c : Nat} {x : Int64} (hr0 : isB r0 rn0) (hW : aw_WT n θ) (hc : c ≤ rn0) (hn : rn0 ≤ 10) (hq : q (if tp_up c (fun i => !decide (τ r0 i = x)) 0 < c then nI (tp_up c (fun i => !decide (τ r0 i = x)) 0) else -1) n σ τ θ) : SMi G 1 mX8_indexOf 0 0 [.ref r0, .int (nI c), .long x] n σ τ θ q := by
  refine ctX8_indexOf r0 rn0 _ _ (sgX8_indexOf_0 r0 rn0 _ _ (Nat.le_refl _) hr0 hW ?_)
  refine tp_ind (N := c) (P := fun i => !decide (τ r0 i = x)) (M := fun p => p ≤ c → tp_up c (fun i => !decide (τ r0 i = x)) p = tp_up c (fun i => !decide (τ r0 i = x)) 0 → SW G 1 mX8_indexOf (aw_qi q) 0 0 3 [some (.ref r0), some (.int (nI c)), some (.long x), none, some (.int (nI p))] [] (n, σ, τ, θ)) ?_ ?_ ?_ 0 (Nat.zero_le _) rfl
  · intro p hp hpc he
    rw [tp_up_ge hp] at he
    rw [← he, if_neg (by omega)] at hq
    exact sgX8_indexOf_3 r0 rn0 _ _ _ (Nat.le_refl _) hr0 hW ⟨fun _ => hq, fun h => absurd (nI_le hp (by omega)) h⟩
  · intro p hp hb ih hpc he
    have hne : ¬ τ r0 p = x := by simpa using hb
    refine sgX8_indexOf_3 r0 rn0 _ _ _ (Nat.le_refl _) hr0 hW ⟨fun h => absurd h (nI_ge hp (by omega)), fun _ => ⟨fun h => absurd h (nI_ge (a := p) (b := rn0) (by omega) (by omega)), fun _ => ⟨ps_in (by omega) (by omega), ?_⟩⟩⟩
    rw [ps_cl (by omega), nI_1]
    exact ⟨fun _ => ih (by omega) (by rw [← tp_up_t hp hb]; exact he), fun h => absurd ((lg_cmp_eq _ _).mp h) hne⟩
  · intro p hp hb hpc he
    have heq : τ r0 p = x := by simpa using hb
    rw [tp_up_f hp hb] at he
    rw [← he, if_pos hp] at hq
    refine sgX8_indexOf_3 r0 rn0 _ _ _ (Nat.le_refl _) hr0 hW ⟨fun h => absurd h (nI_ge hp (by omega)), fun _ => ⟨fun h => absurd h (nI_ge (a := p) (b := rn0) (by omega) (by omega)), fun _ => ⟨ps_in (by omega) (by omega), ?_⟩⟩⟩
    rw [ps_cl (by omega)]
    exact ⟨fun h => absurd ((lg_cmp_eq _ _).mpr heq) h, fun _ => hq⟩
end Tc
