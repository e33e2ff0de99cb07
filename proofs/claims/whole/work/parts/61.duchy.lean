/-! ===== duchy: the reference ===== -/
theorem arrV_c {cI : ClassId} {N : Nat} {f g : Nat → Value} (h : ∀ j, j < N → f j = g j) : arrV cI N f = arrV cI N g := by
  unfold arrV
  congr 1
  congr 1
  funext j
  exact h j.val j.isLt
/-- what lies beyond an array's end may be taken as one likes -/
theorem aw_Rep.norm {G : GG} {n : Nat} {σ σ' : SG} {τ : TU} {θ : TH} {H : Heap} (R : aw_Rep G (n, σ, τ, θ) H) (hc : ∀ o k, (∀ N, aw_kp o = (1, N) → k < N) → σ' o k = σ o k) : aw_Rep G (n, σ', τ, θ) H := by
  refine ⟨R.1, R.2.1, fun o h1 h2 => ?_⟩
  obtain ⟨a0, a1, a2, a3, a4⟩ := R.2.2 o h1 h2
  refine ⟨fun ci e => ?_, fun N e => ?_, a2, fun N e => ?_, a4⟩
  · obtain ⟨r, hr, hb⟩ := a0 ci e
    refine ⟨r, hr, hb.to (fun k _ => ?_)⟩
    unfold aw_fv
    have e1 : σ' o k = σ o k := hc o k (fun N e2 => by rw [e] at e2; cases e2)
    show (if aw_fk ci k = 0 then Value.int (σ o k) else _) = (if aw_fk ci k = 0 then Value.int (σ' o k) else _)
    rw [e1]
  · rw [a1 N e]
    exact congrArg some (arrV_c (fun j hj => by
      show Value.int (σ o j) = Value.int (σ' o j)
      rw [hc o j (fun N' e2 => by rw [e] at e2; cases e2; exact hj)]))
  · rw [a3 N e]
    exact congrArg some (arrV_c (fun j hj => by
      show Value.int (σ o j) = Value.int (σ' o j)
      rw [hc o j (fun N' e2 => by rw [e] at e2; cases e2)]))
theorem SW.norm {G : GG} {k : Nat} {y : MD} {Q : Option Value → HH → Prop} {a b pc : Nat} {L : List (Option Value)} {S : List Value} {n : Nat} {σ : SG} {τ : TU} {θ : TH} (σ' : SG) (hc : ∀ o k, (∀ N, aw_kp o = (1, N) → k < N) → σ' o k = σ o k) (kk : SW G k y Q a b pc L S (n, σ', τ, θ)) : SW G k y Q a b pc L S (n, σ, τ, θ) := by
  intro p l e R s m args below meth c QQ C H locs ls cells slots B
  exact kk.go C ⟨B.1.norm hc, B.2⟩
section Dr
variable {G : GG} {n : Nat} {σ : SG} {τ : TU} {θ : TH} {q : Int32 → Nat → SG → TU → TH → Prop} {qv : Nat → SG → TU → TH → Prop} {b : Nat → Nat} {N s : Nat} {r : Nat → Int32}
theorem k10_begins {j i : Nat} {st : String × Nat × String × List Int32} {x : Int32} (hj : aw_strs[j]? = some st) (hji : tw j = tw i) (hW : aw_WT n θ) (hT : RT σ b N s) (h13 : σ 120 13 = 0)
    (h1 : tp_w b N s i = true → ¬ x = 0 → ¬ σ 124 0 = 0 → ∀ σ', NF σ σ' → RT σ' b N (tp_ad b N s) → q 1 n σ' τ θ)
    (h6 : tp_w b N s i = true → ¬ x = 0 → σ 124 0 = 0 → ∀ σ', HF σ σ' → FS 6 s σ' → q 1 n σ' τ θ)
    (h5 : tp_w b N s i = true → x = 0 → ∀ σ', HF σ σ' → FS 5 s σ' → q 1 n σ' τ θ)
    (hn : ¬ tp_w b N s i = true → q 0 n σ τ θ) : SMi G 6 mX10_begins 0 0 [.ref 120, .ref (1000 + j), .int x] n σ τ θ q := by
  refine ctX10_begins j _ (sgX10_begins_0 j st _ (Nat.le_refl _) hj hW ?_)
  refine k10_isWord hj hW hT h13 ⟨hW, And.symm (ps_b (fun w => ?_) (fun w => ?_))⟩
  · rw [tp_w_c hji] at w
    exact hn w
  · rw [tp_w_c hji] at w
    rw [hT.2.2.1]
    refine ⟨fun hx => ⟨fun ht => k10_pass hW hT h13 (fun σ' f T' => ⟨hW, h1 w hx ht σ' f T'⟩), fun ht => k10_wrong (F := 6) hW h13 (fun σ' f e => ⟨hW, k10_pass_no hW e.no ⟨hW, h6 w hx ht σ' f e⟩⟩)⟩, fun hx => ?_⟩
    refine k10_wrong (F := 5) hW h13 (fun σ' f e => ⟨hW, fun _ => k10_pass_no hW e.no ⟨hW, h5 w hx σ' f e⟩, fun _ => k10_wrong_no hW e.no ⟨hW, k10_pass_no hW e.no ⟨hW, h5 w hx σ' f e⟩⟩⟩)
theorem k10_manLine_no (hW : aw_WT n θ) (h13 : ¬ σ 120 13 = 0) (hq : qv n σ τ θ) : SMv G 9 mX10_manLine 0 0 [.ref 120] n σ τ θ qv := ctX10_manLine (sgX10_manLine_0 (Nat.le_refl _) hW ⟨fun h => absurd h h13, fun _ => hq⟩)
theorem k10_doorLine_no (hW : aw_WT n θ) (h13 : ¬ σ 120 13 = 0) (hq : qv n σ τ θ) : SMv G 9 mX10_doorLine 0 0 [.ref 120] n σ τ θ qv := ctX10_doorLine (sgX10_doorLine_0 (Nat.le_refl _) hW ⟨fun h => absurd h h13, fun _ => hq⟩)
theorem k10_invitedLine_no (hW : aw_WT n θ) (h13 : ¬ σ 120 13 = 0) (hq : qv n σ τ θ) : SMv G 9 mX10_invitedLine 0 0 [.ref 120] n σ τ θ qv := ctX10_invitedLine (sgX10_invitedLine_0 (Nat.le_refl _) hW ⟨fun h => absurd h h13, fun _ => hq⟩)
theorem k10_readingLine_no (hW : aw_WT n θ) (h13 : ¬ σ 120 13 = 0) (hq : qv n σ τ θ) : SMv G 9 mX10_readingLine 0 0 [.ref 120] n σ τ θ qv := ctX10_readingLine (sgX10_readingLine_0 (Nat.le_refl _) hW ⟨fun h => absurd h h13, fun _ => hq⟩)
theorem k10_owesLine_no {x y : Int32} (hW : aw_WT n θ) (h13 : ¬ σ 120 13 = 0) (hq : qv n σ τ θ) : SMv G 9 mX10_owesLine 0 0 [.ref 120, .int x, .int y] n σ τ θ qv := ctX10_owesLine _ _ (sgX10_owesLine_0 _ _ (Nat.le_refl _) hW ⟨fun h => absurd h h13, fun _ => hq⟩)
set_option maxHeartbeats 4000000 in
theorem k10_readLine {a d u o k t : Nat} (hW : aw_WT n θ) (hT : RT σ b N s) (h13 : σ 120 13 = 0) (hr : σ 124 = r) (hv : VQ r a d u o k t)
    (h0 : ∀ e, tp_line b N s r = .inl e → ∀ σ', GF σ σ' → FS e.1 e.2 σ' → qv n σ' τ θ)
    (h1 : ∀ s' r', tp_line b N s r = .inr (s', r') → ∀ σ', OF σ σ' → RT σ' b N s' → σ' 120 13 = 0 → σ' 124 = r' → qv n σ' τ θ) : SMv G 10 mX10_readLine 0 0 [.ref 120] n σ τ θ qv := by
  obtain ⟨e1, e2, e3, e4, e5, e6⟩ := hv.n
  have ha := hv.1.2
  have hd := hv.2.1.2
  have hu := hv.2.2.1.2
  have ho := hv.2.2.2.1.2
  have hk := hv.2.2.2.2.1.2
  have hz := hv.2.2.2.2.2.2.2.2.2.2.2.2.1
  have et : r 0 = 0 ↔ t = 0 := by rw [hv.2.2.2.2.2.1.1]; exact nI_eq (b := 0) (by have := hv.2.2.2.2.2.1.2; omega) (by omega)
  unfold tp_line at h0 h1
  rw [e1, e2, e3, e4, e5] at h0 h1
  refine ctX10_readLine (sgX10_readLine_0 (Nat.le_refl _) hW ?_)
  refine k10_isWord (j := 20) rfl hW hT h13 ⟨hW, ps_b (fun w0 => ?_) (fun w0 => ?_)⟩
  rotate_left
  · rw [tp_w_c tw_20] at w0
    rw [if_pos w0] at h0 h1
    exact k10_duchyLine hW hT h13 hr hv (fun e he σ' a1 a2 => ⟨hW, h0 e he σ' a1 a2⟩) (fun s' r' he σ' a1 a2 a3 a4 => ⟨hW, h1 s' r' he σ' a1 a2 a3 a4⟩)
  rw [tp_w_c tw_20] at w0
  rw [if_neg w0] at h0 h1
  -- read
  have s205 : (¬ tp_w b N s 1 = true) → (¬ tp_w b N s 2 = true) → (¬ tp_w b N s 3 = true) → (¬ tp_w b N s 4 = true) → (¬ tp_w b N s 5 = true) → ∀ x : Int32, (x = 0 ↔ ¬ k < 4) → SW G 10 mX10_readLine (aw_qv qv) 0 0 205 [some (.ref 120)] [.int x, .ref (1000 + 30), .ref 120] (n, σ, τ, θ) := by
    intro w1 w2 w3 w4 w5 x hx
    rw [if_neg w1, if_neg w2, if_neg w3, if_neg w4, if_neg w5] at h0 h1
    refine sgX10_readLine_205 _ (Nat.le_refl _) hW ?_
    refine k10_begins (i := 6) rfl tw_30 hW hT h13 (fun w hx1 hr1 σ1 f1 T1 => ⟨hW, fun h => absurd h (by decide), fun _ => ?_⟩) (fun w hx1 hr1 σ1 f1 x1 => ⟨hW, fun h => absurd h (by decide), fun _ => ?_⟩) (fun w hx1 σ1 f1 x1 => ⟨hW, fun h => absurd h (by decide), fun _ => ?_⟩) (fun w => ⟨hW, fun _ => ?_, fun h => absurd rfl h⟩)
    · have hk4 : k < 4 := by rcases Nat.lt_or_ge k 4 with q1 | q1; exact q1; exact absurd (hx.mpr (by omega)) hx1
      rw [hr] at hr1
      rw [if_pos w, if_neg hr1, if_pos hk4] at h0 h1
      exact k10_readingLine hW T1 (f1.f.trans h13) (f1.row.trans hr) hv hk4 (fun e he σ' a1 a2 => ⟨hW, h0 e he σ' (f1.hf.gf.trans a1) a2⟩) (fun s' r' he σ' a1 a2 a3 a4 => ⟨hW, h1 s' r' he σ' (f1.of.trans a1) a2 a3 a4⟩)
    · rw [hr] at hr1
      rw [if_pos w, if_pos hr1] at h0
      exact k10_readingLine_no hW x1.no ⟨hW, h0 (6, s) rfl σ1 f1.gf x1⟩
    · have hk4 := hx.mp hx1
      rw [if_pos w, if_neg (fun e => hk4 (by have := hz (et.mp e); omega)), if_neg hk4] at h0
      exact k10_readingLine_no hW x1.no ⟨hW, h0 (5, s) rfl σ1 f1.gf x1⟩
    · rw [if_neg w] at h0
      rw [hT.2.2.1]
      exact k10_wrong (F := 1) hW h13 (fun σ' f e => ⟨hW, h0 (1, s) rfl σ' f.gf e⟩)
  have s156 : (¬ tp_w b N s 1 = true) → (¬ tp_w b N s 2 = true) → (¬ tp_w b N s 3 = true) → ∀ x : Int32, (x = 0 ↔ ¬ o < 4) → SW G 10 mX10_readLine (aw_qv qv) 0 0 156 [some (.ref 120)] [.int x, .ref (1000 + 28), .ref 120] (n, σ, τ, θ) := by
    intro w1 w2 w3 x hx
    refine sgX10_readLine_156 _ (Nat.le_refl _) hW ?_
    refine k10_begins (i := 4) rfl tw_28 hW hT h13 (fun w hx1 hr1 σ1 f1 T1 => ⟨hW, fun h => absurd h (by decide), fun _ => ?_⟩) (fun w hx1 hr1 σ1 f1 x1 => ⟨hW, fun h => absurd h (by decide), fun _ => ?_⟩) (fun w hx1 σ1 f1 x1 => ⟨hW, fun h => absurd h (by decide), fun _ => ?_⟩) (fun w4 => ⟨hW, fun _ => ?_, fun h => absurd rfl h⟩)
    · rw [if_neg w1, if_neg w2, if_neg w3] at h0 h1
      have hk4 : o < 4 := by rcases Nat.lt_or_ge o 4 with q1 | q1; exact q1; exact absurd (hx.mpr (by omega)) hx1
      rw [hr] at hr1
      rw [if_pos w, if_neg hr1, if_pos hk4] at h0 h1
      exact k10_doorLine hW T1 (f1.f.trans h13) (f1.row.trans hr) hv hk4 (fun e he σ' a1 a2 => ⟨hW, h0 e he σ' (f1.hf.gf.trans a1) a2⟩) (fun s' r' he σ' a1 a2 a3 a4 => ⟨hW, h1 s' r' he σ' (f1.of.trans a1) a2 a3 a4⟩)
    · rw [if_neg w1, if_neg w2, if_neg w3] at h0 h1
      rw [hr] at hr1
      rw [if_pos w, if_pos hr1] at h0
      exact k10_doorLine_no hW x1.no ⟨hW, h0 (6, s) rfl σ1 f1.gf x1⟩
    · rw [if_neg w1, if_neg w2, if_neg w3] at h0 h1
      have hk4 := hx.mp hx1
      rw [if_pos w, if_neg (fun e => hk4 (by have := hz (et.mp e); omega)), if_neg hk4] at h0
      exact k10_doorLine_no hW x1.no ⟨hW, h0 (5, s) rfl σ1 f1.gf x1⟩
    · refine k10_begins (i := 5) rfl tw_29 hW hT h13 (fun w hx1 hr1 σ1 f1 T1 => ⟨hW, fun h => absurd h (by decide), fun _ => ?_⟩) (fun w hx1 hr1 σ1 f1 x1 => ⟨hW, fun h => absurd h (by decide), fun _ => ?_⟩) (fun w hx1 σ1 f1 x1 => absurd hx1 (by decide)) (fun w5 => ⟨hW, fun _ => ?_, fun h => absurd rfl h⟩)
      · rw [if_neg w1, if_neg w2, if_neg w3, if_neg w4] at h0 h1
        rw [hr] at hr1
        rw [if_pos w, if_neg hr1] at h0 h1
        exact k10_invitedLine hW T1 (f1.f.trans h13) (f1.row.trans hr) hv (fun e he σ' a1 a2 => ⟨hW, h0 e he σ' (f1.hf.gf.trans a1) a2⟩) (fun s' r' he σ' a1 a2 a3 a4 => ⟨hW, h1 s' r' he σ' (f1.of.trans a1) a2 a3 a4⟩)
      · rw [if_neg w1, if_neg w2, if_neg w3, if_neg w4] at h0 h1
        rw [hr] at hr1
        rw [if_pos w, if_pos hr1] at h0
        exact k10_invitedLine_no hW x1.no ⟨hW, h0 (6, s) rfl σ1 f1.gf x1⟩
      · rw [hr, hv.2.2.2.2.1.1, show ((4 : Int32) ≤ nI k) ↔ 4 ≤ k from nI_leI (a := 4) (by omega) (by omega)]
        exact ⟨fun h => s205 w1 w2 w3 w4 w5 0 ⟨fun _ => by omega, fun _ => rfl⟩, fun h => s205 w1 w2 w3 w4 w5 1 ⟨fun e => absurd e (by decide), fun e => by omega⟩⟩
  have s110 : (¬ tp_w b N s 1 = true) → (¬ tp_w b N s 2 = true) → ∀ x : Int32, (x = 0 ↔ ¬ u < 4) → SW G 10 mX10_readLine (aw_qv qv) 0 0 110 [some (.ref 120)] [.int x, .ref (1000 + 27), .ref 120] (n, σ, τ, θ) := by
    intro w1 w2 x hx
    refine sgX10_readLine_110 _ (Nat.le_refl _) hW ?_
    refine k10_begins (i := 3) rfl tw_27 hW hT h13 (fun w hx1 hr1 σ1 f1 T1 => ⟨hW, fun h => absurd h (by decide), fun _ => ?_⟩) (fun w hx1 hr1 σ1 f1 x1 => ⟨hW, fun h => absurd h (by decide), fun _ => ?_⟩) (fun w hx1 σ1 f1 x1 => ⟨hW, fun h => absurd h (by decide), fun _ => ?_⟩) (fun w3 => ⟨hW, fun _ => ?_, fun h => absurd rfl h⟩)
    · rw [if_neg w1, if_neg w2] at h0 h1
      have hk4 : u < 4 := by rcases Nat.lt_or_ge u 4 with q1 | q1; exact q1; exact absurd (hx.mpr (by omega)) hx1
      rw [hr] at hr1
      rw [if_pos w, if_neg hr1, if_pos hk4] at h0 h1
      rw [f1.row, hr, hv.2.2.1.1, ix53]
      exact k10_owesLine (B := 53) (M := 6) (cnt := u) hW T1 (f1.f.trans h13) (f1.row.trans hr) (by decide) (by omega) (by decide) hv.2.2.1.1 (fun e he σ' a1 a2 => ⟨hW, h0 e he σ' (f1.hf.gf.trans a1) a2⟩) (fun s' r' he σ' a1 a2 a3 a4 => ⟨hW, h1 s' r' he σ' (f1.of.trans a1) a2 a3 a4⟩)
    · rw [if_neg w1, if_neg w2] at h0 h1
      rw [hr] at hr1
      rw [if_pos w, if_pos hr1] at h0
      exact k10_owesLine_no hW x1.no ⟨hW, h0 (6, s) rfl σ1 f1.gf x1⟩
    · rw [if_neg w1, if_neg w2] at h0 h1
      have hk4 := hx.mp hx1
      rw [if_pos w, if_neg (fun e => hk4 (by have := hz (et.mp e); omega)), if_neg hk4] at h0
      exact k10_owesLine_no hW x1.no ⟨hW, h0 (5, s) rfl σ1 f1.gf x1⟩
    · rw [hr, hv.2.2.2.1.1, show ((4 : Int32) ≤ nI o) ↔ 4 ≤ o from nI_leI (a := 4) (by omega) (by omega)]
      exact ⟨fun h => s156 w1 w2 w3 0 ⟨fun _ => by omega, fun _ => rfl⟩, fun h => s156 w1 w2 w3 1 ⟨fun e => absurd e (by decide), fun e => by omega⟩⟩
  have s66 : (¬ tp_w b N s 1 = true) → ∀ x : Int32, (x = 0 ↔ ¬ d < 7) → SW G 10 mX10_readLine (aw_qv qv) 0 0 66 [some (.ref 120)] [.int x, .ref (1000 + 26), .ref 120] (n, σ, τ, θ) := by
    intro w1 x hx
    refine sgX10_readLine_66 _ (Nat.le_refl _) hW ?_
    refine k10_begins (i := 2) rfl tw_26 hW hT h13 (fun w hx1 hr1 σ1 f1 T1 => ⟨hW, fun h => absurd h (by decide), fun _ => ?_⟩) (fun w hx1 hr1 σ1 f1 x1 => ⟨hW, fun h => absurd h (by decide), fun _ => ?_⟩) (fun w hx1 σ1 f1 x1 => ⟨hW, fun h => absurd h (by decide), fun _ => ?_⟩) (fun w2 => ⟨hW, fun _ => ?_, fun h => absurd rfl h⟩)
    · rw [if_neg w1] at h0 h1
      have hk4 : d < 7 := by rcases Nat.lt_or_ge d 7 with q1 | q1; exact q1; exact absurd (hx.mpr (by omega)) hx1
      rw [hr] at hr1
      rw [if_pos w, if_neg hr1, if_pos hk4] at h0 h1
      rw [f1.row, hr, hv.2.1.1, ix25]
      exact k10_owesLine (B := 25) (M := 5) (cnt := d) hW T1 (f1.f.trans h13) (f1.row.trans hr) (by decide) (by omega) (by decide) hv.2.1.1 (fun e he σ' a1 a2 => ⟨hW, h0 e he σ' (f1.hf.gf.trans a1) a2⟩) (fun s' r' he σ' a1 a2 a3 a4 => ⟨hW, h1 s' r' he σ' (f1.of.trans a1) a2 a3 a4⟩)
    · rw [if_neg w1] at h0 h1
      rw [hr] at hr1
      rw [if_pos w, if_pos hr1] at h0
      exact k10_owesLine_no hW x1.no ⟨hW, h0 (6, s) rfl σ1 f1.gf x1⟩
    · rw [if_neg w1] at h0 h1
      have hk4 := hx.mp hx1
      rw [if_pos w, if_neg (fun e => hk4 (by have := hz (et.mp e); omega)), if_neg hk4] at h0
      exact k10_owesLine_no hW x1.no ⟨hW, h0 (5, s) rfl σ1 f1.gf x1⟩
    · rw [hr, hv.2.2.1.1, show ((4 : Int32) ≤ nI u) ↔ 4 ≤ u from nI_leI (a := 4) (by omega) (by omega)]
      exact ⟨fun h => s110 w1 w2 0 ⟨fun _ => by omega, fun _ => rfl⟩, fun h => s110 w1 w2 1 ⟨fun e => absurd e (by decide), fun e => by omega⟩⟩
  have s34 : ∀ x : Int32, (x = 0 ↔ ¬ a < 5) → SW G 10 mX10_readLine (aw_qv qv) 0 0 34 [some (.ref 120)] [.int x, .ref (1000 + 25), .ref 120] (n, σ, τ, θ) := by
    intro x hx
    refine sgX10_readLine_34 _ (Nat.le_refl _) hW ?_
    refine k10_begins (i := 1) rfl tw_25 hW hT h13 (fun w hx1 hr1 σ1 f1 T1 => ⟨hW, fun h => absurd h (by decide), fun _ => ?_⟩) (fun w hx1 hr1 σ1 f1 x1 => ⟨hW, fun h => absurd h (by decide), fun _ => ?_⟩) (fun w hx1 σ1 f1 x1 => ⟨hW, fun h => absurd h (by decide), fun _ => ?_⟩) (fun w1 => ⟨hW, fun _ => ?_, fun h => absurd rfl h⟩)
    · have hk4 : a < 5 := by rcases Nat.lt_or_ge a 5 with q1 | q1; exact q1; exact absurd (hx.mpr (by omega)) hx1
      rw [hr] at hr1
      rw [if_pos w, if_neg hr1, if_pos hk4] at h0 h1
      exact k10_manLine hW T1 (f1.f.trans h13) (f1.row.trans hr) hv hk4 (fun e he σ' a1 a2 => ⟨hW, h0 e he σ' (f1.hf.gf.trans a1) a2⟩) (fun s' r' he σ' a1 a2 a3 a4 => ⟨hW, h1 s' r' he σ' (f1.of.trans a1) a2 a3 a4⟩)
    · rw [hr] at hr1
      rw [if_pos w, if_pos hr1] at h0
      exact k10_manLine_no hW x1.no ⟨hW, h0 (6, s) rfl σ1 f1.gf x1⟩
    · have hk4 := hx.mp hx1
      rw [if_pos w, if_neg (fun e => hk4 (by have := hz (et.mp e); omega)), if_neg hk4] at h0
      exact k10_manLine_no hW x1.no ⟨hW, h0 (5, s) rfl σ1 f1.gf x1⟩
    · rw [hr, hv.2.1.1, show ((7 : Int32) ≤ nI d) ↔ 7 ≤ d from nI_leI (a := 7) (by omega) (by omega)]
      exact ⟨fun h => s66 w1 0 ⟨fun _ => by omega, fun _ => rfl⟩, fun h => s66 w1 1 ⟨fun e => absurd e (by decide), fun e => by omega⟩⟩
  rw [hr, hv.1.1, show ((5 : Int32) ≤ nI a) ↔ 5 ≤ a from nI_leI (a := 5) (by omega) (by omega)]
  exact ⟨fun h => s34 0 ⟨fun _ => by omega, fun _ => rfl⟩, fun h => s34 1 ⟨fun e => absurd e (by decide), fun e => by omega⟩⟩
end Dr
