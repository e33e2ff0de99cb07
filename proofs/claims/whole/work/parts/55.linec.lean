/-! ===== the text: the class's lines ===== -/
def nmc (r : Nat → Int32) (n : Nat) : Nat := tp_cd (fun k => (r (95 + 8 * n + k)).toNatClampNeg) (r (86 + n)).toNatClampNeg
def NKC (τ : TU) (r : Nat → Int32) (a o : Nat) : Prop := (∀ m, m < a → τ 4 m = lN (nmc r m)) ∧ ∀ d, d < o → τ 5 d = lN (nmc r (5 + d))
/-- the Facts f hold the row r, told so far -/
def FC (σ : SG) (f : Nat) (r : Nat → Int32) (a d u o k : Nat) : Prop :=
  (σ f 9 = r 0 ∧ σ f 10 = r 1 ∧ σ f 11 = r 2 ∧ σ f 12 = r 3 ∧ σ f 13 = r 4 ∧ σ (f + 8) 4 = r 5 ∧ σ (f + 13) 4 = r 6 ∧ σ f 14 = r 7 ∧ σ f 15 = r 9) ∧
  (∀ m, m < a → σ (f + 1) m = r (10 + 3 * m) ∧ σ (f + 2) m = r (11 + 3 * m) ∧ σ (f + 3) m = r (12 + 3 * m) ∧ σ (f + 4) m = r (73 + m) - 1) ∧
  (∀ e, e < o → σ (f + 5) e = r (69 + e)) ∧
  (∀ j, j < k → σ (f + 6) j = r (78 + 2 * j) ∧ σ (f + 7) j = r (79 + 2 * j)) ∧
  (∀ j, j < d → σ (f + 9) j = r (25 + 4 * j) ∧ σ (f + 10) j = r (26 + 4 * j) ∧ σ (f + 11) j = r (27 + 4 * j) ∧ σ (f + 12) j = r (28 + 4 * j)) ∧
  (∀ j, j < u → σ (f + 14) j = r (53 + 4 * j) ∧ σ (f + 15) j = r (54 + 4 * j) ∧ σ (f + 16) j = r (55 + 4 * j) ∧ σ (f + 17) j = r (56 + 4 * j))
theorem FC.fr {σ : SG} {f : Nat} {r : Nat → Int32} {a d u o k t : Nat} (h : FC σ f r a d u o k) (hv : VQ r a d u o k t) : FR σ f r := by
  obtain ⟨e1, e2, e3, e4, e5, e6⟩ := hv.n
  unfold FR
  rw [e1, e2, e3, e4, e5]
  exact h
def DX (σ : SG) (τ : TU) (f : Nat) (r : Nat → Int32) : Prop := ∃ a d u o k t, VQ r a d u o k t ∧ FC σ f r a d u o k ∧ NKC τ r a o ∧ (σ 2 5 = 0 ↔ r 0 = 0)
def EQ2 (F σ : SG) : Prop := ∀ o k, o ≠ 2 → σ o k = F o k
theorem EQ2.tf {F σ σ' : SG} (h : EQ2 F σ) (hf : TF σ σ') : EQ2 F σ' := fun o k ho => (hf o k (fun e => ho e.1)).trans (h o k ho)
theorem EQ2.up {F σ : SG} (h : EQ2 F σ) (o k : Nat) (v : Int32) : EQ2 (aw_u F o k v) (aw_u σ o k v) := fun o' k' ho => by
  unfold aw_u
  split
  · rfl
  · exact h o' k' ho
theorem EQ2.up2 {F σ : SG} (h : EQ2 F σ) (k : Nat) (v : Int32) : EQ2 F (aw_u σ 2 k v) := fun o' k' ho => (aw_u_ne ho).trans (h o' k' ho)
def LF (f : Nat) (σ σ' : SG) : Prop := (∀ o, o ≠ 2 → ¬ (f ≤ o ∧ o ≤ f + 17) → σ' o = σ o) ∧ σ' 2 0 = σ 2 0
theorem LF.of {f : Nat} {σ F σ' : SG} (h : EQ2 F σ') (hF : ∀ o, ¬ (f ≤ o ∧ o ≤ f + 17) → F o = σ o) (h0 : σ' 2 0 = σ 2 0) : LF f σ σ' := ⟨fun o h1 h2 => (funext fun k => h o k h1).trans (hF o h2), h0⟩
theorem LF.tf {f : Nat} {σ σ' : SG} (h : TF σ σ') : LF f σ σ' := ⟨fun o h1 _ => h.o h1, h 2 0 (by omega)⟩
theorem FC.eq2 {F σ : SG} {f : Nat} {r : Nat → Int32} {a d u o k : Nat} (h : FC F f r a d u o k) (hf : isF f) (he : EQ2 F σ) : FC σ f r a d u o k := by
  have hr := hf.r
  obtain ⟨⟨h1, h2, h3, h4, h5, h6, h7, h8, h9⟩, g1, g2, g3, g4, g5⟩ := h
  refine ⟨⟨?_, ?_, ?_, ?_, ?_, ?_, ?_, ?_, ?_⟩, fun m hm => ?_, fun e hm => ?_, fun j hm => ?_, fun j hm => ?_, fun j hm => ?_⟩
  · rw [he _ _ (by omega)]; exact h1
  · rw [he _ _ (by omega)]; exact h2
  · rw [he _ _ (by omega)]; exact h3
  · rw [he _ _ (by omega)]; exact h4
  · rw [he _ _ (by omega)]; exact h5
  · rw [he _ _ (by omega)]; exact h6
  · rw [he _ _ (by omega)]; exact h7
  · rw [he _ _ (by omega)]; exact h8
  · rw [he _ _ (by omega)]; exact h9
  · rw [he _ _ (by omega), he _ _ (by omega), he _ _ (by omega), he _ _ (by omega)]; exact g1 m hm
  · rw [he _ _ (by omega)]; exact g2 e hm
  · rw [he _ _ (by omega), he _ _ (by omega)]; exact g3 j hm
  · rw [he _ _ (by omega), he _ _ (by omega), he _ _ (by omega), he _ _ (by omega)]; exact g4 j hm
  · rw [he _ _ (by omega), he _ _ (by omega), he _ _ (by omega), he _ _ (by omega)]; exact g5 j hm
/-- two updates at one place: the later one -/
theorem aw_ui {α : Type} {f : Nat → Nat → α} {o k o' k' : Nat} {v : α} (h : ¬ (o' = o ∧ k' = k)) : aw_u f o k v o' k' = f o' k' := if_neg h
section Fu
variable {σ : SG} {f : Nat} {r : Nat → Int32} {a d u o k t : Nat} {b : Nat → Nat} {N s : Nat}
theorem FC.duchy {x1 x2 x3 x4 : Int32} (h : FC σ f r a d u o k) (hv : VQ r a d u o k t) : FC (aw_u (aw_u (aw_u (aw_u σ f 9 x1) f 10 x2) f 11 x3) f 12 x4) f (pu (pu (pu (pu r 1 x2) 2 x3) 3 x4) 0 x1) a d u o k := by
  have hc : ∀ j, 4 ≤ j → (pu (pu (pu (pu r 1 x2) 2 x3) 3 x4) 0 x1) j = r j := fun j hj => by
    rw [pu_ne (by omega), pu_ne (by omega), pu_ne (by omega), pu_ne (by omega)]
  have hs : ∀ o' k', (o' ≠ f ∨ (k' < 9 ∨ 12 < k')) → (aw_u (aw_u (aw_u (aw_u σ f 9 x1) f 10 x2) f 11 x3) f 12 x4) o' k' = σ o' k' := fun o' k' hn => by
    rw [aw_ui (by omega), aw_ui (by omega), aw_ui (by omega), aw_ui (by omega)]
  obtain ⟨⟨h1, h2, h3, h4, h5, h6, h7, h8, h9⟩, g1, g2, g3, g4, g5⟩ := h
  refine ⟨⟨?_, ?_, ?_, ?_, ?_, ?_, ?_, ?_, ?_⟩, fun m hm => ?_, fun e hm => ?_, fun j hm => ?_, fun j hm => ?_, fun j hm => ?_⟩
  · rw [aw_ui (by omega), aw_ui (by omega), aw_ui (by omega), aw_u_eq, pu_eq]
  · rw [aw_ui (by omega), aw_ui (by omega), aw_u_eq, pu_ne (by omega), pu_ne (by omega), pu_ne (by omega), pu_eq]
  · rw [aw_ui (by omega), aw_u_eq, pu_ne (by omega), pu_ne (by omega), pu_eq]
  · rw [aw_u_eq, pu_ne (by omega), pu_eq]
  · rw [hs _ _ (by omega), hc _ (by omega)]; exact h5
  · rw [hs _ _ (by omega), hc _ (by omega)]; exact h6
  · rw [hs _ _ (by omega), hc _ (by omega)]; exact h7
  · rw [hs _ _ (by omega), hc _ (by omega)]; exact h8
  · rw [hs _ _ (by omega), hc _ (by omega)]; exact h9
  · rw [hs _ _ (by omega), hs _ _ (by omega), hs _ _ (by omega), hs _ _ (by omega), hc _ (by omega), hc _ (by omega), hc _ (by omega), hc _ (by omega)]; exact g1 m hm
  · rw [hs _ _ (by omega), hc _ (by omega)]; exact g2 e hm
  · rw [hs _ _ (by omega), hs _ _ (by omega), hc _ (by omega), hc _ (by omega)]; exact g3 j hm
  · rw [hs _ _ (by omega), hs _ _ (by omega), hs _ _ (by omega), hs _ _ (by omega), hc _ (by omega), hc _ (by omega), hc _ (by omega), hc _ (by omega)]; exact g4 j hm
  · rw [hs _ _ (by omega), hs _ _ (by omega), hs _ _ (by omega), hs _ _ (by omega), hc _ (by omega), hc _ (by omega), hc _ (by omega), hc _ (by omega)]; exact g5 j hm
theorem FC.man {tt kd c g : Nat} (h : FC σ f r a d u o k) (hv : VQ r a d u o k t) (h8 : tp_en b N tt - tt ≤ 8) (ha : a < 5) : FC (aw_u (aw_u (aw_u (aw_u (aw_u σ (f + 2) a (nI c)) (f + 3) a (nI g)) (f + 1) a (nI kd)) (f + 4) a (-1)) f 13 (nI (a + 1))) f (tp_rman b N tt r a kd c g) (a + 1) d u o k := by
  have ho : ∀ j, j ≠ 4 → (j < 10 + 3 * a ∨ 12 + 3 * a < j) → j < 86 → tp_rman b N tt r a kd c g j = r j := fun j h1 h2 h3 => by
    unfold tp_rman
    rw [pu_ne (by omega), pu_ne (by omega), pu_ne (by omega), pu_ne (by omega), tp_put_o h8 (by omega) (by omega)]
  have hs : ∀ o' k', (o' ≠ f ∨ k' ≠ 13) → (o' < f + 1 ∨ f + 4 < o' ∨ k' ≠ a) → (aw_u (aw_u (aw_u (aw_u (aw_u σ (f + 2) a (nI c)) (f + 3) a (nI g)) (f + 1) a (nI kd)) (f + 4) a (-1)) f 13 (nI (a + 1))) o' k' = σ o' k' := fun o' k' hn h2 => by
    rw [aw_ui (by omega), aw_ui (by omega), aw_ui (by omega), aw_ui (by omega), aw_ui (by omega)]
  obtain ⟨w1, w2, w3, w4, w5, -⟩ := id hv
  have w15 := hv.2.2.2.2.2.2.2.2.2.2.2.2.2.2.1
  obtain ⟨⟨h1, h2, h3, h4, h5, h6, h7, h8', h9⟩, g1, g2, g3, g4, g5⟩ := h
  refine ⟨⟨?_, ?_, ?_, ?_, ?_, ?_, ?_, ?_, ?_⟩, fun m hm => ?_, fun e hm => ?_, fun j hm => ?_, fun j hm => ?_, fun j hm => ?_⟩
  · rw [hs _ _ (by omega) (by omega), ho _ (by omega) (by omega) (by omega)]; exact h1
  · rw [hs _ _ (by omega) (by omega), ho _ (by omega) (by omega) (by omega)]; exact h2
  · rw [hs _ _ (by omega) (by omega), ho _ (by omega) (by omega) (by omega)]; exact h3
  · rw [hs _ _ (by omega) (by omega), ho _ (by omega) (by omega) (by omega)]; exact h4
  · rw [aw_u_eq]; unfold tp_rman; rw [pu_eq]
  · rw [hs _ _ (by omega) (by omega), ho _ (by omega) (by omega) (by omega)]; exact h6
  · rw [hs _ _ (by omega) (by omega), ho _ (by omega) (by omega) (by omega)]; exact h7
  · rw [hs _ _ (by omega) (by omega), ho _ (by omega) (by omega) (by omega)]; exact h8'
  · rw [hs _ _ (by omega) (by omega), ho _ (by omega) (by omega) (by omega)]; exact h9
  · by_cases e : m = a
    · subst e
      refine ⟨?_, ?_, ?_, ?_⟩
      · rw [aw_ui (by omega), aw_ui (by omega), aw_u_eq]; unfold tp_rman; rw [pu_ne (by omega), pu_ne (by omega), pu_ne (by omega), pu_eq]
      · rw [aw_ui (by omega), aw_ui (by omega), aw_ui (by omega), aw_ui (by omega), aw_u_eq]; unfold tp_rman; rw [pu_ne (by omega), pu_ne (by omega), pu_eq]
      · rw [aw_ui (by omega), aw_ui (by omega), aw_ui (by omega), aw_u_eq]; unfold tp_rman; rw [pu_ne (by omega), pu_eq]
      · rw [aw_ui (by omega), aw_u_eq, ho _ (by omega) (by omega) (by omega), w15 m (Nat.le_refl _) ha]; rfl
    · rw [hs _ _ (by omega) (by omega), hs _ _ (by omega) (by omega), hs _ _ (by omega) (by omega), hs _ _ (by omega) (by omega), ho _ (by omega) (by omega) (by omega), ho _ (by omega) (by omega) (by omega), ho _ (by omega) (by omega) (by omega), ho _ (by omega) (by omega) (by omega)]
      exact g1 m (by omega)
  · rw [hs _ _ (by omega) (by omega), ho _ (by omega) (by omega) (by omega)]; exact g2 e hm
  · rw [hs _ _ (by omega) (by omega), hs _ _ (by omega) (by omega), ho _ (by omega) (by omega) (by omega), ho _ (by omega) (by omega) (by omega)]; exact g3 j hm
  · rw [hs _ _ (by omega) (by omega), hs _ _ (by omega) (by omega), hs _ _ (by omega) (by omega), hs _ _ (by omega) (by omega), ho _ (by omega) (by omega) (by omega), ho _ (by omega) (by omega) (by omega), ho _ (by omega) (by omega) (by omega), ho _ (by omega) (by omega) (by omega)]; exact g4 j hm
  · rw [hs _ _ (by omega) (by omega), hs _ _ (by omega) (by omega), hs _ _ (by omega) (by omega), hs _ _ (by omega) (by omega), ho _ (by omega) (by omega) (by omega), ho _ (by omega) (by omega) (by omega), ho _ (by omega) (by omega) (by omega), ho _ (by omega) (by omega) (by omega)]; exact g5 j hm
theorem FC.debt {x y c g : Nat} (h : FC σ f r a d u o k) (hv : VQ r a d u o k t) (hd : d < 7) : FC (aw_u (aw_u (aw_u (aw_u (aw_u σ (f + 8 + 1) d (nI x)) (f + 8 + 2) d (nI y)) (f + 8 + 3) d (nI c)) (f + 8 + 4) d (nI g)) (f + 8) 4 (nI (d + 1))) f (tp_rcl r 25 5 d x y c g) a (d + 1) u o k := by
  have ho : ∀ j, j ≠ 5 → (j < 25 + 4 * d ∨ 25 + 4 * d + 3 < j) → tp_rcl r 25 5 d x y c g j = r j := fun j h1 h2 => by
    unfold tp_rcl
    rw [pu_ne (by omega), pu_ne (by omega), pu_ne (by omega), pu_ne (by omega), pu_ne (by omega)]
  have hs : ∀ o' k', (o' ≠ f + 8 ∨ k' ≠ 4) → (o' < f + 9 ∨ f + 12 < o' ∨ k' ≠ d) → (aw_u (aw_u (aw_u (aw_u (aw_u σ (f + 8 + 1) d (nI x)) (f + 8 + 2) d (nI y)) (f + 8 + 3) d (nI c)) (f + 8 + 4) d (nI g)) (f + 8) 4 (nI (d + 1))) o' k' = σ o' k' := fun o' k' hn h2 => by
    rw [aw_ui (by omega), aw_ui (by omega), aw_ui (by omega), aw_ui (by omega), aw_ui (by omega)]
  obtain ⟨⟨w1, w1'⟩, ⟨w2, w2'⟩, ⟨w3, w3'⟩, ⟨w4, w4'⟩, ⟨w5, w5'⟩, -⟩ := id hv
  obtain ⟨⟨h1, h2, h3, h4, h5, h6, h7, h8', h9⟩, g1, g2, g3, g4, g5⟩ := h
  refine ⟨⟨?_, ?_, ?_, ?_, ?_, ?_, ?_, ?_, ?_⟩, fun m hm => ?_, fun e hm => ?_, fun j hm => ?_, fun j hm => ?_, fun j hm => ?_⟩
  · rw [hs _ _ (by omega) (by omega), ho _ (by omega) (by omega)]; exact h1
  · rw [hs _ _ (by omega) (by omega), ho _ (by omega) (by omega)]; exact h2
  · rw [hs _ _ (by omega) (by omega), ho _ (by omega) (by omega)]; exact h3
  · rw [hs _ _ (by omega) (by omega), ho _ (by omega) (by omega)]; exact h4
  · rw [hs _ _ (by omega) (by omega), ho _ (by omega) (by omega)]; exact h5
  · rw [aw_u_eq]; unfold tp_rcl; rw [pu_eq]
  · rw [hs _ _ (by omega) (by omega), ho _ (by omega) (by omega)]; exact h7
  · rw [hs _ _ (by omega) (by omega), ho _ (by omega) (by omega)]; exact h8'
  · rw [hs _ _ (by omega) (by omega), ho _ (by omega) (by omega)]; exact h9
  · rw [hs _ _ (by omega) (by omega), hs _ _ (by omega) (by omega), hs _ _ (by omega) (by omega), hs _ _ (by omega) (by omega), ho _ (by omega) (by omega), ho _ (by omega) (by omega), ho _ (by omega) (by omega), ho _ (by omega) (by omega)]; exact g1 m hm
  · rw [hs _ _ (by omega) (by omega), ho _ (by omega) (by omega)]; exact g2 e hm
  · rw [hs _ _ (by omega) (by omega), hs _ _ (by omega) (by omega), ho _ (by omega) (by omega), ho _ (by omega) (by omega)]; exact g3 j hm
  · by_cases e : j = d
    · subst e
      refine ⟨?_, ?_, ?_, ?_⟩
      · rw [aw_ui (by omega), aw_ui (by omega), aw_ui (by omega), aw_ui (by omega), show f + 9 = f + 8 + 1 by omega, aw_u_eq]; unfold tp_rcl; rw [pu_ne (by omega), pu_ne (by omega), pu_ne (by omega), pu_ne (by omega), pu_eq]
      · rw [aw_ui (by omega), aw_ui (by omega), aw_ui (by omega), show f + 10 = f + 8 + 2 by omega, aw_u_eq]; unfold tp_rcl; rw [pu_ne (by omega), pu_ne (by omega), pu_ne (by omega), show 26 + 4 * j = 25 + 1 + 4 * j by omega, pu_eq]
      · rw [aw_ui (by omega), aw_ui (by omega), show f + 11 = f + 8 + 3 by omega, aw_u_eq]; unfold tp_rcl; rw [pu_ne (by omega), pu_ne (by omega), show 27 + 4 * j = 25 + 2 + 4 * j by omega, pu_eq]
      · rw [aw_ui (by omega), show f + 12 = f + 8 + 4 by omega, aw_u_eq]; unfold tp_rcl; rw [pu_ne (by omega), show 28 + 4 * j = 25 + 3 + 4 * j by omega, pu_eq]
    · rw [hs _ _ (by omega) (by omega), hs _ _ (by omega) (by omega), hs _ _ (by omega) (by omega), hs _ _ (by omega) (by omega), ho _ (by omega) (by omega), ho _ (by omega) (by omega), ho _ (by omega) (by omega), ho _ (by omega) (by omega)]; exact g4 j (by omega)
  · rw [hs _ _ (by omega) (by omega), hs _ _ (by omega) (by omega), hs _ _ (by omega) (by omega), hs _ _ (by omega) (by omega), ho _ (by omega) (by omega), ho _ (by omega) (by omega), ho _ (by omega) (by omega), ho _ (by omega) (by omega)]; exact g5 j hm
theorem FC.rum {x y c g : Nat} (h : FC σ f r a d u o k) (hv : VQ r a d u o k t) (hd : u < 4) : FC (aw_u (aw_u (aw_u (aw_u (aw_u σ (f + 13 + 1) u (nI x)) (f + 13 + 2) u (nI y)) (f + 13 + 3) u (nI c)) (f + 13 + 4) u (nI g)) (f + 13) 4 (nI (u + 1))) f (tp_rcl r 53 6 u x y c g) a d (u + 1) o k := by
  have ho : ∀ j, j ≠ 6 → (j < 53 + 4 * u ∨ 53 + 4 * u + 3 < j) → tp_rcl r 53 6 u x y c g j = r j := fun j h1 h2 => by
    unfold tp_rcl
    rw [pu_ne (by omega), pu_ne (by omega), pu_ne (by omega), pu_ne (by omega), pu_ne (by omega)]
  have hs : ∀ o' k', (o' ≠ f + 13 ∨ k' ≠ 4) → (o' < f + 14 ∨ f + 17 < o' ∨ k' ≠ u) → (aw_u (aw_u (aw_u (aw_u (aw_u σ (f + 13 + 1) u (nI x)) (f + 13 + 2) u (nI y)) (f + 13 + 3) u (nI c)) (f + 13 + 4) u (nI g)) (f + 13) 4 (nI (u + 1))) o' k' = σ o' k' := fun o' k' hn h2 => by
    rw [aw_ui (by omega), aw_ui (by omega), aw_ui (by omega), aw_ui (by omega), aw_ui (by omega)]
  obtain ⟨⟨w1, w1'⟩, ⟨w2, w2'⟩, ⟨w3, w3'⟩, ⟨w4, w4'⟩, ⟨w5, w5'⟩, -⟩ := id hv
  obtain ⟨⟨h1, h2, h3, h4, h5, h6, h7, h8', h9⟩, g1, g2, g3, g4, g5⟩ := h
  refine ⟨⟨?_, ?_, ?_, ?_, ?_, ?_, ?_, ?_, ?_⟩, fun m hm => ?_, fun e hm => ?_, fun j hm => ?_, fun j hm => ?_, fun j hm => ?_⟩
  · rw [hs _ _ (by omega) (by omega), ho _ (by omega) (by omega)]; exact h1
  · rw [hs _ _ (by omega) (by omega), ho _ (by omega) (by omega)]; exact h2
  · rw [hs _ _ (by omega) (by omega), ho _ (by omega) (by omega)]; exact h3
  · rw [hs _ _ (by omega) (by omega), ho _ (by omega) (by omega)]; exact h4
  · rw [hs _ _ (by omega) (by omega), ho _ (by omega) (by omega)]; exact h5
  · rw [hs _ _ (by omega) (by omega), ho _ (by omega) (by omega)]; exact h6
  · rw [aw_u_eq]; unfold tp_rcl; rw [pu_eq]
  · rw [hs _ _ (by omega) (by omega), ho _ (by omega) (by omega)]; exact h8'
  · rw [hs _ _ (by omega) (by omega), ho _ (by omega) (by omega)]; exact h9
  · rw [hs _ _ (by omega) (by omega), hs _ _ (by omega) (by omega), hs _ _ (by omega) (by omega), hs _ _ (by omega) (by omega), ho _ (by omega) (by omega), ho _ (by omega) (by omega), ho _ (by omega) (by omega), ho _ (by omega) (by omega)]; exact g1 m hm
  · rw [hs _ _ (by omega) (by omega), ho _ (by omega) (by omega)]; exact g2 e hm
  · rw [hs _ _ (by omega) (by omega), hs _ _ (by omega) (by omega), ho _ (by omega) (by omega), ho _ (by omega) (by omega)]; exact g3 j hm
  · rw [hs _ _ (by omega) (by omega), hs _ _ (by omega) (by omega), hs _ _ (by omega) (by omega), hs _ _ (by omega) (by omega), ho _ (by omega) (by omega), ho _ (by omega) (by omega), ho _ (by omega) (by omega), ho _ (by omega) (by omega)]; exact g4 j hm
  · by_cases e : j = u
    · subst e
      refine ⟨?_, ?_, ?_, ?_⟩
      · rw [aw_ui (by omega), aw_ui (by omega), aw_ui (by omega), aw_ui (by omega), show f + 14 = f + 13 + 1 by omega, aw_u_eq]; unfold tp_rcl; rw [pu_ne (by omega), pu_ne (by omega), pu_ne (by omega), pu_ne (by omega), pu_eq]
      · rw [aw_ui (by omega), aw_ui (by omega), aw_ui (by omega), show f + 15 = f + 13 + 2 by omega, aw_u_eq]; unfold tp_rcl; rw [pu_ne (by omega), pu_ne (by omega), pu_ne (by omega), show 54 + 4 * j = 53 + 1 + 4 * j by omega, pu_eq]
      · rw [aw_ui (by omega), aw_ui (by omega), show f + 16 = f + 13 + 3 by omega, aw_u_eq]; unfold tp_rcl; rw [pu_ne (by omega), pu_ne (by omega), show 55 + 4 * j = 53 + 2 + 4 * j by omega, pu_eq]
      · rw [aw_ui (by omega), show f + 17 = f + 13 + 4 by omega, aw_u_eq]; unfold tp_rcl; rw [pu_ne (by omega), show 56 + 4 * j = 53 + 3 + 4 * j by omega, pu_eq]
    · rw [hs _ _ (by omega) (by omega), hs _ _ (by omega) (by omega), hs _ _ (by omega) (by omega), hs _ _ (by omega) (by omega), ho _ (by omega) (by omega), ho _ (by omega) (by omega), ho _ (by omega) (by omega), ho _ (by omega) (by omega)]; exact g5 j (by omega)
theorem FC.door {tt w : Nat} (h : FC σ f r a d u o k) (hv : VQ r a d u o k t) (h8 : tp_en b N tt - tt ≤ 8) (ha : o < 4) : FC (aw_u (aw_u σ (f + 5) o (nI w)) f 14 (nI (o + 1))) f (tp_rdoor b N tt r o w) a d u (o + 1) k := by
  have ho : ∀ j, j ≠ 7 → j ≠ 69 + o → j < 86 → tp_rdoor b N tt r o w j = r j := fun j h1 h2 h3 => by
    unfold tp_rdoor
    rw [pu_ne (by omega), pu_ne (by omega), tp_put_o h8 (by omega) (by omega)]
  have hs : ∀ o' k', (o' ≠ f ∨ k' ≠ 14) → (o' ≠ f + 5 ∨ k' ≠ o) → (aw_u (aw_u σ (f + 5) o (nI w)) f 14 (nI (o + 1))) o' k' = σ o' k' := fun o' k' hn h2 => by
    rw [aw_ui (by omega), aw_ui (by omega)]
  obtain ⟨⟨w1, w1'⟩, ⟨w2, w2'⟩, ⟨w3, w3'⟩, ⟨w4, w4'⟩, ⟨w5, w5'⟩, -⟩ := id hv
  obtain ⟨⟨h1, h2, h3, h4, h5, h6, h7, h8', h9⟩, g1, g2, g3, g4, g5⟩ := h
  refine ⟨⟨?_, ?_, ?_, ?_, ?_, ?_, ?_, ?_, ?_⟩, fun m hm => ?_, fun e hm => ?_, fun j hm => ?_, fun j hm => ?_, fun j hm => ?_⟩
  · rw [hs _ _ (by omega) (by omega), ho _ (by omega) (by omega) (by omega)]; exact h1
  · rw [hs _ _ (by omega) (by omega), ho _ (by omega) (by omega) (by omega)]; exact h2
  · rw [hs _ _ (by omega) (by omega), ho _ (by omega) (by omega) (by omega)]; exact h3
  · rw [hs _ _ (by omega) (by omega), ho _ (by omega) (by omega) (by omega)]; exact h4
  · rw [hs _ _ (by omega) (by omega), ho _ (by omega) (by omega) (by omega)]; exact h5
  · rw [hs _ _ (by omega) (by omega), ho _ (by omega) (by omega) (by omega)]; exact h6
  · rw [hs _ _ (by omega) (by omega), ho _ (by omega) (by omega) (by omega)]; exact h7
  · rw [aw_u_eq]; unfold tp_rdoor; rw [pu_eq]
  · rw [hs _ _ (by omega) (by omega), ho _ (by omega) (by omega) (by omega)]; exact h9
  · rw [hs _ _ (by omega) (by omega), hs _ _ (by omega) (by omega), hs _ _ (by omega) (by omega), hs _ _ (by omega) (by omega), ho _ (by omega) (by omega) (by omega), ho _ (by omega) (by omega) (by omega), ho _ (by omega) (by omega) (by omega), ho _ (by omega) (by omega) (by omega)]; exact g1 m hm
  · by_cases e2 : e = o
    · subst e2
      rw [aw_ui (by omega), aw_u_eq]; unfold tp_rdoor; rw [pu_ne (by omega), pu_eq]
    · rw [hs _ _ (by omega) (by omega), ho _ (by omega) (by omega) (by omega)]; exact g2 e (by omega)
  · rw [hs _ _ (by omega) (by omega), hs _ _ (by omega) (by omega), ho _ (by omega) (by omega) (by omega), ho _ (by omega) (by omega) (by omega)]; exact g3 j hm
  · rw [hs _ _ (by omega) (by omega), hs _ _ (by omega) (by omega), hs _ _ (by omega) (by omega), hs _ _ (by omega) (by omega), ho _ (by omega) (by omega) (by omega), ho _ (by omega) (by omega) (by omega), ho _ (by omega) (by omega) (by omega), ho _ (by omega) (by omega) (by omega)]; exact g4 j hm
  · rw [hs _ _ (by omega) (by omega), hs _ _ (by omega) (by omega), hs _ _ (by omega) (by omega), hs _ _ (by omega) (by omega), ho _ (by omega) (by omega) (by omega), ho _ (by omega) (by omega) (by omega), ho _ (by omega) (by omega) (by omega), ho _ (by omega) (by omega) (by omega)]; exact g5 j hm
theorem FC.inv {m e : Nat} (h : FC σ f r a d u o k) (hv : VQ r a d u o k t) (hm : m < a) : FC (aw_u σ (f + 4) m (nI e)) f (tp_rinv r m e) a d u o k := by
  have ho : ∀ j, j ≠ 8 → j ≠ 73 + m → tp_rinv r m e j = r j := fun j h1 h2 => by
    unfold tp_rinv
    rw [pu_ne h1, pu_ne h2]
  have hs : ∀ o' k', (o' ≠ f + 4 ∨ k' ≠ m) → (aw_u σ (f + 4) m (nI e)) o' k' = σ o' k' := fun o' k' hn => aw_ui (by omega)
  obtain ⟨⟨w1, w1'⟩, ⟨w2, w2'⟩, ⟨w3, w3'⟩, ⟨w4, w4'⟩, ⟨w5, w5'⟩, -⟩ := id hv
  obtain ⟨⟨h1, h2, h3, h4, h5, h6, h7, h8', h9⟩, g1, g2, g3, g4, g5⟩ := h
  refine ⟨⟨?_, ?_, ?_, ?_, ?_, ?_, ?_, ?_, ?_⟩, fun m' hm' => ?_, fun e' hm' => ?_, fun j hm' => ?_, fun j hm' => ?_, fun j hm' => ?_⟩
  · rw [hs _ _ (by omega), ho _ (by omega) (by omega)]; exact h1
  · rw [hs _ _ (by omega), ho _ (by omega) (by omega)]; exact h2
  · rw [hs _ _ (by omega), ho _ (by omega) (by omega)]; exact h3
  · rw [hs _ _ (by omega), ho _ (by omega) (by omega)]; exact h4
  · rw [hs _ _ (by omega), ho _ (by omega) (by omega)]; exact h5
  · rw [hs _ _ (by omega), ho _ (by omega) (by omega)]; exact h6
  · rw [hs _ _ (by omega), ho _ (by omega) (by omega)]; exact h7
  · rw [hs _ _ (by omega), ho _ (by omega) (by omega)]; exact h8'
  · rw [hs _ _ (by omega), ho _ (by omega) (by omega)]; exact h9
  · obtain ⟨q1, q2, q3, q4⟩ := g1 m' hm'
    rw [hs _ _ (by omega), hs _ _ (by omega), hs _ _ (by omega), ho (10 + 3 * m') (by omega) (by omega), ho (11 + 3 * m') (by omega) (by omega), ho (12 + 3 * m') (by omega) (by omega)]
    refine ⟨q1, q2, q3, ?_⟩
    by_cases e2 : m' = m
    · subst e2
      rw [aw_u_eq]; unfold tp_rinv; rw [pu_ne (by omega), pu_eq, nI_pred]
    · rw [hs _ _ (by omega), ho (73 + m') (by omega) (by omega)]; exact q4
  · rw [hs _ _ (by omega), ho _ (by omega) (by omega)]; exact g2 e' hm'
  · rw [hs _ _ (by omega), hs _ _ (by omega), ho _ (by omega) (by omega), ho _ (by omega) (by omega)]; exact g3 j hm'
  · rw [hs _ _ (by omega), hs _ _ (by omega), hs _ _ (by omega), hs _ _ (by omega), ho _ (by omega) (by omega), ho _ (by omega) (by omega), ho _ (by omega) (by omega), ho _ (by omega) (by omega)]; exact g4 j hm'
  · rw [hs _ _ (by omega), hs _ _ (by omega), hs _ _ (by omega), hs _ _ (by omega), ho _ (by omega) (by omega), ho _ (by omega) (by omega), ho _ (by omega) (by omega), ho _ (by omega) (by omega)]; exact g5 j hm'
theorem FC.read {m v : Nat} (h : FC σ f r a d u o k) (hv : VQ r a d u o k t) (hk : k < 4) : FC (aw_u (aw_u (aw_u σ (f + 6) k (nI m)) (f + 7) k (nI v)) f 15 (nI (k + 1))) f (tp_rread r k m v) a d u o (k + 1) := by
  have ho : ∀ j, j ≠ 9 → (j < 78 + 2 * k ∨ 79 + 2 * k < j) → tp_rread r k m v j = r j := fun j h1 h2 => by
    unfold tp_rread
    rw [pu_ne h1, pu_ne (by omega), pu_ne (by omega)]
  have hs : ∀ o' k', (o' ≠ f ∨ k' ≠ 15) → (o' < f + 6 ∨ f + 7 < o' ∨ k' ≠ k) → (aw_u (aw_u (aw_u σ (f + 6) k (nI m)) (f + 7) k (nI v)) f 15 (nI (k + 1))) o' k' = σ o' k' := fun o' k' hn h2 => by
    rw [aw_ui (by omega), aw_ui (by omega), aw_ui (by omega)]
  obtain ⟨⟨w1, w1'⟩, ⟨w2, w2'⟩, ⟨w3, w3'⟩, ⟨w4, w4'⟩, ⟨w5, w5'⟩, -⟩ := id hv
  obtain ⟨⟨h1, h2, h3, h4, h5, h6, h7, h8', h9⟩, g1, g2, g3, g4, g5⟩ := h
  refine ⟨⟨?_, ?_, ?_, ?_, ?_, ?_, ?_, ?_, ?_⟩, fun m hm => ?_, fun e hm => ?_, fun j hm => ?_, fun j hm => ?_, fun j hm => ?_⟩
  · rw [hs _ _ (by omega) (by omega), ho _ (by omega) (by omega)]; exact h1
  · rw [hs _ _ (by omega) (by omega), ho _ (by omega) (by omega)]; exact h2
  · rw [hs _ _ (by omega) (by omega), ho _ (by omega) (by omega)]; exact h3
  · rw [hs _ _ (by omega) (by omega), ho _ (by omega) (by omega)]; exact h4
  · rw [hs _ _ (by omega) (by omega), ho _ (by omega) (by omega)]; exact h5
  · rw [hs _ _ (by omega) (by omega), ho _ (by omega) (by omega)]; exact h6
  · rw [hs _ _ (by omega) (by omega), ho _ (by omega) (by omega)]; exact h7
  · rw [hs _ _ (by omega) (by omega), ho _ (by omega) (by omega)]; exact h8'
  · rw [aw_u_eq]; unfold tp_rread; rw [pu_eq]
  · rw [hs _ _ (by omega) (by omega), hs _ _ (by omega) (by omega), hs _ _ (by omega) (by omega), hs _ _ (by omega) (by omega), ho _ (by omega) (by omega), ho _ (by omega) (by omega), ho _ (by omega) (by omega), ho _ (by omega) (by omega)]; exact g1 m hm
  · rw [hs _ _ (by omega) (by omega), ho _ (by omega) (by omega)]; exact g2 e hm
  · by_cases e : j = k
    · subst e
      refine ⟨?_, ?_⟩
      · rw [aw_ui (by omega), aw_ui (by omega), aw_u_eq]; unfold tp_rread; rw [pu_ne (by omega), pu_ne (by omega), pu_eq]
      · rw [aw_ui (by omega), aw_u_eq]; unfold tp_rread; rw [pu_ne (by omega), pu_eq]
    · rw [hs _ _ (by omega) (by omega), hs _ _ (by omega) (by omega), ho _ (by omega) (by omega), ho _ (by omega) (by omega)]; exact g3 j (by omega)
  · rw [hs _ _ (by omega) (by omega), hs _ _ (by omega) (by omega), hs _ _ (by omega) (by omega), hs _ _ (by omega) (by omega), ho _ (by omega) (by omega), ho _ (by omega) (by omega), ho _ (by omega) (by omega), ho _ (by omega) (by omega)]; exact g4 j hm
  · rw [hs _ _ (by omega) (by omega), hs _ _ (by omega) (by omega), hs _ _ (by omega) (by omega), hs _ _ (by omega) (by omega), ho _ (by omega) (by omega), ho _ (by omega) (by omega), ho _ (by omega) (by omega), ho _ (by omega) (by omega)]; exact g5 j hm
end Fu
/-! names -/
theorem nmc_of {r : Nat → Int32} {n L : Nat} {c : Nat → Nat} (h1 : r (86 + n) = nI L) (hL : L ≤ 8) (h2 : ∀ k, k < L → (97 ≤ c k ∧ c k ≤ 122) ∧ r (95 + 8 * n + k) = nI (c k)) : nmc r n = tp_cd c L := by
  unfold nmc
  rw [h1, ps_cl (by omega)]
  refine tp_cd_c L (fun k hk => ?_)
  show (r (95 + 8 * n + k)).toNatClampNeg = c k
  rw [(h2 k hk).2, ps_cl (by have := (h2 k hk).1; omega)]
theorem nmc_eq {b : Nat → Nat} {N s n : Nat} {r : Nat → Int32} (hn : tp_nok r n) (hk : tp_kd b N s = 1) : lN (nmc r n) = lN (tp_cd (fun k => b (s + k)) (tp_en b N s - s)) ↔ tp_nm b N s r n = true := by
  obtain ⟨L, c, h1, h2, h3, h4⟩ := hn
  obtain ⟨-, -, -, m1, m2, -, -, m3⟩ := tp_kd1 hk
  have l1 := tp_cd_63 (c := c) (fun k hk => (h4 k hk).1) h2
  have l2 := tp_cd_63 (c := fun k => b (s + k)) m3 m2
  rw [nmc_of h3 h2 h4, pk_lEQ (by omega) (by omega), tp_nm_iff, h3, nI_eq (by omega) (by omega)]
  constructor
  · intro e
    obtain ⟨e1, e2⟩ := tp_cd_inj L (tp_en b N s - s) (fun k hk => (h4 k hk).1) m3 e
    refine ⟨e1, fun k hk => ?_⟩
    rw [(h4 k (by omega)).2, e2 k (by omega)]
  · rintro ⟨e1, e2⟩
    subst e1
    refine tp_cd_c _ (fun k hk => ?_)
    have h5 := (h4 k (by omega)).1
    have h6 := m3 k (by omega)
    exact (nI_eq (by omega) (by omega)).mp ((h4 k (by omega)).2.symm.trans (e2 k (by omega)))
theorem nmc_put {b : Nat → Nat} {N t nn : Nat} {r r' : Nat → Int32} (hk : tp_kd b N t = 1) (hn : nn < 9) (hp : ∀ j, 86 ≤ j → r' j = tp_put b N t r nn j) : nmc r' nn = tp_cd (fun k => b (t + k)) (tp_en b N t - t) := by
  obtain ⟨-, -, -, m1, m2, -, -, m3⟩ := tp_kd1 hk
  refine nmc_of (by rw [hp _ (by omega)]; exact tp_put_s) m2 (fun k hk => ⟨m3 k hk, ?_⟩)
  rw [hp _ (by omega)]
  exact tp_put_c hk hn
theorem nmc_c {r r' : Nat → Int32} {n : Nat} (h : tp_nok r n) (h1 : r' (86 + n) = r (86 + n)) (hc : ∀ k, k < 8 → r' (95 + 8 * n + k) = r (95 + 8 * n + k)) : nmc r' n = nmc r n := by
  obtain ⟨L, c, h2, h3, h4, h5⟩ := h
  rw [nmc_of h4 h3 h5, nmc_of (by rw [h1]; exact h4) h3 (fun k hk => ⟨(h5 k hk).1, by rw [hc k (by omega)]; exact (h5 k hk).2⟩)]
theorem NKC.c {τ : TU} {r r' : Nat → Int32} {a d u o k t : Nat} (h : NKC τ r a o) (hv : VQ r a d u o k t) (hc : ∀ j, 86 ≤ j ∧ j ≤ 166 → r' j = r j) : NKC τ r' a o := by
  obtain ⟨⟨w1, w1'⟩, -, -, ⟨w4, w4'⟩, -⟩ := id hv
  have q := hv.2.2.2.2.2.2.2.2.2.2.2.2.2.2.2
  refine ⟨fun m hm => ?_, fun e he => ?_⟩
  · rw [nmc_c (q.1 m hm) (hc _ (by omega)) (fun k hk => hc _ (by omega))]; exact h.1 m hm
  · rw [nmc_c (q.2.1 e he) (hc _ (by omega)) (fun k hk => hc _ (by omega))]; exact h.2 e he
section Ix
variable {b : Nat → Nat} {N s : Nat} {r : Nat → Int32} {a d u o k t : Nat}
theorem tp_fd_eq {n : Nat} (hn : n < 9) (h : tp_nm b N s r n = true) (h2 : ∀ i, i < n → ¬ tp_nm b N s r i = true) : tp_fd b N s r = n := by
  rcases Nat.lt_trichotomy (tp_fd b N s r) n with q | q | q
  · exact absurd (tp_fd_nm (by omega)) (h2 _ q)
  · exact q
  · exact absurd h (tp_fd_no q)
theorem tp_ixm (hv : VQ r a d u o k t) (hk : tp_kd b N s = 1) : (tp_up a (fun i => !tp_nm b N s r i) 0 < a → tp_fd b N s r = tp_up a (fun i => !tp_nm b N s r i) 0) ∧ (¬ tp_up a (fun i => !tp_nm b N s r i) 0 < a → 5 ≤ tp_fd b N s r) := by
  have h5 := hv.1.2
  refine ⟨fun h => ?_, fun h => ?_⟩
  · refine tp_fd_eq (by omega) ?_ (fun i hi => ?_)
    · have := tp_up_end (N := a) (P := fun n => !tp_nm b N s r n) 0 h
      simpa using this
    · have := tp_up_in (N := a) (P := fun n => !tp_nm b N s r n) 0 i (by omega) hi
      simpa using this
  · rcases Nat.lt_or_ge (tp_fd b N s r) 5 with q | q
    · have h1 := tp_fd_man hv hk q
      have h2 := tp_up_in (N := a) (P := fun n => !tp_nm b N s r n) 0 (tp_fd b N s r) (by omega) (by omega)
      have h3 := tp_fd_nm (b := b) (N := N) (s := s) (r := r) (by omega)
      simp [h3] at h2
    · exact q
theorem tp_ixd (hv : VQ r a d u o k t) (hk : tp_kd b N s = 1) : (tp_up o (fun i => !tp_nm b N s r (5 + i)) 0 < o → tp_fd b N s r = 5 + tp_up o (fun i => !tp_nm b N s r (5 + i)) 0) ∧ (¬ tp_up o (fun i => !tp_nm b N s r (5 + i)) 0 < o → tp_fd b N s r < 5 ∨ tp_fd b N s r = 9) := by
  have h5 := hv.1.2
  have h4 := hv.2.2.2.1.2
  have q := hv.2.2.2.2.2.2.2.2.2.2.2.2.2.2.2
  have hle := tp_fd_le (b := b) (N := N) (s := s) (r := r)
  obtain ⟨-, -, -, m1, m2, -, -, m3⟩ := tp_kd1 hk
  refine ⟨fun h => ?_, fun h => ?_⟩
  · have hd : tp_nm b N s r (5 + tp_up o (fun i => !tp_nm b N s r (5 + i)) 0) = true := by
      have := tp_up_end (N := o) (P := fun n => !tp_nm b N s r (5 + n)) 0 h
      simpa using this
    refine tp_fd_eq (by omega) hd (fun i hi => ?_)
    rcases Nat.lt_or_ge i 5 with q1 | q1
    · intro e
      rcases Nat.lt_or_ge i a with q2 | q2
      · refine q.2.2.2.2 i _ q2 h ⟨?_, fun k hk => ?_⟩
        · rw [(tp_nm_iff.mp e).1, (tp_nm_iff.mp hd).1]
        · rw [(tp_nm_iff.mp e).1, ps_cl (by omega)] at hk
          rw [(tp_nm_iff.mp e).2 k hk, (tp_nm_iff.mp hd).2 k hk]
      · exact tp_nm_0 hk (q.2.2.1 i q2 q1) e
    · have := tp_up_in (N := o) (P := fun n => !tp_nm b N s r (5 + n)) 0 (i - 5) (by omega) (by omega)
      rw [show 5 + (i - 5) = i by omega] at this
      simpa using this
  · rcases Nat.lt_or_ge (tp_fd b N s r) 5 with q1 | q1
    · exact Or.inl q1
    · rcases Nat.lt_or_ge (tp_fd b N s r) 9 with q2 | q2
      · have h1 := tp_fd_door hv hk q1 q2
        have h2 := tp_up_in (N := o) (P := fun n => !tp_nm b N s r (5 + n)) 0 (tp_fd b N s r - 5) (by omega) (by omega)
        rw [show 5 + (tp_fd b N s r - 5) = tp_fd b N s r by omega] at h2
        have h3 := tp_fd_nm (b := b) (N := N) (s := s) (r := r) (by omega)
        simp [h3] at h2
      · exact Or.inr (by omega)
end Ix
