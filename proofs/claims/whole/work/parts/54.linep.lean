/-! ===== the text: lines, the pure part ===== -/
/-- a word and a number behind it -/
def tp_af (b : Nat → Nat) (N s j lo hi : Nat) : (Nat × Nat) ⊕ (Nat × Nat) := if tp_w b N s j = true then (if tp_num b N (tp_ad b N s) lo hi = 0 then .inr (tp_val b N (tp_ad b N s), tp_ad b N (tp_ad b N s)) else .inl (tp_num b N (tp_ad b N s) lo hi, tp_ad b N s)) else .inl (1, s)
def tp_ok (b : Nat → Nat) (N s : Nat) : Bool := decide (tp_kd b N s = 1) && !tp_lw b N s
theorem tp_ok_iff {b : Nat → Nat} {N s : Nat} : tp_ok b N s = true ↔ tp_kd b N s = 1 ∧ ¬ tp_lw b N s = true := by
  unfold tp_ok
  rw [Bool.and_eq_true, decide_eq_true_eq, Bool.not_eq_true', Bool.not_eq_true]
def tp_mh (b : Nat → Nat) (N t : Nat) (r : Nat → Int32) : (Nat × Nat) ⊕ Nat := if tp_ok b N t = true then (if tp_fd b N t r < 5 then .inr (tp_fd b N t r) else .inl (2, t)) else .inl (1, t)
def tp_dh (b : Nat → Nat) (N t : Nat) (r : Nat → Int32) : (Nat × Nat) ⊕ Nat := if tp_ok b N t = true then (if 5 ≤ tp_fd b N t r ∧ tp_fd b N t r < 9 then .inr (tp_fd b N t r - 5) else .inl (2, t)) else .inl (1, t)
def tp_put (b : Nat → Nat) (N t : Nat) (r : Nat → Int32) (nn : Nat) : Nat → Int32 := fun j => if j = 86 + nn then nI (tp_en b N t - t) else if 95 + 8 * nn ≤ j ∧ j < 95 + 8 * nn + (tp_en b N t - t) then nI (b (t + (j - (95 + 8 * nn)))) else r j
def tp_new (b : Nat → Nat) (N t : Nat) (r : Nat → Int32) : Nat := if tp_ok b N t = true then (if tp_fd b N t r < 9 then 3 else 0) else 1
def tp_kind (b : Nat → Nat) (N s : Nat) : Nat := if tp_w b N s 11 = true then 0 else if tp_w b N s 12 = true then 1 else if tp_w b N s 13 = true then 2 else if tp_w b N s 14 = true then 3 else 4
def tp_duchy (b : Nat → Nat) (N s : Nat) (r : Nat → Int32) : (Nat × Nat) ⊕ (Nat × (Nat → Int32)) :=
  if r 0 = 0 then (match tp_af b N (tp_ad b N s) 7 1 20 with
    | .inl e => .inl e
    | .inr (v1, s1) => match tp_af b N s1 8 0 100 with
      | .inl e => .inl e
      | .inr (v2, s2) => match tp_af b N s2 9 0 100 with
        | .inl e => .inl e
        | .inr (v3, s3) => match tp_af b N s3 10 0 100 with
          | .inl e => .inl e
          | .inr (v4, s4) => .inr (s4, pu (pu (pu (pu r 1 (nI v2)) 2 (nI v3)) 3 (nI v4)) 0 (nI v1)))
  else .inl (3, s)
def tp_rman (b : Nat → Nat) (N t : Nat) (r : Nat → Int32) (m kd c g : Nat) : Nat → Int32 := pu (pu (pu (pu (tp_put b N t r m) (10 + 3 * m) (nI kd)) (11 + 3 * m) (nI c)) (12 + 3 * m) (nI g)) 4 (nI (m + 1))
def tp_man (b : Nat → Nat) (N s : Nat) (r : Nat → Int32) : (Nat × Nat) ⊕ (Nat × (Nat → Int32)) :=
  if tp_new b N (tp_ad b N s) r = 0 then (if tp_kind b N (tp_ad b N (tp_ad b N s)) < 4 then (match tp_af b N (tp_ad b N (tp_ad b N (tp_ad b N s))) 15 0 99 with
    | .inl e => .inl e
    | .inr (c, s1) => match tp_af b N s1 16 0 9 with
      | .inl e => .inl e
      | .inr (g, s2) => .inr (s2, tp_rman b N (tp_ad b N s) r (nM r) (tp_kind b N (tp_ad b N (tp_ad b N s))) c g))
    else .inl (1, tp_ad b N (tp_ad b N s)))
  else .inl (tp_new b N (tp_ad b N s) r, tp_ad b N s)
def tp_rcl (r : Nat → Int32) (B M k x y c g : Nat) : Nat → Int32 := pu (pu (pu (pu (pu r (B + 4 * k) (nI x)) (B + 1 + 4 * k) (nI y)) (B + 2 + 4 * k) (nI c)) (B + 3 + 4 * k) (nI g)) M (nI (k + 1))
def tp_claim (b : Nat → Nat) (N s : Nat) (r : Nat → Int32) (B M : Nat) : (Nat × Nat) ⊕ (Nat × (Nat → Int32)) :=
  match tp_mh b N (tp_ad b N s) r with
  | .inl e => .inl e
  | .inr x => match tp_mh b N (tp_ad b N (tp_ad b N s)) r with
    | .inl e => .inl e
    | .inr y => if x = y then .inl (3, tp_ad b N (tp_ad b N s)) else if tp_num b N (tp_ad b N (tp_ad b N (tp_ad b N s))) 1 99 = 0 then (match tp_af b N (tp_ad b N (tp_ad b N (tp_ad b N (tp_ad b N s)))) 17 0 9 with
      | .inl e => .inl e
      | .inr (g, s2) => .inr (s2, tp_rcl r B M (r M).toNatClampNeg x y (tp_val b N (tp_ad b N (tp_ad b N (tp_ad b N s)))) g))
      else .inl (tp_num b N (tp_ad b N (tp_ad b N (tp_ad b N s))) 1 99, tp_ad b N (tp_ad b N (tp_ad b N s)))
def tp_rdoor (b : Nat → Nat) (N t : Nat) (r : Nat → Int32) (d w : Nat) : Nat → Int32 := pu (pu (tp_put b N t r (5 + d)) (69 + d) (nI w)) 7 (nI (d + 1))
def tp_door (b : Nat → Nat) (N s : Nat) (r : Nat → Int32) : (Nat × Nat) ⊕ (Nat × (Nat → Int32)) :=
  if tp_new b N (tp_ad b N s) r = 0 then (match tp_af b N (tp_ad b N (tp_ad b N s)) 18 0 40 with
    | .inl e => .inl e
    | .inr (w, s1) => .inr (s1, tp_rdoor b N (tp_ad b N s) r (nO r) w))
  else .inl (tp_new b N (tp_ad b N s) r, tp_ad b N s)
def tp_rinv (r : Nat → Int32) (m d : Nat) : Nat → Int32 := pu (pu r (73 + m) (nI (d + 1))) 8 (r 8 + 1)
def tp_invite (b : Nat → Nat) (N s : Nat) (r : Nat → Int32) : (Nat × Nat) ⊕ (Nat × (Nat → Int32)) :=
  match tp_mh b N (tp_ad b N s) r with
  | .inl e => .inl e
  | .inr m => if r (73 + m) = 0 then (match tp_dh b N (tp_ad b N (tp_ad b N s)) r with
    | .inl e => .inl e
    | .inr d => .inr (tp_ad b N (tp_ad b N (tp_ad b N s)), tp_rinv r m d))
    else .inl (3, tp_ad b N s)
def tp_rread (r : Nat → Int32) (k m v : Nat) : Nat → Int32 := pu (pu (pu r (78 + 2 * k) (nI m)) (79 + 2 * k) (nI v)) 9 (nI (k + 1))
def tp_read (b : Nat → Nat) (N s : Nat) (r : Nat → Int32) : (Nat × Nat) ⊕ (Nat × (Nat → Int32)) :=
  match tp_mh b N (tp_ad b N s) r with
  | .inl e => .inl e
  | .inr m => if tp_num b N (tp_ad b N (tp_ad b N s)) 0 40 = 0 then .inr (tp_ad b N (tp_ad b N (tp_ad b N s)), tp_rread r (nR r) m (tp_val b N (tp_ad b N (tp_ad b N s))))
    else .inl (tp_num b N (tp_ad b N (tp_ad b N s)) 0 40, tp_ad b N (tp_ad b N s))
def tp_line (b : Nat → Nat) (N s : Nat) (r : Nat → Int32) : (Nat × Nat) ⊕ (Nat × (Nat → Int32)) :=
  if tp_w b N s 0 = true then tp_duchy b N s r
  else if tp_w b N s 1 = true then (if r 0 = 0 then .inl (6, s) else if nM r < 5 then tp_man b N s r else .inl (5, s))
  else if tp_w b N s 2 = true then (if r 0 = 0 then .inl (6, s) else if nD r < 7 then tp_claim b N s r 25 5 else .inl (5, s))
  else if tp_w b N s 3 = true then (if r 0 = 0 then .inl (6, s) else if nU r < 4 then tp_claim b N s r 53 6 else .inl (5, s))
  else if tp_w b N s 4 = true then (if r 0 = 0 then .inl (6, s) else if nO r < 4 then tp_door b N s r else .inl (5, s))
  else if tp_w b N s 5 = true then (if r 0 = 0 then .inl (6, s) else tp_invite b N s r)
  else if tp_w b N s 6 = true then (if r 0 = 0 then .inl (6, s) else if nR r < 4 then tp_read b N s r else .inl (5, s))
  else .inl (1, s)
/-- the whole text -/
def tp_parse (b : Nat → Nat) (N : Nat) : Nat → Nat → (Nat → Int32) → (Nat × Nat) ⊕ (Nat → Int32)
  | 0, s, _ => .inl (1, s)
  | d + 1, s, r => match tp_line b N s r with
    | .inl e => .inl e
    | .inr (s', r') => if tp_kd b N s' = 0 then (if nM r' = 0 then .inl (6, s') else .inr r') else if tp_kd b N s' = 3 then tp_parse b N d (tp_ad b N s') r' else .inl (1, s')
/-! what a row told so far holds -/
def PM (r : Nat → Int32) (a o : Nat) : Prop := ∀ m, m < a → bI (r (10 + 3 * m)) 0 3 ∧ bI (r (11 + 3 * m)) 0 99 ∧ bI (r (12 + 3 * m)) 0 9 ∧ bI (r (73 + m)) 0 o
def PO (r : Nat → Int32) (o : Nat) : Prop := ∀ d, d < o → bI (r (69 + d)) 0 40
def PG (r : Nat → Int32) (k a : Nat) : Prop := ∀ j, j < k → (∃ x, x < a ∧ r (78 + 2 * j) = nI x) ∧ bI (r (79 + 2 * j)) 0 40
def PC (r : Nat → Int32) (B k a : Nat) : Prop := ∀ j, j < k → (∃ x y, x < a ∧ y < a ∧ x ≠ y ∧ r (B + 4 * j) = nI x ∧ r (B + 1 + 4 * j) = nI y) ∧ bI (r (B + 2 + 4 * j)) 1 99 ∧ bI (r (B + 3 + 4 * j)) 0 9
def tp_nok (r : Nat → Int32) (n : Nat) : Prop := ∃ (L : Nat) (c : Nat → Nat), 1 ≤ L ∧ L ≤ 8 ∧ r (86 + n) = nI L ∧ ∀ k, k < L → (97 ≤ c k ∧ c k ≤ 122) ∧ r (95 + 8 * n + k) = nI (c k)
def tp_same (r : Nat → Int32) (m n : Nat) : Prop := r (86 + m) = r (86 + n) ∧ ∀ k, k < (r (86 + m)).toNatClampNeg → r (95 + 8 * m + k) = r (95 + 8 * n + k)
def PN (r : Nat → Int32) (a o : Nat) : Prop := (∀ m, m < a → tp_nok r m) ∧ (∀ d, d < o → tp_nok r (5 + d)) ∧ (∀ m, a ≤ m → m < 5 → r (86 + m) = 0) ∧ (∀ d, o ≤ d → d < 4 → r (86 + (5 + d)) = 0) ∧ ∀ m d, m < a → d < o → ¬ tp_same r m (5 + d)
def VQ (r : Nat → Int32) (a d u o k t : Nat) : Prop :=
  (r 4 = nI a ∧ a ≤ 5) ∧ (r 5 = nI d ∧ d ≤ 7) ∧ (r 6 = nI u ∧ u ≤ 4) ∧ (r 7 = nI o ∧ o ≤ 4) ∧ (r 9 = nI k ∧ k ≤ 4) ∧ (r 0 = nI t ∧ t ≤ 20) ∧ (bI (r 1) 0 100 ∧ bI (r 2) 0 100 ∧ bI (r 3) 0 100) ∧
  PM r a o ∧ PO r o ∧ PG r k a ∧ PC r 25 d a ∧ PC r 53 u a ∧ (t = 0 → a = 0 ∧ d = 0 ∧ u = 0 ∧ o = 0 ∧ k = 0) ∧ r 8 = s_ic r a ∧ (∀ m, a ≤ m → m < 5 → r (73 + m) = 0) ∧ PN r a o
theorem PM.c {r r' : Nat → Int32} {a o : Nat} (h : PM r a o) (ha : a ≤ 5) (hc : ∀ j, (10 ≤ j ∧ j ≤ 24) ∨ (73 ≤ j ∧ j ≤ 77) → r' j = r j) : PM r' a o := fun m hm => by
  rw [hc (10 + 3 * m) (by omega), hc (11 + 3 * m) (by omega), hc (12 + 3 * m) (by omega), hc (73 + m) (by omega)]
  exact h m hm
theorem PM.o {r : Nat → Int32} {a o o' : Nat} (h : PM r a o) (ho : o ≤ o') : PM r a o' := fun m hm => by
  obtain ⟨h1, h2, h3, x, h4, h5, h6⟩ := h m hm
  exact ⟨h1, h2, h3, x, h4, by omega, h6⟩
theorem PO.c {r r' : Nat → Int32} {o : Nat} (h : PO r o) (ha : o ≤ 4) (hc : ∀ j, 69 ≤ j ∧ j ≤ 72 → r' j = r j) : PO r' o := fun d hd => by
  rw [hc (69 + d) (by omega)]
  exact h d hd
theorem PG.c {r r' : Nat → Int32} {k a : Nat} (h : PG r k a) (hk : k ≤ 4) (hc : ∀ j, 78 ≤ j ∧ j ≤ 85 → r' j = r j) : PG r' k a := fun j hj => by
  rw [hc (78 + 2 * j) (by omega), hc (79 + 2 * j) (by omega)]
  exact h j hj
theorem PG.a {r : Nat → Int32} {k a a' : Nat} (h : PG r k a) (ha : a ≤ a') : PG r k a' := fun j hj => by
  obtain ⟨⟨x, h1, h2⟩, h3⟩ := h j hj
  exact ⟨⟨x, by omega, h2⟩, h3⟩
theorem PC.c {r r' : Nat → Int32} {B k a : Nat} (h : PC r B k a) (hc : ∀ j, B ≤ j ∧ j < B + 4 * k → r' j = r j) : PC r' B k a := fun j hj => by
  rw [hc (B + 4 * j) (by omega), hc (B + 1 + 4 * j) (by omega), hc (B + 2 + 4 * j) (by omega), hc (B + 3 + 4 * j) (by omega)]
  exact h j hj
theorem PC.a {r : Nat → Int32} {B k a a' : Nat} (h : PC r B k a) (ha : a ≤ a') : PC r B k a' := fun j hj => by
  obtain ⟨⟨x, y, h1, h2, h3⟩, h4⟩ := h j hj
  exact ⟨⟨x, y, by omega, by omega, h3⟩, h4⟩
theorem tp_nok.c {r r' : Nat → Int32} {n : Nat} (h : tp_nok r n) (h1 : r' (86 + n) = r (86 + n)) (hc : ∀ k, k < 8 → r' (95 + 8 * n + k) = r (95 + 8 * n + k)) : tp_nok r' n := by
  obtain ⟨L, c, h2, h3, h4, h5⟩ := h
  exact ⟨L, c, h2, h3, by rw [h1]; exact h4, fun k hk => ⟨(h5 k hk).1, by rw [hc k (by omega)]; exact (h5 k hk).2⟩⟩
theorem tp_same.c {r r' : Nat → Int32} {m n : Nat} (h : tp_same r' m n) (hL : (r (86 + m)).toNatClampNeg ≤ 8) (h1 : r' (86 + m) = r (86 + m)) (h2 : r' (86 + n) = r (86 + n)) (hc : ∀ k, k < 8 → r' (95 + 8 * m + k) = r (95 + 8 * m + k)) (hc2 : ∀ k, k < 8 → r' (95 + 8 * n + k) = r (95 + 8 * n + k)) : tp_same r m n := by
  refine ⟨by rw [← h1, ← h2]; exact h.1, fun k hk => ?_⟩
  rw [← hc k (by omega), ← hc2 k (by omega)]
  exact h.2 k (by rw [h1]; exact hk)
theorem PN.c {r r' : Nat → Int32} {a o : Nat} (h : PN r a o) (ha : a ≤ 5) (ho : o ≤ 4) (hc : ∀ j, 86 ≤ j ∧ j ≤ 166 → r' j = r j) : PN r' a o := by
  obtain ⟨h1, h2, h3, h4, h5⟩ := h
  refine ⟨fun m hm => (h1 m hm).c (hc _ (by omega)) (fun k hk => hc _ (by omega)), fun d hd => (h2 d hd).c (hc _ (by omega)) (fun k hk => hc _ (by omega)), fun m hm hm5 => (hc _ (by omega)).trans (h3 m hm hm5), fun d hd hd4 => (hc _ (by omega)).trans (h4 d hd hd4), fun m d hm hd hs => h5 m d hm hd (hs.c ?_ (hc _ (by omega)) (hc _ (by omega)) (fun k hk => hc _ (by omega)) (fun k hk => hc _ (by omega)))⟩
  obtain ⟨L, c, g1, g2, g3, -⟩ := h1 m hm
  rw [g3, ps_cl (by omega)]
  exact g2
theorem s_ic_c {r r' : Nat → Int32} (hc : ∀ j, 73 ≤ j ∧ j ≤ 77 → r' j = r j) : ∀ m, m ≤ 5 → s_ic r' m = s_ic r m
  | 0, _ => rfl
  | m + 1, h => by
    show s_ic r' m + _ = s_ic r m + _
    rw [s_ic_c hc m (by omega), hc (73 + m) (by omega)]
theorem tp_cl {r : Nat → Int32} {i a : Nat} (h : r i = nI a) (ha : a < 1000) : (r i).toNatClampNeg = a := by rw [h, ps_cl (by omega)]
theorem VQ.n {r : Nat → Int32} {a d u o k t : Nat} (h : VQ r a d u o k t) : nM r = a ∧ nD r = d ∧ nU r = u ∧ nO r = o ∧ nR r = k ∧ nT r = t := by
  obtain ⟨⟨h1, b1⟩, ⟨h2, b2⟩, ⟨h3, b3⟩, ⟨h4, b4⟩, ⟨h5, b5⟩, ⟨h6, b6⟩, -⟩ := h
  exact ⟨tp_cl h1 (by omega), tp_cl h2 (by omega), tp_cl h3 (by omega), tp_cl h4 (by omega), tp_cl h5 (by omega), tp_cl h6 (by omega)⟩
/-- a row with a man is a duchy's -/
theorem VQ.vr {r : Nat → Int32} {a d u o k t : Nat} (h : VQ r a d u o k t) (ha : a ≠ 0) : VR r := by
  obtain ⟨e1, e2, e3, e4, e5, e6⟩ := h.n
  obtain ⟨h1, h2, h3, h4, h5, h6, h7, h8, h9, h10, h11, h12, h13, h14, h15, h16⟩ := h
  unfold VR
  rw [e1, e2, e3, e4, e5, e6]
  refine ⟨h1, h2, h3, h4, h5, ⟨h6.1, h6.2, fun _ => ?_⟩, h7, h8, h9, h10, h11, h12, fun e => absurd e ha, h14⟩
  refine Nat.pos_of_ne_zero (fun e => ?_)
  exact ha (h13 e).1
theorem tp_put_s {b : Nat → Nat} {N t nn : Nat} {r : Nat → Int32} : tp_put b N t r nn (86 + nn) = nI (tp_en b N t - t) := if_pos rfl
theorem tp_put_c {b : Nat → Nat} {N t nn k : Nat} {r : Nat → Int32} (hk : k < tp_en b N t - t) (hn : nn < 9) : tp_put b N t r nn (95 + 8 * nn + k) = nI (b (t + k)) := by
  unfold tp_put
  rw [if_neg (by omega), if_pos (by omega), show 95 + 8 * nn + k - (95 + 8 * nn) = k by omega]
theorem tp_put_o {b : Nat → Nat} {N t nn j : Nat} {r : Nat → Int32} (h8 : tp_en b N t - t ≤ 8) (h1 : j ≠ 86 + nn) (h2 : j < 95 + 8 * nn ∨ 95 + 8 * nn + 8 ≤ j) : tp_put b N t r nn j = r j := by
  unfold tp_put
  rw [if_neg h1, if_neg (by omega)]
theorem bI_of {v lo hi : Nat} (h : lo ≤ v ∧ v ≤ hi) : bI (nI v) lo hi := ⟨v, h.1, h.2, rfl⟩
section Lp
variable {b : Nat → Nat} {N s t : Nat} {r : Nat → Int32} {a d u o k tt : Nat}
theorem tp_num0 {lo hi : Nat} (h : tp_num b N s lo hi = 0) : tp_kd b N s = 2 ∧ lo ≤ tp_val b N s ∧ tp_val b N s ≤ hi := by
  unfold tp_num at h
  by_cases h1 : tp_kd b N s = 2
  · rw [if_pos h1] at h
    by_cases h2 : lo ≤ tp_val b N s ∧ tp_val b N s ≤ hi
    · exact ⟨h1, h2⟩
    · rw [if_neg h2] at h; cases h
  · rw [if_neg h1] at h; cases h
theorem tp_num_lt {lo hi : Nat} : tp_num b N s lo hi < 10 := by
  unfold tp_num
  split
  · split <;> omega
  · omega
theorem tp_kdN {v : Nat} (h : tp_kd b N s = v) (hv : v ≠ 0) : s < N := by
  rcases Nat.lt_or_ge s N with q | q
  · exact q
  · rw [tp_kd0.mpr q] at h; omega
theorem tp_af_r {j lo hi v s' : Nat} (h : tp_af b N s j lo hi = .inr (v, s')) (hs : s ≤ N) : (lo ≤ v ∧ v ≤ hi) ∧ s < s' ∧ s' ≤ N := by
  unfold tp_af at h
  by_cases h1 : tp_w b N s j = true
  · rw [if_pos h1] at h
    by_cases h2 : tp_num b N (tp_ad b N s) lo hi = 0
    · rw [if_pos h2] at h
      cases h
      obtain ⟨g1, g2⟩ := tp_num0 h2
      have hN := tp_kdN (tp_w_iff.mp h1).1 (by omega)
      have l1 := tp_ad_lt (b := b) hN
      have l2 := tp_ad_lt (b := b) (tp_kdN g1 (by omega))
      have l3 := tp_ad_N (b := b) (tp_ad_N (b := b) hs)
      exact ⟨g2, by omega, l3⟩
    · rw [if_neg h2] at h; cases h
  · rw [if_neg h1] at h; cases h
theorem tp_fd_le : tp_fd b N s r ≤ 9 := (tp_up_le (N := 9) (P := fun n => !tp_nm b N s r n) 0 (by omega)).2
theorem tp_fd_nm (h : tp_fd b N s r < 9) : tp_nm b N s r (tp_fd b N s r) = true := by
  have := tp_up_end (N := 9) (P := fun n => !tp_nm b N s r n) 0 h
  unfold tp_fd
  simpa using this
theorem tp_fd_no {n : Nat} (h : n < tp_fd b N s r) : ¬ tp_nm b N s r n = true := by
  have := tp_up_in (N := 9) (P := fun n => !tp_nm b N s r n) 0 n (by omega) h
  simpa using this
/-- a free place has no name that a word could be -/
theorem tp_nm_0 {n : Nat} (hk : tp_kd b N s = 1) (h : r (86 + n) = 0) : ¬ tp_nm b N s r n = true := by
  intro e
  obtain ⟨-, -, -, h1, h2, -⟩ := tp_kd1 hk
  have := (tp_nm_iff.mp e).1
  rw [h] at this
  exact nI_ne0 (n := tp_en b N s - s) (by omega) (by omega) this.symm
/-- so a man who is found is one of those told, a door likewise -/
theorem tp_fd_man (hv : VQ r a d u o k tt) (hk : tp_kd b N s = 1) (h : tp_fd b N s r < 5) : tp_fd b N s r < a := by
  rcases Nat.lt_or_ge (tp_fd b N s r) a with q | q
  · exact q
  · exact absurd (tp_fd_nm (by omega)) (tp_nm_0 hk (hv.2.2.2.2.2.2.2.2.2.2.2.2.2.2.2.2.2.1 _ q h))
theorem tp_fd_door (hv : VQ r a d u o k tt) (hk : tp_kd b N s = 1) (h5 : 5 ≤ tp_fd b N s r) (h : tp_fd b N s r < 9) : tp_fd b N s r - 5 < o := by
  rcases Nat.lt_or_ge (tp_fd b N s r - 5) o with q | q
  · exact q
  · have h0 := hv.2.2.2.2.2.2.2.2.2.2.2.2.2.2.2.2.2.2.1 _ q (by omega)
    rw [show 5 + (tp_fd b N s r - 5) = tp_fd b N s r by omega] at h0
    exact absurd (tp_fd_nm h) (tp_nm_0 hk h0)
theorem tp_mh_r {m : Nat} (h : tp_mh b N s r = .inr m) : tp_kd b N s = 1 ∧ tp_ok b N s = true ∧ m = tp_fd b N s r ∧ m < 5 := by
  unfold tp_mh at h
  by_cases h1 : tp_ok b N s = true
  · rw [if_pos h1] at h
    by_cases h2 : tp_fd b N s r < 5
    · rw [if_pos h2] at h
      cases h
      exact ⟨(tp_ok_iff.mp h1).1, h1, rfl, h2⟩
    · rw [if_neg h2] at h; cases h
  · rw [if_neg h1] at h; cases h
theorem tp_dh_r {m : Nat} (h : tp_dh b N s r = .inr m) : tp_kd b N s = 1 ∧ tp_ok b N s = true ∧ tp_fd b N s r = 5 + m ∧ m < 4 := by
  unfold tp_dh at h
  by_cases h1 : tp_ok b N s = true
  · rw [if_pos h1] at h
    by_cases h2 : 5 ≤ tp_fd b N s r ∧ tp_fd b N s r < 9
    · rw [if_pos h2] at h
      cases h
      exact ⟨(tp_ok_iff.mp h1).1, h1, by omega, by omega⟩
    · rw [if_neg h2] at h; cases h
  · rw [if_neg h1] at h; cases h
theorem tp_new_0 (h : tp_new b N s r = 0) : tp_kd b N s = 1 ∧ tp_ok b N s = true ∧ tp_fd b N s r = 9 := by
  unfold tp_new at h
  by_cases h1 : tp_ok b N s = true
  · rw [if_pos h1] at h
    by_cases h2 : tp_fd b N s r < 9
    · rw [if_pos h2] at h; cases h
    · exact ⟨(tp_ok_iff.mp h1).1, h1, by have := tp_fd_le (b := b) (N := N) (s := s) (r := r); omega⟩
  · rw [if_neg h1] at h; cases h
theorem pu_eq {w : Nat → Int32} {m : Nat} {x : Int32} : pu w m x m = x := if_pos rfl
/-! the lines keep it -/
theorem VQ.duchy {v1 v2 v3 v4 : Nat} (hv : VQ r a d u o k tt) (h1 : 1 ≤ v1 ∧ v1 ≤ 20) (h2 : v2 ≤ 100) (h3 : v3 ≤ 100) (h4 : v4 ≤ 100) : VQ (pu (pu (pu (pu r 1 (nI v2)) 2 (nI v3)) 3 (nI v4)) 0 (nI v1)) a d u o k v1 := by
  have hc : ∀ j, 4 ≤ j → (pu (pu (pu (pu r 1 (nI v2)) 2 (nI v3)) 3 (nI v4)) 0 (nI v1)) j = r j := fun j hj => by
    rw [pu_ne (by omega), pu_ne (by omega), pu_ne (by omega), pu_ne (by omega)]
  obtain ⟨g1, g2, g3, g4, g5, g6, g7, g8, g9, g10, g11, g12, g13, g14, g15, g16⟩ := hv
  refine ⟨?_, ?_, ?_, ?_, ?_, ⟨pu_eq, h1.2⟩, ⟨?_, ?_, ?_⟩, g8.c g1.2 (fun j hj => hc j (by omega)), g9.c g4.2 (fun j hj => hc j (by omega)), g10.c g5.2 (fun j hj => hc j (by omega)), g11.c (fun j hj => hc j (by omega)), g12.c (fun j hj => hc j (by omega)), fun e => absurd e (by omega), ?_, fun m hm h5 => (hc _ (by omega)).trans (g15 m hm h5), g16.c g1.2 g4.2 (fun j hj => hc j (by omega))⟩
  · rw [hc 4 (by omega)]; exact g1
  · rw [hc 5 (by omega)]; exact g2
  · rw [hc 6 (by omega)]; exact g3
  · rw [hc 7 (by omega)]; exact g4
  · rw [hc 9 (by omega)]; exact g5
  · rw [pu_ne (by omega), pu_ne (by omega), pu_ne (by omega), pu_eq]; exact bI_of ⟨by omega, h2⟩
  · rw [pu_ne (by omega), pu_ne (by omega), pu_eq]; exact bI_of ⟨by omega, h3⟩
  · rw [pu_ne (by omega), pu_eq]; exact bI_of ⟨by omega, h4⟩
  · rw [hc 8 (by omega), s_ic_c (fun j hj => hc j (by omega)) a g1.2]; exact g14
theorem tp_nok_put {nn : Nat} (hk : tp_kd b N t = 1) (hn : nn < 9) : tp_nok (tp_put b N t r nn) nn := by
  obtain ⟨-, -, -, h1, h2, -, -, h3⟩ := tp_kd1 hk
  exact ⟨tp_en b N t - t, fun k => b (t + k), h1, h2, tp_put_s, fun k hk => ⟨h3 k hk, tp_put_c hk hn⟩⟩
theorem VQ.man {kd c g : Nat} (hv : VQ r a d u o k tt) (ha : a < 5) (h0 : tt ≠ 0) (hn : tp_new b N t r = 0) (hk : kd ≤ 3) (hc : c ≤ 99) (hg : g ≤ 9) : VQ (tp_rman b N t r a kd c g) (a + 1) d u o k tt := by
  obtain ⟨n1, n2, n3⟩ := tp_new_0 hn
  obtain ⟨-, -, -, m1, m2, -, -, m3⟩ := tp_kd1 n1
  have ho : ∀ j, j ≠ 4 → (j < 10 + 3 * a ∨ 12 + 3 * a < j) → j ≠ 86 + a → (j < 95 + 8 * a ∨ 95 + 8 * a + 8 ≤ j) → tp_rman b N t r a kd c g j = r j := fun j h1 h2 h3 h4 => by
    unfold tp_rman
    rw [pu_ne (by omega), pu_ne (by omega), pu_ne (by omega), pu_ne (by omega), tp_put_o m2 h3 h4]
  have hp : ∀ j, 86 ≤ j → tp_rman b N t r a kd c g j = tp_put b N t r a j := fun j h1 => by
    unfold tp_rman
    rw [pu_ne (by omega), pu_ne (by omega), pu_ne (by omega), pu_ne (by omega)]
  obtain ⟨g1, g2, g3, g4, g5, g6, g7, g8, g9, g10, g11, g12, g13, g14, g15, g16⟩ := hv
  refine ⟨⟨?_, by omega⟩, ?_, ?_, ?_, ?_, ?_, ⟨?_, ?_, ?_⟩, ?_, g9.c g4.2 (fun j hj => ho j (by omega) (by omega) (by omega) (by omega)), (g10.c g5.2 (fun j hj => ho j (by omega) (by omega) (by omega) (by omega))).a (by omega), (g11.c (fun j hj => ho j (by omega) (by omega) (by omega) (by omega))).a (by omega), (g12.c (fun j hj => ho j (by omega) (by omega) (by omega) (by omega))).a (by omega), fun e => absurd e h0, ?_, fun m hm h5 => (ho _ (by omega) (by omega) (by omega) (by omega)).trans (g15 m (by omega) h5), ?_⟩
  · unfold tp_rman; rw [pu_eq]
  · rw [ho 5 (by omega) (by omega) (by omega) (by omega)]; exact g2
  · rw [ho 6 (by omega) (by omega) (by omega) (by omega)]; exact g3
  · rw [ho 7 (by omega) (by omega) (by omega) (by omega)]; exact g4
  · rw [ho 9 (by omega) (by omega) (by omega) (by omega)]; exact g5
  · rw [ho 0 (by omega) (by omega) (by omega) (by omega)]; exact g6
  · rw [ho 1 (by omega) (by omega) (by omega) (by omega)]; exact g7.1
  · rw [ho 2 (by omega) (by omega) (by omega) (by omega)]; exact g7.2.1
  · rw [ho 3 (by omega) (by omega) (by omega) (by omega)]; exact g7.2.2
  · intro m hm
    by_cases e : m = a
    · subst e
      rw [ho (73 + m) (by omega) (by omega) (by omega) (by omega), g15 m (Nat.le_refl _) ha]
      refine ⟨?_, ?_, ?_, ⟨0, by omega, by omega, rfl⟩⟩
      · unfold tp_rman; rw [pu_ne (by omega), pu_ne (by omega), pu_ne (by omega), pu_eq]; exact bI_of ⟨by omega, hk⟩
      · unfold tp_rman; rw [pu_ne (by omega), pu_ne (by omega), pu_eq]; exact bI_of ⟨by omega, hc⟩
      · unfold tp_rman; rw [pu_ne (by omega), pu_eq]; exact bI_of ⟨by omega, hg⟩
    · rw [ho (10 + 3 * m) (by omega) (by omega) (by omega) (by omega), ho (11 + 3 * m) (by omega) (by omega) (by omega) (by omega), ho (12 + 3 * m) (by omega) (by omega) (by omega) (by omega), ho (73 + m) (by omega) (by omega) (by omega) (by omega)]
      exact g8 m (by omega)
  · show _ = s_ic (tp_rman b N t r a kd c g) a + _
    rw [ho 8 (by omega) (by omega) (by omega) (by omega), ho (73 + a) (by omega) (by omega) (by omega) (by omega), g15 a (Nat.le_refl _) ha, if_pos rfl, Int32.add_zero, s_ic_c (fun j hj => ho j (by omega) (by omega) (by omega) (by omega)) a g1.2]
    exact g14
  · obtain ⟨q1, q2, q3, q4, q5⟩ := g16
    refine ⟨fun m hm => ?_, fun e he => (q2 e he).c (ho _ (by omega) (by omega) (by omega) (by omega)) (fun k hk => ho _ (by omega) (by omega) (by omega) (by omega)), fun m hm h5 => (ho _ (by omega) (by omega) (by omega) (by omega)).trans (q3 m (by omega) h5), fun e he h4 => (ho _ (by omega) (by omega) (by omega) (by omega)).trans (q4 e he h4), fun m e hm he hs => ?_⟩
    · by_cases e : m = a
      · subst e
        exact (tp_nok_put n1 (by omega)).c (hp _ (by omega)) (fun k hk => hp _ (by omega))
      · exact (q1 m (by omega)).c (ho _ (by omega) (by omega) (by omega) (by omega)) (fun k hk => ho _ (by omega) (by omega) (by omega) (by omega))
    · by_cases e2 : m = a
      · subst e2
        obtain ⟨s1, s2⟩ := hs
        rw [hp _ (by omega), tp_put_s, ho (86 + (5 + e)) (by omega) (by omega) (by omega) (by omega)] at s1
        refine tp_fd_no (b := b) (N := N) (s := t) (r := r) (n := 5 + e) (by omega) (tp_nm_iff.mpr ⟨s1.symm, fun k hk => ?_⟩)
        have s3 := s2 k (by rw [hp _ (by omega), tp_put_s, ps_cl (by omega)]; exact hk)
        rw [hp _ (by omega), tp_put_c hk (by omega), ho _ (by omega) (by omega) (by omega) (by omega)] at s3
        exact s3.symm
      · refine q5 m e (by omega) he (hs.c ?_ (ho _ (by omega) (by omega) (by omega) (by omega)) (ho _ (by omega) (by omega) (by omega) (by omega)) (fun k hk => ho _ (by omega) (by omega) (by omega) (by omega)) (fun k hk => ho _ (by omega) (by omega) (by omega) (by omega)))
        obtain ⟨L, c', w1, w2, w3, -⟩ := q1 m (by omega)
        rw [w3, ps_cl (by omega)]
        exact w2
theorem VQ.door {w : Nat} (hv : VQ r a d u o k tt) (ha : o < 4) (h0 : tt ≠ 0) (hn : tp_new b N t r = 0) (hw : w ≤ 40) : VQ (tp_rdoor b N t r o w) a d u (o + 1) k tt := by
  obtain ⟨n1, n2, n3⟩ := tp_new_0 hn
  obtain ⟨-, -, -, m1, m2, -, -, m3⟩ := tp_kd1 n1
  have ho : ∀ j, j ≠ 7 → j ≠ 69 + o → j ≠ 86 + (5 + o) → (j < 95 + 8 * (5 + o) ∨ 95 + 8 * (5 + o) + 8 ≤ j) → tp_rdoor b N t r o w j = r j := fun j h1 h2 h3 h4 => by
    unfold tp_rdoor
    rw [pu_ne (by omega), pu_ne (by omega), tp_put_o m2 h3 h4]
  have hp : ∀ j, 86 ≤ j → tp_rdoor b N t r o w j = tp_put b N t r (5 + o) j := fun j h1 => by
    unfold tp_rdoor
    rw [pu_ne (by omega), pu_ne (by omega)]
  obtain ⟨g1, g2, g3, g4, g5, g6, g7, g8, g9, g10, g11, g12, g13, g14, g15, g16⟩ := hv
  refine ⟨?_, ?_, ?_, ⟨?_, by omega⟩, ?_, ?_, ⟨?_, ?_, ?_⟩, (g8.c g1.2 (fun j hj => ho j (by omega) (by omega) (by omega) (by omega))).o (by omega), ?_, g10.c g5.2 (fun j hj => ho j (by omega) (by omega) (by omega) (by omega)), g11.c (fun j hj => ho j (by omega) (by omega) (by omega) (by omega)), g12.c (fun j hj => ho j (by omega) (by omega) (by omega) (by omega)), fun e => absurd e h0, ?_, fun m hm h5 => (ho _ (by omega) (by omega) (by omega) (by omega)).trans (g15 m (by omega) h5), ?_⟩
  · rw [ho 4 (by omega) (by omega) (by omega) (by omega)]; exact g1
  · rw [ho 5 (by omega) (by omega) (by omega) (by omega)]; exact g2
  · rw [ho 6 (by omega) (by omega) (by omega) (by omega)]; exact g3
  · unfold tp_rdoor; rw [pu_eq]
  · rw [ho 9 (by omega) (by omega) (by omega) (by omega)]; exact g5
  · rw [ho 0 (by omega) (by omega) (by omega) (by omega)]; exact g6
  · rw [ho 1 (by omega) (by omega) (by omega) (by omega)]; exact g7.1
  · rw [ho 2 (by omega) (by omega) (by omega) (by omega)]; exact g7.2.1
  · rw [ho 3 (by omega) (by omega) (by omega) (by omega)]; exact g7.2.2
  · intro e he
    by_cases e2 : e = o
    · subst e2
      unfold tp_rdoor; rw [pu_ne (by omega), pu_eq]; exact bI_of ⟨by omega, hw⟩
    · rw [ho (69 + e) (by omega) (by omega) (by omega) (by omega)]; exact g9 e (by omega)
  · rw [ho 8 (by omega) (by omega) (by omega) (by omega), s_ic_c (fun j hj => ho j (by omega) (by omega) (by omega) (by omega)) a g1.2]
    exact g14
  · have g1' := g1.2
    obtain ⟨q1, q2, q3, q4, q5⟩ := g16
    refine ⟨fun m hm => (q1 m hm).c (ho _ (by omega) (by omega) (by omega) (by omega)) (fun k hk => ho _ (by omega) (by omega) (by omega) (by omega)), fun e he => ?_, fun m hm h5 => (ho _ (by omega) (by omega) (by omega) (by omega)).trans (q3 m (by omega) h5), fun e he h4 => (ho _ (by omega) (by omega) (by omega) (by omega)).trans (q4 e (by omega) h4), fun m e hm he hs => ?_⟩
    · by_cases e2 : e = o
      · subst e2
        exact (tp_nok_put n1 (by omega)).c (hp _ (by omega)) (fun k hk => hp _ (by omega))
      · exact (q2 e (by omega)).c (ho _ (by omega) (by omega) (by omega) (by omega)) (fun k hk => ho _ (by omega) (by omega) (by omega) (by omega))
    · obtain ⟨L, c', w1, w2, w3, -⟩ := q1 m hm
      by_cases e2 : e = o
      · subst e2
        obtain ⟨s1, s2⟩ := hs
        rw [hp (86 + (5 + e)) (by omega), tp_put_s, ho (86 + m) (by omega) (by omega) (by omega) (by omega)] at s1
        refine tp_fd_no (b := b) (N := N) (s := t) (r := r) (n := m) (by omega) (tp_nm_iff.mpr ⟨s1, fun k hk => ?_⟩)
        have s3 := s2 k (by rw [ho (86 + m) (by omega) (by omega) (by omega) (by omega), s1, ps_cl (by omega)]; exact hk)
        rw [hp (95 + 8 * (5 + e) + k) (by omega), tp_put_c hk (by omega), ho _ (by omega) (by omega) (by omega) (by omega)] at s3
        exact s3
      · refine q5 m e hm (by omega) (hs.c ?_ (ho _ (by omega) (by omega) (by omega) (by omega)) (ho _ (by omega) (by omega) (by omega) (by omega)) (fun k hk => ho _ (by omega) (by omega) (by omega) (by omega)) (fun k hk => ho _ (by omega) (by omega) (by omega) (by omega)))
        rw [w3, ps_cl (by omega)]
        exact w2
theorem VQ.debt {x y c g : Nat} (hv : VQ r a d u o k tt) (hd : d < 7) (h0 : tt ≠ 0) (hx : x < a) (hy : y < a) (hxy : x ≠ y) (hc : 1 ≤ c ∧ c ≤ 99) (hg : g ≤ 9) : VQ (tp_rcl r 25 5 d x y c g) a (d + 1) u o k tt := by
  have ho : ∀ j, j ≠ 5 → (j < 25 + 4 * d ∨ 25 + 4 * d + 3 < j) → tp_rcl r 25 5 d x y c g j = r j := fun j h1 h2 => by
    unfold tp_rcl
    rw [pu_ne (by omega), pu_ne (by omega), pu_ne (by omega), pu_ne (by omega), pu_ne (by omega)]
  obtain ⟨g1, g2, g3, g4, g5, g6, g7, g8, g9, g10, g11, g12, g13, g14, g15, g16⟩ := hv
  refine ⟨?_, ⟨?_, by omega⟩, ?_, ?_, ?_, ?_, ⟨?_, ?_, ?_⟩, g8.c g1.2 (fun j hj => ho j (by omega) (by omega)), g9.c g4.2 (fun j hj => ho j (by omega) (by omega)), g10.c g5.2 (fun j hj => ho j (by omega) (by omega)), ?_, g12.c (fun j hj => ho j (by omega) (by omega)), fun e => absurd e h0, ?_, fun m hm h5 => (ho _ (by omega) (by omega)).trans (g15 m hm h5), g16.c g1.2 g4.2 (fun j hj => ho j (by omega) (by omega))⟩
  · rw [ho 4 (by omega) (by omega)]; exact g1
  · unfold tp_rcl; rw [pu_eq]
  · rw [ho 6 (by omega) (by omega)]; exact g3
  · rw [ho 7 (by omega) (by omega)]; exact g4
  · rw [ho 9 (by omega) (by omega)]; exact g5
  · rw [ho 0 (by omega) (by omega)]; exact g6
  · rw [ho 1 (by omega) (by omega)]; exact g7.1
  · rw [ho 2 (by omega) (by omega)]; exact g7.2.1
  · rw [ho 3 (by omega) (by omega)]; exact g7.2.2
  · intro j hj
    by_cases e : j = d
    · subst e
      refine ⟨⟨x, y, hx, hy, hxy, ?_, ?_⟩, ?_, ?_⟩
      · unfold tp_rcl; rw [pu_ne (by omega), pu_ne (by omega), pu_ne (by omega), pu_ne (by omega), pu_eq]
      · unfold tp_rcl; rw [pu_ne (by omega), pu_ne (by omega), pu_ne (by omega), pu_eq]
      · unfold tp_rcl; rw [pu_ne (by omega), pu_ne (by omega), pu_eq]; exact bI_of hc
      · unfold tp_rcl; rw [pu_ne (by omega), pu_eq]; exact bI_of ⟨by omega, hg⟩
    · rw [ho (25 + 4 * j) (by omega) (by omega), ho (25 + 1 + 4 * j) (by omega) (by omega), ho (25 + 2 + 4 * j) (by omega) (by omega), ho (25 + 3 + 4 * j) (by omega) (by omega)]
      exact g11 j (by omega)
  · rw [ho 8 (by omega) (by omega), s_ic_c (fun j hj => ho j (by omega) (by omega)) a g1.2]; exact g14
theorem VQ.rum {x y c g : Nat} (hv : VQ r a d u o k tt) (hd : u < 4) (h0 : tt ≠ 0) (hx : x < a) (hy : y < a) (hxy : x ≠ y) (hc : 1 ≤ c ∧ c ≤ 99) (hg : g ≤ 9) : VQ (tp_rcl r 53 6 u x y c g) a d (u + 1) o k tt := by
  have ho : ∀ j, j ≠ 6 → (j < 53 + 4 * u ∨ 53 + 4 * u + 3 < j) → tp_rcl r 53 6 u x y c g j = r j := fun j h1 h2 => by
    unfold tp_rcl
    rw [pu_ne (by omega), pu_ne (by omega), pu_ne (by omega), pu_ne (by omega), pu_ne (by omega)]
  obtain ⟨g1, g2, g3, g4, g5, g6, g7, g8, g9, g10, g11, g12, g13, g14, g15, g16⟩ := hv
  have g2' := g2.2
  refine ⟨?_, ?_, ⟨?_, by omega⟩, ?_, ?_, ?_, ⟨?_, ?_, ?_⟩, g8.c g1.2 (fun j hj => ho j (by omega) (by omega)), g9.c g4.2 (fun j hj => ho j (by omega) (by omega)), g10.c g5.2 (fun j hj => ho j (by omega) (by omega)), g11.c (fun j hj => ho j (by omega) (by omega)), ?_, fun e => absurd e h0, ?_, fun m hm h5 => (ho _ (by omega) (by omega)).trans (g15 m hm h5), g16.c g1.2 g4.2 (fun j hj => ho j (by omega) (by omega))⟩
  · rw [ho 4 (by omega) (by omega)]; exact g1
  · rw [ho 5 (by omega) (by omega)]; exact g2
  · unfold tp_rcl; rw [pu_eq]
  · rw [ho 7 (by omega) (by omega)]; exact g4
  · rw [ho 9 (by omega) (by omega)]; exact g5
  · rw [ho 0 (by omega) (by omega)]; exact g6
  · rw [ho 1 (by omega) (by omega)]; exact g7.1
  · rw [ho 2 (by omega) (by omega)]; exact g7.2.1
  · rw [ho 3 (by omega) (by omega)]; exact g7.2.2
  · intro j hj
    by_cases e : j = u
    · subst e
      refine ⟨⟨x, y, hx, hy, hxy, ?_, ?_⟩, ?_, ?_⟩
      · unfold tp_rcl; rw [pu_ne (by omega), pu_ne (by omega), pu_ne (by omega), pu_ne (by omega), pu_eq]
      · unfold tp_rcl; rw [pu_ne (by omega), pu_ne (by omega), pu_ne (by omega), pu_eq]
      · unfold tp_rcl; rw [pu_ne (by omega), pu_ne (by omega), pu_eq]; exact bI_of hc
      · unfold tp_rcl; rw [pu_ne (by omega), pu_eq]; exact bI_of ⟨by omega, hg⟩
    · rw [ho (53 + 4 * j) (by omega) (by omega), ho (53 + 1 + 4 * j) (by omega) (by omega), ho (53 + 2 + 4 * j) (by omega) (by omega), ho (53 + 3 + 4 * j) (by omega) (by omega)]
      exact g12 j (by omega)
  · rw [ho 8 (by omega) (by omega), s_ic_c (fun j hj => ho j (by omega) (by omega)) a g1.2]; exact g14
theorem s_ic_inv {m : Nat} {x : Int32} (hx : x ≠ 0) (h0 : r (73 + m) = 0) (r' : Nat → Int32) (h1 : r' (73 + m) = x) (hc : ∀ j, j ≠ 73 + m → 73 ≤ j → j ≤ 77 → r' j = r j) : ∀ a, a ≤ 5 → s_ic r' a = if m < a then s_ic r a + 1 else s_ic r a
  | 0, _ => by rw [if_neg (by omega)]; rfl
  | a + 1, h => by
    have ih := s_ic_inv hx h0 r' h1 hc a (by omega)
    show s_ic r' a + (if r' (73 + a) = 0 then 0 else 1) = if m < a + 1 then s_ic r a + (if r (73 + a) = 0 then 0 else 1) + 1 else s_ic r a + (if r (73 + a) = 0 then 0 else 1)
    by_cases e : a = m
    · subst e
      rw [ih, if_neg (Nat.lt_irrefl a), if_pos (Nat.lt_succ_self a), h1, if_neg hx, h0, if_pos rfl, Int32.add_zero]
    · rw [ih, hc (73 + a) (by omega) (by omega) (by omega)]
      by_cases h2 : m < a
      · rw [if_pos h2, if_pos (show m < a + 1 by omega), Int32.add_assoc, Int32.add_assoc]
        congr 1
        exact Int32.add_comm _ _
      · rw [if_neg h2, if_neg (show ¬ m < a + 1 by omega)]
theorem VQ.inv {m e : Nat} (hv : VQ r a d u o k tt) (hm : m < a) (he : e < o) (hr : r (73 + m) = 0) : VQ (tp_rinv r m e) a d u o k tt := by
  obtain ⟨g1, g2, g3, g4, g5, g6, g7, g8, g9, g10, g11, g12, g13, g14, g15, g16⟩ := hv
  have g1' := g1.2
  have g4' := g4.2
  have ho : ∀ j, j ≠ 8 → j ≠ 73 + m → tp_rinv r m e j = r j := fun j h1 h2 => by
    unfold tp_rinv
    rw [pu_ne h1, pu_ne h2]
  have h7 : tp_rinv r m e (73 + m) = nI (e + 1) := by unfold tp_rinv; rw [pu_ne (by omega), pu_eq]
  refine ⟨?_, ?_, ?_, ?_, ?_, ?_, ⟨?_, ?_, ?_⟩, ?_, g9.c g4.2 (fun j hj => ho j (by omega) (by omega)), g10.c g5.2 (fun j hj => ho j (by omega) (by omega)), g11.c (fun j hj => ho j (by omega) (by omega)), g12.c (fun j hj => ho j (by omega) (by omega)), g13, ?_, fun m' hm' h5 => (ho _ (by omega) (by omega)).trans (g15 m' hm' h5), g16.c g1.2 g4.2 (fun j hj => ho j (by omega) (by omega))⟩
  · rw [ho 4 (by omega) (by omega)]; exact g1
  · rw [ho 5 (by omega) (by omega)]; exact g2
  · rw [ho 6 (by omega) (by omega)]; exact g3
  · rw [ho 7 (by omega) (by omega)]; exact g4
  · rw [ho 9 (by omega) (by omega)]; exact g5
  · rw [ho 0 (by omega) (by omega)]; exact g6
  · rw [ho 1 (by omega) (by omega)]; exact g7.1
  · rw [ho 2 (by omega) (by omega)]; exact g7.2.1
  · rw [ho 3 (by omega) (by omega)]; exact g7.2.2
  · intro m' hm'
    rw [ho (10 + 3 * m') (by omega) (by omega), ho (11 + 3 * m') (by omega) (by omega), ho (12 + 3 * m') (by omega) (by omega)]
    obtain ⟨q1, q2, q3, q4⟩ := g8 m' hm'
    refine ⟨q1, q2, q3, ?_⟩
    by_cases e2 : m' = m
    · subst e2
      rw [h7]; exact bI_of ⟨by omega, by omega⟩
    · rw [ho (73 + m') (by omega) (by omega)]; exact q4
  · rw [s_ic_inv (x := nI (e + 1)) (nI_ne0 (by omega) (by omega)) hr (tp_rinv r m e) h7 (fun j h1 h2 h3 => ho j (by omega) h1) a g1.2, if_pos hm, ← g14]
    unfold tp_rinv; rw [pu_eq]
theorem VQ.read {m v : Nat} (hv : VQ r a d u o k tt) (hk : k < 4) (h0 : tt ≠ 0) (hm : m < a) (hw : v ≤ 40) : VQ (tp_rread r k m v) a d u o (k + 1) tt := by
  have ho : ∀ j, j ≠ 9 → j ≠ 78 + 2 * k → j ≠ 79 + 2 * k → tp_rread r k m v j = r j := fun j h1 h2 h3 => by
    unfold tp_rread
    rw [pu_ne h1, pu_ne h3, pu_ne h2]
  obtain ⟨g1, g2, g3, g4, g5, g6, g7, g8, g9, g10, g11, g12, g13, g14, g15, g16⟩ := hv
  have g2' := g2.2
  have g3' := g3.2
  refine ⟨?_, ?_, ?_, ?_, ⟨?_, by omega⟩, ?_, ⟨?_, ?_, ?_⟩, g8.c g1.2 (fun j hj => ho j (by omega) (by omega) (by omega)), g9.c g4.2 (fun j hj => ho j (by omega) (by omega) (by omega)), ?_, g11.c (fun j hj => ho j (by omega) (by omega) (by omega)), g12.c (fun j hj => ho j (by omega) (by omega) (by omega)), fun e => absurd e h0, ?_, fun m' hm' h5 => (ho _ (by omega) (by omega) (by omega)).trans (g15 m' hm' h5), g16.c g1.2 g4.2 (fun j hj => ho j (by omega) (by omega) (by omega))⟩
  · rw [ho 4 (by omega) (by omega) (by omega)]; exact g1
  · rw [ho 5 (by omega) (by omega) (by omega)]; exact g2
  · rw [ho 6 (by omega) (by omega) (by omega)]; exact g3
  · rw [ho 7 (by omega) (by omega) (by omega)]; exact g4
  · unfold tp_rread; rw [pu_eq]
  · rw [ho 0 (by omega) (by omega) (by omega)]; exact g6
  · rw [ho 1 (by omega) (by omega) (by omega)]; exact g7.1
  · rw [ho 2 (by omega) (by omega) (by omega)]; exact g7.2.1
  · rw [ho 3 (by omega) (by omega) (by omega)]; exact g7.2.2
  · intro j hj
    by_cases e : j = k
    · subst e
      refine ⟨⟨m, hm, ?_⟩, ?_⟩
      · unfold tp_rread; rw [pu_ne (by omega), pu_ne (by omega), pu_eq]
      · unfold tp_rread; rw [pu_ne (by omega), pu_eq]; exact bI_of ⟨by omega, hw⟩
    · rw [ho (78 + 2 * j) (by omega) (by omega) (by omega), ho (79 + 2 * j) (by omega) (by omega) (by omega)]
      exact g10 j (by omega)
  · rw [ho 8 (by omega) (by omega) (by omega), s_ic_c (fun j hj => ho j (by omega) (by omega) (by omega)) a g1.2]; exact g14
end Lp
