/-! ===== words for what the duchy says: the reference's own row r (167 ints) and moment row (13 ints) ===== -/
theorem ps_up {N : Nat} {P : Nat → Prop} (hN : P N) (hs : ∀ j, j < N → P (j + 1) → P j) (i : Nat) (hi : i ≤ N) : P i := by
  have h : ∀ d, d ≤ N → P (N - d) := by
    intro d
    induction d with
    | zero => intro _; exact hN
    | succ d ih =>
      intro hd
      have h1 := ih (by omega)
      exact hs (N - (d + 1)) (by omega) (by rw [show N - (d + 1) + 1 = N - d by omega]; exact h1)
  have h1 := h (N - i) (by omega)
  rwa [show N - (N - i) = i by omega] at h1
theorem ps_br {A B : Prop} {c : Int32} {N j : Nat} (hc : c = nI N) (hN : N < 2 ^ 31) (hj : j < 2 ^ 31) (f : N ≤ j → A) (g : j < N → B) : (c ≤ nI j → A) ∧ (¬ c ≤ nI j → B) := by
  subst hc
  exact ⟨fun h => f ((nI_leI hN hj).mp h), fun h => g (Nat.not_le.mp fun h2 => h ((nI_leI hN hj).mpr h2))⟩
theorem ps_done {A B : Prop} {c : Int32} {N : Nat} (hc : c = nI N) (a : A) : (c ≤ nI N → A) ∧ (¬ c ≤ nI N → B) := by
  subst hc
  exact ⟨fun _ => a, fun h => absurd (Int32.le_refl _) h⟩
theorem ps_in {i N : Nat} (h : i < N) (hN : N ≤ 1000) : vp_in (nI i) N := vp_in_nI h (by omega)
theorem ps_cl {i : Nat} (h : i < 100000) : (nI i).toNatClampNeg = i := nI_clamp (by omega)
def nM (r : Nat → Int32) : Nat := (r 4).toNatClampNeg
def nD (r : Nat → Int32) : Nat := (r 5).toNatClampNeg
def nU (r : Nat → Int32) : Nat := (r 6).toNatClampNeg
def nO (r : Nat → Int32) : Nat := (r 7).toNatClampNeg
def nR (r : Nat → Int32) : Nat := (r 9).toNatClampNeg
def nT (r : Nat → Int32) : Nat := (r 0).toNatClampNeg
/-- x is a number from lo to hi -/
def bI (x : Int32) (lo hi : Nat) : Prop := ∃ a : Nat, lo ≤ a ∧ a ≤ hi ∧ x = nI a
def s_ic (r : Nat → Int32) : Nat → Int32
  | 0 => 0
  | m + 1 => s_ic r m + if r (73 + m) = 0 then 0 else 1
/-- the row r is a duchy's, or as it is before the first -/
def VR (r : Nat → Int32) : Prop :=
  (r 4 = nI (nM r) ∧ nM r ≤ 5) ∧ (r 5 = nI (nD r) ∧ nD r ≤ 7) ∧ (r 6 = nI (nU r) ∧ nU r ≤ 4) ∧ (r 7 = nI (nO r) ∧ nO r ≤ 4) ∧ (r 9 = nI (nR r) ∧ nR r ≤ 4) ∧
  (r 0 = nI (nT r) ∧ nT r ≤ 20 ∧ (0 < nM r → 1 ≤ nT r)) ∧ (bI (r 1) 0 100 ∧ bI (r 2) 0 100 ∧ bI (r 3) 0 100) ∧
  (∀ m, m < nM r → bI (r (10 + 3 * m)) 0 3 ∧ bI (r (11 + 3 * m)) 0 99 ∧ bI (r (12 + 3 * m)) 0 9 ∧ bI (r (73 + m)) 0 (nO r)) ∧
  (∀ d, d < nO r → bI (r (69 + d)) 0 40) ∧
  (∀ k, k < nR r → (∃ a, a < nM r ∧ r (78 + 2 * k) = nI a) ∧ bI (r (79 + 2 * k)) 0 40) ∧
  (∀ k, k < nD r → (∃ a b, a < nM r ∧ b < nM r ∧ a ≠ b ∧ r (25 + 4 * k) = nI a ∧ r (26 + 4 * k) = nI b) ∧ bI (r (27 + 4 * k)) 1 99 ∧ bI (r (28 + 4 * k)) 0 9) ∧
  (∀ k, k < nU r → (∃ a b, a < nM r ∧ b < nM r ∧ a ≠ b ∧ r (53 + 4 * k) = nI a ∧ r (54 + 4 * k) = nI b) ∧ bI (r (55 + 4 * k)) 1 99 ∧ bI (r (56 + 4 * k)) 0 9) ∧
  (nM r = 0 → nD r = 0 ∧ nU r = 0 ∧ nO r = 0 ∧ nR r = 0 ∧ r 0 = 0 ∧ r 1 = 0 ∧ r 2 = 0 ∧ r 3 = 0) ∧ r 8 = s_ic r (nM r)
theorem VR.m {r : Nat → Int32} (h : VR r) : r 4 = nI (nM r) := h.1.1
theorem VR.m5 {r : Nat → Int32} (h : VR r) : nM r ≤ 5 := h.1.2
theorem VR.d {r : Nat → Int32} (h : VR r) : r 5 = nI (nD r) := h.2.1.1
theorem VR.d7 {r : Nat → Int32} (h : VR r) : nD r ≤ 7 := h.2.1.2
theorem VR.u {r : Nat → Int32} (h : VR r) : r 6 = nI (nU r) := h.2.2.1.1
theorem VR.u4 {r : Nat → Int32} (h : VR r) : nU r ≤ 4 := h.2.2.1.2
theorem VR.o {r : Nat → Int32} (h : VR r) : r 7 = nI (nO r) := h.2.2.2.1.1
theorem VR.o4 {r : Nat → Int32} (h : VR r) : nO r ≤ 4 := h.2.2.2.1.2
theorem VR.r {r : Nat → Int32} (h : VR r) : r 9 = nI (nR r) := h.2.2.2.2.1.1
theorem VR.r4 {r : Nat → Int32} (h : VR r) : nR r ≤ 4 := h.2.2.2.2.1.2
theorem VR.t {r : Nat → Int32} (h : VR r) : r 0 = nI (nT r) := h.2.2.2.2.2.1.1
theorem VR.t20 {r : Nat → Int32} (h : VR r) : nT r ≤ 20 := h.2.2.2.2.2.1.2.1
theorem VR.t1 {r : Nat → Int32} (h : VR r) (hm : 0 < nM r) : 1 ≤ nT r := h.2.2.2.2.2.1.2.2 hm
theorem VR.debt {r : Nat → Int32} (h : VR r) {k : Nat} (hk : k < nD r) : (∃ a b, a < nM r ∧ b < nM r ∧ a ≠ b ∧ r (25 + 4 * k) = nI a ∧ r (26 + 4 * k) = nI b) ∧ bI (r (27 + 4 * k)) 1 99 ∧ bI (r (28 + 4 * k)) 0 9 := h.2.2.2.2.2.2.2.2.2.2.1 k hk
theorem VR.rum {r : Nat → Int32} (h : VR r) {k : Nat} (hk : k < nU r) : (∃ a b, a < nM r ∧ b < nM r ∧ a ≠ b ∧ r (53 + 4 * k) = nI a ∧ r (54 + 4 * k) = nI b) ∧ bI (r (55 + 4 * k)) 1 99 ∧ bI (r (56 + 4 * k)) 0 9 := h.2.2.2.2.2.2.2.2.2.2.2.1 k hk
theorem VR.man {r : Nat → Int32} (h : VR r) {m : Nat} (hm : m < nM r) : bI (r (10 + 3 * m)) 0 3 ∧ bI (r (11 + 3 * m)) 0 99 ∧ bI (r (12 + 3 * m)) 0 9 ∧ bI (r (73 + m)) 0 (nO r) := h.2.2.2.2.2.2.2.1 m hm
theorem VR.door {r : Nat → Int32} (h : VR r) {d : Nat} (hd : d < nO r) : bI (r (69 + d)) 0 40 := h.2.2.2.2.2.2.2.2.1 d hd
theorem VR.read {r : Nat → Int32} (h : VR r) {k : Nat} (hk : k < nR r) : (∃ a, a < nM r ∧ r (78 + 2 * k) = nI a) ∧ bI (r (79 + 2 * k)) 0 40 := h.2.2.2.2.2.2.2.2.2.1 k hk
theorem VR.e {r : Nat → Int32} (h : VR r) : bI (r 1) 0 100 ∧ bI (r 2) 0 100 ∧ bI (r 3) 0 100 := h.2.2.2.2.2.2.1
theorem VR.zero {r : Nat → Int32} (h : VR r) (hm : nM r = 0) : nD r = 0 ∧ nU r = 0 ∧ nO r = 0 ∧ nR r = 0 ∧ r 0 = 0 ∧ r 1 = 0 ∧ r 2 = 0 ∧ r 3 = 0 := h.2.2.2.2.2.2.2.2.2.2.2.2.1 hm
theorem VR.i {r : Nat → Int32} (h : VR r) : r 8 = s_ic r (nM r) := h.2.2.2.2.2.2.2.2.2.2.2.2.2
theorem VR.pos {r : Nat → Int32} (h : VR r) (hm : 0 < nM r) : ¬ r 0 = 0 := by
  rw [h.t]
  have := h.t1 hm
  have := h.t20
  exact nI_ne0 (by omega) (by omega)
theorem VR.mD {r : Nat → Int32} (h : VR r) {k : Nat} (hk : k < nD r) : 0 < nM r := by
  obtain ⟨⟨a, b, h1, -⟩, -⟩ := h.debt hk
  omega
/-- the Facts f hold the row r -/
def FR (σ : SG) (f : Nat) (r : Nat → Int32) : Prop :=
  (σ f 9 = r 0 ∧ σ f 10 = r 1 ∧ σ f 11 = r 2 ∧ σ f 12 = r 3 ∧ σ f 13 = r 4 ∧ σ (f + 8) 4 = r 5 ∧ σ (f + 13) 4 = r 6 ∧ σ f 14 = r 7 ∧ σ f 15 = r 9) ∧
  (∀ m, m < nM r → σ (f + 1) m = r (10 + 3 * m) ∧ σ (f + 2) m = r (11 + 3 * m) ∧ σ (f + 3) m = r (12 + 3 * m) ∧ σ (f + 4) m = r (73 + m) - 1) ∧
  (∀ d, d < nO r → σ (f + 5) d = r (69 + d)) ∧
  (∀ k, k < nR r → σ (f + 6) k = r (78 + 2 * k) ∧ σ (f + 7) k = r (79 + 2 * k)) ∧
  (∀ k, k < nD r → σ (f + 9) k = r (25 + 4 * k) ∧ σ (f + 10) k = r (26 + 4 * k) ∧ σ (f + 11) k = r (27 + 4 * k) ∧ σ (f + 12) k = r (28 + 4 * k)) ∧
  (∀ k, k < nU r → σ (f + 14) k = r (53 + 4 * k) ∧ σ (f + 15) k = r (54 + 4 * k) ∧ σ (f + 16) k = r (55 + 4 * k) ∧ σ (f + 17) k = r (56 + 4 * k))
/-- the Moment t holds the row -/
def MR (σ : SG) (t : Nat) (row : Nat → Int32) : Prop := (∀ m, m < 5 → σ (t + 1) m = row (7 + m)) ∧ (∀ k, k < 7 → σ (t + 2) k = row k) ∧ σ t 2 = row 12
/-! the reckoning -/
def s_due (r L : Nat → Int32) (s : Int32) (k : Nat) : Bool := decide (r (28 + 4 * k) ≤ s) && decide (0 < L k)
theorem s_due_iff {r L : Nat → Int32} {s : Int32} {k : Nat} : s_due r L s k = true ↔ r (28 + 4 * k) ≤ s ∧ 0 < L k := by
  unfold s_due
  rw [Bool.and_eq_true, decide_eq_true_eq, decide_eq_true_eq]
def s_up (a b : Int32) : Int32 := (a + b - 1) / b
/-- tines of m's debts before the k-th -/
def s_db (r L : Nat → Int32) (s m : Int32) : Nat → Int32
  | 0 => 0
  | k + 1 => s_db r L s m k + if s_due r L s k = true ∧ r (25 + 4 * k) = m then s_up (L k) (r 0) else 0
def s_bit (B : Int32) (k : Nat) : Bool := decide ((B >>> (nI k &&& 31)) &&& 1 = 1)
/-- .. and with the rumours of the set B before the k-th -/
def s_ub (r : Nat → Int32) (s m B base : Int32) : Nat → Int32
  | 0 => base
  | k + 1 => s_ub r s m B base k + if s_bit B k = true ∧ r (53 + 4 * k) = m ∧ r (56 + 4 * k) ≤ s then s_up (r (55 + 4 * k)) (r 0) else 0
def s_hb (kd b : Int32) : Int32 := if kd = 1 then 0 else if kd = 2 then 2 * b else if kd = 3 then (b + 1) / 2 else b
def s_hd (r L : Nat → Int32) (s : Int32) (m : Nat) : Int32 := s_hb (r (10 + 3 * m)) (s_db r L s (nI m) (nD r))
def s_hB (r L : Nat → Int32) (s B : Int32) (m : Nat) : Int32 := s_hb (r (10 + 3 * m)) (s_ub r s (nI m) B (s_db r L s (nI m) (nD r)) (nU r))
def s_all (r L : Nat → Int32) (s : Int32) : Nat → Int32
  | 0 => 0
  | m + 1 => s_all r L s m + s_hd r L s m
/-- what is due from m (to whom, if w isn't below 0), before the k-th debt -/
def s_lf (r L : Nat → Int32) (s m w : Int32) : Nat → Int32
  | 0 => 0
  | k + 1 => s_lf r L s m w k + if s_due r L s k = true ∧ r (25 + 4 * k) = m ∧ (w < 0 ∨ r (26 + 4 * k) = w) then L k else 0
def s_ot (r L : Nat → Int32) (s m : Int32) : Nat → Int32
  | 0 => 0
  | k + 1 => s_ot r L s m k + if s_due r L s k = true ∧ r (26 + 4 * k) = m then L k else 0
def s_ob (r L : Nat → Int32) (s m : Int32) : Nat → Int32
  | 0 => 0
  | k + 1 => s_ob r L s m k ||| if s_due r L s k = true ∧ r (25 + 4 * k) = m then 1 <<< (r (26 + 4 * k) &&& 31) else 0
theorem ps_and1 (x : Int32) : x &&& 1 = 0 ∨ x &&& 1 = 1 := by
  obtain ⟨j, hj, e⟩ := pk_andE x (m := 1) 1 (by decide)
  have hj : j < 2 := hj
  rcases (show j = 0 ∨ j = 1 by omega) with rfl | rfl
  · exact Or.inl (e.trans rfl)
  · exact Or.inr (e.trans rfl)
theorem ps_bitn {B : Int32} {k : Nat} : (¬ (B >>> (nI k &&& 31)) &&& 1 = 0) ↔ s_bit B k = true := by
  unfold s_bit
  rw [decide_eq_true_eq]
  rcases ps_and1 (B >>> (nI k &&& 31)) with e | e <;> rw [e] <;> decide
theorem ps_bit0 {k : Nat} (hk : k < 32) : s_bit 0 k = false := by
  have h : ∀ k, k < 32 → s_bit 0 k = false := by decide +kernel
  exact h k hk
theorem s_ub0 (r : Nat → Int32) (s m base : Int32) : ∀ k, k ≤ 32 → s_ub r s m 0 base k = base
  | 0, _ => rfl
  | k + 1, h => by
    show s_ub r s m 0 base k + _ = base
    rw [s_ub0 r s m base k (by omega), if_neg (fun e => by rw [ps_bit0 (by omega)] at e; exact absurd e.1 (by decide))]
    exact Int32.add_zero _
theorem s_hB0 {r L : Nat → Int32} {s : Int32} {m : Nat} (h : VR r) : s_hB r L s 0 m = s_hd r L s m := by
  unfold s_hB s_hd
  rw [s_ub0 _ _ _ _ _ (by have := h.u4; omega)]
/-- the men who pass the door d -/
def s_pb (r L : Nat → Int32) (s : Int32) (d : Nat) : Nat → Int32
  | 0 => 0
  | m + 1 => s_pb r L s d m ||| if s_hd r L s m ≤ r (69 + d) then 1 <<< (nI m &&& 31) else 0
def s_ib (r : Nat → Int32) (d : Nat) : Nat → Int32
  | 0 => 0
  | m + 1 => s_ib r d m ||| if r (73 + m) = nI d + 1 then 1 <<< (nI m &&& 31) else 0
def s_mw (r L : Nat → Int32) (s w : Int32) : Nat → Int32
  | 0 => 0
  | m + 1 => s_mw r L s w m + if s_hd r L s m ≤ w then 1 else 0
def s_nt (x t : Int32) : Int32 := x - (s_up x t - 1) * t
def s_rw (e hd told : Int32) : Int32 := if told = hd then 200 - 2 * e else if hd = 0 then (if told = 1 then 2 * e else 0) else if told = hd + 1 ∨ told = hd - 1 then e else 0
theorem ps_b {c A B : Prop} [Decidable c] (f : ¬ c → A) (g : c → B) : ((if c then (1 : Int32) else 0) = 0 → A) ∧ (¬ (if c then (1 : Int32) else 0) = 0 → B) := by
  by_cases h : c
  · rw [if_pos h]
    exact ⟨fun e => absurd e (by decide), fun _ => g h⟩
  · rw [if_neg h]
    exact ⟨fun _ => f h, fun e => absurd rfl e⟩
theorem ps_sub1 {a b : Int32} : a - 1 = b ↔ a = b + 1 := by
  constructor
  · intro h; rw [← h, Int32.sub_add_cancel]
  · intro h; rw [h, Int32.add_sub_cancel]
theorem ps_subc {a b c : Int32} : a - b = c ↔ a = b + c := by
  constructor
  · intro h; rw [← h, Int32.add_comm, Int32.sub_add_cancel]
  · intro h; rw [h, Int32.add_comm, Int32.add_sub_cancel]
theorem ps_sube {a b : Int32} : a - b = 0 ↔ a = b := by rw [ps_subc, Int32.add_zero]
theorem ix25 (k : Nat) : (25 : Int32) + (4 : Int32) * nI k = nI (25 + 4 * k) := by
  show nI 25 + nI 4 * nI k = _
  rw [pk_mul, nI_add]
theorem ix26 (k : Nat) : (25 : Int32) + (4 : Int32) * nI k + (1 : Int32) = nI (26 + 4 * k) := by
  rw [ix25]
  show nI _ + nI 1 = _
  rw [nI_add]
  congr 1
  omega
theorem ix27 (k : Nat) : (25 : Int32) + (4 : Int32) * nI k + (2 : Int32) = nI (27 + 4 * k) := by
  rw [ix25]
  show nI _ + nI 2 = _
  rw [nI_add]
  congr 1
  omega
theorem ix28 (k : Nat) : (25 : Int32) + (4 : Int32) * nI k + (3 : Int32) = nI (28 + 4 * k) := by
  rw [ix25]
  show nI _ + nI 3 = _
  rw [nI_add]
  congr 1
  omega
theorem ix53 (k : Nat) : (53 : Int32) + (4 : Int32) * nI k = nI (53 + 4 * k) := by
  show nI 53 + nI 4 * nI k = _
  rw [pk_mul, nI_add]
theorem ix54 (k : Nat) : (53 : Int32) + (4 : Int32) * nI k + (1 : Int32) = nI (54 + 4 * k) := by
  rw [ix53]
  show nI _ + nI 1 = _
  rw [nI_add]
  congr 1
  omega
theorem ix55 (k : Nat) : (53 : Int32) + (4 : Int32) * nI k + (2 : Int32) = nI (55 + 4 * k) := by
  rw [ix53]
  show nI _ + nI 2 = _
  rw [nI_add]
  congr 1
  omega
theorem ix56 (k : Nat) : (53 : Int32) + (4 : Int32) * nI k + (3 : Int32) = nI (56 + 4 * k) := by
  rw [ix53]
  show nI _ + nI 3 = _
  rw [nI_add]
  congr 1
  omega
theorem ix10 (k : Nat) : (10 : Int32) + (3 : Int32) * nI k = nI (10 + 3 * k) := by
  show nI 10 + nI 3 * nI k = _
  rw [pk_mul, nI_add]
theorem ix11 (k : Nat) : (10 : Int32) + (3 : Int32) * nI k + (1 : Int32) = nI (11 + 3 * k) := by
  rw [ix10]
  show nI _ + nI 1 = _
  rw [nI_add]
  congr 1
  omega
theorem ix12 (k : Nat) : (10 : Int32) + (3 : Int32) * nI k + (2 : Int32) = nI (12 + 3 * k) := by
  rw [ix10]
  show nI _ + nI 2 = _
  rw [nI_add]
  congr 1
  omega
theorem ix78 (k : Nat) : (78 : Int32) + (2 : Int32) * nI k = nI (78 + 2 * k) := by
  show nI 78 + nI 2 * nI k = _
  rw [pk_mul, nI_add]
theorem ix79 (k : Nat) : (78 : Int32) + (2 : Int32) * nI k + (1 : Int32) = nI (79 + 2 * k) := by
  rw [ix78]
  show nI _ + nI 1 = _
  rw [nI_add]
  congr 1
  omega
theorem ix69 (k : Nat) : (69 : Int32) + nI k = nI (69 + k) := nI_add 69 k
theorem ix73 (k : Nat) : (73 : Int32) + nI k = nI (73 + k) := nI_add 73 k
