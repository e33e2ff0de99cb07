/-! ===== the text: the pure part ===== -/
def tp_go (P : Nat → Bool) : Nat → Nat → Nat
  | 0, p => p
  | d + 1, p => if P p = true then tp_go P d (p + 1) else p
/-- the first place from p on where P does not hold, N at the latest -/
def tp_up (N : Nat) (P : Nat → Bool) (p : Nat) : Nat := tp_go P (N - p) p
theorem tp_up_ge {N : Nat} {P : Nat → Bool} {p : Nat} (h : N ≤ p) : tp_up N P p = p := by
  unfold tp_up
  rw [Nat.sub_eq_zero_of_le h]
  rfl
theorem tp_up_lt {N : Nat} {P : Nat → Bool} {p : Nat} (h : p < N) : tp_up N P p = if P p = true then tp_up N P (p + 1) else p := by
  unfold tp_up
  rw [show N - p = (N - (p + 1)) + 1 by omega]
  rfl
theorem tp_up_t {N : Nat} {P : Nat → Bool} {p : Nat} (h : p < N) (hp : P p = true) : tp_up N P p = tp_up N P (p + 1) := by rw [tp_up_lt h, if_pos hp]
theorem tp_up_f {N : Nat} {P : Nat → Bool} {p : Nat} (h : p < N) (hp : ¬ P p = true) : tp_up N P p = p := by rw [tp_up_lt h, if_neg hp]
theorem tp_ind {N : Nat} {P : Nat → Bool} {M : Nat → Prop} (h0 : ∀ p, N ≤ p → M p) (h1 : ∀ p, p < N → P p = true → M (p + 1) → M p) (h2 : ∀ p, p < N → ¬ P p = true → M p) : ∀ p, M p := by
  have key : ∀ d p, N - p ≤ d → M p := by
    intro d
    induction d with
    | zero => intro p h; exact h0 p (by omega)
    | succ d ih =>
      intro p h
      by_cases hp : N ≤ p
      · exact h0 p hp
      · by_cases hb : P p = true
        · exact h1 p (by omega) hb (ih (p + 1) (by omega))
        · exact h2 p (by omega) hb
  intro p
  exact key (N - p) p (Nat.le_refl _)
theorem tp_up_le {N : Nat} {P : Nat → Bool} : ∀ p, p ≤ N → p ≤ tp_up N P p ∧ tp_up N P p ≤ N := by
  refine tp_ind (N := N) (P := P) (fun p h hp => ?_) (fun p h hb ih hp => ?_) (fun p h hb hp => ?_)
  · rw [tp_up_ge h]; omega
  · rw [tp_up_t h hb]; have := ih (by omega); omega
  · rw [tp_up_f h hb]; omega
theorem tp_up_in {N : Nat} {P : Nat → Bool} : ∀ p, ∀ k, p ≤ k → k < tp_up N P p → P k = true := by
  refine tp_ind (N := N) (P := P) (fun p h k hk hl => ?_) (fun p h hb ih k hk hl => ?_) (fun p h hb k hk hl => ?_)
  · rw [tp_up_ge h] at hl; omega
  · rw [tp_up_t h hb] at hl
    by_cases e : k = p
    · rw [e]; exact hb
    · exact ih k (by omega) hl
  · rw [tp_up_f h hb] at hl; omega
theorem tp_up_end {N : Nat} {P : Nat → Bool} : ∀ p, tp_up N P p < N → ¬ P (tp_up N P p) = true := by
  refine tp_ind (N := N) (P := P) (fun p h hl => ?_) (fun p h hb ih hl => ?_) (fun p h hb hl => ?_)
  · rw [tp_up_ge h] at hl; omega
  · rw [tp_up_t h hb] at hl ⊢; exact ih hl
  · rw [tp_up_f h hb]; exact hb
theorem tp_up_c {N : Nat} {P P' : Nat → Bool} (hc : ∀ k, k < N → P k = P' k) : ∀ p, tp_up N P p = tp_up N P' p := by
  refine tp_ind (N := N) (P := P) (fun p h => ?_) (fun p h hb ih => ?_) (fun p h hb => ?_)
  · rw [tp_up_ge h, tp_up_ge h]
  · rw [tp_up_t h hb, ih, tp_up_t h (by rw [← hc p h]; exact hb)]
  · rw [tp_up_f h hb, tp_up_f h (by rw [← hc p h]; exact hb)]
/-! tokens: of the bytes b, N of them -/
def tp_rg (b : Nat → Nat) (lo hi k : Nat) : Bool := decide (lo ≤ b k ∧ b k ≤ hi)
theorem tp_rg_iff {b : Nat → Nat} {lo hi k : Nat} : tp_rg b lo hi k = true ↔ lo ≤ b k ∧ b k ≤ hi := decide_eq_true_iff
def tp_st (b : Nat → Nat) (N p : Nat) : Nat := tp_up N (tp_rg b 32 32) p
def tp_en (b : Nat → Nat) (N s : Nat) : Nat := if s < N then (if tp_rg b 97 122 s = true then tp_up N (tp_rg b 97 122) s else if tp_rg b 48 57 s = true then tp_up N (tp_rg b 48 57) s else s + 1) else N
/-- 0 the end, 1 a word, 2 a whole number, 3 a parting, 4 no token -/
def tp_kd (b : Nat → Nat) (N s : Nat) : Nat := if s < N then (if tp_rg b 97 122 s = true then (if tp_up N (tp_rg b 97 122) s - s ≤ 8 then 1 else 4) else if tp_rg b 48 57 s = true then (if tp_up N (tp_rg b 48 57) s - s ≤ 3 then 2 else 4) else if b s = 59 then 3 else 4) else 0
def tp_ad (b : Nat → Nat) (N s : Nat) : Nat := tp_st b N (tp_en b N s)
def tp_v (b : Nat → Nat) (s : Nat) : Nat → Nat
  | 0 => 0
  | k + 1 => 10 * tp_v b s k + (b (s + k) - 48)
def tp_val (b : Nat → Nat) (N s : Nat) : Nat := tp_v b s (tp_en b N s - s)
section Tp
variable {b : Nat → Nat} {N s p : Nat}
theorem tp_st_le (h : p ≤ N) : p ≤ tp_st b N p ∧ tp_st b N p ≤ N := tp_up_le p h
theorem tp_en_le (h : s ≤ N) : s ≤ tp_en b N s ∧ tp_en b N s ≤ N := by
  unfold tp_en
  split
  · split
    · exact tp_up_le s h
    · split
      · exact tp_up_le s h
      · omega
  · omega
theorem tp_en_lt (h : s < N) : s < tp_en b N s := by
  unfold tp_en
  rw [if_pos h]
  split
  · rename_i hb
    have := (tp_up_le (N := N) (P := tp_rg b 97 122) (s + 1) (by omega)).1
    rw [tp_up_t h hb]; omega
  · split
    · rename_i hb
      have := (tp_up_le (N := N) (P := tp_rg b 48 57) (s + 1) (by omega)).1
      rw [tp_up_t h hb]; omega
    · omega
theorem tp_ad_le (h : s ≤ N) : tp_en b N s ≤ tp_ad b N s ∧ tp_ad b N s ≤ N := tp_st_le (tp_en_le h).2
theorem tp_ad_N (h : s ≤ N) : tp_ad b N s ≤ N := (tp_ad_le h).2
theorem tp_ad_lt (h : s < N) : s < tp_ad b N s := Nat.lt_of_lt_of_le (tp_en_lt h) (tp_ad_le (Nat.le_of_lt h)).1
theorem tp_ad_ge (h : s ≤ N) : s ≤ tp_ad b N s := Nat.le_trans (tp_en_le h).1 (tp_ad_le h).1
theorem tp_kd0 : tp_kd b N s = 0 ↔ N ≤ s := by
  unfold tp_kd
  by_cases h : s < N
  · rw [if_pos h]
    constructor
    · intro e
      exfalso
      revert e
      split
      · split <;> omega
      · split
        · split <;> omega
        · split <;> omega
    · intro e; omega
  · rw [if_neg h]
    exact ⟨fun _ => by omega, fun _ => rfl⟩
theorem tp_kd1 (h : tp_kd b N s = 1) : s < N ∧ tp_rg b 97 122 s = true ∧ tp_en b N s = tp_up N (tp_rg b 97 122) s ∧ 1 ≤ tp_en b N s - s ∧ tp_en b N s - s ≤ 8 ∧ s + (tp_en b N s - s) = tp_en b N s ∧ tp_en b N s ≤ N ∧ ∀ k, k < tp_en b N s - s → 97 ≤ b (s + k) ∧ b (s + k) ≤ 122 := by
  have hN : s < N := by
    rcases Nat.lt_or_ge s N with q | q
    · exact q
    · rw [tp_kd0.mpr q] at h; cases h
  have hb : tp_rg b 97 122 s = true := by
    by_cases e : tp_rg b 97 122 s = true
    · exact e
    · exfalso
      unfold tp_kd at h
      rw [if_pos hN, if_neg e] at h
      revert h
      split
      · split <;> omega
      · split <;> omega
  have he : tp_en b N s = tp_up N (tp_rg b 97 122) s := by unfold tp_en; rw [if_pos hN, if_pos hb]
  have h8 : tp_en b N s - s ≤ 8 := by
    unfold tp_kd at h
    rw [if_pos hN, if_pos hb] at h
    rw [he]
    by_cases e : tp_up N (tp_rg b 97 122) s - s ≤ 8
    · exact e
    · rw [if_neg e] at h; cases h
  have hl := tp_en_lt (b := b) hN
  have hl2 := (tp_en_le (b := b) (Nat.le_of_lt hN)).2
  refine ⟨hN, hb, he, by omega, h8, by omega, hl2, fun k hk => ?_⟩
  exact tp_rg_iff.mp (tp_up_in s (s + k) (by omega) (by rw [← he]; omega))
theorem tp_kd2 (h : tp_kd b N s = 2) : s < N ∧ tp_rg b 48 57 s = true ∧ tp_en b N s = tp_up N (tp_rg b 48 57) s ∧ 1 ≤ tp_en b N s - s ∧ tp_en b N s - s ≤ 3 ∧ s + (tp_en b N s - s) = tp_en b N s ∧ tp_en b N s ≤ N ∧ ∀ k, k < tp_en b N s - s → 48 ≤ b (s + k) ∧ b (s + k) ≤ 57 := by
  have hN : s < N := by
    rcases Nat.lt_or_ge s N with q | q
    · exact q
    · rw [tp_kd0.mpr q] at h; cases h
  have hn : ¬ tp_rg b 97 122 s = true := by
    intro e
    unfold tp_kd at h
    rw [if_pos hN, if_pos e] at h
    revert h
    split <;> omega
  have hb : tp_rg b 48 57 s = true := by
    by_cases e : tp_rg b 48 57 s = true
    · exact e
    · exfalso
      unfold tp_kd at h
      rw [if_pos hN, if_neg hn, if_neg e] at h
      revert h
      split <;> omega
  have he : tp_en b N s = tp_up N (tp_rg b 48 57) s := by unfold tp_en; rw [if_pos hN, if_neg hn, if_pos hb]
  have h3 : tp_en b N s - s ≤ 3 := by
    unfold tp_kd at h
    rw [if_pos hN, if_neg hn, if_pos hb] at h
    rw [he]
    by_cases e : tp_up N (tp_rg b 48 57) s - s ≤ 3
    · exact e
    · rw [if_neg e] at h; cases h
  have hl := tp_en_lt (b := b) hN
  have hl2 := (tp_en_le (b := b) (Nat.le_of_lt hN)).2
  refine ⟨hN, hb, he, by omega, h3, by omega, hl2, fun k hk => ?_⟩
  exact tp_rg_iff.mp (tp_up_in s (s + k) (by omega) (by rw [← he]; omega))
theorem tp_kd_le : tp_kd b N s ≤ 4 := by
  unfold tp_kd
  split
  · split
    · split <;> omega
    · split
      · split <;> omega
      · split <;> omega
  · omega
theorem tp_v_lt {K : Nat} (hb : ∀ k, k < K → 48 ≤ b (s + k) ∧ b (s + k) ≤ 57) : ∀ k, k ≤ K → tp_v b s k < 10 ^ k
  | 0, _ => by show (0 : Nat) < 1; omega
  | k + 1, h => by
    have h1 := tp_v_lt hb k (by omega)
    have h2 := hb k (by omega)
    show 10 * tp_v b s k + (b (s + k) - 48) < 10 ^ (k + 1)
    rw [Nat.pow_succ]
    omega
theorem tp_val_lt (h : tp_kd b N s = 2) : tp_val b N s < 1000 := by
  obtain ⟨-, -, -, h1, h2, -, -, h3⟩ := tp_kd2 h
  have := tp_v_lt h3 (tp_en b N s - s) (Nat.le_refl _)
  have h4 : 10 ^ (tp_en b N s - s) ≤ 10 ^ 3 := Nat.pow_le_pow_right (by omega) h2
  unfold tp_val
  omega
end Tp
/-! words -/
def tw (j : Nat) : List Int32 := (aw_strs.getD j ("", 0, "", [])).2.2.2
theorem tw_of {j : Nat} {st : String × Nat × String × List Int32} (h : aw_strs[j]? = some st) : tw j = st.2.2.2 := by
  unfold tw
  rw [List.getD_eq_getElem?_getD, h]
  rfl
def tp_w (b : Nat → Nat) (N s j : Nat) : Bool := decide (tp_kd b N s = 1 ∧ tp_en b N s = s + (tw j).length ∧ ∀ k, k < (tw j).length → nI (b (s + k)) = (tw j).getD k 0)
theorem tp_w_iff {b : Nat → Nat} {N s j : Nat} : tp_w b N s j = true ↔ tp_kd b N s = 1 ∧ tp_en b N s = s + (tw j).length ∧ ∀ k, k < (tw j).length → nI (b (s + k)) = (tw j).getD k 0 := decide_eq_true_iff
theorem tp_w_c {b : Nat → Nat} {N s j i : Nat} (h : tw j = tw i) : tp_w b N s j = tp_w b N s i := by
  unfold tp_w
  rw [h]
def tp_lw (b : Nat → Nat) (N s : Nat) : Bool := tp_w b N s 0 || tp_w b N s 1 || tp_w b N s 2 || tp_w b N s 3 || tp_w b N s 4 || tp_w b N s 5 || tp_w b N s 6
/-- the token is the n-th name of the row -/
def tp_nm (b : Nat → Nat) (N s : Nat) (r : Nat → Int32) (n : Nat) : Bool := decide (r (86 + n) = nI (tp_en b N s - s) ∧ ∀ k, k < tp_en b N s - s → r (95 + 8 * n + k) = nI (b (s + k)))
theorem tp_nm_iff {b : Nat → Nat} {N s : Nat} {r : Nat → Int32} {n : Nat} : tp_nm b N s r n = true ↔ r (86 + n) = nI (tp_en b N s - s) ∧ ∀ k, k < tp_en b N s - s → r (95 + 8 * n + k) = nI (b (s + k)) := decide_eq_true_iff
def tp_fd (b : Nat → Nat) (N s : Nat) (r : Nat → Int32) : Nat := tp_up 9 (fun n => !tp_nm b N s r n) 0
/-- words as numbers: letters by 27 -/
def tp_cd (c : Nat → Nat) : Nat → Nat
  | 0 => 0
  | k + 1 => tp_cd c k * 27 + (c k - 96)
theorem tp_cd_lt {c : Nat → Nat} {K : Nat} (hc : ∀ k, k < K → 97 ≤ c k ∧ c k ≤ 122) : ∀ k, k ≤ K → tp_cd c k < 27 ^ k
  | 0, _ => by show (0 : Nat) < 1; omega
  | k + 1, h => by
    have h1 := tp_cd_lt hc k (by omega)
    have h2 := hc k (by omega)
    show tp_cd c k * 27 + (c k - 96) < 27 ^ (k + 1)
    rw [Nat.pow_succ]
    omega
theorem tp_cd_inj {c c' : Nat → Nat} : ∀ (L L' : Nat), (∀ k, k < L → 97 ≤ c k ∧ c k ≤ 122) → (∀ k, k < L' → 97 ≤ c' k ∧ c' k ≤ 122) → tp_cd c L = tp_cd c' L' → L = L' ∧ ∀ k, k < L → c k = c' k
  | 0, 0, _, _, _ => ⟨rfl, fun k h => absurd h (by omega)⟩
  | 0, L' + 1, _, h', e => by
    have h2 := h' L' (by omega)
    have e : 0 = tp_cd c' L' * 27 + (c' L' - 96) := e
    omega
  | L + 1, 0, h, _, e => by
    have h2 := h L (by omega)
    have e : tp_cd c L * 27 + (c L - 96) = 0 := e
    omega
  | L + 1, L' + 1, h, h', e => by
    have h1 := h L (by omega)
    have h2 := h' L' (by omega)
    have e : tp_cd c L * 27 + (c L - 96) = tp_cd c' L' * 27 + (c' L' - 96) := e
    obtain ⟨e1, e2⟩ := tp_cd_inj L L' (fun k hk => h k (by omega)) (fun k hk => h' k (by omega)) (by omega)
    subst e1
    refine ⟨rfl, fun k hk => ?_⟩
    by_cases hkL : k = L
    · subst hkL; omega
    · exact e2 k (by omega)
theorem tp_cd_c {c c' : Nat → Nat} : ∀ L, (∀ k, k < L → c k = c' k) → tp_cd c L = tp_cd c' L
  | 0, _ => rfl
  | L + 1, h => by
    show tp_cd c L * 27 + (c L - 96) = tp_cd c' L * 27 + (c' L - 96)
    rw [tp_cd_c L (fun k hk => h k (by omega)), h L (by omega)]
theorem tp_cd_63 {c : Nat → Nat} {L : Nat} (hc : ∀ k, k < L → 97 ≤ c k ∧ c k ≤ 122) (h8 : L ≤ 8) : tp_cd c L < 2 ^ 62 := by
  have h1 := tp_cd_lt hc L (Nat.le_refl _)
  have h2 : 27 ^ L ≤ 27 ^ 8 := Nat.pow_le_pow_right (by omega) h8
  have h3 : (27 : Nat) ^ 8 < 2 ^ 62 := by decide
  omega
/-! bytes -/
theorem b8_all : ∀ x, x < 256 → (x < 128 → b8 x = nI x) ∧ (128 ≤ x → b8 x < 0) := by decide +kernel
theorem b8_lt {x lo : Nat} (hx : x < 256) (hl : lo < 128) : b8 x < nI lo ↔ (x < lo ∨ 128 ≤ x) := by
  rcases Nat.lt_or_ge x 128 with h | h
  · rw [(b8_all x hx).1 h, nI_ltI (by omega) (by omega)]
    omega
  · have h1 := (b8_all x hx).2 h
    exact ⟨fun _ => Or.inr h, fun _ => Int32.lt_of_lt_of_le h1 (nI_pos' (by omega))⟩
theorem b8_gt {x hi : Nat} (hx : x < 256) (hl : hi < 128) : nI hi < b8 x ↔ (hi < x ∧ x < 128) := by
  rcases Nat.lt_or_ge x 128 with h | h
  · rw [(b8_all x hx).1 h, nI_ltI (by omega) (by omega)]
    omega
  · have h1 := (b8_all x hx).2 h
    exact ⟨fun e => absurd (Int32.lt_trans e h1) (nI_pos (by omega)), fun e => by omega⟩
theorem b8_eq {x v : Nat} (hx : x < 256) (hl : v < 128) : b8 x = nI v ↔ x = v := by
  rcases Nat.lt_or_ge x 128 with h | h
  · rw [(b8_all x hx).1 h, nI_eq (by omega) (by omega)]
  · have h1 := (b8_all x hx).2 h
    exact ⟨fun e => absurd (by rw [e] at h1; exact h1) (nI_pos (n := v) (by omega)), fun e => by omega⟩
theorem b8_rg {b : Nat → Nat} {k lo hi : Nat} (hx : b k < 256) (h0 : 0 < lo) (hl : lo < 128) (hh : hi < 128) : tp_rg b lo hi k = true ↔ ¬ b8 (b k) < nI lo ∧ ¬ nI hi < b8 (b k) := by
  rw [tp_rg_iff, b8_lt hx hl, b8_gt hx hh]
  omega
