/-! ===== the frame: an abstract machine over numbered objects ===== -/
/-- class numbers and slots; array classes (0 int, 1 long, 2 byte, 3 Moment); the heap at the law's start; where the String constants and their bytes lie -/
abbrev GG : Type := va_G × (Nat → ClassId) × Heap × (Nat → Nat) × (Nat → Nat)
/-- how many objects there are; ints, longs and references by object and place -/
abbrev HH : Type := Nat × (Nat → Nat → Int32) × (Nat → Nat → Int64) × (Nat → Nat → Nat)
/-- a method: its name, bytes, locals, answer -/
abbrev MD : Type := MethodName × ByteArray × Nat × Option FieldType
def aw_kpL : List (Nat × Nat) := [(9, 0), (0, 9), (0, 8), (3, 900), (2, 5), (2, 4), (0, 2), (1, 5), (1, 7), (0, 5), (4, 16), (4, 3), (0, 2), (1, 5), (1, 7), (0, 2), (1, 5), (1, 7), (0, 2), (1, 5), (1, 7), (0, 2), (1, 5), (1, 7), (0, 2), (1, 5), (1, 7), (0, 2), (1, 5), (1, 7), (0, 2), (1, 5), (1, 7), (0, 2), (1, 5), (1, 7), (0, 2), (1, 5), (1, 7), (0, 2), (1, 5), (1, 7), (0, 2), (1, 5), (1, 7), (0, 2), (1, 5), (1, 7), (0, 2), (1, 5), (1, 7), (0, 2), (1, 5), (1, 7), (0, 2), (1, 5), (1, 7), (0, 2), (1, 5), (1, 7), (0, 2), (1, 5), (1, 7), (0, 2), (1, 5), (1, 7), (0, 2), (1, 5), (1, 7), (0, 7), (1, 5), (1, 4), (1, 96), (0, 6), (1, 5), (1, 5), (1, 5), (0, 4), (2, 16), (1, 16), (0, 3), (0, 2), (1, 5), (1, 7), (0, 1), (1, 5), (1, 5), (1, 5), (1, 5), (1, 4), (1, 4), (1, 4), (0, 0), (1, 7), (1, 7), (1, 7), (1, 7), (0, 0), (1, 4), (1, 4), (1, 4), (1, 4), (0, 1), (1, 5), (1, 5), (1, 5), (1, 5), (1, 4), (1, 4), (1, 4), (0, 0), (1, 7), (1, 7), (1, 7), (1, 7), (0, 0), (1, 4), (1, 4), (1, 4), (1, 4), (0, 10), (1, 900), (1, 8), (1, 167), (1, 167), (1, 13), (1, 208), (1, 39), (1, 13), (1, 5), (1, 5), (1, 5), (1, 5), (2, 1)]
def aw_kp (o : Nat) : Nat × Nat := aw_kpL.getD o (9, 0)
def aw_fkL : List (List Nat) := [[2, 2, 2, 2, 0], [2, 2, 2, 2, 2, 2, 2, 2, 2, 0, 0, 0, 0, 0, 0, 0], [2, 2, 0], [2, 0], [0, 1, 0, 2, 2], [0, 0, 2, 2, 0], [2, 0, 2, 2], [2, 2, 2], [0, 0, 2, 2, 2, 0, 0, 0, 0, 0, 0, 0], [2, 2, 2, 2, 2, 2, 2, 2, 2, 0, 0], [0, 2, 0, 0, 0, 0, 0, 0, 0, 0, 0, 0, 2, 0, 0, 2, 2, 2, 2, 2, 0, 0, 0, 2, 2, 2, 0, 2, 2, 0, 0, 0, 0]]
def aw_fk (ci k : Nat) : Nat := (aw_fkL.getD ci []).getD k 0
def aw_ad (G : GG) (r : Nat) : Nat := if r < 1000 then G.2.2.1.size + (r - 1) else G.2.2.2.1 (r - 1000)
def aw_rv (G : GG) (r : Nat) : Value := if r = 0 then .null else .ref (aw_ad G r)
def aw_cV (G : GG) : Value → Value
  | .ref r => aw_rv G r
  | v => v
def aw_u {α : Type} (f : Nat → Nat → α) (o k : Nat) (v : α) : Nat → Nat → α := fun o' k' => if o' = o ∧ k' = k then v else f o' k'
def aw_fv (G : GG) (h : HH) (o ci k : Nat) : Value := if aw_fk ci k = 0 then .int (h.2.1 o k) else if aw_fk ci k = 1 then .long (h.2.2.1 o k) else aw_rv G (h.2.2.2 o k)
/-- the object o lies in the heap as the picture h has it -/
def aw_at (G : GG) (h : HH) (o : Nat) (H : Heap) : Prop :=
  (∀ ci, aw_kp o = (0, ci) → ∃ r : vw_C, vwCl[ci]? = some r ∧ t_OB (aw_ad G o) (G.1.1 ci) r.2.2 (G.1.2 ci) H (aw_fv G h o ci)) ∧
  (∀ n, aw_kp o = (1, n) → H[aw_ad G o]? = some (arrV (G.2.1 0) n (fun j => .int (h.2.1 o j)))) ∧
  (∀ n, aw_kp o = (2, n) → H[aw_ad G o]? = some (arrV (G.2.1 1) n (fun j => .long (h.2.2.1 o j)))) ∧
  (∀ n, aw_kp o = (3, n) → H[aw_ad G o]? = some (arrV (G.2.1 2) n (fun j => .int (h.2.1 o j)))) ∧
  (∀ n, aw_kp o = (4, n) → H[aw_ad G o]? = some (arrV (G.2.1 3) n (fun j => aw_rv G (h.2.2.2 o j))))
/-- the heap holds the picture h, and the old heap as it was -/
def aw_Rep (G : GG) (h : HH) (H : Heap) : Prop := H.size = G.2.2.1.size + h.1 ∧ (∀ q : Nat, q < G.2.2.1.size → H[q]? = G.2.2.1[q]?) ∧ ∀ o : Nat, 1 ≤ o → o ≤ h.1 → aw_at G h o H
theorem aw_kp_big {o : Nat} (h : 1000 ≤ o) : aw_kp o = (9, 0) := by
  unfold aw_kp
  rw [List.getD_eq_getElem?_getD, List.getElem?_eq_none (Nat.le_trans (show aw_kpL.length ≤ 1000 by decide +kernel) h)]
  rfl
theorem aw_kp_lt {o t n : Nat} (h : aw_kp o = (t, n)) (ht : t < 9) : o < 1000 := by
  rcases Nat.lt_or_ge o 1000 with h1 | h1
  · exact h1
  · rw [aw_kp_big h1] at h
    cases h
    omega
theorem aw_ad_lt {G : GG} {o : Nat} (h : o < 1000) : aw_ad G o = G.2.2.1.size + (o - 1) := if_pos h
theorem aw_ad_ne {G : GG} {o o' : Nat} (h0 : 1 ≤ o) (h0' : 1 ≤ o') (h : o < 1000) (h' : o' < 1000) (hne : o' ≠ o) : aw_ad G o' ≠ aw_ad G o := by
  rw [aw_ad_lt h, aw_ad_lt h']
  omega
/-- another heap that agrees at the object's place, another picture that agrees at the object -/
theorem aw_at.to {G : GG} {h h' : HH} {o : Nat} {H H' : Heap} (a : aw_at G h o H) (hH : o < 1000 → H'[aw_ad G o]? = H[aw_ad G o]?) (h1 : ∀ k, h'.2.1 o k = h.2.1 o k) (h2 : ∀ k, h'.2.2.1 o k = h.2.2.1 o k) (h3 : ∀ k, h'.2.2.2 o k = h.2.2.2 o k) : aw_at G h' o H' := by
  obtain ⟨a0, a1, a2, a3, a4⟩ := a
  refine ⟨fun ci e => ?_, fun n e => ?_, fun n e => ?_, fun n e => ?_, fun n e => ?_⟩
  · obtain ⟨r, hr, hb⟩ := a0 ci e
    refine ⟨r, hr, (hb.kept (hH (aw_kp_lt e (by decide)))).to (fun k _ => ?_)⟩
    unfold aw_fv
    rw [h1, h2, h3]
  · rw [hH (aw_kp_lt e (by decide)), a1 n e]
    simp only [h1]
  · rw [hH (aw_kp_lt e (by decide)), a2 n e]
    simp only [h2]
  · rw [hH (aw_kp_lt e (by decide)), a3 n e]
    simp only [h1]
  · rw [hH (aw_kp_lt e (by decide)), a4 n e]
    simp only [h3]
/-- one object is written: the rest stays -/
theorem aw_Rep.set {G : GG} {h h' : HH} {H H' : Heap} {o : Nat} (R : aw_Rep G h H) (ho : 1 ≤ o) (hk : o < 1000) (hn : h'.1 = h.1) (hz : H'.size = H.size) (oq : ∀ q : Nat, q ≠ aw_ad G o → H'[q]? = H[q]?)
    (h1 : ∀ o' k, o' ≠ o → h'.2.1 o' k = h.2.1 o' k) (h2 : ∀ o' k, o' ≠ o → h'.2.2.1 o' k = h.2.2.1 o' k) (h3 : ∀ o' k, o' ≠ o → h'.2.2.2 o' k = h.2.2.2 o' k) (hat : aw_at G h' o H') : aw_Rep G h' H' := by
  obtain ⟨r1, r2, r3⟩ := R
  refine ⟨by rw [hz, hn]; exact r1, fun q hq => ?_, fun o' ho' hl => ?_⟩
  · rw [oq q (by rw [aw_ad_lt hk]; omega)]
    exact r2 q hq
  · by_cases e : o' = o
    · subst e
      exact hat
    · exact (r3 o' ho' (by rw [← hn]; exact hl)).to (fun hk' => oq _ (aw_ad_ne ho ho' hk hk' e)) (fun k => h1 o' k e) (fun k => h2 o' k e) (fun k => h3 o' k e)
theorem aw_u_ne {α : Type} {f : Nat → Nat → α} {o k o' k' : Nat} {v : α} (h : o' ≠ o) : aw_u f o k v o' k' = f o' k' := if_neg (fun e => h e.1)
theorem aw_u_nk {α : Type} {f : Nat → Nat → α} {o k o' k' : Nat} {v : α} (h : k' ≠ k) : aw_u f o k v o' k' = f o' k' := if_neg (fun e => h e.2)
theorem aw_u_eq {α : Type} {f : Nat → Nat → α} {o k : Nat} {v : α} : aw_u f o k v o k = v := if_pos ⟨rfl, rfl⟩
/-! locals, by their places -/
def aw_prs (G : GG) : Nat → List (Option Value) → List (Nat × Value)
  | _, [] => []
  | i, some v :: r => (i, aw_cV G v) :: aw_prs G (i + 1) r
  | i, none :: r => aw_prs G (i + 1) r
theorem aw_prs_mem (G : GG) : ∀ (L : List (Option Value)) (i k : Nat) (v : Value), L[k]? = some (some v) → (i + k, aw_cV G v) ∈ aw_prs G i L
  | [], _, k, v, h => by simp at h
  | some w :: r, i, 0, v, h => by
    simp at h
    subst h
    exact List.mem_cons_self
  | none :: r, i, 0, v, h => by simp at h
  | some w :: r, i, k + 1, v, h => by
    have h1 := aw_prs_mem G r (i + 1) k v (by simpa using h)
    rw [show i + 1 + k = i + (k + 1) by omega] at h1
    exact List.mem_cons_of_mem _ h1
  | none :: r, i, k + 1, v, h => by
    have h1 := aw_prs_mem G r (i + 1) k v (by simpa using h)
    rw [show i + 1 + k = i + (k + 1) by omega] at h1
    exact h1
theorem aw_prs_of (G : GG) : ∀ (L : List (Option Value)) (i : Nat) (q : Nat × Value), q ∈ aw_prs G i L → ∃ k v, L[k]? = some (some v) ∧ q = (i + k, aw_cV G v)
  | [], _, q, h => by cases h
  | some w :: r, i, q, h => by
    rcases List.mem_cons.mp h with e | h1
    · exact ⟨0, w, rfl, e⟩
    · obtain ⟨k, v, h2, h3⟩ := aw_prs_of G r (i + 1) q h1
      exact ⟨k + 1, v, by simpa using h2, by rw [h3, show i + 1 + k = i + (k + 1) by omega]⟩
  | none :: r, i, q, h => by
    obtain ⟨k, v, h2, h3⟩ := aw_prs_of G r (i + 1) q h
    exact ⟨k + 1, v, by simpa using h2, by rw [h3, show i + 1 + k = i + (k + 1) by omega]⟩
def aw_LV (G : GG) (ls : Array Slot) (nL : Nat) (L : List (Option Value)) : Prop := lv_has ls nL (aw_prs G 0 L)
theorem aw_LV.get {G : GG} {ls : Array Slot} {nL : Nat} {L : List (Option Value)} (h : aw_LV G ls nL L) {i : Nat} {v : Value} (hv : L[i]? = some (some v)) : ls[i]? = some (.val (aw_cV G v)) := by
  have h1 := h.2.2 _ (aw_prs_mem G L 0 i v hv)
  simpa using h1
theorem aw_LV.of {G : GG} {ls : Array Slot} {nL : Nat} {L : List (Option Value)} {lv : List (Nat × Value)} (h : lv_has ls nL lv) (hs : ∀ (i : Nat) (v : Value), L[i]? = some (some v) → (i, aw_cV G v) ∈ lv) : aw_LV G ls nL L := by
  refine ⟨h.1, h.2.1, fun q hq => ?_⟩
  obtain ⟨k, v, h1, h2⟩ := aw_prs_of G L 0 q hq
  subst h2
  have h3 := h.2.2 _ (hs k v h1)
  simpa using h3
/-- what is no longer read may be forgotten -/
def aw_msk : List Bool → List (Option Value) → List (Option Value)
  | true :: b, v :: r => v :: aw_msk b r
  | false :: b, _ :: r => none :: aw_msk b r
  | _, _ => []
theorem aw_msk_get : ∀ (b : List Bool) (L : List (Option Value)) (i : Nat) (v : Value), (aw_msk b L)[i]? = some (some v) → L[i]? = some (some v)
  | true :: b, w :: r, 0, v, h => by simpa [aw_msk] using h
  | true :: b, w :: r, i + 1, v, h => by simpa using aw_msk_get b r i v (by simpa [aw_msk] using h)
  | false :: b, w :: r, 0, v, h => by simp [aw_msk] at h
  | false :: b, w :: r, i + 1, v, h => by simpa using aw_msk_get b r i v (by simpa [aw_msk] using h)
  | [], _, i, v, h => by simp [aw_msk] at h
  | true :: b, [], i, v, h => by simp [aw_msk] at h
  | false :: b, [], i, v, h => by simp [aw_msk] at h
theorem aw_LV.msk {G : GG} {ls : Array Slot} {nL : Nat} {L : List (Option Value)} (h : aw_LV G ls nL L) (b : List Bool) : aw_LV G ls nL (aw_msk b L) := aw_LV.of h (fun i v hv => by simpa using aw_prs_mem G L 0 i v (aw_msk_get b L i v hv))
/-- the place before i holds no long -/
def aw_ok (L : List (Option Value)) (i : Nat) : Bool := match i with
  | 0 => true
  | j + 1 => match L[j]? with
    | some (some (.long _)) => false
    | some (some (.double _)) => false
    | _ => true
theorem aw_cV_cat (G : GG) (v : Value) : (aw_cV G v).category = v.category := by
  cases v <;> try rfl
  show (aw_rv G _).category = _
  unfold aw_rv
  split <;> rfl
theorem aw_keep {G : GG} {L : List (Option Value)} {i : Nat} (hok : aw_ok L i = true) {j : Nat} {v : Value} (hj : j ≠ i) (hv : L[j]? = some (some v)) : (!(j == i) && !(j + 1 == i && (aw_cV G v).category == 2)) = true := by
  rw [aw_cV_cat]
  simp only [Bool.and_eq_true, Bool.not_eq_true', beq_eq_false_iff_ne, ne_eq, Bool.and_eq_false_imp, beq_iff_eq]
  refine ⟨hj, fun e => ?_⟩
  subst e
  unfold aw_ok at hok
  simp only [hv] at hok
  cases v <;> simp_all [Value.category]
theorem aw_st1 {G : GG} {ls : Array Slot} {nL : Nat} {L : List (Option Value)} {i : Nat} {v : Value} (hok : aw_ok L i = true) (h : lv_has ls nL ((i, aw_cV G v) :: (aw_prs G 0 L).filter (fun q => !(q.1 == i) && !(q.1 + 1 == i && q.2.category == 2)))) : aw_LV G ls nL (L.set i (some v)) := by
  refine aw_LV.of h (fun j w hj => ?_)
  by_cases e : j = i
  · subst e
    have hl : j < L.length := by
      have := (List.getElem?_eq_some_iff.mp hj).1
      simpa using this
    rw [List.getElem?_set_self hl] at hj
    cases hj
    exact List.mem_cons_self
  · rw [List.getElem?_set_ne (Ne.symm e)] at hj
    refine List.mem_cons_of_mem _ (List.mem_filter.mpr ⟨by simpa using aw_prs_mem G L 0 j w hj, ?_⟩)
    exact aw_keep hok e hj
theorem aw_st2 {G : GG} {ls : Array Slot} {nL : Nat} {L : List (Option Value)} {i : Nat} {v : Value} (hok : aw_ok L i = true) (h : lv_has ls nL ((i, aw_cV G v) :: (aw_prs G 0 L).filter (fun q => !(q.1 == i) && (!(q.1 == i + 1) && !(q.1 + 1 == i && q.2.category == 2))))) : aw_LV G ls nL ((L.set i (some v)).set (i + 1) none) := by
  refine aw_LV.of h (fun j w hj => ?_)
  by_cases e1 : j = i + 1
  · subst e1
    by_cases hl : i + 1 < (L.set i (some v)).length
    · rw [List.getElem?_set_self hl] at hj
      cases hj
    · rw [List.getElem?_eq_none (by simp at hl ⊢; omega)] at hj
      cases hj
  · rw [List.getElem?_set_ne (Ne.symm e1)] at hj
    by_cases e : j = i
    · subst e
      have hl : j < L.length := by
        have := (List.getElem?_eq_some_iff.mp hj).1
        simpa using this
      rw [List.getElem?_set_self hl] at hj
      cases hj
      exact List.mem_cons_self
    · rw [List.getElem?_set_ne (Ne.symm e)] at hj
      refine List.mem_cons_of_mem _ (List.mem_filter.mpr ⟨by simpa using aw_prs_mem G L 0 j w hj, ?_⟩)
      have hh := aw_keep (G := G) hok e hj
      simp only [Bool.and_eq_true, Bool.not_eq_true', beq_eq_false_iff_ne, ne_eq] at hh ⊢
      exact ⟨hh.1, e1, hh.2⟩
def aw_ent : List Value → List (Option Value)
  | [] => []
  | .long x :: r => some (.long x) :: none :: aw_ent r
  | .double x :: r => some (.double x) :: none :: aw_ent r
  | v :: r => some v :: aw_ent r
theorem aw_ent1 {v : Value} (r : List Value) (h : v.category ≠ 2) : aw_ent (v :: r) = some v :: aw_ent r := by
  cases v <;> first | rfl | exact absurd rfl h
theorem aw_ent2 {v : Value} (r : List Value) (h : v.category = 2) : aw_ent (v :: r) = some v :: none :: aw_ent r := by
  cases v <;> first | rfl | cases h
theorem aw_ent_mem (G : GG) : ∀ (As : List Value) (i k : Nat) (v : Value), (aw_ent As)[k]? = some (some v) → (i + k, aw_cV G v) ∈ lv_args i (As.map (aw_cV G))
  | [], _, k, v, h => by simp [aw_ent] at h
  | w :: r, i, k, v, h => by
    simp only [List.map_cons, lv_args, aw_cV_cat]
    by_cases hc : w.category = 2
    · rw [aw_ent2 r hc] at h
      rw [if_pos hc]
      match k, h with
      | 0, h => simp at h; subst h; exact List.mem_cons_self
      | 1, h => simp at h
      | k + 2, h =>
        have h1 := aw_ent_mem G r (i + 2) k v (by simpa using h)
        rw [show i + 2 + k = i + (k + 2) by omega] at h1
        exact List.mem_cons_of_mem _ h1
    · rw [aw_ent1 r hc] at h
      rw [if_neg hc]
      match k, h with
      | 0, h => simp at h; subst h; exact List.mem_cons_self
      | k + 1, h =>
        have h1 := aw_ent_mem G r (i + 1) k v (by simpa using h)
        rw [show i + 1 + k = i + (k + 1) by omega] at h1
        exact List.mem_cons_of_mem _ h1
