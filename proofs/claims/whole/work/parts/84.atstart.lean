/-! ===== the start: what the tables say there ===== -/
abbrev SQ : Type := String × Nat × String × List Int32
def sx_F : Cond := Jvm.Cond.and given_1 narrow_1
def sx_d : SQ := ("", 0, "", [])
def sx_tm (q : SQ) : Term := .string q.1 q.2.1
def sx_v (q : SQ) : Term := .field (sx_tm q) "java/lang/String" "value" "[B"
def sx_w1 (q : SQ) : Cond := .exactly (sx_tm q) "java/lang/String"
def sx_w2 (q : SQ) : Cond := .eq (.field (sx_tm q) "java/lang/String" "coder" "B") (.int 0)
def sx_w3 (q : SQ) : Cond := .arrayOf (sx_v q) .byte
def sx_w4 (q : SQ) : Cond := .eq (.length (sx_v q)) (.int (Int32.ofNat q.2.2.2.length))
def sx_w5 (q : SQ) (j : Nat) : Cond := .eq (.elem (sx_v q) (.int (Int32.ofNat j))) (.int (q.2.2.2.getD j 0))
/-- what the statement gives of a String constant -/
def sx_of (q : SQ) : List Cond := sx_w1 q :: sx_w2 q :: sx_w3 q :: sx_w4 q :: (List.range q.2.2.2.length).map (sx_w5 q)
def sx_ix : List Nat := [22, 31, 38, 46, 56, 64, 75, 83, 91, 99, 107, 115, 125, 133, 141, 150, 159, 169, 179, 187, 231, 241, 250, 259, 268, 277, 285, 294, 305, 314, 326, 335, 346, 355, 364, 374, 384, 395, 406]
def sx_jx : List Nat := [545, 598, 599, 600, 601, 602, 603, 612, 621, 622, 623, 644, 645, 646, 647, 648, 649, 662, 667, 1210, 1383, 1398, 1415, 1416, 1417, 1418, 1439, 1440, 1441, 1442, 1443, 1448, 1449, 1450, 1451, 1452, 1453, 1466, 1471]
theorem sx_in : ∀ i, i < 39 → ((flatC sx_F).drop (sx_ix.getD i 0)).take (sx_of (aw_strs.getD i sx_d)).length = sx_of (aw_strs.getD i sx_d) := by decide +kernel
theorem sx_rf : ∀ i, i < 39 → lw_tbl[sx_jx.getD i 0]? = some (.stringRef (aw_strs.getD i sx_d).1 (aw_strs.getD i sx_d).2.1 (aw_strs.getD i sx_d).2.2.1) := by decide +kernel
theorem sx_sh : ∀ i, i < 39 → (aw_strs.getD i sx_d).2.2.2.length < 2 ^ 31 := by decide +kernel
theorem sx_ln : aw_strs.length = 39 := by decide +kernel
theorem sx_nest : ∀ q ∈ aw_nest, Cond.methodLinkNest q.1 q.2.1 q.2.2 RX9 ∈ lw_tbl :=
  List.forall_mem_cons.mpr ⟨List.mem_of_getElem? (i := 142) (by decide +kernel), List.forall_mem_cons.mpr ⟨List.mem_of_getElem? (i := 189) (by decide +kernel), List.forall_mem_cons.mpr ⟨List.mem_of_getElem? (i := 222) (by decide +kernel), List.forall_mem_cons.mpr ⟨List.mem_of_getElem? (i := 243) (by decide +kernel), List.forall_mem_cons.mpr ⟨List.mem_of_getElem? (i := 260) (by decide +kernel), List.forall_mem_cons.mpr ⟨List.mem_of_getElem? (i := 281) (by decide +kernel), List.forall_mem_cons.mpr ⟨List.mem_of_getElem? (i := 305) (by decide +kernel), List.forall_mem_cons.mpr ⟨List.mem_of_getElem? (i := 310) (by decide +kernel), List.forall_mem_cons.mpr ⟨List.mem_of_getElem? (i := 322) (by decide +kernel), fun _ h => absurd h List.not_mem_nil⟩⟩⟩⟩⟩⟩⟩⟩⟩
theorem sx_ao : Cond.arrayOver (.object RX2) ∈ lw_tbl := List.mem_of_getElem? (i := 221) (by decide +kernel)
/-- what stands of the String constant q at the address a, its bytes at t -/
def sx_S (q : SQ) (a t : Nat) (s : State) : Prop :=
  vk_R q.1 q.2.1 q.2.2.1 a s ∧ va_O "java/lang/String" a (fun q => s.heap.size ≤ q) s s.heap ∧ va_OF "java/lang/String" "coder" "B" (.int 0) a (fun q => s.heap.size ≤ q) s s.heap ∧ va_OF "java/lang/String" "value" "[B" (.ref t) a (fun q => s.heap.size ≤ q) s s.heap ∧
    va_T .byte t q.2.2.2.length (fun j => .int (q.2.2.2.getD j 0)) (fun q => s.heap.size ≤ q) s s.heap
theorem sx_one {args : Array Value} {s : State} (hts : ∀ w ∈ lw_tbl, w.before args s = true) (hgv : sx_F.before args s = true) (i : Nat) (hi : i < 39) : ∃ a t : Nat, sx_S (aw_strs.getD i sx_d) a t s := by
  have hin := sx_in i hi
  have hrf := hts _ (List.mem_of_getElem? (sx_rf i hi))
  have hsh := sx_sh i hi
  generalize aw_strs.getD i sx_d = q at hin hrf hsh ⊢
  have hw : ∀ w ∈ sx_of q, w.before args s = true := fun w hw => flat_of_before _ hgv w (by rw [← hin] at hw; exact List.mem_of_mem_drop (List.mem_of_mem_take hw))
  have w1 : (Cond.exactly (sx_tm q) "java/lang/String").before args s = true := hw _ List.mem_cons_self
  have w2 : (Cond.eq (.field (sx_tm q) "java/lang/String" "coder" "B") (.int 0)).before args s = true := hw _ (List.mem_cons_of_mem _ List.mem_cons_self)
  have w3 : (Cond.arrayOf (sx_v q) .byte).before args s = true := hw _ (List.mem_cons_of_mem _ (List.mem_cons_of_mem _ List.mem_cons_self))
  have w4 : (Cond.eq (.length (sx_v q)) (.int (Int32.ofNat q.2.2.2.length))).before args s = true := hw _ (List.mem_cons_of_mem _ (List.mem_cons_of_mem _ (List.mem_cons_of_mem _ List.mem_cons_self)))
  have w5 : ∀ j, j < q.2.2.2.length → (Cond.eq (.elem (sx_v q) (.int (Int32.ofNat j))) (.int (q.2.2.2.getD j 0))).before args s = true := fun j hj => hw _ (List.mem_cons_of_mem _ (List.mem_cons_of_mem _ (List.mem_cons_of_mem _ (List.mem_cons_of_mem _ (List.mem_map.mpr ⟨j, List.mem_range.mpr hj, rfl⟩)))))
  have hA : ∀ a : Nat, a < s.heap.size → ¬ s.heap.size ≤ a := fun a h => Nat.not_le.mpr h
  obtain ⟨a, c, cA, kA, q1, q2, q3, q4, q5, q6, -⟩ := Cond.exactly_spec (args := args) (first := s) (o := none) (s := s) (idx := []) (t := sx_tm q) (cls := "java/lang/String") w1
  obtain ⟨t, ht, hT⟩ := va_Tof (f := fun j => .int (q.2.2.2.getD j 0)) (A := fun q => s.heap.size ≤ q) hsh w3 (va_eqt w4) (fun j hj => va_eqt (w5 j hj)) hA
  exact ⟨a, t, vk_R.of hrf q1, ⟨cA, q3, q5, by rw [q6]; exact q2, hA a (Array.getElem?_eq_some_iff.mp q3).1⟩, vk_OFof q1 (va_eqt w2) hA, vk_OFof q1 ht hA, hT⟩
theorem sx_arr {args : Array Value} {s : State} {ty : FieldType} (h : (Cond.arrayClass ty).before args s = true) : ∃ cA : ClassId, ArrOfT s cA ty ∧ s.vm.findClass ("[" ++ ty.toString) = some cA := by
  obtain ⟨c, k, comp, h1, h2, h3⟩ := Cond.arrayClass_spec h
  exact ⟨c, fun n z => ⟨fun k h => (by cases h), k, h2, comp, h3⟩, h1⟩
theorem sx_obj {args : Array Value} {s : State} {C : String} (h : (Cond.arrayOver (.object C)).before args s = true) : ∃ cA : ClassId, ArrOfT s cA (.object C) ∧ va_RA s cA (.object C) := by
  obtain ⟨comp, c, k, h1, h2, h3, h4, h5⟩ := Cond.arrayOver_spec h
  exact ⟨c, fun n z => ⟨fun k h => (by cases h), k, h3, comp, h4⟩, k, comp, h3, h4, h1, h5⟩
theorem sx_kn {args : Array Value} {s : State} {ci : Nat} {C : String} {T : u_T} {N : Nat} {ty : Nat → FieldType} (hts : ∀ w ∈ aw_TT, w.before args s = true) (h : aw_Cl ci C T N ty) (hi : Cond.instantiable C N ∈ aw_TT) : ∃ p : ClassId × (Nat → Nat), ∀ q : vw_C, vwCl[ci]? = some q → u_Kn s q.1 q.2.1 q.2.2 p.1 p.2 := by
  obtain ⟨cC, iS, hk⟩ := u_known (C := C) (T := T) (N := N) (n := N) hts h.2.1 (hts _ hi)
  refine ⟨(cC, iS), fun q hq => ?_⟩
  rw [h.1] at hq
  cases hq
  exact hk
theorem sx_K {s : State} {b : Nat} (hts : ∀ w ∈ lw_tbl, w.before #[Value.ref b] s = true) (hgv : sx_F.before #[Value.ref b] s = true) : ∃ G : GG, G.2.2.1 = s.heap ∧ G.2.2.2.1 99 = b ∧ aw_K G s := by
  have htT : ∀ w ∈ aw_TT, w.before #[Value.ref b] s = true := fun w hw => hts w (List.mem_filter.mp hw).1
  have hc : ∀ ci : Nat, ∃ p : ClassId × (Nat → Nat), ∀ q : vw_C, vwCl[ci]? = some q → u_Kn s q.1 q.2.1 q.2.2 p.1 p.2 := by
    intro ci
    match ci with
    | 0 => exact sx_kn htT aw_cl0 ww_327
    | 1 => exact sx_kn htT aw_cl1 ww_321
    | 2 => exact sx_kn htT aw_cl2 ww_188
    | 3 => exact sx_kn htT aw_cl3 ww_304
    | 4 => exact sx_kn htT aw_cl4 ww_280
    | 5 => exact sx_kn htT aw_cl5 ww_215
    | 6 => exact sx_kn htT aw_cl6 ww_259
    | 7 => exact sx_kn htT aw_cl7 ww_242
    | 8 => exact sx_kn htT aw_cl8 ww_141
    | 9 => exact sx_kn htT aw_cl9 ww_133
    | 10 => exact sx_kn htT aw_cl10 ww_1237
    | k + 11 => exact ⟨sx_kn htT aw_cl0 ww_327 |>.choose, fun q hq => by simp at hq⟩
  obtain ⟨cl, hcl⟩ := Classical.axiomOfChoice hc
  obtain ⟨a0, hI, nI0⟩ := sx_arr (htT _ ww_213)
  obtain ⟨a1, hJ, nJ0⟩ := sx_arr (htT _ ww_186)
  obtain ⟨a2, hB, nB0⟩ := sx_arr (htT _ ww_185)
  obtain ⟨a3, hM, nM0⟩ := sx_obj (hts _ sx_ao)
  have hs : ∀ i : Nat, ∃ p : Nat × Nat, i < 39 → sx_S (aw_strs.getD i sx_d) p.1 p.2 s := by
    intro i
    by_cases hi : i < 39
    · obtain ⟨a, t, h⟩ := sx_one hts hgv i hi
      exact ⟨(a, t), fun _ => h⟩
    · exact ⟨(0, 0), fun h => absurd h hi⟩
  obtain ⟨ad, had⟩ := Classical.axiomOfChoice hs
  refine ⟨((fun c => (cl c).1, fun c => (cl c).2), (fun k => if k = 0 then a0 else if k = 1 then a1 else if k = 2 then a2 else a3), s.heap, (fun i => if i = 99 then b else (ad i).1), fun i => (ad i).2), rfl, rfl, ⟨fun c q hq => hcl c q hq, fun k q hq => ?_⟩, ⟨va_AO.of (hts _ sx_ao), ⟨#[.ref b], rfl⟩, s, rfl, hts, hgv, State.WarmedH.refl s⟩, fun q hq => hts _ (sx_nest q hq), fun i q hq => ?_⟩
  · match k, hq with
    | 0, hq => cases hq; exact ⟨hI, nI0⟩
    | 1, hq => cases hq; exact ⟨hJ, nJ0⟩
    | 2, hq => cases hq; exact ⟨hB, nB0⟩
    | 3, hq => cases hq; exact ⟨hM, nM0⟩
    | k + 4, hq => simp [aw_tys] at hq
  · have hi : i < 39 := by rw [← sx_ln]; exact (List.getElem?_eq_some_iff.mp hq).1
    have h := had i hi
    rw [List.getD_eq_getElem?_getD, hq] at h
    have hne : (if i = 99 then b else (ad i).1) = (ad i).1 := if_neg (by omega)
    show vk_R _ _ _ (if i = 99 then b else (ad i).1) s ∧ va_O _ (if i = 99 then b else (ad i).1) _ s s.heap ∧ va_OF _ _ _ _ (if i = 99 then b else (ad i).1) _ s s.heap ∧ va_OF _ _ _ _ (if i = 99 then b else (ad i).1) _ s s.heap ∧ _
    rw [hne]
    exact h
