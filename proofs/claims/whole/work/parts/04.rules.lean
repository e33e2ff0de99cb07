def aw_strs : List (String × Nat × String × List Int32) := [(RX8, 81, "duchy", [100, 117, 99, 104, 121]), (RX8, 90, "man", [109, 97, 110]), (RX8, 95, "owes", [111, 119, 101, 115]), (RX8, 105, "rumour", [114, 117, 109, 111, 117, 114]), (RX8, 110, "door", [100, 111, 111, 114]), (RX8, 115, "invited", [105, 110, 118, 105, 116, 101, 100]), (RX8, 228, "read", [114, 101, 97, 100]), (RX8, 123, "tine", [116, 105, 110, 101]), (RX8, 137, "errs", [101, 114, 114, 115]), (RX8, 141, "lock", [108, 111, 99, 107]), (RX8, 145, "moth", [109, 111, 116, 104]), (RX8, 220, "common", [99, 111, 109, 109, 111, 110]), (RX8, 222, "lady", [108, 97, 100, 121]), (RX8, 224, "duke", [100, 117, 107, 101]), (RX8, 226, "freak", [102, 114, 101, 97, 107]), (RX8, 160, "coins", [99, 111, 105, 110, 115]), (RX8, 165, "strong", [115, 116, 114, 111, 110, 103]), (RX8, 184, "spring", [115, 112, 114, 105, 110, 103]), (RX8, 201, "wide", [119, 105, 100, 101]), (RX9, 328, "no such man wears more than his strength", [110, 111, 32, 115, 117, 99, 104, 32, 109, 97, 110, 32, 119, 101, 97, 114, 115, 32, 109, 111, 114, 101, 32, 116, 104, 97, 110, 32, 104, 105, 115, 32, 115, 116, 114, 101, 110, 103, 116, 104]), (RX10, 119, "duchy", [100, 117, 99, 104, 121]), (RX10, 201, "tine", [116, 105, 110, 101]), (RX10, 207, "errs", [101, 114, 114, 115]), (RX10, 209, "lock", [108, 111, 99, 107]), (RX10, 211, "moth", [109, 111, 116, 104]), (RX10, 121, "man", [109, 97, 110]), (RX10, 123, "owes", [111, 119, 101, 115]), (RX10, 125, "rumour", [114, 117, 109, 111, 117, 114]), (RX10, 127, "door", [100, 111, 111, 114]), (RX10, 129, "invited", [105, 110, 118, 105, 116, 101, 100]), (RX10, 131, "read", [114, 101, 97, 100]), (RX10, 217, "common", [99, 111, 109, 109, 111, 110]), (RX10, 219, "lady", [108, 97, 100, 121]), (RX10, 221, "duke", [100, 117, 107, 101]), (RX10, 223, "freak", [102, 114, 101, 97, 107]), (RX10, 225, "coins", [99, 111, 105, 110, 115]), (RX10, 227, "strong", [115, 116, 114, 111, 110, 103]), (RX10, 232, "spring", [115, 112, 114, 105, 110, 103]), (RX10, 234, "wide", [119, 105, 100, 101])]
def aw_nest : List (String × Nat × MethodName) := [(RX9, 9, yX8_init), (RX9, 18, yX2_init), (RX5, 20, yX2_init), (RX9, 32, yX7_init), (RX9, 39, yX6_init), (RX9, 46, yX4_init), (RX9, 53, yX3_init), (RX3, 9, yX2_init), (RX9, 60, yX1_init)]
/-! ===== contexts, contracts ===== -/
def aw_TT : List Cond := lw_tbl.filter goodWord
def aw_ws (y : MD) : List Cond := Cond.code y.1 y.2.1 y.2.2.1 y.2.2.2 :: aw_TT
theorem aw_in {w : Cond} (i : Nat) (h : lw_tbl[i]? = some w) (hg : goodWord w = true) : w ∈ aw_TT := List.mem_filter.mpr ⟨List.mem_of_getElem? h, hg⟩
theorem aw_good {y : MD} (hc : Cond.code y.1 y.2.1 y.2.2.1 y.2.2.2 ∈ aw_TT) : GoodIn aw_TT (aw_ws y) := by
  intro w hw
  have h1 : w ∈ aw_TT := by
    rcases List.mem_cons.mp hw with e | h
    · rw [e]; exact hc
    · exact h
  exact ⟨h1, good_of_word (List.mem_filter.mp h1).2⟩
/-- the String constants: class, entry, text -/
def aw_tys (G : GG) : List (ClassId × FieldType) := [(G.2.1 0, .int), (G.2.1 1, .long), (G.2.1 2, .byte), (G.2.1 3, .object RX2)]
/-- U's tables came from the law's start -/
def aw_O (G : GG) (U : State) : Prop := ∃ (A0 : {A : Array Value // A = #[Value.ref (G.2.2.2.1 99)]}) (s0 : State), s0.heap = G.2.2.1 ∧ (∀ w ∈ lw_tbl, w.before A0.1 s0 = true) ∧ (Jvm.Cond.and given_1 narrow_1).before A0.1 s0 = true ∧ s0.WarmedH U.vm
/-- what the tables say at U: classes, array classes, nest mates, String constants -/
def aw_K (G : GG) (U : State) : Prop :=
  va_K G.1 vwCl (aw_tys G) U ∧ (va_AO RX2 U ∧ aw_O G U) ∧ (∀ q ∈ aw_nest, va_Nw (.methodLinkNest q.1 q.2.1 q.2.2 RX9) U) ∧
  ∀ (i : Nat) (q : String × Nat × String × List Int32), aw_strs[i]? = some q → vk_R q.1 q.2.1 q.2.2.1 (G.2.2.2.1 i) U ∧ va_O "java/lang/String" (G.2.2.2.1 i) (fun q => G.2.2.1.size ≤ q) U G.2.2.1 ∧ va_OF "java/lang/String" "coder" "B" (.int 0) (G.2.2.2.1 i) (fun q => G.2.2.1.size ≤ q) U G.2.2.1 ∧ va_OF "java/lang/String" "value" "[B" (.ref (G.2.2.2.2 i)) (G.2.2.2.1 i) (fun q => G.2.2.1.size ≤ q) U G.2.2.1 ∧
    va_T .byte (G.2.2.2.2 i) q.2.2.2.length (fun j => .int (q.2.2.2.getD j 0)) (fun q => G.2.2.1.size ≤ q) U G.2.2.1
theorem aw_K.warm {G : GG} {s U : State} (hW : s.WarmedH U.vm) (h : aw_K G s) : aw_K G U := by
  obtain ⟨h1, h2, h3, h4⟩ := h
  refine ⟨va_K.moved hW.alike h1, ⟨va_AO.moved hW.alike h2.1, by obtain ⟨A0, s0, e1, e2, e3, e4⟩ := h2.2; exact ⟨A0, s0, e1, e2, e3, State.WarmedH.trans e4 hW⟩⟩, fun q hq => va_Nw.warmM hW (h3 q hq), fun i q hq => ?_⟩
  obtain ⟨a, b, c, d, e⟩ := h4 i q hq
  exact ⟨vk_R.warm hW a, va_O.moved hW.alike b, va_OF.moved hW.alike c, va_OF.moved hW.alike d, va_T.moved hW.alike e⟩
theorem aw_K.same {G : GG} {s U : State} (hv : U.vm = s.vm) (h : aw_K G s) : aw_K G U := by
  obtain ⟨h1, h2, h3, h4⟩ := h
  have ha : s.vm.Alike U.vm := by rw [hv]; exact Vm.Alike.refl _
  refine ⟨va_K.moved ha h1, ⟨va_AO.moved ha h2.1, by obtain ⟨A0, s0, e1, e2, e3, e4⟩ := h2.2; exact ⟨A0, s0, e1, e2, e3, by rw [hv]; exact e4⟩⟩, fun q hq => va_Nw.same rfl hv.symm (h3 q hq), fun i q hq => ?_⟩
  obtain ⟨a, b, c, d, e⟩ := h4 i q hq
  exact ⟨vk_R.same hv a, va_O.moved ha b, va_OF.moved ha c, va_OF.moved ha d, va_T.moved ha e⟩
/-- a method's end: the instruction at pc gives v back -/
def aw_Ret (y : MD) (pc : Nat) (st : List Value) (v : Option Value) : Prop :=
  (v = none ∧ st = [] ∧ y.2.2.2 = none ∧ decode y.2.1 pc = .ok (.return_, 1)) ∨
  (∃ x : Int32, v = some (.int x) ∧ st = [.int x] ∧ decode y.2.1 pc = .ok (.ireturn, 1) ∧ ∃ ty, y.2.2.2 = some ty ∧ narrow ty (.int x) = .int x) ∨
  (∃ x : Int64, v = some (.long x) ∧ st = [.long x] ∧ decode y.2.1 pc = .ok (.lreturn, 1) ∧ y.2.2.2 = some .long)
def aw_Ex (G : GG) (y : MD) (Q : Option Value → HH → Prop) (p : Program) (l : Launch) (e : Env) (R : Room) (s : State) (m : MethodId) (args : Array Value) (below : List Frame) (meth : Method) (c : Code) (QQ : State → Prop) : Prop :=
  l.stackTraces = false ∧ (∀ (v : Option Value) (h : HH) (H : Heap) (locs : List Loc) (cells slots pc : Nat) (ls : Array Slot) (st : List Value), Q v h → aw_Rep G h H → (∀ q ∈ locs, G.2.2.1.size ≤ q.base) → cells ≤ R.cells → slots ≤ R.slots → aw_Ret y pc st v →
    W p l e R s m args below meth c H locs cells slots QQ (F0 m pc ls st)) ∧
  ∀ (h : HH) (H : Heap) (locs : List Loc) (cells slots : Nat) (ls : Array Slot), Q (some .null) h → aw_Rep G h H → (∀ q ∈ locs, G.2.2.1.size ≤ q.base) → ls.size = y.2.2.1 → cells + 1 ≤ R.cells → slots + 6 ≤ R.slots →
    W p l e R s m args below meth c H locs cells slots QQ (F0 m 48 ls [])
def aw_Cx (G : GG) (k : Nat) (y : MD) (Q : Option Value → HH → Prop) (p : Program) (l : Launch) (e : Env) (R : Room) (s : State) (m : MethodId) (args : Array Value) (below : List Frame) (meth : Method) (c : Code) (QQ : State → Prop) : Prop :=
  p.tables.exec = Jvm.exec ∧ c.code = y.2.1 ∧ c.maxLocals = y.2.2.1 ∧ s.vm.findClass y.1.cls = some m.cls ∧ (∀ w ∈ aw_TT, w.before args s = true) ∧ meth.name = y.1.name ∧ aw_K G s ∧ k ≤ R.frames ∧ 64 * k ≤ R.locals ∧ aw_Ex G y Q p l e R s m args below meth c QQ
def aw_St (G : GG) (y : MD) (R : Room) (a b : Nat) (L : List (Option Value)) (h : HH) (H : Heap) (locs : List Loc) (ls : Array Slot) (cells slots : Nat) : Prop :=
  aw_Rep G h H ∧ (∀ q ∈ locs, G.2.2.1.size ≤ q.base) ∧ aw_LV G ls y.2.2.1 L ∧ cells + a ≤ R.cells ∧ slots + b ≤ R.slots
/-- from pc, with locals L, stack S and picture h, the method y comes to its end with Q; k calls deep, a cells of b slots may be made -/
def SW (G : GG) (k : Nat) (y : MD) (Q : Option Value → HH → Prop) (a b pc : Nat) (L : List (Option Value)) (S : List Value) (h : HH) : Prop :=
  ∀ (p : Program) (l : Launch) (e : Env) (R : Room) (s : State) (m : MethodId) (args : Array Value) (below : List Frame) (meth : Method) (c : Code) (QQ : State → Prop), aw_Cx G k y Q p l e R s m args below meth c QQ →
    ∀ (H : Heap) (locs : List Loc) (ls : Array Slot) (cells slots : Nat), aw_St G y R a b L h H locs ls cells slots → W p l e R s m args below meth c H locs cells slots QQ (F0 m pc ls (S.map (aw_cV G)))
def aw_Pc (G : GG) (As : List Value) (h : HH) : Array Value → State → Prop := fun v U => v = (As.map (aw_cV G)).toArray ∧ aw_Rep G h U.heap ∧ aw_K G U
def aw_Qc (G : GG) (Q : Option Value → HH → Prop) : Array Value → State → Outcome → State → Prop := fun _ _ o t => ∃ (v : Option Value) (h : HH), o = .returned v ∧ Q v h ∧ aw_Rep G h t.heap
def aw_rm (k a b : Nat) : Room := { frames := k, cells := a, slots := b, locals := 64 * k }
/-- the contract of a method -/
def SM (G : GG) (k : Nat) (y : MD) (a b : Nat) (As : List Value) (h : HH) (Q : Option Value → HH → Prop) : Prop :=
  ∀ l : Launch, l.stackTraces = false → Met l y.1 (aw_ws y) (aw_rm k a b) (aw_Pc G As h) (aw_Qc G Q) a b (fun q => G.2.2.1.size ≤ q)
theorem aw_blind (G : GG) (As : List Value) (h : HH) : FrameBlind (aw_Pc G As h) := fun _ U _ _ q => ⟨q.1, q.2.1, q.2.2.same (s := U) rfl⟩
theorem SW.go {G : GG} {k : Nat} {y : MD} {Q : Option Value → HH → Prop} {a b pc : Nat} {L : List (Option Value)} {S : List Value} {h : HH} (kk : SW G k y Q a b pc L S h) {p : Program} {l : Launch} {e : Env} {R : Room} {s : State} {m : MethodId} {args : Array Value} {below : List Frame} {meth : Method} {c : Code} {QQ : State → Prop} (C : aw_Cx G k y Q p l e R s m args below meth c QQ)
    {H : Heap} {locs : List Loc} {ls : Array Slot} {cells slots : Nat} (B : aw_St G y R a b L h H locs ls cells slots) : W p l e R s m args below meth c H locs cells slots QQ (F0 m pc ls (S.map (aw_cV G))) := kk p l e R s m args below meth c QQ C H locs ls cells slots B
/-- a body's walk gives the contract -/
theorem SM.of {G : GG} {k : Nat} {y : MD} {Q : Option Value → HH → Prop} {a b : Nat} {As : List Value} {h : HH} (L : List (Option Value)) (hy : plainName y.1.cls = true) (hL : aw_ent As ++ List.replicate (y.2.2.1 - (aw_ent As).length) none = L) (hn : (lg_sl As).length ≤ y.2.2.1) (kk : SW G k y Q a b 0 L [] h) (hnt : ∀ h, Q (some .null) h → False := by intro _ hq; first | (obtain ⟨hx, _⟩ := hq; exact nomatch hx) | (obtain ⟨_, hx, _⟩ := hq; exact nomatch hx)) : SM G k y a b As h Q := by
  intro l hfl
  refine Met.ofW (cc := y.2.1) (maxL := y.2.2.1) (ret := y.2.2.2) (ws' := aw_TT) hy rfl ?_
  intro p e s m args below meth c s₁ B hml hv
  obtain ⟨rfl, hR, hK⟩ := hv
  have hts := atoms_spec (ws := aw_ws y) B.pre
  have hlen : ∀ As : List Value, (lg_sl (As.map (aw_cV G))).length = (lg_sl As).length := by
    intro As
    induction As with
    | nil => rfl
    | cons v r ih =>
      show ((if (aw_cV G v).category = 2 then _ else _) ++ lg_sl (r.map (aw_cV G))).length = ((if v.category = 2 then _ else _) ++ lg_sl r).length
      rw [List.length_append, List.length_append, ih, aw_cV_cat]
      split <;> rfl
  have hl := lv_entry (As.map (aw_cV G)) (n := y.2.2.1) (by rw [hlen]; exact hn)
  rw [lg_entry_eq]
  generalize (lg_sl (As.map (aw_cV G)) ++ List.replicate (y.2.2.1 - (lg_sl (As.map (aw_cV G))).length) Slot.unset).toArray = ls at hl ⊢
  have hLV : aw_LV G ls y.2.2.1 L := by
    refine aw_LV.of hl (fun i v hv => ?_)
    rw [← hL] at hv
    have hi : i < (aw_ent As).length := by
      rcases Nat.lt_or_ge i (aw_ent As).length with h1 | h1
      · exact h1
      · rw [List.getElem?_append_right h1] at hv
        have := List.mem_of_getElem? hv
        simp at this
    rw [List.getElem?_append_left hi] at hv
    simpa using aw_ent_mem G As 0 i v hv
  have hlocks := B.notSynchronized
  have hr := B.returns
  have hx := B.exec
  have hb := B.bytes
  refine kk.go (R := aw_rm k a b) ⟨hx, hb, hml, findClass_of_methodNamed B.named, fun w hw => hts w (List.mem_cons_of_mem _ hw), (name_of_methodNamed B.named B.method).1, hK, Nat.le_refl _, Nat.le_refl _, ?_⟩ ⟨hR, (fun q h => absurd h List.not_mem_nil), hLV, (Nat.le_of_eq (Nat.zero_add a)), (Nat.le_of_eq (Nat.zero_add b))⟩
  refine ⟨hfl, ?_, fun h _ _ _ _ _ hQ _ _ _ _ _ => (hnt h hQ).elim⟩
  intro v h H locs cells slots pc ls st hQ hR hlo hc hs hret
  refine W.widen hc hs ?_
  rcases hret with ⟨rfl, rfl, hr1, hd⟩ | ⟨x, rfl, rfl, hd, ty, hr1, hnr⟩ | ⟨x, rfl, rfl, hd, hr1⟩
  · exact W.vret hx hb (hr.trans hr1) (fun t ht _ => ⟨none, h, rfl, hQ, by rw [ht]; exact hR⟩) hlo hd
  · exact W.zret hx hb (hr.trans hr1) hnr (fun t ht _ => ⟨some (.int x), h, rfl, hQ, by rw [ht]; exact hR⟩) hlo hd
  · exact W.lret hx hb (hr.trans hr1) (fun t ht _ => ⟨some (.long x), h, rfl, hQ, by rw [ht]; exact hR⟩) hlo hd
/-! ===== the instructions ===== -/
section AwRows
variable {G : GG} {k : Nat} {y : MD} {Q : Option Value → HH → Prop} {a b pc : Nat} {L : List (Option Value)} {S : List Value} {h : HH}
theorem SW.msk (ms : List Bool) {L' : List (Option Value)} (hL : aw_msk ms L = L') (kk : SW G k y Q a b pc L' S h) : SW G k y Q a b pc L S h := by
  intro p l e R s m args below meth c QQ C H locs ls cells slots B
  subst hL
  exact kk.go C ⟨B.1, B.2.1, B.2.2.1.msk ms, B.2.2.2⟩
theorem SW.iconst {n : Int} {v : Int32} (hd : decode y.2.1 pc = .ok (.iconst n, 1)) (hv : Int32.ofInt n = v) (kk : SW G k y Q a b (pc + 1) L (.int v :: S) h) : SW G k y Q a b pc L S h := by
  intro p l e R s m args below meth c QQ C H locs ls cells slots B
  exact lv_iconst C.1 C.2.1 hd hv (kk.go C B)
theorem SW.bipush {n : Int} {v : Int32} (hd : decode y.2.1 pc = .ok (.bipush n, 2)) (hv : (Int8.ofInt n).toInt32 = v) (kk : SW G k y Q a b (pc + 2) L (.int v :: S) h) : SW G k y Q a b pc L S h := by
  intro p l e R s m args below meth c QQ C H locs ls cells slots B
  exact lv_bipush C.1 C.2.1 hd hv (kk.go C B)
theorem SW.sipush {n : Int} {v : Int32} (hd : decode y.2.1 pc = .ok (.sipush n, 3)) (hv : (Int16.ofInt n).toInt32 = v) (kk : SW G k y Q a b (pc + 3) L (.int v :: S) h) : SW G k y Q a b pc L S h := by
  intro p l e R s m args below meth c QQ C H locs ls cells slots B
  exact lv_sipush C.1 C.2.1 hd hv (kk.go C B)
theorem SW.lconst {n : Fin 2} {v : Int64} (hd : decode y.2.1 pc = .ok (.lconst n, 1)) (hv : Int64.ofNat (n : Nat) = v) (kk : SW G k y Q a b (pc + 1) L (.long v :: S) h) : SW G k y Q a b pc L S h := by
  intro p l e R s m args below meth c QQ C H locs ls cells slots B
  exact lv_lconst C.1 C.2.1 hd hv (kk.go C B)
theorem SW.ldc {i : Nat} {v : Int32} (hw : Cond.constant y.1.cls i v ∈ aw_TT) (hd : decode y.2.1 pc = .ok (.ldc i, 2)) (kk : SW G k y Q a b (pc + 2) L (.int v :: S) h) : SW G k y Q a b pc L S h := by
  intro p l e R s m args below meth c QQ C H locs ls cells slots B
  exact lv_ldc C.1 C.2.1 C.2.2.2.1 (C.2.2.2.2.1 _ hw) hd (kk.go C B)
theorem SW.ldc2 {i : Nat} {v : Int64} (hw : Cond.constantLong y.1.cls i v ∈ aw_TT) (hd : decode y.2.1 pc = .ok (.ldc2_w i, 3)) (kk : SW G k y Q a b (pc + 3) L (.long v :: S) h) : SW G k y Q a b pc L S h := by
  intro p l e R s m args below meth c QQ C H locs ls cells slots B
  exact lv_ldc2 C.1 C.2.1 C.2.2.2.1 (C.2.2.2.2.1 _ hw) hd (kk.go C B)
theorem SW.ldcS {i j : Nat} {t : String} {bs : List Int32} (hj : aw_strs[j]? = some (y.1.cls, i, t, bs)) (hd : decode y.2.1 pc = .ok (.ldc i, 2)) (kk : SW G k y Q a b (pc + 2) L (.ref (1000 + j) :: S) h) : SW G k y Q a b pc L S h := by
  intro p l e R s m args below meth c QQ C H locs ls cells slots B
  have h1 := (C.2.2.2.2.2.2.1.2.2.2 j _ hj).1
  refine va_ldcS (q := G.2.2.2.1 j) C.1 C.2.1 C.2.2.2.1 h1 hd ?_
  have e1 : aw_cV G (.ref (1000 + j)) = .ref (G.2.2.2.1 j) := by
    show aw_rv G (1000 + j) = _
    unfold aw_rv aw_ad
    rw [if_neg (by omega), if_neg (by omega), show 1000 + j - 1000 = j by omega]
  have h2 := kk.go C B
  rw [List.map_cons, e1] at h2
  exact h2
theorem SW.iload_n {i : Fin 4} {x : Int32} (hd : decode y.2.1 pc = .ok (.iload_n i, 1)) (hl : L[(i : Nat)]? = some (some (.int x))) (kk : SW G k y Q a b (pc + 1) L (.int x :: S) h) : SW G k y Q a b pc L S h := by
  intro p l e R s m args below meth c QQ C H locs ls cells slots B
  exact lv_iload_n C.1 C.2.1 hd rfl (B.2.2.1.get hl) (kk.go C B)
theorem SW.iload {i : Nat} {x : Int32} (hd : decode y.2.1 pc = .ok (.iload i, 2)) (hl : L[i]? = some (some (.int x))) (kk : SW G k y Q a b (pc + 2) L (.int x :: S) h) : SW G k y Q a b pc L S h := by
  intro p l e R s m args below meth c QQ C H locs ls cells slots B
  exact lv_iload C.1 C.2.1 hd (B.2.2.1.get hl) (kk.go C B)
theorem SW.lload_n {i : Fin 4} {x : Int64} (hd : decode y.2.1 pc = .ok (.lload_n i, 1)) (hl : L[(i : Nat)]? = some (some (.long x))) (kk : SW G k y Q a b (pc + 1) L (.long x :: S) h) : SW G k y Q a b pc L S h := by
  intro p l e R s m args below meth c QQ C H locs ls cells slots B
  exact lv_lload_n C.1 C.2.1 hd rfl (B.2.2.1.get hl) (kk.go C B)
theorem SW.lload {i : Nat} {x : Int64} (hd : decode y.2.1 pc = .ok (.lload i, 2)) (hl : L[i]? = some (some (.long x))) (kk : SW G k y Q a b (pc + 2) L (.long x :: S) h) : SW G k y Q a b pc L S h := by
  intro p l e R s m args below meth c QQ C H locs ls cells slots B
  exact lv_lload C.1 C.2.1 hd (B.2.2.1.get hl) (kk.go C B)
theorem aw_cV_ref {G : GG} {x : Nat} (h : x ≠ 0) : aw_cV G (.ref x) = .ref (aw_ad G x) := if_neg h
theorem SW.aload_n {i : Fin 4} {x : Nat} (hd : decode y.2.1 pc = .ok (.aload_n i, 1)) (hl : L[(i : Nat)]? = some (some (.ref x))) (kk : SW G k y Q a b (pc + 1) L (.ref x :: S) h) : SW G k y Q a b pc L S h := by
  intro p l e R s m args below meth c QQ C H locs ls cells slots B
  have h1 := B.2.2.1.get hl
  have h2 := kk.go C B
  rw [List.map_cons] at h2
  by_cases hx : x = 0
  · subst hx
    exact lv_aload_nN C.1 C.2.1 hd rfl h1 h2
  · rw [aw_cV_ref hx] at h1 h2
    exact lv_aload_n C.1 C.2.1 hd rfl h1 h2
theorem SW.aload {i : Nat} {x : Nat} (hd : decode y.2.1 pc = .ok (.aload i, 2)) (hl : L[i]? = some (some (.ref x))) (kk : SW G k y Q a b (pc + 2) L (.ref x :: S) h) : SW G k y Q a b pc L S h := by
  intro p l e R s m args below meth c QQ C H locs ls cells slots B
  have h1 := B.2.2.1.get hl
  have h2 := kk.go C B
  rw [List.map_cons] at h2
  by_cases hx : x = 0
  · subst hx
    exact lv_aloadN C.1 C.2.1 hd h1 h2
  · rw [aw_cV_ref hx] at h1 h2
    exact lv_aload C.1 C.2.1 hd h1 h2
theorem SW.istore_n {i : Fin 4} {x : Int32} {L' : List (Option Value)} (hd : decode y.2.1 pc = .ok (.istore_n i, 1)) (hi : (i : Nat) < y.2.2.1) (hok : aw_ok L i = true) (hL : L.set i (some (.int x)) = L') (kk : SW G k y Q a b (pc + 1) L' S h) : SW G k y Q a b pc L (.int x :: S) h := by
  intro p l e R s m args below meth c QQ C H locs ls cells slots B
  subst hL
  exact lv_istore_n C.1 C.2.1 hd rfl B.2.2.1 hi rfl (fun ls' h' => kk.go C ⟨B.1, B.2.1, aw_st1 (v := .int x) hok h', B.2.2.2⟩)
theorem SW.istore {i : Nat} {x : Int32} {L' : List (Option Value)} (hd : decode y.2.1 pc = .ok (.istore i, 2)) (hi : i < y.2.2.1) (hok : aw_ok L i = true) (hL : L.set i (some (.int x)) = L') (kk : SW G k y Q a b (pc + 2) L' S h) : SW G k y Q a b pc L (.int x :: S) h := by
  intro p l e R s m args below meth c QQ C H locs ls cells slots B
  subst hL
  exact lv_istore C.1 C.2.1 hd B.2.2.1 hi rfl (fun ls' h' => kk.go C ⟨B.1, B.2.1, aw_st1 (v := .int x) hok h', B.2.2.2⟩)
theorem SW.lstore_n {i : Fin 4} {x : Int64} {L' : List (Option Value)} (hd : decode y.2.1 pc = .ok (.lstore_n i, 1)) (hi : (i : Nat) + 1 < y.2.2.1) (hok : aw_ok L i = true) (hL : (L.set i (some (.long x))).set (i + 1) none = L') (kk : SW G k y Q a b (pc + 1) L' S h) : SW G k y Q a b pc L (.long x :: S) h := by
  intro p l e R s m args below meth c QQ C H locs ls cells slots B
  subst hL
  exact lv_lstore_n C.1 C.2.1 hd rfl B.2.2.1 hi rfl (fun ls' h' => kk.go C ⟨B.1, B.2.1, aw_st2 (v := .long x) hok h', B.2.2.2⟩)
theorem SW.lstore {i : Nat} {x : Int64} {L' : List (Option Value)} (hd : decode y.2.1 pc = .ok (.lstore i, 2)) (hi : i + 1 < y.2.2.1) (hok : aw_ok L i = true) (hL : (L.set i (some (.long x))).set (i + 1) none = L') (kk : SW G k y Q a b (pc + 2) L' S h) : SW G k y Q a b pc L (.long x :: S) h := by
  intro p l e R s m args below meth c QQ C H locs ls cells slots B
  subst hL
  exact lv_lstore C.1 C.2.1 hd B.2.2.1 hi rfl (fun ls' h' => kk.go C ⟨B.1, B.2.1, aw_st2 (v := .long x) hok h', B.2.2.2⟩)
theorem SW.astore_n {i : Fin 4} {x : Nat} {L' : List (Option Value)} (hd : decode y.2.1 pc = .ok (.astore_n i, 1)) (hi : (i : Nat) < y.2.2.1) (hok : aw_ok L i = true) (hL : L.set i (some (.ref x)) = L') (kk : SW G k y Q a b (pc + 1) L' S h) : SW G k y Q a b pc L (.ref x :: S) h := by
  intro p l e R s m args below meth c QQ C H locs ls cells slots B
  subst hL
  rw [List.map_cons]
  have key : ∀ ls', lv_has ls' y.2.2.1 (((i : Nat), aw_cV G (.ref x)) :: (aw_prs G 0 L).filter (fun q => !(q.1 == (i : Nat)) && !(q.1 + 1 == (i : Nat) && q.2.category == 2))) → W p l e R s m args below meth c H locs cells slots QQ (F0 m (pc + 1) ls' (S.map (aw_cV G))) := fun ls' h' => kk.go C ⟨B.1, B.2.1, aw_st1 (v := .ref x) hok h', B.2.2.2⟩
  by_cases hx : x = 0
  · subst hx
    exact lv_astore_nN C.1 C.2.1 hd rfl B.2.2.1 hi rfl key
  · rw [aw_cV_ref hx] at key ⊢
    exact lv_astore_n C.1 C.2.1 hd rfl B.2.2.1 hi rfl key
theorem SW.astore {i : Nat} {x : Nat} {L' : List (Option Value)} (hd : decode y.2.1 pc = .ok (.astore i, 2)) (hi : i < y.2.2.1) (hok : aw_ok L i = true) (hL : L.set i (some (.ref x)) = L') (kk : SW G k y Q a b (pc + 2) L' S h) : SW G k y Q a b pc L (.ref x :: S) h := by
  intro p l e R s m args below meth c QQ C H locs ls cells slots B
  subst hL
  rw [List.map_cons]
  have key : ∀ ls', lv_has ls' y.2.2.1 ((i, aw_cV G (.ref x)) :: (aw_prs G 0 L).filter (fun q => !(q.1 == i) && !(q.1 + 1 == i && q.2.category == 2))) → W p l e R s m args below meth c H locs cells slots QQ (F0 m (pc + 2) ls' (S.map (aw_cV G))) := fun ls' h' => kk.go C ⟨B.1, B.2.1, aw_st1 (v := .ref x) hok h', B.2.2.2⟩
  by_cases hx : x = 0
  · subst hx
    exact lv_astoreN C.1 C.2.1 hd B.2.2.1 hi rfl key
  · rw [aw_cV_ref hx] at key ⊢
    exact lv_astore C.1 C.2.1 hd B.2.2.1 hi rfl key
theorem SW.iinc {i : Nat} {n : Int} {x v : Int32} {L' : List (Option Value)} (hd : decode y.2.1 pc = .ok (.iinc i n, 3)) (hl : L[i]? = some (some (.int x))) (hv : x + Int32.ofInt n = v) (hi : i < y.2.2.1) (hok : aw_ok L i = true) (hL : L.set i (some (.int v)) = L') (kk : SW G k y Q a b (pc + 3) L' S h) : SW G k y Q a b pc L S h := by
  intro p l e R s m args below meth c QQ C H locs ls cells slots B
  subst hL
  obtain ⟨j, hj⟩ := List.getElem?_of_mem (aw_prs_mem G L 0 i (.int x) hl)
  rw [Nat.zero_add] at hj
  exact lv_iinc (k := j) C.1 C.2.1 hd B.2.2.1 hj hv hi rfl (fun ls' h' => kk.go C ⟨B.1, B.2.1, aw_st1 (v := .int v) hok h', B.2.2.2⟩)
theorem SW.iadd {x z : Int32} (hd : decode y.2.1 pc = .ok (.iadd, 1)) (kk : SW G k y Q a b (pc + 1) L (.int (x + z) :: S) h) : SW G k y Q a b pc L (.int z :: .int x :: S) h := by
  intro p l e R s m args below meth c QQ C H locs ls cells slots B
  exact lv_iadd C.1 C.2.1 hd (kk.go C B)
theorem SW.isub {x z : Int32} (hd : decode y.2.1 pc = .ok (.isub, 1)) (kk : SW G k y Q a b (pc + 1) L (.int (x - z) :: S) h) : SW G k y Q a b pc L (.int z :: .int x :: S) h := by
  intro p l e R s m args below meth c QQ C H locs ls cells slots B
  exact lv_isub C.1 C.2.1 hd (kk.go C B)
theorem SW.imul {x z : Int32} (hd : decode y.2.1 pc = .ok (.imul, 1)) (kk : SW G k y Q a b (pc + 1) L (.int (x * z) :: S) h) : SW G k y Q a b pc L (.int z :: .int x :: S) h := by
  intro p l e R s m args below meth c QQ C H locs ls cells slots B
  exact lv_imul C.1 C.2.1 hd (kk.go C B)
theorem SW.iand {x z : Int32} (hd : decode y.2.1 pc = .ok (.iand, 1)) (kk : SW G k y Q a b (pc + 1) L (.int (x &&& z) :: S) h) : SW G k y Q a b pc L (.int z :: .int x :: S) h := by
  intro p l e R s m args below meth c QQ C H locs ls cells slots B
  exact lv_iand C.1 C.2.1 hd (kk.go C B)
theorem SW.ior {x z : Int32} (hd : decode y.2.1 pc = .ok (.ior, 1)) (kk : SW G k y Q a b (pc + 1) L (.int (x ||| z) :: S) h) : SW G k y Q a b pc L (.int z :: .int x :: S) h := by
  intro p l e R s m args below meth c QQ C H locs ls cells slots B
  exact lv_ior C.1 C.2.1 hd (kk.go C B)
theorem SW.ishl {x z : Int32} (hd : decode y.2.1 pc = .ok (.ishl, 1)) (kk : SW G k y Q a b (pc + 1) L (.int (x <<< (z &&& 31)) :: S) h) : SW G k y Q a b pc L (.int z :: .int x :: S) h := by
  intro p l e R s m args below meth c QQ C H locs ls cells slots B
  exact lv_ishl C.1 C.2.1 hd (kk.go C B)
theorem SW.ishr {x z : Int32} (hd : decode y.2.1 pc = .ok (.ishr, 1)) (kk : SW G k y Q a b (pc + 1) L (.int (x >>> (z &&& 31)) :: S) h) : SW G k y Q a b pc L (.int z :: .int x :: S) h := by
  intro p l e R s m args below meth c QQ C H locs ls cells slots B
  exact lv_ishr C.1 C.2.1 hd (kk.go C B)
theorem SW.idiv {x z : Int32} (hd : decode y.2.1 pc = .ok (.idiv, 1)) (hne : ¬ z = 0) (kk : SW G k y Q a b (pc + 1) L (.int (x / z) :: S) h) : SW G k y Q a b pc L (.int z :: .int x :: S) h := by
  intro p l e R s m args below meth c QQ C H locs ls cells slots B
  exact lv_idiv C.1 C.2.1 hd hne (kk.go C B)
theorem SW.irem {x z : Int32} (hd : decode y.2.1 pc = .ok (.irem, 1)) (hne : ¬ z = 0) (kk : SW G k y Q a b (pc + 1) L (.int (x - x / z * z) :: S) h) : SW G k y Q a b pc L (.int z :: .int x :: S) h := by
  intro p l e R s m args below meth c QQ C H locs ls cells slots B
  exact lv_irem C.1 C.2.1 hd hne (kk.go C B)
theorem SW.ladd {x z : Int64} (hd : decode y.2.1 pc = .ok (.ladd, 1)) (kk : SW G k y Q a b (pc + 1) L (.long (x + z) :: S) h) : SW G k y Q a b pc L (.long z :: .long x :: S) h := by
  intro p l e R s m args below meth c QQ C H locs ls cells slots B
  exact lv_ladd C.1 C.2.1 hd (kk.go C B)
theorem SW.lsub {x z : Int64} (hd : decode y.2.1 pc = .ok (.lsub, 1)) (kk : SW G k y Q a b (pc + 1) L (.long (x - z) :: S) h) : SW G k y Q a b pc L (.long z :: .long x :: S) h := by
  intro p l e R s m args below meth c QQ C H locs ls cells slots B
  exact lv_lsub C.1 C.2.1 hd (kk.go C B)
theorem SW.lmul {x z : Int64} (hd : decode y.2.1 pc = .ok (.lmul, 1)) (kk : SW G k y Q a b (pc + 1) L (.long (x * z) :: S) h) : SW G k y Q a b pc L (.long z :: .long x :: S) h := by
  intro p l e R s m args below meth c QQ C H locs ls cells slots B
  exact lv_lmul C.1 C.2.1 hd (kk.go C B)
theorem SW.ldiv {x z : Int64} (hd : decode y.2.1 pc = .ok (.ldiv, 1)) (hne : ¬ z = 0) (kk : SW G k y Q a b (pc + 1) L (.long (x / z) :: S) h) : SW G k y Q a b pc L (.long z :: .long x :: S) h := by
  intro p l e R s m args below meth c QQ C H locs ls cells slots B
  exact lv_ldiv C.1 C.2.1 hd hne (kk.go C B)
theorem SW.lrem {x z : Int64} (hd : decode y.2.1 pc = .ok (.lrem, 1)) (hne : ¬ z = 0) (kk : SW G k y Q a b (pc + 1) L (.long (x - x / z * z) :: S) h) : SW G k y Q a b pc L (.long z :: .long x :: S) h := by
  intro p l e R s m args below meth c QQ C H locs ls cells slots B
  exact lv_lrem C.1 C.2.1 hd hne (kk.go C B)
theorem SW.ineg {x : Int32} (hd : decode y.2.1 pc = .ok (.ineg, 1)) (kk : SW G k y Q a b (pc + 1) L (.int (-x) :: S) h) : SW G k y Q a b pc L (.int x :: S) h := by
  intro p l e R s m args below meth c QQ C H locs ls cells slots B
  exact lv_ineg C.1 C.2.1 hd (kk.go C B)
theorem SW.lcmp {x z : Int64} (hd : decode y.2.1 pc = .ok (.lcmp, 1)) (kk : SW G k y Q a b (pc + 1) L (.int (lg_cmp x z) :: S) h) : SW G k y Q a b pc L (.long z :: .long x :: S) h := by
  intro p l e R s m args below meth c QQ C H locs ls cells slots B
  exact W.lcmp C.1 C.2.1 hd (kk.go C B)
theorem SW.i2l {x : Int32} (hd : decode y.2.1 pc = .ok (.i2l, 1)) (kk : SW G k y Q a b (pc + 1) L (.long x.toInt64 :: S) h) : SW G k y Q a b pc L (.int x :: S) h := by
  intro p l e R s m args below meth c QQ C H locs ls cells slots B
  exact lv_i2l C.1 C.2.1 hd rfl (kk.go C B)
theorem SW.i2b {x : Int32} (hd : decode y.2.1 pc = .ok (.i2b, 1)) (kk : SW G k y Q a b (pc + 1) L (.int x.toInt8.toInt32 :: S) h) : SW G k y Q a b pc L (.int x :: S) h := by
  intro p l e R s m args below meth c QQ C H locs ls cells slots B
  exact lv_i2b C.1 C.2.1 hd rfl (kk.go C B)
theorem SW.i2c {x : Int32} (hd : decode y.2.1 pc = .ok (.i2c, 1)) (kk : SW G k y Q a b (pc + 1) L (.int (x.toUInt32 % 65536).toInt32 :: S) h) : SW G k y Q a b pc L (.int x :: S) h := by
  intro p l e R s m args below meth c QQ C H locs ls cells slots B
  exact lv_i2c C.1 C.2.1 hd rfl (kk.go C B)
theorem SW.dup {v : Value} (hd : decode y.2.1 pc = .ok (.dup, 1)) (hv : v.category = 1) (kk : SW G k y Q a b (pc + 1) L (v :: v :: S) h) : SW G k y Q a b pc L (v :: S) h := by
  intro p l e R s m args below meth c QQ C H locs ls cells slots B
  exact lv_dup C.1 C.2.1 hd (by rw [aw_cV_cat]; exact hv) (kk.go C B)
theorem SW.pop {v : Value} (hd : decode y.2.1 pc = .ok (.pop, 1)) (hv : v.category = 1) (kk : SW G k y Q a b (pc + 1) L S h) : SW G k y Q a b pc L (v :: S) h := by
  intro p l e R s m args below meth c QQ C H locs ls cells slots B
  exact lv_pop C.1 C.2.1 hd (by rw [aw_cV_cat]; exact hv) (kk.go C B)
theorem SW.dup2 {v w : Value} (hd : decode y.2.1 pc = .ok (.dup2, 1)) (hv : v.category = 1) (hw : w.category = 1) (kk : SW G k y Q a b (pc + 1) L (v :: w :: v :: w :: S) h) : SW G k y Q a b pc L (v :: w :: S) h := by
  intro p l e R s m args below meth c QQ C H locs ls cells slots B
  exact lv_dup2_11 C.1 C.2.1 hd (by rw [aw_cV_cat]; exact hv) (by rw [aw_cV_cat]; exact hw) (kk.go C B)
theorem SW.if_eq {x : Int32} {off : Int} (tgt : Nat) (hd : decode y.2.1 pc = .ok (.ifCond .eq off, 3)) (ht : (pc : Int) + off = (tgt : Int)) (kt : x = 0 → SW G k y Q a b tgt L S h) (kf : ¬ x = 0 → SW G k y Q a b (pc + 3) L S h) : SW G k y Q a b pc L (.int x :: S) h := by
  intro p l e R s m args below meth c QQ C H locs ls cells slots B
  exact lv_if_eq C.1 C.2.1 hd ht (fun q => (kt q).go C B) (fun q => (kf q).go C B)
theorem SW.icmp_eq {x z : Int32} {off : Int} (tgt : Nat) (hd : decode y.2.1 pc = .ok (.if_icmp .eq off, 3)) (ht : (pc : Int) + off = (tgt : Int)) (kt : x = z → SW G k y Q a b tgt L S h) (kf : ¬ x = z → SW G k y Q a b (pc + 3) L S h) : SW G k y Q a b pc L (.int z :: .int x :: S) h := by
  intro p l e R s m args below meth c QQ C H locs ls cells slots B
  exact lv_icmp_eq C.1 C.2.1 hd ht (fun q => (kt q).go C B) (fun q => (kf q).go C B)
theorem SW.if_ne {x : Int32} {off : Int} (tgt : Nat) (hd : decode y.2.1 pc = .ok (.ifCond .ne off, 3)) (ht : (pc : Int) + off = (tgt : Int)) (kt : ¬ x = 0 → SW G k y Q a b tgt L S h) (kf : x = 0 → SW G k y Q a b (pc + 3) L S h) : SW G k y Q a b pc L (.int x :: S) h := by
  intro p l e R s m args below meth c QQ C H locs ls cells slots B
  exact lv_if_ne C.1 C.2.1 hd ht (fun q => (kt q).go C B) (fun q => (kf q).go C B)
theorem SW.icmp_ne {x z : Int32} {off : Int} (tgt : Nat) (hd : decode y.2.1 pc = .ok (.if_icmp .ne off, 3)) (ht : (pc : Int) + off = (tgt : Int)) (kt : ¬ x = z → SW G k y Q a b tgt L S h) (kf : x = z → SW G k y Q a b (pc + 3) L S h) : SW G k y Q a b pc L (.int z :: .int x :: S) h := by
  intro p l e R s m args below meth c QQ C H locs ls cells slots B
  exact lv_icmp_ne C.1 C.2.1 hd ht (fun q => (kt q).go C B) (fun q => (kf q).go C B)
theorem SW.if_lt {x : Int32} {off : Int} (tgt : Nat) (hd : decode y.2.1 pc = .ok (.ifCond .lt off, 3)) (ht : (pc : Int) + off = (tgt : Int)) (kt : x < 0 → SW G k y Q a b tgt L S h) (kf : ¬ x < 0 → SW G k y Q a b (pc + 3) L S h) : SW G k y Q a b pc L (.int x :: S) h := by
  intro p l e R s m args below meth c QQ C H locs ls cells slots B
  exact lv_if_lt C.1 C.2.1 hd ht (fun q => (kt q).go C B) (fun q => (kf q).go C B)
theorem SW.icmp_lt {x z : Int32} {off : Int} (tgt : Nat) (hd : decode y.2.1 pc = .ok (.if_icmp .lt off, 3)) (ht : (pc : Int) + off = (tgt : Int)) (kt : x < z → SW G k y Q a b tgt L S h) (kf : ¬ x < z → SW G k y Q a b (pc + 3) L S h) : SW G k y Q a b pc L (.int z :: .int x :: S) h := by
  intro p l e R s m args below meth c QQ C H locs ls cells slots B
  exact lv_icmp_lt C.1 C.2.1 hd ht (fun q => (kt q).go C B) (fun q => (kf q).go C B)
theorem SW.if_ge {x : Int32} {off : Int} (tgt : Nat) (hd : decode y.2.1 pc = .ok (.ifCond .ge off, 3)) (ht : (pc : Int) + off = (tgt : Int)) (kt : 0 ≤ x → SW G k y Q a b tgt L S h) (kf : ¬ 0 ≤ x → SW G k y Q a b (pc + 3) L S h) : SW G k y Q a b pc L (.int x :: S) h := by
  intro p l e R s m args below meth c QQ C H locs ls cells slots B
  exact lv_if_ge C.1 C.2.1 hd ht (fun q => (kt q).go C B) (fun q => (kf q).go C B)
theorem SW.icmp_ge {x z : Int32} {off : Int} (tgt : Nat) (hd : decode y.2.1 pc = .ok (.if_icmp .ge off, 3)) (ht : (pc : Int) + off = (tgt : Int)) (kt : z ≤ x → SW G k y Q a b tgt L S h) (kf : ¬ z ≤ x → SW G k y Q a b (pc + 3) L S h) : SW G k y Q a b pc L (.int z :: .int x :: S) h := by
  intro p l e R s m args below meth c QQ C H locs ls cells slots B
  exact lv_icmp_ge C.1 C.2.1 hd ht (fun q => (kt q).go C B) (fun q => (kf q).go C B)
theorem SW.if_gt {x : Int32} {off : Int} (tgt : Nat) (hd : decode y.2.1 pc = .ok (.ifCond .gt off, 3)) (ht : (pc : Int) + off = (tgt : Int)) (kt : 0 < x → SW G k y Q a b tgt L S h) (kf : ¬ 0 < x → SW G k y Q a b (pc + 3) L S h) : SW G k y Q a b pc L (.int x :: S) h := by
  intro p l e R s m args below meth c QQ C H locs ls cells slots B
  exact lv_if_gt C.1 C.2.1 hd ht (fun q => (kt q).go C B) (fun q => (kf q).go C B)
theorem SW.icmp_gt {x z : Int32} {off : Int} (tgt : Nat) (hd : decode y.2.1 pc = .ok (.if_icmp .gt off, 3)) (ht : (pc : Int) + off = (tgt : Int)) (kt : z < x → SW G k y Q a b tgt L S h) (kf : ¬ z < x → SW G k y Q a b (pc + 3) L S h) : SW G k y Q a b pc L (.int z :: .int x :: S) h := by
  intro p l e R s m args below meth c QQ C H locs ls cells slots B
  exact lv_icmp_gt C.1 C.2.1 hd ht (fun q => (kt q).go C B) (fun q => (kf q).go C B)
theorem SW.if_le {x : Int32} {off : Int} (tgt : Nat) (hd : decode y.2.1 pc = .ok (.ifCond .le off, 3)) (ht : (pc : Int) + off = (tgt : Int)) (kt : x ≤ 0 → SW G k y Q a b tgt L S h) (kf : ¬ x ≤ 0 → SW G k y Q a b (pc + 3) L S h) : SW G k y Q a b pc L (.int x :: S) h := by
  intro p l e R s m args below meth c QQ C H locs ls cells slots B
  exact lv_if_le C.1 C.2.1 hd ht (fun q => (kt q).go C B) (fun q => (kf q).go C B)
theorem SW.icmp_le {x z : Int32} {off : Int} (tgt : Nat) (hd : decode y.2.1 pc = .ok (.if_icmp .le off, 3)) (ht : (pc : Int) + off = (tgt : Int)) (kt : x ≤ z → SW G k y Q a b tgt L S h) (kf : ¬ x ≤ z → SW G k y Q a b (pc + 3) L S h) : SW G k y Q a b pc L (.int z :: .int x :: S) h := by
  intro p l e R s m args below meth c QQ C H locs ls cells slots B
  exact lv_icmp_le C.1 C.2.1 hd ht (fun q => (kt q).go C B) (fun q => (kf q).go C B)
theorem SW.goto {off : Int} (tgt : Nat) (hd : decode y.2.1 pc = .ok (.goto off, 3)) (ht : (pc : Int) + off = (tgt : Int)) (kk : SW G k y Q a b tgt L S h) : SW G k y Q a b pc L S h := by
  intro p l e R s m args below meth c QQ C H locs ls cells slots B
  exact lv_goto C.1 C.2.1 hd ht (kk.go C B)
theorem SW.tabOut {dflt lo hi : Int} {offs : Array Int} {len : Nat} {x : Int32} (tgt : Nat) (hd : decode y.2.1 pc = .ok (.tableswitch dflt lo hi offs, len)) (hx : x.toInt < lo ∨ hi < x.toInt) (ht : (pc : Int) + dflt = (tgt : Int)) (kk : SW G k y Q a b tgt L S h) : SW G k y Q a b pc L (.int x :: S) h := by
  intro p l e R s m args below meth c QQ C H locs ls cells slots B
  exact lv_tableOut C.1 C.2.1 hd hx ht (kk.go C B)
theorem SW.tabIn {dflt lo hi : Int} {offs : Array Int} {len : Nat} {x : Int32} {off : Int} (tgt : Nat) (hd : decode y.2.1 pc = .ok (.tableswitch dflt lo hi offs, len)) (h1 : ¬ x.toInt < lo) (h2 : ¬ hi < x.toInt) (ho : offs[(x.toInt - lo).toNat]? = some off) (ht : (pc : Int) + off = (tgt : Int)) (kk : SW G k y Q a b tgt L S h) : SW G k y Q a b pc L (.int x :: S) h := by
  intro p l e R s m args below meth c QQ C H locs ls cells slots B
  exact lv_tableIn C.1 C.2.1 hd h1 h2 ho ht (kk.go C B)
theorem SW.look {dflt : Int} {ps : Array (Int × Int)} {len : Nat} {x : Int32} {off : Int} (tgt : Nat) (hd : decode y.2.1 pc = .ok (.lookupswitch dflt ps, len)) (hp : (ps.toList.zip (ps.toList.drop 1)).all (fun (a, next) => a.1 < next.1) = true) (ho : Op.lookupswitch.offset ps.toList dflt x.toInt = off) (ht : (pc : Int) + off = (tgt : Int)) (kk : SW G k y Q a b tgt L S h) : SW G k y Q a b pc L (.int x :: S) h := by
  intro p l e R s m args below meth c QQ C H locs ls cells slots B
  exact lv_lookup C.1 C.2.1 hd hp ho ht (kk.go C B)
theorem SW.vret (hd : decode y.2.1 pc = .ok (.return_, 1)) (hr : y.2.2.2 = none) (q : Q none h) : SW G k y Q a b pc L [] h := by
  intro p l e R s m args below meth c QQ C H locs ls cells slots B
  exact C.2.2.2.2.2.2.2.2.2.2.1 none h H locs cells slots pc ls [] q B.1 B.2.1 (by have := B.2.2.2.1; omega) (by have := B.2.2.2.2; omega) (Or.inl ⟨rfl, rfl, hr, hd⟩)
theorem SW.iret {x : Int32} {ty : FieldType} (hd : decode y.2.1 pc = .ok (.ireturn, 1)) (hr : y.2.2.2 = some ty) (hn : narrow ty (.int x) = .int x) (q : Q (some (.int x)) h) : SW G k y Q a b pc L [.int x] h := by
  intro p l e R s m args below meth c QQ C H locs ls cells slots B
  exact C.2.2.2.2.2.2.2.2.2.2.1 (some (.int x)) h H locs cells slots pc ls [.int x] q B.1 B.2.1 (by have := B.2.2.2.1; omega) (by have := B.2.2.2.2; omega) (Or.inr (Or.inl ⟨x, rfl, rfl, hd, ty, hr, hn⟩))
theorem SW.lret {x : Int64} (hd : decode y.2.1 pc = .ok (.lreturn, 1)) (hr : y.2.2.2 = some .long) (q : Q (some (.long x)) h) : SW G k y Q a b pc L [.long x] h := by
  intro p l e R s m args below meth c QQ C H locs ls cells slots B
  exact C.2.2.2.2.2.2.2.2.2.2.1 (some (.long x)) h H locs cells slots pc ls [.long x] q B.1 B.2.1 (by have := B.2.2.2.1; omega) (by have := B.2.2.2.2; omega) (Or.inr (Or.inr ⟨x, rfl, rfl, hd, hr⟩))
/-- the only throw: at 48, one object of six slots is made -/
theorem SW.thr (q : Q (some .null) h) : SW G k y Q 1 6 48 L [] h := by
  intro p l e R s m args below meth c QQ C H locs ls cells slots B
  exact C.2.2.2.2.2.2.2.2.2.2.2 h H locs cells slots ls q B.1 B.2.1 B.2.2.1.1 B.2.2.2.1 B.2.2.2.2
end AwRows
