/-! ===== the objects' graph, as it stands once all is made ===== -/
theorem SM.mono {G : GG} {k : Nat} {y : MD} {a b : Nat} {As : List Value} {h : HH} {Q Q' : Option Value → HH → Prop} (hM : SM G k y a b As h Q) (hq : ∀ v h, Q v h → Q' v h) : SM G k y a b As h Q' := by
  intro l hfl p e ha hc hk s m args below hf hap hP hT
  obtain ⟨t, o, h1, h2, h3, ⟨v, h', e1, e2, e3⟩, h5⟩   := hM l hfl p e ha hc hk s m args below hf hap hP hT
  exact ⟨t, o, h1, h2, h3, ⟨v, h', e1, hq v h' e2, e3⟩, h5⟩
def aw_qi (q : Int32 → Nat → SG → TU → TH → Prop) : Option Value → HH → Prop := fun v h => ∃ x : Int32, v = some (.int x) ∧ q x h.1 h.2.1 h.2.2.1 h.2.2.2
def aw_ql (q : Int64 → Nat → SG → TU → TH → Prop) : Option Value → HH → Prop := fun v h => ∃ x : Int64, v = some (.long x) ∧ q x h.1 h.2.1 h.2.2.1 h.2.2.2
def aw_qv (q : Nat → SG → TU → TH → Prop) : Option Value → HH → Prop := fun v h => v = none ∧ q h.1 h.2.1 h.2.2.1 h.2.2.2
theorem SMi.mono {G : GG} {k : Nat} {y : MD} {a b : Nat} {As : List Value} {n : Nat} {σ : SG} {τ : TU} {θ : TH} {q q' : Int32 → Nat → SG → TU → TH → Prop} (hM : SMi G k y a b As n σ τ θ q) (hq : ∀ r n σ τ θ, q r n σ τ θ → q' r n σ τ θ) : SMi G k y a b As n σ τ θ q' := SM.mono hM (fun _ _ ⟨x, h1, h2⟩ => ⟨x, h1, hq _ _ _ _ _ h2⟩)
theorem SMl.mono {G : GG} {k : Nat} {y : MD} {a b : Nat} {As : List Value} {n : Nat} {σ : SG} {τ : TU} {θ : TH} {q q' : Int64 → Nat → SG → TU → TH → Prop} (hM : SMl G k y a b As n σ τ θ q) (hq : ∀ r n σ τ θ, q r n σ τ θ → q' r n σ τ θ) : SMl G k y a b As n σ τ θ q' := SM.mono hM (fun _ _ ⟨x, h1, h2⟩ => ⟨x, h1, hq _ _ _ _ _ h2⟩)
theorem SMv.mono {G : GG} {k : Nat} {y : MD} {a b : Nat} {As : List Value} {n : Nat} {σ : SG} {τ : TU} {θ : TH} {q q' : Nat → SG → TU → TH → Prop} (hM : SMv G k y a b As n σ τ θ q) (hq : ∀ n σ τ θ, q n σ τ θ → q' n σ τ θ) : SMv G k y a b As n σ τ θ q' := SM.mono hM (fun _ _ ⟨h1, h2⟩ => ⟨h1, hq _ _ _ _ h2⟩)
theorem aw_nb {x : Int32} (h : x = 0 ∨ x = 1) : narrow .boolean (.int x) = .int x := by
  rcases h with rfl | rfl <;> rfl
theorem SW.getS {G : GG} {k : Nat} {y : MD} {Q : Option Value → HH → Prop} {a b pc : Nat} {L : List (Option Value)} {S : List Value} {n0 : Nat} {σ : SG} {τ : TU} {θ : TH} {o ci N f i r : Nat} {C : String} {T : u_T} {ty : Nat → FieldType} (hC : aw_Cl ci C T N ty) (ho : aw_kp o = (0, ci)) (h1 : 1 ≤ o) (hn : o ≤ n0) (hf : f < N) (hw : Cond.fieldLink y.1.cls i (T f).1 (T f).2.1 (T f).2.2.1 ∈ aw_TT) (hd : decode y.2.1 pc = .ok (.getfield i, 3)) (hk : aw_fk ci f = 2) (hr : θ o f = r) (kk : SW G k y Q a b (pc + 3) L (.ref r :: S) (n0, σ, τ, θ)) : SW G k y Q a b pc L (.ref o :: S) (n0, σ, τ, θ) := by
  subst hr
  exact SW.getR hC ho h1 hn hf hw hd hk kk
theorem SW.ldcw {G : GG} {k : Nat} {y : MD} {Q : Option Value → HH → Prop} {a b pc : Nat} {L : List (Option Value)} {S : List Value} {h : HH} {i : Nat} {v : Int32} (hw : Cond.constant y.1.cls i v ∈ aw_TT) (hd : decode y.2.1 pc = .ok (.ldc_w i, 3)) (kk : SW G k y Q a b (pc + 3) L (.int v :: S) h) : SW G k y Q a b pc L S h := by
  intro p l e R s m args below meth c QQ C H locs ls cells slots B
  exact lv_ldcw C.1 C.2.1 C.2.2.2.1 (C.2.2.2.2.1 _ hw) hd (kk.go C B)
theorem aw_si1 {x v : Int32} {lo : Int} (h : x = v) (hv : ¬ v.toInt < lo) : ¬ x.toInt < lo := by rw [h]; exact hv
theorem aw_si2 {x v : Int32} {hi : Int} (h : x = v) (hv : ¬ hi < v.toInt) : ¬ hi < x.toInt := by rw [h]; exact hv
theorem aw_si3 {x v : Int32} {lo off : Int} {offs : Array Int} (h : x = v) (hv : offs[(v.toInt - lo).toNat]? = some off) : offs[(x.toInt - lo).toNat]? = some off := by rw [h]; exact hv
def aw_wtL : List (Nat × Nat × Nat) := [(1, 0, 2), (1, 1, 6), (1, 2, 9), (1, 3, 69), (1, 4, 73), (1, 5, 77), (1, 6, 80), (2, 2, 3), (2, 3, 4), (2, 4, 5), (6, 0, 7), (6, 1, 8), (9, 2, 10), (9, 3, 11), (10, 0, 12), (10, 1, 15), (10, 2, 18), (10, 3, 21), (10, 4, 24), (10, 5, 27), (10, 6, 30), (10, 7, 33), (10, 8, 36), (10, 9, 39), (10, 10, 42), (10, 11, 45), (10, 12, 48), (10, 13, 51), (10, 14, 54), (10, 15, 57), (11, 0, 60), (11, 1, 63), (11, 2, 66), (12, 0, 13), (12, 1, 14), (15, 0, 16), (15, 1, 17), (18, 0, 19), (18, 1, 20), (21, 0, 22), (21, 1, 23), (24, 0, 25), (24, 1, 26), (27, 0, 28), (27, 1, 29), (30, 0, 31), (30, 1, 32), (33, 0, 34), (33, 1, 35), (36, 0, 37), (36, 1, 38), (39, 0, 40), (39, 1, 41), (42, 0, 43), (42, 1, 44), (45, 0, 46), (45, 1, 47), (48, 0, 49), (48, 1, 50), (51, 0, 52), (51, 1, 53), (54, 0, 55), (54, 1, 56), (57, 0, 58), (57, 1, 59), (60, 0, 61), (60, 1, 62), (63, 0, 64), (63, 1, 65), (66, 0, 67), (66, 1, 68), (69, 0, 70), (69, 1, 71), (69, 2, 72), (73, 0, 74), (73, 2, 75), (73, 3, 76), (77, 3, 78), (77, 4, 79), (80, 0, 81), (81, 0, 82), (81, 1, 83), (84, 0, 85), (84, 1, 86), (84, 2, 87), (84, 3, 88), (84, 4, 89), (84, 5, 90), (84, 6, 91), (84, 7, 92), (84, 8, 97), (92, 0, 93), (92, 1, 94), (92, 2, 95), (92, 3, 96), (97, 0, 98), (97, 1, 99), (97, 2, 100), (97, 3, 101), (102, 0, 103), (102, 1, 104), (102, 2, 105), (102, 3, 106), (102, 4, 107), (102, 5, 108), (102, 6, 109), (102, 7, 110), (102, 8, 115), (110, 0, 111), (110, 1, 112), (110, 2, 113), (110, 3, 114), (115, 0, 116), (115, 1, 117), (115, 2, 118), (115, 3, 119), (120, 1, 121), (120, 12, 122), (120, 15, 123), (120, 16, 124), (120, 17, 125), (120, 18, 126), (120, 19, 127), (120, 23, 128), (120, 24, 129), (120, 25, 130), (120, 27, 131), (120, 28, 132)]
/-- all objects are there, and hang together as the constructors made them; facts and draft may have changed places -/
def aw_WT (n : Nat) (θ : TH) : Prop := 133 ≤ n ∧ (∀ q ∈ aw_wtL, θ q.1 q.2.1 = q.2.2) ∧ ((θ 1 7 = 84 ∧ θ 1 8 = 102) ∨ (θ 1 7 = 102 ∧ θ 1 8 = 84))
def isF (f : Nat) : Prop := f ∈ [84, 102]
def isM (t : Nat) : Prop := t ∈ [6, 12, 15, 18, 21, 24, 27, 30, 33, 36, 39, 42, 45, 48, 51, 54, 57, 60, 63, 66, 81]
def isC (c m : Nat) : Prop := (c, m) ∈ [(92, 7), (97, 4), (110, 7), (115, 4)]
def isA (a m : Nat) : Prop := aw_kp a = (1, m) ∧ 1 ≤ a ∧ a ≤ 133
def isB (a m : Nat) : Prop := aw_kp a = (2, m) ∧ 1 ≤ a ∧ a ≤ 133
theorem aw_WT.le {n : Nat} {θ : TH} (h : aw_WT n θ) {o : Nat} (ho : o ≤ 133) : o ≤ n := Nat.le_trans ho h.1
theorem aw_WT.f {n : Nat} {θ : TH} (h : aw_WT n θ) : isF (θ 1 7) := by
  rcases h.2.2 with e | e <;> (rw [e.1]; unfold isF; decide)
theorem aw_WT.g {n : Nat} {θ : TH} (h : aw_WT n θ) : isF (θ 1 8) := by
  rcases h.2.2 with e | e <;> (rw [e.2]; unfold isF; decide)
theorem kp_1 : aw_kp 1 = (0, 9) := by decide +kernel
theorem kp_2 : aw_kp 2 = (0, 8) := by decide +kernel
theorem kp_3 : aw_kp 3 = (3, 900) := by decide +kernel
theorem kp_4 : aw_kp 4 = (2, 5) := by decide +kernel
theorem kp_5 : aw_kp 5 = (2, 4) := by decide +kernel
theorem kp_6 : aw_kp 6 = (0, 2) := by decide +kernel
theorem kp_7 : aw_kp 7 = (1, 5) := by decide +kernel
theorem kp_8 : aw_kp 8 = (1, 7) := by decide +kernel
theorem kp_9 : aw_kp 9 = (0, 5) := by decide +kernel
theorem kp_10 : aw_kp 10 = (4, 16) := by decide +kernel
theorem kp_11 : aw_kp 11 = (4, 3) := by decide +kernel
theorem kp_12 : aw_kp 12 = (0, 2) := by decide +kernel
theorem kp_13 : aw_kp 13 = (1, 5) := by decide +kernel
theorem kp_14 : aw_kp 14 = (1, 7) := by decide +kernel
theorem kp_15 : aw_kp 15 = (0, 2) := by decide +kernel
theorem kp_16 : aw_kp 16 = (1, 5) := by decide +kernel
theorem kp_17 : aw_kp 17 = (1, 7) := by decide +kernel
theorem kp_18 : aw_kp 18 = (0, 2) := by decide +kernel
theorem kp_19 : aw_kp 19 = (1, 5) := by decide +kernel
theorem kp_20 : aw_kp 20 = (1, 7) := by decide +kernel
theorem kp_21 : aw_kp 21 = (0, 2) := by decide +kernel
theorem kp_22 : aw_kp 22 = (1, 5) := by decide +kernel
theorem kp_23 : aw_kp 23 = (1, 7) := by decide +kernel
theorem kp_24 : aw_kp 24 = (0, 2) := by decide +kernel
theorem kp_25 : aw_kp 25 = (1, 5) := by decide +kernel
theorem kp_26 : aw_kp 26 = (1, 7) := by decide +kernel
theorem kp_27 : aw_kp 27 = (0, 2) := by decide +kernel
theorem kp_28 : aw_kp 28 = (1, 5) := by decide +kernel
theorem kp_29 : aw_kp 29 = (1, 7) := by decide +kernel
theorem kp_30 : aw_kp 30 = (0, 2) := by decide +kernel
theorem kp_31 : aw_kp 31 = (1, 5) := by decide +kernel
theorem kp_32 : aw_kp 32 = (1, 7) := by decide +kernel
theorem kp_33 : aw_kp 33 = (0, 2) := by decide +kernel
theorem kp_34 : aw_kp 34 = (1, 5) := by decide +kernel
theorem kp_35 : aw_kp 35 = (1, 7) := by decide +kernel
theorem kp_36 : aw_kp 36 = (0, 2) := by decide +kernel
theorem kp_37 : aw_kp 37 = (1, 5) := by decide +kernel
theorem kp_38 : aw_kp 38 = (1, 7) := by decide +kernel
theorem kp_39 : aw_kp 39 = (0, 2) := by decide +kernel
theorem kp_40 : aw_kp 40 = (1, 5) := by decide +kernel
theorem kp_41 : aw_kp 41 = (1, 7) := by decide +kernel
theorem kp_42 : aw_kp 42 = (0, 2) := by decide +kernel
theorem kp_43 : aw_kp 43 = (1, 5) := by decide +kernel
theorem kp_44 : aw_kp 44 = (1, 7) := by decide +kernel
theorem kp_45 : aw_kp 45 = (0, 2) := by decide +kernel
theorem kp_46 : aw_kp 46 = (1, 5) := by decide +kernel
theorem kp_47 : aw_kp 47 = (1, 7) := by decide +kernel
theorem kp_48 : aw_kp 48 = (0, 2) := by decide +kernel
theorem kp_49 : aw_kp 49 = (1, 5) := by decide +kernel
theorem kp_50 : aw_kp 50 = (1, 7) := by decide +kernel
theorem kp_51 : aw_kp 51 = (0, 2) := by decide +kernel
theorem kp_52 : aw_kp 52 = (1, 5) := by decide +kernel
theorem kp_53 : aw_kp 53 = (1, 7) := by decide +kernel
theorem kp_54 : aw_kp 54 = (0, 2) := by decide +kernel
theorem kp_55 : aw_kp 55 = (1, 5) := by decide +kernel
theorem kp_56 : aw_kp 56 = (1, 7) := by decide +kernel
theorem kp_57 : aw_kp 57 = (0, 2) := by decide +kernel
theorem kp_58 : aw_kp 58 = (1, 5) := by decide +kernel
theorem kp_59 : aw_kp 59 = (1, 7) := by decide +kernel
theorem kp_60 : aw_kp 60 = (0, 2) := by decide +kernel
theorem kp_61 : aw_kp 61 = (1, 5) := by decide +kernel
theorem kp_62 : aw_kp 62 = (1, 7) := by decide +kernel
theorem kp_63 : aw_kp 63 = (0, 2) := by decide +kernel
theorem kp_64 : aw_kp 64 = (1, 5) := by decide +kernel
theorem kp_65 : aw_kp 65 = (1, 7) := by decide +kernel
theorem kp_66 : aw_kp 66 = (0, 2) := by decide +kernel
theorem kp_67 : aw_kp 67 = (1, 5) := by decide +kernel
theorem kp_68 : aw_kp 68 = (1, 7) := by decide +kernel
theorem kp_69 : aw_kp 69 = (0, 7) := by decide +kernel
theorem kp_70 : aw_kp 70 = (1, 5) := by decide +kernel
theorem kp_71 : aw_kp 71 = (1, 4) := by decide +kernel
theorem kp_72 : aw_kp 72 = (1, 96) := by decide +kernel
theorem kp_73 : aw_kp 73 = (0, 6) := by decide +kernel
theorem kp_74 : aw_kp 74 = (1, 5) := by decide +kernel
theorem kp_75 : aw_kp 75 = (1, 5) := by decide +kernel
theorem kp_76 : aw_kp 76 = (1, 5) := by decide +kernel
theorem kp_77 : aw_kp 77 = (0, 4) := by decide +kernel
theorem kp_78 : aw_kp 78 = (2, 16) := by decide +kernel
theorem kp_79 : aw_kp 79 = (1, 16) := by decide +kernel
theorem kp_80 : aw_kp 80 = (0, 3) := by decide +kernel
theorem kp_81 : aw_kp 81 = (0, 2) := by decide +kernel
theorem kp_82 : aw_kp 82 = (1, 5) := by decide +kernel
theorem kp_83 : aw_kp 83 = (1, 7) := by decide +kernel
theorem kp_84 : aw_kp 84 = (0, 1) := by decide +kernel
theorem kp_85 : aw_kp 85 = (1, 5) := by decide +kernel
theorem kp_86 : aw_kp 86 = (1, 5) := by decide +kernel
theorem kp_87 : aw_kp 87 = (1, 5) := by decide +kernel
theorem kp_88 : aw_kp 88 = (1, 5) := by decide +kernel
theorem kp_89 : aw_kp 89 = (1, 4) := by decide +kernel
theorem kp_90 : aw_kp 90 = (1, 4) := by decide +kernel
theorem kp_91 : aw_kp 91 = (1, 4) := by decide +kernel
theorem kp_92 : aw_kp 92 = (0, 0) := by decide +kernel
theorem kp_93 : aw_kp 93 = (1, 7) := by decide +kernel
theorem kp_94 : aw_kp 94 = (1, 7) := by decide +kernel
theorem kp_95 : aw_kp 95 = (1, 7) := by decide +kernel
theorem kp_96 : aw_kp 96 = (1, 7) := by decide +kernel
theorem kp_97 : aw_kp 97 = (0, 0) := by decide +kernel
theorem kp_98 : aw_kp 98 = (1, 4) := by decide +kernel
theorem kp_99 : aw_kp 99 = (1, 4) := by decide +kernel
theorem kp_100 : aw_kp 100 = (1, 4) := by decide +kernel
theorem kp_101 : aw_kp 101 = (1, 4) := by decide +kernel
theorem kp_102 : aw_kp 102 = (0, 1) := by decide +kernel
theorem kp_103 : aw_kp 103 = (1, 5) := by decide +kernel
theorem kp_104 : aw_kp 104 = (1, 5) := by decide +kernel
theorem kp_105 : aw_kp 105 = (1, 5) := by decide +kernel
theorem kp_106 : aw_kp 106 = (1, 5) := by decide +kernel
theorem kp_107 : aw_kp 107 = (1, 4) := by decide +kernel
theorem kp_108 : aw_kp 108 = (1, 4) := by decide +kernel
theorem kp_109 : aw_kp 109 = (1, 4) := by decide +kernel
theorem kp_110 : aw_kp 110 = (0, 0) := by decide +kernel
theorem kp_111 : aw_kp 111 = (1, 7) := by decide +kernel
theorem kp_112 : aw_kp 112 = (1, 7) := by decide +kernel
theorem kp_113 : aw_kp 113 = (1, 7) := by decide +kernel
theorem kp_114 : aw_kp 114 = (1, 7) := by decide +kernel
theorem kp_115 : aw_kp 115 = (0, 0) := by decide +kernel
theorem kp_116 : aw_kp 116 = (1, 4) := by decide +kernel
theorem kp_117 : aw_kp 117 = (1, 4) := by decide +kernel
theorem kp_118 : aw_kp 118 = (1, 4) := by decide +kernel
theorem kp_119 : aw_kp 119 = (1, 4) := by decide +kernel
theorem kp_120 : aw_kp 120 = (0, 10) := by decide +kernel
theorem kp_121 : aw_kp 121 = (1, 900) := by decide +kernel
theorem kp_122 : aw_kp 122 = (1, 8) := by decide +kernel
theorem kp_123 : aw_kp 123 = (1, 167) := by decide +kernel
theorem kp_124 : aw_kp 124 = (1, 167) := by decide +kernel
theorem kp_125 : aw_kp 125 = (1, 13) := by decide +kernel
theorem kp_126 : aw_kp 126 = (1, 208) := by decide +kernel
theorem kp_127 : aw_kp 127 = (1, 39) := by decide +kernel
theorem kp_128 : aw_kp 128 = (1, 13) := by decide +kernel
theorem kp_129 : aw_kp 129 = (1, 5) := by decide +kernel
theorem kp_130 : aw_kp 130 = (1, 5) := by decide +kernel
theorem kp_131 : aw_kp 131 = (1, 5) := by decide +kernel
theorem kp_132 : aw_kp 132 = (1, 5) := by decide +kernel
theorem kp_133 : aw_kp 133 = (2, 1) := by decide +kernel
theorem aw_WT.t1_0 {n : Nat} {θ : TH} (h : aw_WT n θ) : θ 1 0 = 2 := h.2.1 (1, 0, 2) (by decide)
theorem aw_WT.t1_1 {n : Nat} {θ : TH} (h : aw_WT n θ) : θ 1 1 = 6 := h.2.1 (1, 1, 6) (by decide)
theorem aw_WT.t1_2 {n : Nat} {θ : TH} (h : aw_WT n θ) : θ 1 2 = 9 := h.2.1 (1, 2, 9) (by decide)
theorem aw_WT.t1_3 {n : Nat} {θ : TH} (h : aw_WT n θ) : θ 1 3 = 69 := h.2.1 (1, 3, 69) (by decide)
theorem aw_WT.t1_4 {n : Nat} {θ : TH} (h : aw_WT n θ) : θ 1 4 = 73 := h.2.1 (1, 4, 73) (by decide)
theorem aw_WT.t1_5 {n : Nat} {θ : TH} (h : aw_WT n θ) : θ 1 5 = 77 := h.2.1 (1, 5, 77) (by decide)
theorem aw_WT.t1_6 {n : Nat} {θ : TH} (h : aw_WT n θ) : θ 1 6 = 80 := h.2.1 (1, 6, 80) (by decide)
theorem aw_WT.t2_2 {n : Nat} {θ : TH} (h : aw_WT n θ) : θ 2 2 = 3 := h.2.1 (2, 2, 3) (by decide)
theorem aw_WT.t2_3 {n : Nat} {θ : TH} (h : aw_WT n θ) : θ 2 3 = 4 := h.2.1 (2, 3, 4) (by decide)
theorem aw_WT.t2_4 {n : Nat} {θ : TH} (h : aw_WT n θ) : θ 2 4 = 5 := h.2.1 (2, 4, 5) (by decide)
theorem aw_WT.t6_0 {n : Nat} {θ : TH} (h : aw_WT n θ) : θ 6 0 = 7 := h.2.1 (6, 0, 7) (by decide)
theorem aw_WT.t6_1 {n : Nat} {θ : TH} (h : aw_WT n θ) : θ 6 1 = 8 := h.2.1 (6, 1, 8) (by decide)
theorem aw_WT.t9_2 {n : Nat} {θ : TH} (h : aw_WT n θ) : θ 9 2 = 10 := h.2.1 (9, 2, 10) (by decide)
theorem aw_WT.t9_3 {n : Nat} {θ : TH} (h : aw_WT n θ) : θ 9 3 = 11 := h.2.1 (9, 3, 11) (by decide)
theorem aw_WT.t12_0 {n : Nat} {θ : TH} (h : aw_WT n θ) : θ 12 0 = 13 := h.2.1 (12, 0, 13) (by decide)
theorem aw_WT.t12_1 {n : Nat} {θ : TH} (h : aw_WT n θ) : θ 12 1 = 14 := h.2.1 (12, 1, 14) (by decide)
theorem aw_WT.t15_0 {n : Nat} {θ : TH} (h : aw_WT n θ) : θ 15 0 = 16 := h.2.1 (15, 0, 16) (by decide)
theorem aw_WT.t15_1 {n : Nat} {θ : TH} (h : aw_WT n θ) : θ 15 1 = 17 := h.2.1 (15, 1, 17) (by decide)
theorem aw_WT.t18_0 {n : Nat} {θ : TH} (h : aw_WT n θ) : θ 18 0 = 19 := h.2.1 (18, 0, 19) (by decide)
theorem aw_WT.t18_1 {n : Nat} {θ : TH} (h : aw_WT n θ) : θ 18 1 = 20 := h.2.1 (18, 1, 20) (by decide)
theorem aw_WT.t21_0 {n : Nat} {θ : TH} (h : aw_WT n θ) : θ 21 0 = 22 := h.2.1 (21, 0, 22) (by decide)
theorem aw_WT.t21_1 {n : Nat} {θ : TH} (h : aw_WT n θ) : θ 21 1 = 23 := h.2.1 (21, 1, 23) (by decide)
theorem aw_WT.t24_0 {n : Nat} {θ : TH} (h : aw_WT n θ) : θ 24 0 = 25 := h.2.1 (24, 0, 25) (by decide)
theorem aw_WT.t24_1 {n : Nat} {θ : TH} (h : aw_WT n θ) : θ 24 1 = 26 := h.2.1 (24, 1, 26) (by decide)
theorem aw_WT.t27_0 {n : Nat} {θ : TH} (h : aw_WT n θ) : θ 27 0 = 28 := h.2.1 (27, 0, 28) (by decide)
theorem aw_WT.t27_1 {n : Nat} {θ : TH} (h : aw_WT n θ) : θ 27 1 = 29 := h.2.1 (27, 1, 29) (by decide)
theorem aw_WT.t30_0 {n : Nat} {θ : TH} (h : aw_WT n θ) : θ 30 0 = 31 := h.2.1 (30, 0, 31) (by decide)
theorem aw_WT.t30_1 {n : Nat} {θ : TH} (h : aw_WT n θ) : θ 30 1 = 32 := h.2.1 (30, 1, 32) (by decide)
theorem aw_WT.t33_0 {n : Nat} {θ : TH} (h : aw_WT n θ) : θ 33 0 = 34 := h.2.1 (33, 0, 34) (by decide)
theorem aw_WT.t33_1 {n : Nat} {θ : TH} (h : aw_WT n θ) : θ 33 1 = 35 := h.2.1 (33, 1, 35) (by decide)
theorem aw_WT.t36_0 {n : Nat} {θ : TH} (h : aw_WT n θ) : θ 36 0 = 37 := h.2.1 (36, 0, 37) (by decide)
theorem aw_WT.t36_1 {n : Nat} {θ : TH} (h : aw_WT n θ) : θ 36 1 = 38 := h.2.1 (36, 1, 38) (by decide)
theorem aw_WT.t39_0 {n : Nat} {θ : TH} (h : aw_WT n θ) : θ 39 0 = 40 := h.2.1 (39, 0, 40) (by decide)
theorem aw_WT.t39_1 {n : Nat} {θ : TH} (h : aw_WT n θ) : θ 39 1 = 41 := h.2.1 (39, 1, 41) (by decide)
theorem aw_WT.t42_0 {n : Nat} {θ : TH} (h : aw_WT n θ) : θ 42 0 = 43 := h.2.1 (42, 0, 43) (by decide)
theorem aw_WT.t42_1 {n : Nat} {θ : TH} (h : aw_WT n θ) : θ 42 1 = 44 := h.2.1 (42, 1, 44) (by decide)
theorem aw_WT.t45_0 {n : Nat} {θ : TH} (h : aw_WT n θ) : θ 45 0 = 46 := h.2.1 (45, 0, 46) (by decide)
theorem aw_WT.t45_1 {n : Nat} {θ : TH} (h : aw_WT n θ) : θ 45 1 = 47 := h.2.1 (45, 1, 47) (by decide)
theorem aw_WT.t48_0 {n : Nat} {θ : TH} (h : aw_WT n θ) : θ 48 0 = 49 := h.2.1 (48, 0, 49) (by decide)
theorem aw_WT.t48_1 {n : Nat} {θ : TH} (h : aw_WT n θ) : θ 48 1 = 50 := h.2.1 (48, 1, 50) (by decide)
theorem aw_WT.t51_0 {n : Nat} {θ : TH} (h : aw_WT n θ) : θ 51 0 = 52 := h.2.1 (51, 0, 52) (by decide)
theorem aw_WT.t51_1 {n : Nat} {θ : TH} (h : aw_WT n θ) : θ 51 1 = 53 := h.2.1 (51, 1, 53) (by decide)
theorem aw_WT.t54_0 {n : Nat} {θ : TH} (h : aw_WT n θ) : θ 54 0 = 55 := h.2.1 (54, 0, 55) (by decide)
theorem aw_WT.t54_1 {n : Nat} {θ : TH} (h : aw_WT n θ) : θ 54 1 = 56 := h.2.1 (54, 1, 56) (by decide)
theorem aw_WT.t57_0 {n : Nat} {θ : TH} (h : aw_WT n θ) : θ 57 0 = 58 := h.2.1 (57, 0, 58) (by decide)
theorem aw_WT.t57_1 {n : Nat} {θ : TH} (h : aw_WT n θ) : θ 57 1 = 59 := h.2.1 (57, 1, 59) (by decide)
theorem aw_WT.t60_0 {n : Nat} {θ : TH} (h : aw_WT n θ) : θ 60 0 = 61 := h.2.1 (60, 0, 61) (by decide)
theorem aw_WT.t60_1 {n : Nat} {θ : TH} (h : aw_WT n θ) : θ 60 1 = 62 := h.2.1 (60, 1, 62) (by decide)
theorem aw_WT.t63_0 {n : Nat} {θ : TH} (h : aw_WT n θ) : θ 63 0 = 64 := h.2.1 (63, 0, 64) (by decide)
theorem aw_WT.t63_1 {n : Nat} {θ : TH} (h : aw_WT n θ) : θ 63 1 = 65 := h.2.1 (63, 1, 65) (by decide)
theorem aw_WT.t66_0 {n : Nat} {θ : TH} (h : aw_WT n θ) : θ 66 0 = 67 := h.2.1 (66, 0, 67) (by decide)
theorem aw_WT.t66_1 {n : Nat} {θ : TH} (h : aw_WT n θ) : θ 66 1 = 68 := h.2.1 (66, 1, 68) (by decide)
theorem aw_WT.t69_0 {n : Nat} {θ : TH} (h : aw_WT n θ) : θ 69 0 = 70 := h.2.1 (69, 0, 70) (by decide)
theorem aw_WT.t69_1 {n : Nat} {θ : TH} (h : aw_WT n θ) : θ 69 1 = 71 := h.2.1 (69, 1, 71) (by decide)
theorem aw_WT.t69_2 {n : Nat} {θ : TH} (h : aw_WT n θ) : θ 69 2 = 72 := h.2.1 (69, 2, 72) (by decide)
theorem aw_WT.t73_0 {n : Nat} {θ : TH} (h : aw_WT n θ) : θ 73 0 = 74 := h.2.1 (73, 0, 74) (by decide)
theorem aw_WT.t73_2 {n : Nat} {θ : TH} (h : aw_WT n θ) : θ 73 2 = 75 := h.2.1 (73, 2, 75) (by decide)
theorem aw_WT.t73_3 {n : Nat} {θ : TH} (h : aw_WT n θ) : θ 73 3 = 76 := h.2.1 (73, 3, 76) (by decide)
theorem aw_WT.t77_3 {n : Nat} {θ : TH} (h : aw_WT n θ) : θ 77 3 = 78 := h.2.1 (77, 3, 78) (by decide)
theorem aw_WT.t77_4 {n : Nat} {θ : TH} (h : aw_WT n θ) : θ 77 4 = 79 := h.2.1 (77, 4, 79) (by decide)
theorem aw_WT.t80_0 {n : Nat} {θ : TH} (h : aw_WT n θ) : θ 80 0 = 81 := h.2.1 (80, 0, 81) (by decide)
theorem aw_WT.t81_0 {n : Nat} {θ : TH} (h : aw_WT n θ) : θ 81 0 = 82 := h.2.1 (81, 0, 82) (by decide)
theorem aw_WT.t81_1 {n : Nat} {θ : TH} (h : aw_WT n θ) : θ 81 1 = 83 := h.2.1 (81, 1, 83) (by decide)
theorem aw_WT.t84_0 {n : Nat} {θ : TH} (h : aw_WT n θ) : θ 84 0 = 85 := h.2.1 (84, 0, 85) (by decide)
theorem aw_WT.t84_1 {n : Nat} {θ : TH} (h : aw_WT n θ) : θ 84 1 = 86 := h.2.1 (84, 1, 86) (by decide)
theorem aw_WT.t84_2 {n : Nat} {θ : TH} (h : aw_WT n θ) : θ 84 2 = 87 := h.2.1 (84, 2, 87) (by decide)
theorem aw_WT.t84_3 {n : Nat} {θ : TH} (h : aw_WT n θ) : θ 84 3 = 88 := h.2.1 (84, 3, 88) (by decide)
theorem aw_WT.t84_4 {n : Nat} {θ : TH} (h : aw_WT n θ) : θ 84 4 = 89 := h.2.1 (84, 4, 89) (by decide)
theorem aw_WT.t84_5 {n : Nat} {θ : TH} (h : aw_WT n θ) : θ 84 5 = 90 := h.2.1 (84, 5, 90) (by decide)
theorem aw_WT.t84_6 {n : Nat} {θ : TH} (h : aw_WT n θ) : θ 84 6 = 91 := h.2.1 (84, 6, 91) (by decide)
theorem aw_WT.t84_7 {n : Nat} {θ : TH} (h : aw_WT n θ) : θ 84 7 = 92 := h.2.1 (84, 7, 92) (by decide)
theorem aw_WT.t84_8 {n : Nat} {θ : TH} (h : aw_WT n θ) : θ 84 8 = 97 := h.2.1 (84, 8, 97) (by decide)
theorem aw_WT.t92_0 {n : Nat} {θ : TH} (h : aw_WT n θ) : θ 92 0 = 93 := h.2.1 (92, 0, 93) (by decide)
theorem aw_WT.t92_1 {n : Nat} {θ : TH} (h : aw_WT n θ) : θ 92 1 = 94 := h.2.1 (92, 1, 94) (by decide)
theorem aw_WT.t92_2 {n : Nat} {θ : TH} (h : aw_WT n θ) : θ 92 2 = 95 := h.2.1 (92, 2, 95) (by decide)
theorem aw_WT.t92_3 {n : Nat} {θ : TH} (h : aw_WT n θ) : θ 92 3 = 96 := h.2.1 (92, 3, 96) (by decide)
theorem aw_WT.t97_0 {n : Nat} {θ : TH} (h : aw_WT n θ) : θ 97 0 = 98 := h.2.1 (97, 0, 98) (by decide)
theorem aw_WT.t97_1 {n : Nat} {θ : TH} (h : aw_WT n θ) : θ 97 1 = 99 := h.2.1 (97, 1, 99) (by decide)
theorem aw_WT.t97_2 {n : Nat} {θ : TH} (h : aw_WT n θ) : θ 97 2 = 100 := h.2.1 (97, 2, 100) (by decide)
theorem aw_WT.t97_3 {n : Nat} {θ : TH} (h : aw_WT n θ) : θ 97 3 = 101 := h.2.1 (97, 3, 101) (by decide)
theorem aw_WT.t102_0 {n : Nat} {θ : TH} (h : aw_WT n θ) : θ 102 0 = 103 := h.2.1 (102, 0, 103) (by decide)
theorem aw_WT.t102_1 {n : Nat} {θ : TH} (h : aw_WT n θ) : θ 102 1 = 104 := h.2.1 (102, 1, 104) (by decide)
theorem aw_WT.t102_2 {n : Nat} {θ : TH} (h : aw_WT n θ) : θ 102 2 = 105 := h.2.1 (102, 2, 105) (by decide)
theorem aw_WT.t102_3 {n : Nat} {θ : TH} (h : aw_WT n θ) : θ 102 3 = 106 := h.2.1 (102, 3, 106) (by decide)
theorem aw_WT.t102_4 {n : Nat} {θ : TH} (h : aw_WT n θ) : θ 102 4 = 107 := h.2.1 (102, 4, 107) (by decide)
theorem aw_WT.t102_5 {n : Nat} {θ : TH} (h : aw_WT n θ) : θ 102 5 = 108 := h.2.1 (102, 5, 108) (by decide)
theorem aw_WT.t102_6 {n : Nat} {θ : TH} (h : aw_WT n θ) : θ 102 6 = 109 := h.2.1 (102, 6, 109) (by decide)
theorem aw_WT.t102_7 {n : Nat} {θ : TH} (h : aw_WT n θ) : θ 102 7 = 110 := h.2.1 (102, 7, 110) (by decide)
theorem aw_WT.t102_8 {n : Nat} {θ : TH} (h : aw_WT n θ) : θ 102 8 = 115 := h.2.1 (102, 8, 115) (by decide)
theorem aw_WT.t110_0 {n : Nat} {θ : TH} (h : aw_WT n θ) : θ 110 0 = 111 := h.2.1 (110, 0, 111) (by decide)
theorem aw_WT.t110_1 {n : Nat} {θ : TH} (h : aw_WT n θ) : θ 110 1 = 112 := h.2.1 (110, 1, 112) (by decide)
theorem aw_WT.t110_2 {n : Nat} {θ : TH} (h : aw_WT n θ) : θ 110 2 = 113 := h.2.1 (110, 2, 113) (by decide)
theorem aw_WT.t110_3 {n : Nat} {θ : TH} (h : aw_WT n θ) : θ 110 3 = 114 := h.2.1 (110, 3, 114) (by decide)
theorem aw_WT.t115_0 {n : Nat} {θ : TH} (h : aw_WT n θ) : θ 115 0 = 116 := h.2.1 (115, 0, 116) (by decide)
theorem aw_WT.t115_1 {n : Nat} {θ : TH} (h : aw_WT n θ) : θ 115 1 = 117 := h.2.1 (115, 1, 117) (by decide)
theorem aw_WT.t115_2 {n : Nat} {θ : TH} (h : aw_WT n θ) : θ 115 2 = 118 := h.2.1 (115, 2, 118) (by decide)
theorem aw_WT.t115_3 {n : Nat} {θ : TH} (h : aw_WT n θ) : θ 115 3 = 119 := h.2.1 (115, 3, 119) (by decide)
theorem aw_WT.t120_1 {n : Nat} {θ : TH} (h : aw_WT n θ) : θ 120 1 = 121 := h.2.1 (120, 1, 121) (by decide)
theorem aw_WT.t120_12 {n : Nat} {θ : TH} (h : aw_WT n θ) : θ 120 12 = 122 := h.2.1 (120, 12, 122) (by decide)
theorem aw_WT.t120_15 {n : Nat} {θ : TH} (h : aw_WT n θ) : θ 120 15 = 123 := h.2.1 (120, 15, 123) (by decide)
theorem aw_WT.t120_16 {n : Nat} {θ : TH} (h : aw_WT n θ) : θ 120 16 = 124 := h.2.1 (120, 16, 124) (by decide)
theorem aw_WT.t120_17 {n : Nat} {θ : TH} (h : aw_WT n θ) : θ 120 17 = 125 := h.2.1 (120, 17, 125) (by decide)
theorem aw_WT.t120_18 {n : Nat} {θ : TH} (h : aw_WT n θ) : θ 120 18 = 126 := h.2.1 (120, 18, 126) (by decide)
theorem aw_WT.t120_19 {n : Nat} {θ : TH} (h : aw_WT n θ) : θ 120 19 = 127 := h.2.1 (120, 19, 127) (by decide)
theorem aw_WT.t120_23 {n : Nat} {θ : TH} (h : aw_WT n θ) : θ 120 23 = 128 := h.2.1 (120, 23, 128) (by decide)
theorem aw_WT.t120_24 {n : Nat} {θ : TH} (h : aw_WT n θ) : θ 120 24 = 129 := h.2.1 (120, 24, 129) (by decide)
theorem aw_WT.t120_25 {n : Nat} {θ : TH} (h : aw_WT n θ) : θ 120 25 = 130 := h.2.1 (120, 25, 130) (by decide)
theorem aw_WT.t120_27 {n : Nat} {θ : TH} (h : aw_WT n θ) : θ 120 27 = 131 := h.2.1 (120, 27, 131) (by decide)
theorem aw_WT.t120_28 {n : Nat} {θ : TH} (h : aw_WT n θ) : θ 120 28 = 132 := h.2.1 (120, 28, 132) (by decide)
theorem kpF_0 {f : Nat} (h : isF f) : aw_kp (f) = (0, 1) := (by decide +kernel : ∀ f ∈ [84, 102], aw_kp (f) = (0, 1)) f h
theorem leF_0 {f : Nat} (h : isF f) : 1 ≤ f ∧ f ≤ 133 := (by decide : ∀ f ∈ [84, 102], 1 ≤ f ∧ f ≤ 133) f h
theorem kpF_1 {f : Nat} (h : isF f) : aw_kp (f + 1) = (1, 5) := (by decide +kernel : ∀ f ∈ [84, 102], aw_kp (f + 1) = (1, 5)) f h
theorem leF_1 {f : Nat} (h : isF f) : 1 ≤ f + 1 ∧ f + 1 ≤ 133 := (by decide : ∀ f ∈ [84, 102], 1 ≤ f + 1 ∧ f + 1 ≤ 133) f h
theorem kpF_2 {f : Nat} (h : isF f) : aw_kp (f + 2) = (1, 5) := (by decide +kernel : ∀ f ∈ [84, 102], aw_kp (f + 2) = (1, 5)) f h
theorem leF_2 {f : Nat} (h : isF f) : 1 ≤ f + 2 ∧ f + 2 ≤ 133 := (by decide : ∀ f ∈ [84, 102], 1 ≤ f + 2 ∧ f + 2 ≤ 133) f h
theorem kpF_3 {f : Nat} (h : isF f) : aw_kp (f + 3) = (1, 5) := (by decide +kernel : ∀ f ∈ [84, 102], aw_kp (f + 3) = (1, 5)) f h
theorem leF_3 {f : Nat} (h : isF f) : 1 ≤ f + 3 ∧ f + 3 ≤ 133 := (by decide : ∀ f ∈ [84, 102], 1 ≤ f + 3 ∧ f + 3 ≤ 133) f h
theorem kpF_4 {f : Nat} (h : isF f) : aw_kp (f + 4) = (1, 5) := (by decide +kernel : ∀ f ∈ [84, 102], aw_kp (f + 4) = (1, 5)) f h
theorem leF_4 {f : Nat} (h : isF f) : 1 ≤ f + 4 ∧ f + 4 ≤ 133 := (by decide : ∀ f ∈ [84, 102], 1 ≤ f + 4 ∧ f + 4 ≤ 133) f h
theorem kpF_5 {f : Nat} (h : isF f) : aw_kp (f + 5) = (1, 4) := (by decide +kernel : ∀ f ∈ [84, 102], aw_kp (f + 5) = (1, 4)) f h
theorem leF_5 {f : Nat} (h : isF f) : 1 ≤ f + 5 ∧ f + 5 ≤ 133 := (by decide : ∀ f ∈ [84, 102], 1 ≤ f + 5 ∧ f + 5 ≤ 133) f h
theorem kpF_6 {f : Nat} (h : isF f) : aw_kp (f + 6) = (1, 4) := (by decide +kernel : ∀ f ∈ [84, 102], aw_kp (f + 6) = (1, 4)) f h
theorem leF_6 {f : Nat} (h : isF f) : 1 ≤ f + 6 ∧ f + 6 ≤ 133 := (by decide : ∀ f ∈ [84, 102], 1 ≤ f + 6 ∧ f + 6 ≤ 133) f h
theorem kpF_7 {f : Nat} (h : isF f) : aw_kp (f + 7) = (1, 4) := (by decide +kernel : ∀ f ∈ [84, 102], aw_kp (f + 7) = (1, 4)) f h
theorem leF_7 {f : Nat} (h : isF f) : 1 ≤ f + 7 ∧ f + 7 ≤ 133 := (by decide : ∀ f ∈ [84, 102], 1 ≤ f + 7 ∧ f + 7 ≤ 133) f h
theorem kpF_8 {f : Nat} (h : isF f) : aw_kp (f + 8) = (0, 0) := (by decide +kernel : ∀ f ∈ [84, 102], aw_kp (f + 8) = (0, 0)) f h
theorem leF_8 {f : Nat} (h : isF f) : 1 ≤ f + 8 ∧ f + 8 ≤ 133 := (by decide : ∀ f ∈ [84, 102], 1 ≤ f + 8 ∧ f + 8 ≤ 133) f h
theorem kpF_9 {f : Nat} (h : isF f) : aw_kp (f + 9) = (1, 7) := (by decide +kernel : ∀ f ∈ [84, 102], aw_kp (f + 9) = (1, 7)) f h
theorem leF_9 {f : Nat} (h : isF f) : 1 ≤ f + 9 ∧ f + 9 ≤ 133 := (by decide : ∀ f ∈ [84, 102], 1 ≤ f + 9 ∧ f + 9 ≤ 133) f h
theorem kpF_10 {f : Nat} (h : isF f) : aw_kp (f + 10) = (1, 7) := (by decide +kernel : ∀ f ∈ [84, 102], aw_kp (f + 10) = (1, 7)) f h
theorem leF_10 {f : Nat} (h : isF f) : 1 ≤ f + 10 ∧ f + 10 ≤ 133 := (by decide : ∀ f ∈ [84, 102], 1 ≤ f + 10 ∧ f + 10 ≤ 133) f h
theorem kpF_11 {f : Nat} (h : isF f) : aw_kp (f + 11) = (1, 7) := (by decide +kernel : ∀ f ∈ [84, 102], aw_kp (f + 11) = (1, 7)) f h
theorem leF_11 {f : Nat} (h : isF f) : 1 ≤ f + 11 ∧ f + 11 ≤ 133 := (by decide : ∀ f ∈ [84, 102], 1 ≤ f + 11 ∧ f + 11 ≤ 133) f h
theorem kpF_12 {f : Nat} (h : isF f) : aw_kp (f + 12) = (1, 7) := (by decide +kernel : ∀ f ∈ [84, 102], aw_kp (f + 12) = (1, 7)) f h
theorem leF_12 {f : Nat} (h : isF f) : 1 ≤ f + 12 ∧ f + 12 ≤ 133 := (by decide : ∀ f ∈ [84, 102], 1 ≤ f + 12 ∧ f + 12 ≤ 133) f h
theorem kpF_13 {f : Nat} (h : isF f) : aw_kp (f + 13) = (0, 0) := (by decide +kernel : ∀ f ∈ [84, 102], aw_kp (f + 13) = (0, 0)) f h
theorem leF_13 {f : Nat} (h : isF f) : 1 ≤ f + 13 ∧ f + 13 ≤ 133 := (by decide : ∀ f ∈ [84, 102], 1 ≤ f + 13 ∧ f + 13 ≤ 133) f h
theorem kpF_14 {f : Nat} (h : isF f) : aw_kp (f + 14) = (1, 4) := (by decide +kernel : ∀ f ∈ [84, 102], aw_kp (f + 14) = (1, 4)) f h
theorem leF_14 {f : Nat} (h : isF f) : 1 ≤ f + 14 ∧ f + 14 ≤ 133 := (by decide : ∀ f ∈ [84, 102], 1 ≤ f + 14 ∧ f + 14 ≤ 133) f h
theorem kpF_15 {f : Nat} (h : isF f) : aw_kp (f + 15) = (1, 4) := (by decide +kernel : ∀ f ∈ [84, 102], aw_kp (f + 15) = (1, 4)) f h
theorem leF_15 {f : Nat} (h : isF f) : 1 ≤ f + 15 ∧ f + 15 ≤ 133 := (by decide : ∀ f ∈ [84, 102], 1 ≤ f + 15 ∧ f + 15 ≤ 133) f h
theorem kpF_16 {f : Nat} (h : isF f) : aw_kp (f + 16) = (1, 4) := (by decide +kernel : ∀ f ∈ [84, 102], aw_kp (f + 16) = (1, 4)) f h
theorem leF_16 {f : Nat} (h : isF f) : 1 ≤ f + 16 ∧ f + 16 ≤ 133 := (by decide : ∀ f ∈ [84, 102], 1 ≤ f + 16 ∧ f + 16 ≤ 133) f h
theorem kpF_17 {f : Nat} (h : isF f) : aw_kp (f + 17) = (1, 4) := (by decide +kernel : ∀ f ∈ [84, 102], aw_kp (f + 17) = (1, 4)) f h
theorem leF_17 {f : Nat} (h : isF f) : 1 ≤ f + 17 ∧ f + 17 ≤ 133 := (by decide : ∀ f ∈ [84, 102], 1 ≤ f + 17 ∧ f + 17 ≤ 133) f h
theorem aw_WT.f0 {n : Nat} {θ : TH} (h : aw_WT n θ) {f : Nat} (hf : isF f) : θ f 0 = f + 1 := by
  rcases List.mem_cons.mp hf with e | hf
  · rw [e]; exact h.2.1 (84, 0, 85) (by decide)
  · rw [List.mem_singleton.mp hf]; exact h.2.1 (102, 0, 103) (by decide)
theorem aw_WT.f1 {n : Nat} {θ : TH} (h : aw_WT n θ) {f : Nat} (hf : isF f) : θ f 1 = f + 2 := by
  rcases List.mem_cons.mp hf with e | hf
  · rw [e]; exact h.2.1 (84, 1, 86) (by decide)
  · rw [List.mem_singleton.mp hf]; exact h.2.1 (102, 1, 104) (by decide)
theorem aw_WT.f2 {n : Nat} {θ : TH} (h : aw_WT n θ) {f : Nat} (hf : isF f) : θ f 2 = f + 3 := by
  rcases List.mem_cons.mp hf with e | hf
  · rw [e]; exact h.2.1 (84, 2, 87) (by decide)
  · rw [List.mem_singleton.mp hf]; exact h.2.1 (102, 2, 105) (by decide)
theorem aw_WT.f3 {n : Nat} {θ : TH} (h : aw_WT n θ) {f : Nat} (hf : isF f) : θ f 3 = f + 4 := by
  rcases List.mem_cons.mp hf with e | hf
  · rw [e]; exact h.2.1 (84, 3, 88) (by decide)
  · rw [List.mem_singleton.mp hf]; exact h.2.1 (102, 3, 106) (by decide)
theorem aw_WT.f4 {n : Nat} {θ : TH} (h : aw_WT n θ) {f : Nat} (hf : isF f) : θ f 4 = f + 5 := by
  rcases List.mem_cons.mp hf with e | hf
  · rw [e]; exact h.2.1 (84, 4, 89) (by decide)
  · rw [List.mem_singleton.mp hf]; exact h.2.1 (102, 4, 107) (by decide)
theorem aw_WT.f5 {n : Nat} {θ : TH} (h : aw_WT n θ) {f : Nat} (hf : isF f) : θ f 5 = f + 6 := by
  rcases List.mem_cons.mp hf with e | hf
  · rw [e]; exact h.2.1 (84, 5, 90) (by decide)
  · rw [List.mem_singleton.mp hf]; exact h.2.1 (102, 5, 108) (by decide)
theorem aw_WT.f6 {n : Nat} {θ : TH} (h : aw_WT n θ) {f : Nat} (hf : isF f) : θ f 6 = f + 7 := by
  rcases List.mem_cons.mp hf with e | hf
  · rw [e]; exact h.2.1 (84, 6, 91) (by decide)
  · rw [List.mem_singleton.mp hf]; exact h.2.1 (102, 6, 109) (by decide)
theorem aw_WT.f7 {n : Nat} {θ : TH} (h : aw_WT n θ) {f : Nat} (hf : isF f) : θ f 7 = f + 8 := by
  rcases List.mem_cons.mp hf with e | hf
  · rw [e]; exact h.2.1 (84, 7, 92) (by decide)
  · rw [List.mem_singleton.mp hf]; exact h.2.1 (102, 7, 110) (by decide)
theorem aw_WT.f8 {n : Nat} {θ : TH} (h : aw_WT n θ) {f : Nat} (hf : isF f) : θ f 8 = f + 13 := by
  rcases List.mem_cons.mp hf with e | hf
  · rw [e]; exact h.2.1 (84, 8, 97) (by decide)
  · rw [List.mem_singleton.mp hf]; exact h.2.1 (102, 8, 115) (by decide)
theorem aw_WT.f8_0 {n : Nat} {θ : TH} (h : aw_WT n θ) {f : Nat} (hf : isF f) : θ (f + 8) 0 = f + 9 := by
  rcases List.mem_cons.mp hf with e | hf
  · rw [e]; exact h.2.1 (92, 0, 93) (by decide)
  · rw [List.mem_singleton.mp hf]; exact h.2.1 (110, 0, 111) (by decide)
theorem aw_WT.f8_1 {n : Nat} {θ : TH} (h : aw_WT n θ) {f : Nat} (hf : isF f) : θ (f + 8) 1 = f + 10 := by
  rcases List.mem_cons.mp hf with e | hf
  · rw [e]; exact h.2.1 (92, 1, 94) (by decide)
  · rw [List.mem_singleton.mp hf]; exact h.2.1 (110, 1, 112) (by decide)
theorem aw_WT.f8_2 {n : Nat} {θ : TH} (h : aw_WT n θ) {f : Nat} (hf : isF f) : θ (f + 8) 2 = f + 11 := by
  rcases List.mem_cons.mp hf with e | hf
  · rw [e]; exact h.2.1 (92, 2, 95) (by decide)
  · rw [List.mem_singleton.mp hf]; exact h.2.1 (110, 2, 113) (by decide)
theorem aw_WT.f8_3 {n : Nat} {θ : TH} (h : aw_WT n θ) {f : Nat} (hf : isF f) : θ (f + 8) 3 = f + 12 := by
  rcases List.mem_cons.mp hf with e | hf
  · rw [e]; exact h.2.1 (92, 3, 96) (by decide)
  · rw [List.mem_singleton.mp hf]; exact h.2.1 (110, 3, 114) (by decide)
theorem aw_WT.f13_0 {n : Nat} {θ : TH} (h : aw_WT n θ) {f : Nat} (hf : isF f) : θ (f + 13) 0 = f + 14 := by
  rcases List.mem_cons.mp hf with e | hf
  · rw [e]; exact h.2.1 (97, 0, 98) (by decide)
  · rw [List.mem_singleton.mp hf]; exact h.2.1 (115, 0, 116) (by decide)
theorem aw_WT.f13_1 {n : Nat} {θ : TH} (h : aw_WT n θ) {f : Nat} (hf : isF f) : θ (f + 13) 1 = f + 15 := by
  rcases List.mem_cons.mp hf with e | hf
  · rw [e]; exact h.2.1 (97, 1, 99) (by decide)
  · rw [List.mem_singleton.mp hf]; exact h.2.1 (115, 1, 117) (by decide)
theorem aw_WT.f13_2 {n : Nat} {θ : TH} (h : aw_WT n θ) {f : Nat} (hf : isF f) : θ (f + 13) 2 = f + 16 := by
  rcases List.mem_cons.mp hf with e | hf
  · rw [e]; exact h.2.1 (97, 2, 100) (by decide)
  · rw [List.mem_singleton.mp hf]; exact h.2.1 (115, 2, 118) (by decide)
theorem aw_WT.f13_3 {n : Nat} {θ : TH} (h : aw_WT n θ) {f : Nat} (hf : isF f) : θ (f + 13) 3 = f + 17 := by
  rcases List.mem_cons.mp hf with e | hf
  · rw [e]; exact h.2.1 (97, 3, 101) (by decide)
  · rw [List.mem_singleton.mp hf]; exact h.2.1 (115, 3, 119) (by decide)
theorem kpM_0 {t : Nat} (h : isM t) : aw_kp (t) = (0, 2) := (by decide +kernel : ∀ t ∈ [6, 12, 15, 18, 21, 24, 27, 30, 33, 36, 39, 42, 45, 48, 51, 54, 57, 60, 63, 66, 81], aw_kp (t) = (0, 2)) t h
theorem leM_0 {t : Nat} (h : isM t) : 1 ≤ t ∧ t ≤ 133 := (by decide +kernel : ∀ t ∈ [6, 12, 15, 18, 21, 24, 27, 30, 33, 36, 39, 42, 45, 48, 51, 54, 57, 60, 63, 66, 81], 1 ≤ t ∧ t ≤ 133) t h
theorem kpM_1 {t : Nat} (h : isM t) : aw_kp (t + 1) = (1, 5) := (by decide +kernel : ∀ t ∈ [6, 12, 15, 18, 21, 24, 27, 30, 33, 36, 39, 42, 45, 48, 51, 54, 57, 60, 63, 66, 81], aw_kp (t + 1) = (1, 5)) t h
theorem leM_1 {t : Nat} (h : isM t) : 1 ≤ t + 1 ∧ t + 1 ≤ 133 := (by decide +kernel : ∀ t ∈ [6, 12, 15, 18, 21, 24, 27, 30, 33, 36, 39, 42, 45, 48, 51, 54, 57, 60, 63, 66, 81], 1 ≤ t + 1 ∧ t + 1 ≤ 133) t h
theorem kpM_2 {t : Nat} (h : isM t) : aw_kp (t + 2) = (1, 7) := (by decide +kernel : ∀ t ∈ [6, 12, 15, 18, 21, 24, 27, 30, 33, 36, 39, 42, 45, 48, 51, 54, 57, 60, 63, 66, 81], aw_kp (t + 2) = (1, 7)) t h
theorem leM_2 {t : Nat} (h : isM t) : 1 ≤ t + 2 ∧ t + 2 ≤ 133 := (by decide +kernel : ∀ t ∈ [6, 12, 15, 18, 21, 24, 27, 30, 33, 36, 39, 42, 45, 48, 51, 54, 57, 60, 63, 66, 81], 1 ≤ t + 2 ∧ t + 2 ≤ 133) t h
theorem aw_mom0 : ∀ t ∈ [6, 12, 15, 18, 21, 24, 27, 30, 33, 36, 39, 42, 45, 48, 51, 54, 57, 60, 63, 66, 81], (t, 0, t + 1) ∈ aw_wtL := by decide +kernel
theorem aw_WT.m0 {n : Nat} {θ : TH} (h : aw_WT n θ) {t : Nat} (ht : isM t) : θ t 0 = t + 1 := h.2.1 (t, 0, t + 1) (aw_mom0 t ht)
theorem aw_mom1 : ∀ t ∈ [6, 12, 15, 18, 21, 24, 27, 30, 33, 36, 39, 42, 45, 48, 51, 54, 57, 60, 63, 66, 81], (t, 1, t + 2) ∈ aw_wtL := by decide +kernel
theorem aw_WT.m1 {n : Nat} {θ : TH} (h : aw_WT n θ) {t : Nat} (ht : isM t) : θ t 1 = t + 2 := h.2.1 (t, 1, t + 2) (aw_mom1 t ht)
theorem kpC_0 {c m : Nat} (h : isC c m) : aw_kp (c) = (0, 0) := (by decide +kernel : ∀ q ∈ [(92, 7), (97, 4), (110, 7), (115, 4)], aw_kp (q.1) = (0, 0)) (c, m) h
theorem leC_0 {c m : Nat} (h : isC c m) : 1 ≤ c ∧ c ≤ 133 := (by decide +kernel : ∀ q ∈ [(92, 7), (97, 4), (110, 7), (115, 4)], 1 ≤ q.1 ∧ q.1 ≤ 133) (c, m) h
theorem kpC_1 {c m : Nat} (h : isC c m) : aw_kp (c + 1) = (1, m) := (by decide +kernel : ∀ q ∈ [(92, 7), (97, 4), (110, 7), (115, 4)], aw_kp (q.1 + 1) = (1, q.2)) (c, m) h
theorem leC_1 {c m : Nat} (h : isC c m) : 1 ≤ c + 1 ∧ c + 1 ≤ 133 := (by decide +kernel : ∀ q ∈ [(92, 7), (97, 4), (110, 7), (115, 4)], 1 ≤ q.1 + 1 ∧ q.1 + 1 ≤ 133) (c, m) h
theorem kpC_2 {c m : Nat} (h : isC c m) : aw_kp (c + 2) = (1, m) := (by decide +kernel : ∀ q ∈ [(92, 7), (97, 4), (110, 7), (115, 4)], aw_kp (q.1 + 2) = (1, q.2)) (c, m) h
theorem leC_2 {c m : Nat} (h : isC c m) : 1 ≤ c + 2 ∧ c + 2 ≤ 133 := (by decide +kernel : ∀ q ∈ [(92, 7), (97, 4), (110, 7), (115, 4)], 1 ≤ q.1 + 2 ∧ q.1 + 2 ≤ 133) (c, m) h
theorem kpC_3 {c m : Nat} (h : isC c m) : aw_kp (c + 3) = (1, m) := (by decide +kernel : ∀ q ∈ [(92, 7), (97, 4), (110, 7), (115, 4)], aw_kp (q.1 + 3) = (1, q.2)) (c, m) h
theorem leC_3 {c m : Nat} (h : isC c m) : 1 ≤ c + 3 ∧ c + 3 ≤ 133 := (by decide +kernel : ∀ q ∈ [(92, 7), (97, 4), (110, 7), (115, 4)], 1 ≤ q.1 + 3 ∧ q.1 + 3 ≤ 133) (c, m) h
theorem kpC_4 {c m : Nat} (h : isC c m) : aw_kp (c + 4) = (1, m) := (by decide +kernel : ∀ q ∈ [(92, 7), (97, 4), (110, 7), (115, 4)], aw_kp (q.1 + 4) = (1, q.2)) (c, m) h
theorem leC_4 {c m : Nat} (h : isC c m) : 1 ≤ c + 4 ∧ c + 4 ≤ 133 := (by decide +kernel : ∀ q ∈ [(92, 7), (97, 4), (110, 7), (115, 4)], 1 ≤ q.1 + 4 ∧ q.1 + 4 ≤ 133) (c, m) h
theorem aw_WT.c0 {n : Nat} {θ : TH} (h : aw_WT n θ) {c m : Nat} (hc : isC c m) : θ c 0 = c + 1 := h.2.1 (c, 0, c + 1) ((by decide +kernel : ∀ q ∈ [(92, 7), (97, 4), (110, 7), (115, 4)], (q.1, 0, q.1 + 1) ∈ aw_wtL) (c, m) hc)
theorem aw_WT.c1 {n : Nat} {θ : TH} (h : aw_WT n θ) {c m : Nat} (hc : isC c m) : θ c 1 = c + 2 := h.2.1 (c, 1, c + 2) ((by decide +kernel : ∀ q ∈ [(92, 7), (97, 4), (110, 7), (115, 4)], (q.1, 1, q.1 + 2) ∈ aw_wtL) (c, m) hc)
theorem aw_WT.c2 {n : Nat} {θ : TH} (h : aw_WT n θ) {c m : Nat} (hc : isC c m) : θ c 2 = c + 3 := h.2.1 (c, 2, c + 3) ((by decide +kernel : ∀ q ∈ [(92, 7), (97, 4), (110, 7), (115, 4)], (q.1, 2, q.1 + 3) ∈ aw_wtL) (c, m) hc)
theorem aw_WT.c3 {n : Nat} {θ : TH} (h : aw_WT n θ) {c m : Nat} (hc : isC c m) : θ c 3 = c + 4 := h.2.1 (c, 3, c + 4) ((by decide +kernel : ∀ q ∈ [(92, 7), (97, 4), (110, 7), (115, 4)], (q.1, 3, q.1 + 4) ∈ aw_wtL) (c, m) hc)
theorem aw_WT.act {n : Nat} {θ : TH} (h : aw_WT n θ) {i : Nat} (hi : i < 16) : θ 10 i = 12 + 3 * i := h.2.1 (10, i, 12 + 3 * i) ((by decide +kernel : ∀ i, i < 16 → (10, i, 12 + 3 * i) ∈ aw_wtL) i hi)
theorem aw_WT.img {n : Nat} {θ : TH} (h : aw_WT n θ) {i : Nat} (hi : i < 3) : θ 11 i = 60 + 3 * i := h.2.1 (11, i, 60 + 3 * i) ((by decide +kernel : ∀ i, i < 3 → (11, i, 60 + 3 * i) ∈ aw_wtL) i hi)
theorem isM_act {i : Nat} (hi : i < 16) : isM (12 + 3 * i) := (by decide +kernel : ∀ i, i < 16 → 12 + 3 * i ∈ [6, 12, 15, 18, 21, 24, 27, 30, 33, 36, 39, 42, 45, 48, 51, 54, 57, 60, 63, 66, 81]) i hi
theorem isM_img {i : Nat} (hi : i < 3) : isM (60 + 3 * i) := (by decide +kernel : ∀ i, i < 3 → 60 + 3 * i ∈ [6, 12, 15, 18, 21, 24, 27, 30, 33, 36, 39, 42, 45, 48, 51, 54, 57, 60, 63, 66, 81]) i hi
theorem aw_sw_0_7 {x : Int32} (h : ¬ (x.toInt < (0 : Int) ∨ (7 : Int) < x.toInt)) : x = (0 : Int32) ∨ x = (1 : Int32) ∨ x = (2 : Int32) ∨ x = (3 : Int32) ∨ x = (4 : Int32) ∨ x = (5 : Int32) ∨ x = (6 : Int32) ∨ x = (7 : Int32) := by
  have h1 : x.toInt = (0 : Int) ∨ x.toInt = (1 : Int) ∨ x.toInt = (2 : Int) ∨ x.toInt = (3 : Int) ∨ x.toInt = (4 : Int) ∨ x.toInt = (5 : Int) ∨ x.toInt = (6 : Int) ∨ x.toInt = (7 : Int) := by omega
  rcases h1 with h1 | h1 | h1 | h1 | h1 | h1 | h1 | h1
  · exact Or.inl (Int32.toInt_inj.mp h1)
  · exact Or.inr (Or.inl (Int32.toInt_inj.mp h1))
  · exact Or.inr (Or.inr (Or.inl (Int32.toInt_inj.mp h1)))
  · exact Or.inr (Or.inr (Or.inr (Or.inl (Int32.toInt_inj.mp h1))))
  · exact Or.inr (Or.inr (Or.inr (Or.inr (Or.inl (Int32.toInt_inj.mp h1)))))
  · exact Or.inr (Or.inr (Or.inr (Or.inr (Or.inr (Or.inl (Int32.toInt_inj.mp h1))))))
  · exact Or.inr (Or.inr (Or.inr (Or.inr (Or.inr (Or.inr (Or.inl (Int32.toInt_inj.mp h1)))))))
  · exact Or.inr (Or.inr (Or.inr (Or.inr (Or.inr (Or.inr (Or.inr (Int32.toInt_inj.mp h1)))))))
theorem aw_sw_0_6 {x : Int32} (h : ¬ (x.toInt < (0 : Int) ∨ (6 : Int) < x.toInt)) : x = (0 : Int32) ∨ x = (1 : Int32) ∨ x = (2 : Int32) ∨ x = (3 : Int32) ∨ x = (4 : Int32) ∨ x = (5 : Int32) ∨ x = (6 : Int32) := by
  have h1 : x.toInt = (0 : Int) ∨ x.toInt = (1 : Int) ∨ x.toInt = (2 : Int) ∨ x.toInt = (3 : Int) ∨ x.toInt = (4 : Int) ∨ x.toInt = (5 : Int) ∨ x.toInt = (6 : Int) := by omega
  rcases h1 with h1 | h1 | h1 | h1 | h1 | h1 | h1
  · exact Or.inl (Int32.toInt_inj.mp h1)
  · exact Or.inr (Or.inl (Int32.toInt_inj.mp h1))
  · exact Or.inr (Or.inr (Or.inl (Int32.toInt_inj.mp h1)))
  · exact Or.inr (Or.inr (Or.inr (Or.inl (Int32.toInt_inj.mp h1))))
  · exact Or.inr (Or.inr (Or.inr (Or.inr (Or.inl (Int32.toInt_inj.mp h1)))))
  · exact Or.inr (Or.inr (Or.inr (Or.inr (Or.inr (Or.inl (Int32.toInt_inj.mp h1))))))
  · exact Or.inr (Or.inr (Or.inr (Or.inr (Or.inr (Or.inr (Int32.toInt_inj.mp h1))))))
theorem aw_sw_0_5 {x : Int32} (h : ¬ (x.toInt < (0 : Int) ∨ (5 : Int) < x.toInt)) : x = (0 : Int32) ∨ x = (1 : Int32) ∨ x = (2 : Int32) ∨ x = (3 : Int32) ∨ x = (4 : Int32) ∨ x = (5 : Int32) := by
  have h1 : x.toInt = (0 : Int) ∨ x.toInt = (1 : Int) ∨ x.toInt = (2 : Int) ∨ x.toInt = (3 : Int) ∨ x.toInt = (4 : Int) ∨ x.toInt = (5 : Int) := by omega
  rcases h1 with h1 | h1 | h1 | h1 | h1 | h1
  · exact Or.inl (Int32.toInt_inj.mp h1)
  · exact Or.inr (Or.inl (Int32.toInt_inj.mp h1))
  · exact Or.inr (Or.inr (Or.inl (Int32.toInt_inj.mp h1)))
  · exact Or.inr (Or.inr (Or.inr (Or.inl (Int32.toInt_inj.mp h1))))
  · exact Or.inr (Or.inr (Or.inr (Or.inr (Or.inl (Int32.toInt_inj.mp h1)))))
  · exact Or.inr (Or.inr (Or.inr (Or.inr (Or.inr (Int32.toInt_inj.mp h1)))))
theorem aw_sw_0_4 {x : Int32} (h : ¬ (x.toInt < (0 : Int) ∨ (4 : Int) < x.toInt)) : x = (0 : Int32) ∨ x = (1 : Int32) ∨ x = (2 : Int32) ∨ x = (3 : Int32) ∨ x = (4 : Int32) := by
  have h1 : x.toInt = (0 : Int) ∨ x.toInt = (1 : Int) ∨ x.toInt = (2 : Int) ∨ x.toInt = (3 : Int) ∨ x.toInt = (4 : Int) := by omega
  rcases h1 with h1 | h1 | h1 | h1 | h1
  · exact Or.inl (Int32.toInt_inj.mp h1)
  · exact Or.inr (Or.inl (Int32.toInt_inj.mp h1))
  · exact Or.inr (Or.inr (Or.inl (Int32.toInt_inj.mp h1)))
  · exact Or.inr (Or.inr (Or.inr (Or.inl (Int32.toInt_inj.mp h1))))
  · exact Or.inr (Or.inr (Or.inr (Or.inr (Int32.toInt_inj.mp h1))))
theorem aw_sw_0_13 {x : Int32} (h : ¬ (x.toInt < (0 : Int) ∨ (13 : Int) < x.toInt)) : x = (0 : Int32) ∨ x = (1 : Int32) ∨ x = (2 : Int32) ∨ x = (3 : Int32) ∨ x = (4 : Int32) ∨ x = (5 : Int32) ∨ x = (6 : Int32) ∨ x = (7 : Int32) ∨ x = (8 : Int32) ∨ x = (9 : Int32) ∨ x = (10 : Int32) ∨ x = (11 : Int32) ∨ x = (12 : Int32) ∨ x = (13 : Int32) := by
  have h1 : x.toInt = (0 : Int) ∨ x.toInt = (1 : Int) ∨ x.toInt = (2 : Int) ∨ x.toInt = (3 : Int) ∨ x.toInt = (4 : Int) ∨ x.toInt = (5 : Int) ∨ x.toInt = (6 : Int) ∨ x.toInt = (7 : Int) ∨ x.toInt = (8 : Int) ∨ x.toInt = (9 : Int) ∨ x.toInt = (10 : Int) ∨ x.toInt = (11 : Int) ∨ x.toInt = (12 : Int) ∨ x.toInt = (13 : Int) := by omega
  rcases h1 with h1 | h1 | h1 | h1 | h1 | h1 | h1 | h1 | h1 | h1 | h1 | h1 | h1 | h1
  · exact Or.inl (Int32.toInt_inj.mp h1)
  · exact Or.inr (Or.inl (Int32.toInt_inj.mp h1))
  · exact Or.inr (Or.inr (Or.inl (Int32.toInt_inj.mp h1)))
  · exact Or.inr (Or.inr (Or.inr (Or.inl (Int32.toInt_inj.mp h1))))
  · exact Or.inr (Or.inr (Or.inr (Or.inr (Or.inl (Int32.toInt_inj.mp h1)))))
  · exact Or.inr (Or.inr (Or.inr (Or.inr (Or.inr (Or.inl (Int32.toInt_inj.mp h1))))))
  · exact Or.inr (Or.inr (Or.inr (Or.inr (Or.inr (Or.inr (Or.inl (Int32.toInt_inj.mp h1)))))))
  · exact Or.inr (Or.inr (Or.inr (Or.inr (Or.inr (Or.inr (Or.inr (Or.inl (Int32.toInt_inj.mp h1))))))))
  · exact Or.inr (Or.inr (Or.inr (Or.inr (Or.inr (Or.inr (Or.inr (Or.inr (Or.inl (Int32.toInt_inj.mp h1)))))))))
  · exact Or.inr (Or.inr (Or.inr (Or.inr (Or.inr (Or.inr (Or.inr (Or.inr (Or.inr (Or.inl (Int32.toInt_inj.mp h1))))))))))
  · exact Or.inr (Or.inr (Or.inr (Or.inr (Or.inr (Or.inr (Or.inr (Or.inr (Or.inr (Or.inr (Or.inl (Int32.toInt_inj.mp h1)))))))))))
  · exact Or.inr (Or.inr (Or.inr (Or.inr (Or.inr (Or.inr (Or.inr (Or.inr (Or.inr (Or.inr (Or.inr (Or.inl (Int32.toInt_inj.mp h1))))))))))))
  · exact Or.inr (Or.inr (Or.inr (Or.inr (Or.inr (Or.inr (Or.inr (Or.inr (Or.inr (Or.inr (Or.inr (Or.inr (Or.inl (Int32.toInt_inj.mp h1)))))))))))))
  · exact Or.inr (Or.inr (Or.inr (Or.inr (Or.inr (Or.inr (Or.inr (Or.inr (Or.inr (Or.inr (Or.inr (Or.inr (Or.inr (Int32.toInt_inj.mp h1)))))))))))))
theorem aw_sw_1_3 {x : Int32} (h : ¬ (x.toInt < (1 : Int) ∨ (3 : Int) < x.toInt)) : x = (1 : Int32) ∨ x = (2 : Int32) ∨ x = (3 : Int32) := by
  have h1 : x.toInt = (1 : Int) ∨ x.toInt = (2 : Int) ∨ x.toInt = (3 : Int) := by omega
  rcases h1 with h1 | h1 | h1
  · exact Or.inl (Int32.toInt_inj.mp h1)
  · exact Or.inr (Or.inl (Int32.toInt_inj.mp h1))
  · exact Or.inr (Or.inr (Int32.toInt_inj.mp h1))
theorem aw_sw_2_3 {x : Int32} (h : ¬ (x.toInt < (2 : Int) ∨ (3 : Int) < x.toInt)) : x = (2 : Int32) ∨ x = (3 : Int32) := by
  have h1 : x.toInt = (2 : Int) ∨ x.toInt = (3 : Int) := by omega
  rcases h1 with h1 | h1
  · exact Or.inl (Int32.toInt_inj.mp h1)
  · exact Or.inr (Int32.toInt_inj.mp h1)
