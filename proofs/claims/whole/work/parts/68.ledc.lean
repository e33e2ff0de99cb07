/-! ===== led: the throw. NoSuchElementException's own constructor names its super's by entry 13, so the rows above (7 at each step) don't fit it: these are written for it ===== -/
abbrev lk_E : String := "java/util/NoSuchElementException"
abbrev lk_R : String := "java/lang/RuntimeException"
def lk_own : List Cond := Bundle.throwableAtoms ++ Bundle.throwableSAtoms ++ Bundle.passSAtoms lk_E lk_R 13 prog_25_method_4_code ++ Bundle.chainSAtoms lk_R ["java/lang/Exception"] ++
  [.methodLink RX9 330 (Bundle.initS lk_E), .instantiable lk_E 6, .castable lk_E lk_E, .selects lk_E Bundle.tFill0 Bundle.tFill0, .selects lk_E Bundle.tFill Bundle.tFill,
   .lays lk_E Bundle.tN "cause" "Ljava/lang/Throwable;", .lays lk_E Bundle.tN "stackTrace" Bundle.steD, .lays lk_E Bundle.tN "suppressedExceptions" Bundle.listD, .lays lk_E Bundle.tN "detailMessage" "Ljava/lang/String;",
   .isRef (.static Bundle.tN "UNASSIGNED_STACK" Bundle.steD), .isRef (.static Bundle.tN "SUPPRESSED_SENTINEL" Bundle.listD),
   .fieldLink Bundle.tN 198 Bundle.tN "backtrace" "Ljava/lang/Object;", .lays Bundle.tN Bundle.tN "backtrace" "Ljava/lang/Object;", .lays lk_E Bundle.tN "backtrace" "Ljava/lang/Object;"]
def lk_k (w : Cond) : Bool := goodWord w || (w.onTables && w.keepsH) || (match w with | .declares _ => true | .castable _ _ => true | _ => false)
theorem lk_all : ∀ w ∈ lk_own.filter vx_no, w ∈ lw_tbl := by decide +kernel
theorem lk_all2 : (Cond.classLink RX9 326 lk_E :: Cond.initialized lk_E :: lk_own.filter vx_no).all (fun w => vx_ot w && lk_k w) = true := by decide +kernel
theorem lk_w {w : Cond} {A0 args : Array Value} {s0 s : State} (hk : lk_k w = true) (h : w.before A0 s0 = true) (hW : s0.WarmedH s.vm) : w.before args s = true := by
  simp only [lk_k, Bool.or_eq_true] at hk
  rcases hk with (hg | hg) | hg
  · exact word_at hW (good_of_word hg) h
  · rw [Bool.and_eq_true] at hg
    exact Cond.onTables_warmH (T := s) hW hg.1 hg.2 h
  · cases w with
    | declares x => exact va_tabs rfl (rfl : (s0.setVm s.vm).vm = s.vm) (by rw [Cond.declares_setVm hW.alike]; exact h)
    | castable C T => exact va_tabs rfl (rfl : (s0.setVm s.vm).vm = s.vm) (by rw [Cond.castable_setVm hW.alike]; exact h)
    | _ => cases hg
theorem lk_hat {G : GG} {s : State} {args : Array Value} (hK : aw_K G s) : ∀ w ∈ lk_own.filter vx_no, w.before args s = true := by
  obtain ⟨A0, s0, e1, e2, e3, e4⟩ := hK.2.1.2
  intro w hw
  have h := List.all_eq_true.mp lk_all2 w (List.mem_cons_of_mem _ (List.mem_cons_of_mem _ hw))
  rw [Bool.and_eq_true] at h
  exact lk_w h.2 (e2 w (lk_all w hw)) e4
theorem lk_Z {G : GG} {s : State} {n d : String} (hK : aw_K G s) (h1 : Cond.laysStatic Bundle.tN n d ∈ lw_tbl) (h2 : Cond.initialized Bundle.tN ∈ lw_tbl) (h3 : Cond.isRef (.static Bundle.tN n d) ∈ flatC (Jvm.Cond.and given_1 narrow_1)) : vx_Zq Bundle.tN n d (jd_A G) s G.2.2.1 := by
  obtain ⟨A0, s0, e1, e2, e3, e4⟩ := hK.2.1.2
  have h := vx_Zqof (A := jd_A G) (e2 _ h1) (e2 _ h2) (flat_of_before _ e3 _ h3) (fun a ha hq => by rw [e1] at ha; exact Nat.not_le.mpr ha hq)
  rw [e1] at h
  exact h.moved e4.alike
