/-! ===== the law: the plain cases ===== -/
theorem nw_ww {r : Nat → Int32} {x : Int32} : s_ww r x ≠ 4 := by
  unfold s_ww
  repeat' split
  all_goals decide
theorem nw_dw {r : Nat → Int32} {x y z : Int32} : s_dw r x y z ≠ 4 := by
  unfold s_dw
  repeat' split
  all_goals decide
theorem ps_lc (x : Int64) : lg_cmp x x = 0 := by
  unfold lg_cmp
  simp
theorem nw_bald {r st : Nat → Int32} : (sp_bald r st).2 ≠ 4 := by
  unfold sp_bald
  repeat' split
  all_goals first | exact (by decide : (0 : Int32) ≠ 4) | exact (by decide : (1 : Int32) ≠ 4) | exact (by decide : (2 : Int32) ≠ 4) | exact (by decide : (3 : Int32) ≠ 4) | exact nw_ww | exact nw_dw
theorem nw_bestRing {r st : Nat → Int32} : (sp_bestRing r st).2 ≠ 4 := by
  unfold sp_bestRing
  repeat' split
  all_goals first | exact (by decide : (0 : Int32) ≠ 4) | exact (by decide : (1 : Int32) ≠ 4) | exact (by decide : (2 : Int32) ≠ 4) | exact (by decide : (3 : Int32) ≠ 4) | exact nw_ww | exact nw_dw
theorem nw_cheapest {r st : Nat → Int32} {x : Int32} : (sp_cheapest r st x).2 ≠ 4 := by
  unfold sp_cheapest
  repeat' split
  all_goals first | exact (by decide : (0 : Int32) ≠ 4) | exact (by decide : (1 : Int32) ≠ 4) | exact (by decide : (2 : Int32) ≠ 4) | exact (by decide : (3 : Int32) ≠ 4) | exact nw_ww | exact nw_dw
theorem nw_debt {r st : Nat → Int32} {x y : Int32} : (sp_debt r st x y).2 ≠ 4 := by
  unfold sp_debt
  repeat' split
  all_goals first | exact (by decide : (0 : Int32) ≠ 4) | exact (by decide : (1 : Int32) ≠ 4) | exact (by decide : (2 : Int32) ≠ 4) | exact (by decide : (3 : Int32) ≠ 4) | exact nw_ww | exact nw_dw
theorem nw_door {r st : Nat → Int32} {x y : Int32} : (sp_door r st x y).2 ≠ 4 := by
  unfold sp_door
  repeat' split
  all_goals first | exact (by decide : (0 : Int32) ≠ 4) | exact (by decide : (1 : Int32) ≠ 4) | exact (by decide : (2 : Int32) ≠ 4) | exact (by decide : (3 : Int32) ≠ 4) | exact nw_ww | exact nw_dw
theorem nw_doorOf {r st : Nat → Int32} {x : Int32} : (sp_doorOf r st x).2 ≠ 4 := by
  unfold sp_doorOf
  repeat' split
  all_goals first | exact (by decide : (0 : Int32) ≠ 4) | exact (by decide : (1 : Int32) ≠ 4) | exact (by decide : (2 : Int32) ≠ 4) | exact (by decide : (3 : Int32) ≠ 4) | exact nw_ww | exact nw_dw
theorem nw_duel {r : Nat → Int32} {x y z f g w : Int32} : (sp_duel r x y z f g w).2 ≠ 4 := by
  unfold sp_duel
  repeat' split
  all_goals first | exact (by decide : (0 : Int32) ≠ 4) | exact (by decide : (1 : Int32) ≠ 4) | exact (by decide : (2 : Int32) ≠ 4) | exact (by decide : (3 : Int32) ≠ 4) | exact nw_ww | exact nw_dw
theorem nw_eaten {r st : Nat → Int32} {y z : Int32} : (sp_eaten r st y z).2 ≠ 4 := by
  unfold sp_eaten
  repeat' split
  all_goals first | exact (by decide : (0 : Int32) ≠ 4) | exact (by decide : (1 : Int32) ≠ 4) | exact (by decide : (2 : Int32) ≠ 4) | exact (by decide : (3 : Int32) ≠ 4) | exact nw_ww | exact nw_dw
theorem nw_fitAt {r st : Nat → Int32} {x : Int32} : (sp_fitAt r st x).2 ≠ 4 := by
  unfold sp_fitAt
  repeat' split
  all_goals first | exact (by decide : (0 : Int32) ≠ 4) | exact (by decide : (1 : Int32) ≠ 4) | exact (by decide : (2 : Int32) ≠ 4) | exact (by decide : (3 : Int32) ≠ 4) | exact nw_ww | exact nw_dw
theorem nw_fits {r st : Nat → Int32} : (sp_fits r st).2 ≠ 4 := by
  unfold sp_fits
  repeat' split
  all_goals first | exact (by decide : (0 : Int32) ≠ 4) | exact (by decide : (1 : Int32) ≠ 4) | exact (by decide : (2 : Int32) ≠ 4) | exact (by decide : (3 : Int32) ≠ 4) | exact nw_ww | exact nw_dw
theorem nw_greatest {r st : Nat → Int32} : (sp_greatest r st).2 ≠ 4 := by
  unfold sp_greatest
  repeat' split
  all_goals first | exact (by decide : (0 : Int32) ≠ 4) | exact (by decide : (1 : Int32) ≠ 4) | exact (by decide : (2 : Int32) ≠ 4) | exact (by decide : (3 : Int32) ≠ 4) | exact nw_ww | exact nw_dw
theorem nw_guests {r st : Nat → Int32} : (sp_guests r st).2 ≠ 4 := by
  unfold sp_guests
  repeat' split
  all_goals first | exact (by decide : (0 : Int32) ≠ 4) | exact (by decide : (1 : Int32) ≠ 4) | exact (by decide : (2 : Int32) ≠ 4) | exact (by decide : (3 : Int32) ≠ 4) | exact nw_ww | exact nw_dw
theorem nw_headIn {r st : Nat → Int32} {x y : Int32} : (sp_headIn r st x y).2 ≠ 4 := by
  unfold sp_headIn
  repeat' split
  all_goals first | exact (by decide : (0 : Int32) ≠ 4) | exact (by decide : (1 : Int32) ≠ 4) | exact (by decide : (2 : Int32) ≠ 4) | exact (by decide : (3 : Int32) ≠ 4) | exact nw_ww | exact nw_dw
theorem nw_headIs {r st : Nat → Int32} {x y z : Int32} : (sp_headIs r st x y z).2 ≠ 4 := by
  unfold sp_headIs
  repeat' split
  all_goals first | exact (by decide : (0 : Int32) ≠ 4) | exact (by decide : (1 : Int32) ≠ 4) | exact (by decide : (2 : Int32) ≠ 4) | exact (by decide : (3 : Int32) ≠ 4) | exact nw_ww | exact nw_dw
theorem nw_heads {r st : Nat → Int32} : (sp_heads r st).2 ≠ 4 := by
  unfold sp_heads
  repeat' split
  all_goals first | exact (by decide : (0 : Int32) ≠ 4) | exact (by decide : (1 : Int32) ≠ 4) | exact (by decide : (2 : Int32) ≠ 4) | exact (by decide : (3 : Int32) ≠ 4) | exact nw_ww | exact nw_dw
theorem nw_judge {r st : Nat → Int32} : (sp_judge r st).2 ≠ 4 := by
  unfold sp_judge
  repeat' split
  all_goals first | exact (by decide : (0 : Int32) ≠ 4) | exact (by decide : (1 : Int32) ≠ 4) | exact (by decide : (2 : Int32) ≠ 4) | exact (by decide : (3 : Int32) ≠ 4) | exact nw_ww | exact nw_dw
theorem nw_leaves {r st : Nat → Int32} : (sp_leaves r st).2 ≠ 4 := by
  unfold sp_leaves
  repeat' split
  all_goals first | exact (by decide : (0 : Int32) ≠ 4) | exact (by decide : (1 : Int32) ≠ 4) | exact (by decide : (2 : Int32) ≠ 4) | exact (by decide : (3 : Int32) ≠ 4) | exact nw_ww | exact nw_dw
theorem nw_likeliest {r st : Nat → Int32} : (sp_likeliest r st).2 ≠ 4 := by
  unfold sp_likeliest
  repeat' split
  all_goals first | exact (by decide : (0 : Int32) ≠ 4) | exact (by decide : (1 : Int32) ≠ 4) | exact (by decide : (2 : Int32) ≠ 4) | exact (by decide : (3 : Int32) ≠ 4) | exact nw_ww | exact nw_dw
theorem nw_likely {r st : Nat → Int32} {x y : Int32} : (sp_likely r st x y).2 ≠ 4 := by
  unfold sp_likely
  repeat' split
  all_goals first | exact (by decide : (0 : Int32) ≠ 4) | exact (by decide : (1 : Int32) ≠ 4) | exact (by decide : (2 : Int32) ≠ 4) | exact (by decide : (3 : Int32) ≠ 4) | exact nw_ww | exact nw_dw
theorem nw_locked {r : Nat → Int32} {x y : Int32} : (sp_locked r x y).2 ≠ 4 := by
  unfold sp_locked
  repeat' split
  all_goals first | exact (by decide : (0 : Int32) ≠ 4) | exact (by decide : (1 : Int32) ≠ 4) | exact (by decide : (2 : Int32) ≠ 4) | exact (by decide : (3 : Int32) ≠ 4) | exact nw_ww | exact nw_dw
theorem nw_look {r st : Nat → Int32} : (sp_look r st).2 ≠ 4 := by
  unfold sp_look
  repeat' split
  all_goals first | exact (by decide : (0 : Int32) ≠ 4) | exact (by decide : (1 : Int32) ≠ 4) | exact (by decide : (2 : Int32) ≠ 4) | exact (by decide : (3 : Int32) ≠ 4) | exact nw_ww | exact nw_dw
theorem nw_man {r st : Nat → Int32} {x y : Int32} : (sp_man r st x y).2 ≠ 4 := by
  unfold sp_man
  repeat' split
  all_goals first | exact (by decide : (0 : Int32) ≠ 4) | exact (by decide : (1 : Int32) ≠ 4) | exact (by decide : (2 : Int32) ≠ 4) | exact (by decide : (3 : Int32) ≠ 4) | exact nw_ww | exact nw_dw
theorem nw_moths {r st : Nat → Int32} {x y z : Int32} : (sp_moths r st x y z).2 ≠ 4 := by
  unfold sp_moths
  repeat' split
  all_goals first | exact (by decide : (0 : Int32) ≠ 4) | exact (by decide : (1 : Int32) ≠ 4) | exact (by decide : (2 : Int32) ≠ 4) | exact (by decide : (3 : Int32) ≠ 4) | exact nw_ww | exact nw_dw
theorem nw_passers {r st : Nat → Int32} : (sp_passers r st).2 ≠ 4 := by
  unfold sp_passers
  repeat' split
  all_goals first | exact (by decide : (0 : Int32) ≠ 4) | exact (by decide : (1 : Int32) ≠ 4) | exact (by decide : (2 : Int32) ≠ 4) | exact (by decide : (3 : Int32) ≠ 4) | exact nw_ww | exact nw_dw
theorem nw_payAll {r st : Nat → Int32} : (sp_payAll r st).2 ≠ 4 := by
  unfold sp_payAll
  repeat' split
  all_goals first | exact (by decide : (0 : Int32) ≠ 4) | exact (by decide : (1 : Int32) ≠ 4) | exact (by decide : (2 : Int32) ≠ 4) | exact (by decide : (3 : Int32) ≠ 4) | exact nw_ww | exact nw_dw
theorem nw_payFor {r st : Nat → Int32} {x y : Int32} : (sp_payFor r st x y).2 ≠ 4 := by
  unfold sp_payFor
  repeat' split
  all_goals first | exact (by decide : (0 : Int32) ≠ 4) | exact (by decide : (1 : Int32) ≠ 4) | exact (by decide : (2 : Int32) ≠ 4) | exact (by decide : (3 : Int32) ≠ 4) | exact nw_ww | exact nw_dw
theorem nw_reach {r st : Nat → Int32} {x : Int32} : (sp_reach r st x).2 ≠ 4 := by
  unfold sp_reach
  repeat' split
  all_goals first | exact (by decide : (0 : Int32) ≠ 4) | exact (by decide : (1 : Int32) ≠ 4) | exact (by decide : (2 : Int32) ≠ 4) | exact (by decide : (3 : Int32) ≠ 4) | exact nw_ww | exact nw_dw
theorem nw_rest {r : Nat → Int32} {x y z : Int32} : (sp_rest r x y z).2 ≠ 4 := by
  unfold sp_rest
  repeat' split
  all_goals first | exact (by decide : (0 : Int32) ≠ 4) | exact (by decide : (1 : Int32) ≠ 4) | exact (by decide : (2 : Int32) ≠ 4) | exact (by decide : (3 : Int32) ≠ 4) | exact nw_ww | exact nw_dw
theorem nw_rests {r : Nat → Int32} {x y z : Int32} : (sp_rests r x y z).2 ≠ 4 := by
  unfold sp_rests
  repeat' split
  all_goals first | exact (by decide : (0 : Int32) ≠ 4) | exact (by decide : (1 : Int32) ≠ 4) | exact (by decide : (2 : Int32) ≠ 4) | exact (by decide : (3 : Int32) ≠ 4) | exact nw_ww | exact nw_dw
theorem nw_ring {r st : Nat → Int32} {x : Int32} : (sp_ring r st x).2 ≠ 4 := by
  unfold sp_ring
  repeat' split
  all_goals first | exact (by decide : (0 : Int32) ≠ 4) | exact (by decide : (1 : Int32) ≠ 4) | exact (by decide : (2 : Int32) ≠ 4) | exact (by decide : (3 : Int32) ≠ 4) | exact nw_ww | exact nw_dw
theorem nw_ringAt {r st : Nat → Int32} {x y : Int32} : (sp_ringAt r st x y).2 ≠ 4 := by
  unfold sp_ringAt
  repeat' split
  all_goals first | exact (by decide : (0 : Int32) ≠ 4) | exact (by decide : (1 : Int32) ≠ 4) | exact (by decide : (2 : Int32) ≠ 4) | exact (by decide : (3 : Int32) ≠ 4) | exact nw_ww | exact nw_dw
theorem nw_ringSum {r st : Nat → Int32} {x : Int32} : (sp_ringSum r st x).2 ≠ 4 := by
  unfold sp_ringSum
  repeat' split
  all_goals first | exact (by decide : (0 : Int32) ≠ 4) | exact (by decide : (1 : Int32) ≠ 4) | exact (by decide : (2 : Int32) ≠ 4) | exact (by decide : (3 : Int32) ≠ 4) | exact nw_ww | exact nw_dw
theorem nw_shamed {r st : Nat → Int32} : (sp_shamed r st).2 ≠ 4 := by
  unfold sp_shamed
  repeat' split
  all_goals first | exact (by decide : (0 : Int32) ≠ 4) | exact (by decide : (1 : Int32) ≠ 4) | exact (by decide : (2 : Int32) ≠ 4) | exact (by decide : (3 : Int32) ≠ 4) | exact nw_ww | exact nw_dw
theorem nw_shutIn {r st : Nat → Int32} {x y : Int32} : (sp_shutIn r st x y).2 ≠ 4 := by
  unfold sp_shutIn
  repeat' split
  all_goals first | exact (by decide : (0 : Int32) ≠ 4) | exact (by decide : (1 : Int32) ≠ 4) | exact (by decide : (2 : Int32) ≠ 4) | exact (by decide : (3 : Int32) ≠ 4) | exact nw_ww | exact nw_dw
theorem nw_weeks {r : Nat → Int32} {x y : Int32} : (sp_weeks r x y).2 ≠ 4 := by
  unfold sp_weeks
  repeat' split
  all_goals first | exact (by decide : (0 : Int32) ≠ 4) | exact (by decide : (1 : Int32) ≠ 4) | exact (by decide : (2 : Int32) ≠ 4) | exact (by decide : (3 : Int32) ≠ 4) | exact nw_ww | exact nw_dw
theorem nw_when {r st : Nat → Int32} {x y : Int32} : (sp_when r st x y).2 ≠ 4 := by
  unfold sp_when
  repeat' split
  all_goals first | exact (by decide : (0 : Int32) ≠ 4) | exact (by decide : (1 : Int32) ≠ 4) | exact (by decide : (2 : Int32) ≠ 4) | exact (by decide : (3 : Int32) ≠ 4) | exact nw_ww | exact nw_dw
theorem nw_width {r st : Nat → Int32} {x : Int32} : (sp_width r st x).2 ≠ 4 := by
  unfold sp_width
  repeat' split
  all_goals first | exact (by decide : (0 : Int32) ≠ 4) | exact (by decide : (1 : Int32) ≠ 4) | exact (by decide : (2 : Int32) ≠ 4) | exact (by decide : (3 : Int32) ≠ 4) | exact nw_ww | exact nw_dw
theorem nw_worst {r st : Nat → Int32} : (sp_worst r st).2 ≠ 4 := by
  unfold sp_worst
  repeat' split
  all_goals first | exact (by decide : (0 : Int32) ≠ 4) | exact (by decide : (1 : Int32) ≠ 4) | exact (by decide : (2 : Int32) ≠ 4) | exact (by decide : (3 : Int32) ≠ 4) | exact nw_ww | exact nw_dw
