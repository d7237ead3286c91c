theorem w_J9_max_7cf53_0 {X : r_X} {w : r_V} {B : Nat} {l : Launch} {Q : Int32 → r_S → Prop} {σ0 : r_S} (C : r_C X w B 2 cJ9_max_7cf53 RJ9) (E : r_E X l tJ9_max_7cf53) {σ : r_S} (hs : σ.1 = σ0.1) {x0 x1 : Int32}
    (h : (x0 < x1 → (Q x1 σ)) ∧ (¬ x0 < x1 → (Q x0 σ))) :
    r_W X w B 2 0 0 (r_Z X w B tJ9_max_7cf53 (r_QI σ0 Q)) 0 [(0, Value.int x0), (1, Value.int x1)] [] σ := by
  refine r_iload_n C dJ9_max_7cf53_0 rfl (j := 0) rfl ?_
  refine r_iload_n C dJ9_max_7cf53_1 rfl (j := 1) rfl ?_
  refine r_icmp_lt (tgt := 9) C dJ9_max_7cf53_2 (by decide) (fun c1 => ?_) (fun c1 => ?_)
  · have h := h.1 c1
    refine r_iload_n C dJ9_max_7cf53_9 rfl (j := 1) rfl ?_
    exact r_iretQ C E rfl (Nat.zero_le _) (Nat.zero_le _) dJ9_max_7cf53_10 ((rfl : σ.1 = σ.1).trans hs) h
  · have h := h.2 c1
    refine r_iload_n C dJ9_max_7cf53_5 rfl (j := 0) rfl ?_
    refine r_goto (tgt := 10) C dJ9_max_7cf53_6 (by decide) ?_
    exact r_iretQ C E rfl (Nat.zero_le _) (Nat.zero_le _) dJ9_max_7cf53_10 ((rfl : σ.1 = σ.1).trans hs) h
theorem w_J9_max_f86c9_0 {X : r_X} {w : r_V} {B : Nat} {l : Launch} {Q : Int64 → r_S → Prop} {σ0 : r_S} (C : r_C X w B 4 cJ9_max_f86c9 RJ9) (E : r_E X l tJ9_max_f86c9) {σ : r_S} (hs : σ.1 = σ0.1) {y0 y2 : Int64}
    (h : (y0 < y2 → (Q y2 σ)) ∧ (¬ y0 < y2 → (Q y0 σ))) :
    r_W X w B 4 0 0 (r_Z X w B tJ9_max_f86c9 (r_QL σ0 Q)) 0 [(0, Value.long y0), (2, Value.long y2)] [] σ := by
  refine r_lload_n C dJ9_max_f86c9_0 rfl (j := 0) rfl ?_
  refine r_lload_n C dJ9_max_f86c9_1 rfl (j := 1) rfl ?_
  refine r_lcmp C dJ9_max_f86c9_2 ?_
  refine r_if_lt (tgt := 10) C dJ9_max_f86c9_3 (by decide) (fun c1 => ?_) (fun c1 => ?_)
  · have h := h.1 (lgc_lt.mp c1)
    refine r_lload_n C dJ9_max_f86c9_10 rfl (j := 1) rfl ?_
    exact r_lretQ C E rfl (Nat.zero_le _) (Nat.zero_le _) dJ9_max_f86c9_11 ((rfl : σ.1 = σ.1).trans hs) h
  · have h := h.2 (fun q => c1 (lgc_lt.mpr q))
    refine r_lload_n C dJ9_max_f86c9_6 rfl (j := 0) rfl ?_
    refine r_goto (tgt := 11) C dJ9_max_f86c9_7 (by decide) ?_
    exact r_lretQ C E rfl (Nat.zero_le _) (Nat.zero_le _) dJ9_max_f86c9_11 ((rfl : σ.1 = σ.1).trans hs) h
theorem w_J9_min_7cf53_0 {X : r_X} {w : r_V} {B : Nat} {l : Launch} {Q : Int32 → r_S → Prop} {σ0 : r_S} (C : r_C X w B 2 cJ9_min_7cf53 RJ9) (E : r_E X l tJ9_min_7cf53) {σ : r_S} (hs : σ.1 = σ0.1) {x0 x1 : Int32}
    (h : (x1 < x0 → (Q x1 σ)) ∧ (¬ x1 < x0 → (Q x0 σ))) :
    r_W X w B 2 0 0 (r_Z X w B tJ9_min_7cf53 (r_QI σ0 Q)) 0 [(0, Value.int x0), (1, Value.int x1)] [] σ := by
  refine r_iload_n C dJ9_min_7cf53_0 rfl (j := 0) rfl ?_
  refine r_iload_n C dJ9_min_7cf53_1 rfl (j := 1) rfl ?_
  refine r_icmp_gt (tgt := 9) C dJ9_min_7cf53_2 (by decide) (fun c1 => ?_) (fun c1 => ?_)
  · have h := h.1 c1
    refine r_iload_n C dJ9_min_7cf53_9 rfl (j := 1) rfl ?_
    exact r_iretQ C E rfl (Nat.zero_le _) (Nat.zero_le _) dJ9_min_7cf53_10 ((rfl : σ.1 = σ.1).trans hs) h
  · have h := h.2 c1
    refine r_iload_n C dJ9_min_7cf53_5 rfl (j := 0) rfl ?_
    refine r_goto (tgt := 10) C dJ9_min_7cf53_6 (by decide) ?_
    exact r_iretQ C E rfl (Nat.zero_le _) (Nat.zero_le _) dJ9_min_7cf53_10 ((rfl : σ.1 = σ.1).trans hs) h
