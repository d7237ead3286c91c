theorem v_X0_add_0 {X : r_X} {w : r_V} {B n : Nat} {l : Launch} {Q : Ku → Prop} {κ0 : Ku} (C : r_C X w B 2 cX0_add RX0) (E : r_E X l tX0_add) (hn : okN n) {κ : Ku} (hC : CoK n κ) (hG : Gr n κ0 κ) {x1 : Int32}
    (h : (400 ≤ (κ.1 2 1) → (Q κ)) ∧ (¬ 400 ≤ (κ.1 2 1) → (vp_in (κ.1 2 1) 400 ∧ (∀ κ3 : Ku, κ3 = ki κ 3 ((κ.1 2 1).toNatClampNeg) x1 → (∀ κ7 : Ku, κ7 = ki κ3 2 1 ((κ3.1 2 1) + 1) → (Q κ7)))))) :
    r_W X w B 2 0 0 (r_Z X w B tX0_add (ZKV n κ0 Q)) 0 [(0, Value.ref (B + 2)), (1, Value.int x1)] [] (shp n, κ) := by
  refine r_aload_n C dX0_add_0 rfl (j := 0) rfl ?_
  refine r_get (v := .int (κ.1 2 1)) C (atR (at_c (a := 1) rfl)) fa_X0_15 rfl dX0_add_1 ?_
  refine r_sipush (v := 400) C dX0_add_4 (by decide) ?_
  refine r_icmp_ge (tgt := 30) C dX0_add_7 (by decide) (fun c1 => ?_) (fun c1 => ?_)
  · have h := h.1 c1
    exact r_vretQ C E rfl (Nat.zero_le _) (Nat.zero_le _) dX0_add_30 rfl ⟨hG, hC, h⟩
  · have h := h.2 c1
    refine r_aload_n C dX0_add_10 rfl (j := 0) rfl ?_
    refine r_getE (e := 3) C (atR (at_c (a := 1) rfl)) fa_X0_9 rfl hC.1.2.2.2.2.2.2.1 (by decide) dX0_add_11 ?_
    refine r_aload_n C dX0_add_14 rfl (j := 0) rfl ?_
    refine r_get (v := .int (κ.1 2 1)) C (atR (at_c (a := 1) rfl)) fa_X0_15 rfl dX0_add_15 ?_
    refine r_iload_n C dX0_add_18 rfl (j := 1) rfl ?_
    obtain ⟨g2, h⟩ := h
    refine r_iast (ti := 0) (n := 400) C (atR (at_c (a := 2) rfl)) ⟨rfl, fun _ => rfl⟩ g2 dX0_add_19 ?_
    refine r_namK (κ := ki κ 3 ((κ.1 2 1).toNatClampNeg) x1) (fun κ3 e4 => ?_)
    have h := h κ3 e4
    have C5 : CoK n κ3 := by rw [e4]; exact hC
    have G6 : Gr n κ0 κ3 := by rw [e4]; exact hG.i (by unfold mOf; omega)
    refine r_aload_n C dX0_add_20 rfl (j := 0) rfl ?_
    refine r_dup C dX0_add_21 rfl ?_
    refine r_get (v := .int (κ3.1 2 1)) C (atR (at_c (a := 1) rfl)) fa_X0_15 rfl dX0_add_22 ?_
    refine r_iconst (v := 1) C dX0_add_25 (by decide) ?_
    refine r_iadd C dX0_add_26 ?_
    refine r_putI C (atR (at_c (a := 1) rfl)) fa_X0_15 rfl rfl rfl dX0_add_27 ?_
    refine r_namK (κ := ki κ3 2 1 ((κ3.1 2 1) + 1)) (fun κ7 e8 => ?_)
    have h := h κ7 e8
    have C9 : CoK n κ7 := by rw [e8]; exact C5
    have G10 : Gr n κ0 κ7 := by rw [e8]; exact G6.i (by unfold mOf; omega)
    exact r_vretQ C E rfl (Nat.zero_le _) (Nat.zero_le _) dX0_add_30 rfl ⟨G10, C9, h⟩
theorem v_X0_undrawn_0 {X : r_X} {w : r_V} {B n : Nat} {l : Launch} {Q : Int32 → Ku → Prop} {κ0 : Ku} (C : r_C X w B 1 cX0_undrawn RX0) (E : r_E X l tX0_undrawn) (hn : okN n) {κ : Ku} (hC : CoK n κ) (hG : Gr n κ0 κ)
    (h : Q ((κ.1 2 1) - (κ.1 2 2)) κ) :
    r_W X w B 1 0 0 (r_Z X w B tX0_undrawn (ZKI n κ0 Q)) 0 [(0, Value.ref (B + 2))] [] (shp n, κ) := by
  refine r_aload_n C dX0_undrawn_0 rfl (j := 0) rfl ?_
  refine r_get (v := .int (κ.1 2 1)) C (atR (at_c (a := 1) rfl)) fa_X0_15 rfl dX0_undrawn_1 ?_
  refine r_aload_n C dX0_undrawn_4 rfl (j := 0) rfl ?_
  refine r_get (v := .int (κ.1 2 2)) C (atR (at_c (a := 1) rfl)) fa_X0_19 rfl dX0_undrawn_5 ?_
  refine r_isub C dX0_undrawn_8 ?_
  exact r_iretQ C E rfl (Nat.zero_le _) (Nat.zero_le _) dX0_undrawn_9 rfl ⟨hG, hC, h⟩
theorem v_X0_draw_0 {X : r_X} {w : r_V} {B n : Nat} {l : Launch} {Q : Int32 → Ku → Prop} {κ0 : Ku} (C : r_C X w B 3 cX0_draw RX0) (E : r_E X l tX0_draw) (hn : okN n) {κ : Ku} (hC : CoK n κ) (hG : Gr n κ0 κ) {x1 : Int32}
    (h : ((κ.1 2 1) ≤ (κ.1 2 2) → (Q 0 κ)) ∧ (¬ (κ.1 2 1) ≤ (κ.1 2 2) → ((1 ≤ x1 → (vp_in (κ.1 2 2) 400 ∧ (∀ z4 : Int32, z4 = κ.1 3 ((κ.1 2 2).toNatClampNeg) → (∀ κ6 : Ku, κ6 = ki κ 2 2 ((κ.1 2 2) + 1) → (¬ x1 = 0 ∧ (Q (z4 - z4 / x1 * x1) κ6)))))) ∧ (¬ 1 ≤ x1 → (Q 0 κ))))) :
    r_W X w B 3 0 0 (r_Z X w B tX0_draw (ZKI n κ0 Q)) 0 [(0, Value.ref (B + 2)), (1, Value.int x1)] [] (shp n, κ) := by
  refine r_aload_n C dX0_draw_0 rfl (j := 0) rfl ?_
  refine r_get (v := .int (κ.1 2 2)) C (atR (at_c (a := 1) rfl)) fa_X0_19 rfl dX0_draw_1 ?_
  refine r_aload_n C dX0_draw_4 rfl (j := 0) rfl ?_
  refine r_get (v := .int (κ.1 2 1)) C (atR (at_c (a := 1) rfl)) fa_X0_15 rfl dX0_draw_5 ?_
  refine r_icmp_ge (tgt := 16) C dX0_draw_8 (by decide) (fun c1 => ?_) (fun c1 => ?_)
  · have h := h.1 c1
    refine r_iconst (v := 0) C dX0_draw_16 (by decide) ?_
    exact r_iretQ C E rfl (Nat.zero_le _) (Nat.zero_le _) dX0_draw_17 rfl ⟨hG, hC, h⟩
  · have h := h.2 c1
    refine r_iload_n C dX0_draw_11 rfl (j := 1) rfl ?_
    refine r_iconst (v := 1) C dX0_draw_12 (by decide) ?_
    refine r_icmp_ge (tgt := 18) C dX0_draw_13 (by decide) (fun c2 => ?_) (fun c2 => ?_)
    · have h := h.1 c2
      refine r_aload_n C dX0_draw_18 rfl (j := 0) rfl ?_
      refine r_getE (e := 3) C (atR (at_c (a := 1) rfl)) fa_X0_9 rfl hC.1.2.2.2.2.2.2.1 (by decide) dX0_draw_19 ?_
      refine r_aload_n C dX0_draw_22 rfl (j := 0) rfl ?_
      refine r_get (v := .int (κ.1 2 2)) C (atR (at_c (a := 1) rfl)) fa_X0_19 rfl dX0_draw_23 ?_
      obtain ⟨g3, h⟩ := h
      refine r_iald (ti := 0) (n := 400) C (atR (at_c (a := 2) rfl)) ⟨rfl, fun _ => rfl⟩ g3 dX0_draw_26 ?_
      refine r_topi (fun z4 e5 => ?_)
      have h := h z4 e5
      refine r_istore_n (lv' := [(2, Value.int z4), (0, Value.ref (B + 2)), (1, Value.int x1)]) C dX0_draw_27 rfl (by decide) rfl ?_
      refine r_aload_n C dX0_draw_28 rfl (j := 1) rfl ?_
      refine r_dup C dX0_draw_29 rfl ?_
      refine r_get (v := .int (κ.1 2 2)) C (atR (at_c (a := 1) rfl)) fa_X0_19 rfl dX0_draw_30 ?_
      refine r_iconst (v := 1) C dX0_draw_33 (by decide) ?_
      refine r_iadd C dX0_draw_34 ?_
      refine r_putI C (atR (at_c (a := 1) rfl)) fa_X0_19 rfl rfl rfl dX0_draw_35 ?_
      refine r_namK (κ := ki κ 2 2 ((κ.1 2 2) + 1)) (fun κ6 e7 => ?_)
      have h := h κ6 e7
      have C8 : CoK n κ6 := by rw [e7]; exact hC
      have G9 : Gr n κ0 κ6 := by rw [e7]; exact hG.i (by unfold mOf; omega)
      refine r_iload_n C dX0_draw_38 rfl (j := 0) rfl ?_
      refine r_iload_n C dX0_draw_39 rfl (j := 2) rfl ?_
      obtain ⟨g10, h⟩ := h
      refine r_irem C dX0_draw_40 g10 ?_
      exact r_iretQ C E rfl (Nat.zero_le _) (Nat.zero_le _) dX0_draw_41 rfl ⟨G9, C8, h⟩
    · have h := h.2 c2
      refine r_iconst (v := 0) C dX0_draw_16 (by decide) ?_
      exact r_iretQ C E rfl (Nat.zero_le _) (Nat.zero_le _) dX0_draw_17 rfl ⟨hG, hC, h⟩
theorem v_X1_told_0 {X : r_X} {w : r_V} {B n : Nat} {l : Launch} {Q : Int32 → Ku → Prop} {κ0 : Ku} (C : r_C X w B 1 cX1_told RX1) (E : r_E X l tX1_told) (hn : okN n) {κ : Ku} (hC : CoK n κ) (hG : Gr n κ0 κ)
    (h : ∃ Q1 : Int32 → Ku → Prop, r_KI l w B n tJ9_min_7cf53 [Value.int (κ.1 15 3), Value.int 700] κ Q1 ∧ (∀ (z5 : Int32) (κ3 : Ku), Q1 z5 κ3 → (Q z5 κ3))) :
    r_W X w B 1 0 0 (r_Z X w B tX1_told (ZKI n κ0 Q)) 0 [(0, Value.ref (B + 15))] [] (shp n, κ) := by
  refine r_aload_n C dX1_told_0 rfl (j := 0) rfl ?_
  refine r_get (v := .int (κ.1 15 3)) C (atR (at_c (a := 14) rfl)) fa_X1_21 rfl dX1_told_1 ?_
  refine r_sipush (v := 700) C dX1_told_4 (by decide) ?_
  obtain ⟨Q1, m2, h⟩ := h
  refine r_callSI (rest := []) C E [Value.int (κ.1 15 3), Value.int 700] ky_J9_min_7cf53 kl_X1_25 ks_J9_min_7cf53 ⟨Nat.le_of_ble_eq_true rfl, Nat.le_of_ble_eq_true rfl⟩ ⟨rfl, rfl⟩ m2 rfl rfl (Nat.le_of_ble_eq_true rfl) (Nat.zero_le _) (Nat.zero_le _) dX1_told_7 (fun z5 σ3 s4 q6 => ?_)
  obtain ⟨s3x, κ3⟩ := σ3
  simp only at s4
  subst s4
  obtain ⟨f7, C8, q6⟩ := q6
  have G9 := hG.trans f7
  have h := h z5 κ3 q6
  exact r_iretQ C E rfl (Nat.zero_le _) (Nat.zero_le _) dX1_told_10 rfl ⟨G9, C8, h⟩
theorem v_X1_add_0 {X : r_X} {w : r_V} {B n : Nat} {l : Launch} {Q : Ku → Prop} {κ0 : Ku} (C : r_C X w B 5 cX1_add RX1) (E : r_E X l tX1_add) (hn : okN n) {κ : Ku} (hC : CoK n κ) (hG : Gr n κ0 κ) {x1 x2 : Int32} {y3 : Int64}
    (h : (700 ≤ (κ.1 15 3) → (∀ κ2 : Ku, κ2 = ki κ 15 3 ((κ.1 15 3) + 1) → (Q κ2))) ∧ (¬ 700 ≤ (κ.1 15 3) → (vp_in (κ.1 15 3) 700 ∧ (∀ κ7 : Ku, κ7 = ki κ 16 ((κ.1 15 3).toNatClampNeg) x1 → (vp_in (κ7.1 15 3) 700 ∧ (∀ κ12 : Ku, κ12 = ki κ7 17 ((κ7.1 15 3).toNatClampNeg) x2 → (vp_in (κ12.1 15 3) 700 ∧ (∀ κ17 : Ku, κ17 = ki κ12 18 ((κ12.1 15 3).toNatClampNeg) y3.toInt32 → (∀ κ21 : Ku, κ21 = ki κ17 15 3 ((κ17.1 15 3) + 1) → (Q κ21)))))))))) :
    r_W X w B 5 0 0 (r_Z X w B tX1_add (ZKV n κ0 Q)) 0 [(0, Value.ref (B + 15)), (1, Value.int x1), (2, Value.int x2), (3, Value.long y3)] [] (shp n, κ) := by
  refine r_aload_n C dX1_add_0 rfl (j := 0) rfl ?_
  refine r_get (v := .int (κ.1 15 3)) C (atR (at_c (a := 14) rfl)) fa_X1_21 rfl dX1_add_1 ?_
  refine r_sipush (v := 700) C dX1_add_4 (by decide) ?_
  refine r_icmp_ge (tgt := 41) C dX1_add_7 (by decide) (fun c1 => ?_) (fun c1 => ?_)
  · have h := h.1 c1
    refine r_aload_n C dX1_add_41 rfl (j := 0) rfl ?_
    refine r_dup C dX1_add_42 rfl ?_
    refine r_get (v := .int (κ.1 15 3)) C (atR (at_c (a := 14) rfl)) fa_X1_21 rfl dX1_add_43 ?_
    refine r_iconst (v := 1) C dX1_add_46 (by decide) ?_
    refine r_iadd C dX1_add_47 ?_
    refine r_putI C (atR (at_c (a := 14) rfl)) fa_X1_21 rfl rfl rfl dX1_add_48 ?_
    refine r_namK (κ := ki κ 15 3 ((κ.1 15 3) + 1)) (fun κ2 e3 => ?_)
    have h := h κ2 e3
    have C4 : CoK n κ2 := by rw [e3]; exact hC
    have G5 : Gr n κ0 κ2 := by rw [e3]; exact hG.i (by unfold mOf; omega)
    exact r_vretQ C E rfl (Nat.zero_le _) (Nat.zero_le _) dX1_add_51 rfl ⟨G5, C4, h⟩
  · have h := h.2 c1
    refine r_aload_n C dX1_add_10 rfl (j := 0) rfl ?_
    refine r_getE (e := 16) C (atR (at_c (a := 14) rfl)) fa_X1_9 rfl hC.1.2.2.2.2.2.2.2.2.2.2.2.2.2.2.2.2.1 (by decide) dX1_add_11 ?_
    refine r_aload_n C dX1_add_14 rfl (j := 0) rfl ?_
    refine r_get (v := .int (κ.1 15 3)) C (atR (at_c (a := 14) rfl)) fa_X1_21 rfl dX1_add_15 ?_
    refine r_iload_n C dX1_add_18 rfl (j := 1) rfl ?_
    obtain ⟨g6, h⟩ := h
    refine r_iast (ti := 0) (n := 700) C (atR (at_c (a := 15) rfl)) ⟨rfl, fun _ => rfl⟩ g6 dX1_add_19 ?_
    refine r_namK (κ := ki κ 16 ((κ.1 15 3).toNatClampNeg) x1) (fun κ7 e8 => ?_)
    have h := h κ7 e8
    have C9 : CoK n κ7 := by rw [e8]; exact hC
    have G10 : Gr n κ0 κ7 := by rw [e8]; exact hG.i (by unfold mOf; omega)
    refine r_aload_n C dX1_add_20 rfl (j := 0) rfl ?_
    refine r_getE (e := 17) C (atR (at_c (a := 14) rfl)) fa_X1_15 rfl C9.1.2.2.2.2.2.2.2.2.2.2.2.2.2.2.2.2.2.1 (by decide) dX1_add_21 ?_
    refine r_aload_n C dX1_add_24 rfl (j := 0) rfl ?_
    refine r_get (v := .int (κ7.1 15 3)) C (atR (at_c (a := 14) rfl)) fa_X1_21 rfl dX1_add_25 ?_
    refine r_iload_n C dX1_add_28 rfl (j := 2) rfl ?_
    obtain ⟨g11, h⟩ := h
    refine r_iast (ti := 0) (n := 700) C (atR (at_c (a := 16) rfl)) ⟨rfl, fun _ => rfl⟩ g11 dX1_add_29 ?_
    refine r_namK (κ := ki κ7 17 ((κ7.1 15 3).toNatClampNeg) x2) (fun κ12 e13 => ?_)
    have h := h κ12 e13
    have C14 : CoK n κ12 := by rw [e13]; exact C9
    have G15 : Gr n κ0 κ12 := by rw [e13]; exact G10.i (by unfold mOf; omega)
    refine r_aload_n C dX1_add_30 rfl (j := 0) rfl ?_
    refine r_getE (e := 18) C (atR (at_c (a := 14) rfl)) fa_X1_18 rfl C14.1.2.2.2.2.2.2.2.2.2.2.2.2.2.2.2.2.2.2 (by decide) dX1_add_31 ?_
    refine r_aload_n C dX1_add_34 rfl (j := 0) rfl ?_
    refine r_get (v := .int (κ12.1 15 3)) C (atR (at_c (a := 14) rfl)) fa_X1_21 rfl dX1_add_35 ?_
    refine r_lload_n C dX1_add_38 rfl (j := 3) rfl ?_
    refine r_l2i (v := y3.toInt32) C dX1_add_39 rfl ?_
    obtain ⟨g16, h⟩ := h
    refine r_iast (ti := 0) (n := 700) C (atR (at_c (a := 17) rfl)) ⟨rfl, fun _ => rfl⟩ g16 dX1_add_40 ?_
    refine r_namK (κ := ki κ12 18 ((κ12.1 15 3).toNatClampNeg) y3.toInt32) (fun κ17 e18 => ?_)
    have h := h κ17 e18
    have C19 : CoK n κ17 := by rw [e18]; exact C14
    have G20 : Gr n κ0 κ17 := by rw [e18]; exact G15.i (by unfold mOf; omega)
    refine r_aload_n C dX1_add_41 rfl (j := 0) rfl ?_
    refine r_dup C dX1_add_42 rfl ?_
    refine r_get (v := .int (κ17.1 15 3)) C (atR (at_c (a := 14) rfl)) fa_X1_21 rfl dX1_add_43 ?_
    refine r_iconst (v := 1) C dX1_add_46 (by decide) ?_
    refine r_iadd C dX1_add_47 ?_
    refine r_putI C (atR (at_c (a := 14) rfl)) fa_X1_21 rfl rfl rfl dX1_add_48 ?_
    refine r_namK (κ := ki κ17 15 3 ((κ17.1 15 3) + 1)) (fun κ21 e22 => ?_)
    have h := h κ21 e22
    have C23 : CoK n κ21 := by rw [e22]; exact C19
    have G24 : Gr n κ0 κ21 := by rw [e22]; exact G20.i (by unfold mOf; omega)
    exact r_vretQ C E rfl (Nat.zero_le _) (Nat.zero_le _) dX1_add_51 rfl ⟨G24, C23, h⟩
theorem v_X3_isFull_0 {X : r_X} {w : r_V} {B n : Nat} {l : Launch} {Q : Int32 → Ku → Prop} {κ0 : Ku} (C : r_C X w B 1 cX3_isFull RX3) (E : r_E X l tX3_isFull) (hn : okN n) {κ : Ku} (hC : CoK n κ) (hG : Gr n κ0 κ)
    (h : ∀ z2 : Int32, z2 = (if (κ.1 11 3) < 40 then (0 : Int32) else (1 : Int32)) → ((z2 = 0 ∨ z2 = 1) ∧ (Q z2 κ))) :
    r_W X w B 1 0 0 (r_Z X w B tX3_isFull (ZKI n κ0 Q)) 0 [(0, Value.ref (B + 11))] [] (shp n, κ) := by
  refine r_aload_n C dX3_isFull_0 rfl (j := 0) rfl ?_
  refine r_get (v := .int (κ.1 11 3)) C (atR (at_c (a := 10) rfl)) fa_X3_22 rfl dX3_isFull_1 ?_
  refine r_bipush (v := 40) C dX3_isFull_4 (by decide) ?_
  have k4 : ∀ z2 : Int32, z2 = (if (κ.1 11 3) < 40 then (0 : Int32) else (1 : Int32)) → r_W X w B 1 0 0 (r_Z X w B tX3_isFull (ZKI n κ0 Q)) 14 [(0, Value.ref (B + 11))] [Value.int z2] (shp n, κ) := by
    intro z2 e3
    have h := h z2 e3
    obtain ⟨g5, h⟩ := h
    exact r_zretQ C E rfl g5 (Nat.zero_le _) (Nat.zero_le _) dX3_isFull_14 rfl ⟨hG, hC, h⟩
  clear h
  refine r_icmp_lt (tgt := 13) C dX3_isFull_6 (by decide) (fun c1 => ?_) (fun c1 => ?_)
  · have c1 : (κ.1 11 3) < 40 := c1
    refine r_iconst (v := 0) C dX3_isFull_13 (by decide) ?_
    exact k4 _ (by rw [if_pos c1] <;> rfl)
  · have c1 : ¬ (κ.1 11 3) < 40 := c1
    refine r_iconst (v := 1) C dX3_isFull_9 (by decide) ?_
    refine r_goto (tgt := 14) C dX3_isFull_10 (by decide) ?_
    exact k4 _ (by rw [if_neg c1] <;> rfl)
theorem v_X3_add_0 {X : r_X} {w : r_V} {B n : Nat} {l : Launch} {Q : Ku → Prop} {κ0 : Ku} (C : r_C X w B 5 cX3_add RX3) (E : r_E X l tX3_add) (hn : okN n) {κ : Ku} (hC : CoK n κ) (hG : Gr n κ0 κ) {x1 x4 : Int32} {y2 : Int64}
    (h : vp_in (κ.1 11 3) 40 ∧ (∀ κ2 : Ku, κ2 = ki κ 12 ((κ.1 11 3).toNatClampNeg) x1 → (vp_in (κ2.1 11 3) 40 ∧ (∀ κ7 : Ku, κ7 = kl κ2 13 ((κ2.1 11 3).toNatClampNeg) y2 → (vp_in (κ7.1 11 3) 40 ∧ (∀ κ12 : Ku, κ12 = kl κ7 14 ((κ7.1 11 3).toNatClampNeg) (y2 + x4.toInt64) → (∀ κ16 : Ku, κ16 = ki κ12 11 3 ((κ12.1 11 3) + 1) → (Q κ16)))))))) :
    r_W X w B 5 0 0 (r_Z X w B tX3_add (ZKV n κ0 Q)) 0 [(0, Value.ref (B + 11)), (1, Value.int x1), (2, Value.long y2), (4, Value.int x4)] [] (shp n, κ) := by
  refine r_aload_n C dX3_add_0 rfl (j := 0) rfl ?_
  refine r_getE (e := 12) C (atR (at_c (a := 10) rfl)) fa_X3_9 rfl hC.1.2.2.2.2.2.2.2.2.2.2.2.2.2.1 (by decide) dX3_add_1 ?_
  refine r_aload_n C dX3_add_4 rfl (j := 0) rfl ?_
  refine r_get (v := .int (κ.1 11 3)) C (atR (at_c (a := 10) rfl)) fa_X3_22 rfl dX3_add_5 ?_
  refine r_iload_n C dX3_add_8 rfl (j := 1) rfl ?_
  obtain ⟨g1, h⟩ := h
  refine r_iast (ti := 0) (n := 40) C (atR (at_c (a := 11) rfl)) ⟨rfl, fun _ => rfl⟩ g1 dX3_add_9 ?_
  refine r_namK (κ := ki κ 12 ((κ.1 11 3).toNatClampNeg) x1) (fun κ2 e3 => ?_)
  have h := h κ2 e3
  have C4 : CoK n κ2 := by rw [e3]; exact hC
  have G5 : Gr n κ0 κ2 := by rw [e3]; exact hG.i (by unfold mOf; omega)
  refine r_aload_n C dX3_add_10 rfl (j := 0) rfl ?_
  refine r_getE (e := 13) C (atR (at_c (a := 10) rfl)) fa_X3_15 rfl C4.1.2.2.2.2.2.2.2.2.2.2.2.2.2.2.1 (by decide) dX3_add_11 ?_
  refine r_aload_n C dX3_add_14 rfl (j := 0) rfl ?_
  refine r_get (v := .int (κ2.1 11 3)) C (atR (at_c (a := 10) rfl)) fa_X3_22 rfl dX3_add_15 ?_
  refine r_lload_n C dX3_add_18 rfl (j := 2) rfl ?_
  obtain ⟨g6, h⟩ := h
  refine r_last (ti := 1) (n := 40) C (atR (at_c (a := 12) rfl)) ⟨rfl, fun _ => rfl⟩ g6 dX3_add_19 ?_
  refine r_namK (κ := kl κ2 13 ((κ2.1 11 3).toNatClampNeg) y2) (fun κ7 e8 => ?_)
  have h := h κ7 e8
  have C9 : CoK n κ7 := by rw [e8]; exact C4
  have G10 : Gr n κ0 κ7 := by rw [e8]; exact G5.l (by unfold mOf; omega)
  refine r_aload_n C dX3_add_20 rfl (j := 0) rfl ?_
  refine r_getE (e := 14) C (atR (at_c (a := 10) rfl)) fa_X3_19 rfl C9.1.2.2.2.2.2.2.2.2.2.2.2.2.2.2.2.1 (by decide) dX3_add_21 ?_
  refine r_aload_n C dX3_add_24 rfl (j := 0) rfl ?_
  refine r_get (v := .int (κ7.1 11 3)) C (atR (at_c (a := 10) rfl)) fa_X3_22 rfl dX3_add_25 ?_
  refine r_lload_n C dX3_add_28 rfl (j := 2) rfl ?_
  refine r_iload C dX3_add_29 (j := 3) rfl ?_
  refine r_i2l (v := x4.toInt64) C dX3_add_31 rfl ?_
  refine r_ladd C dX3_add_32 ?_
  obtain ⟨g11, h⟩ := h
  refine r_last (ti := 1) (n := 40) C (atR (at_c (a := 13) rfl)) ⟨rfl, fun _ => rfl⟩ g11 dX3_add_33 ?_
  refine r_namK (κ := kl κ7 14 ((κ7.1 11 3).toNatClampNeg) (y2 + x4.toInt64)) (fun κ12 e13 => ?_)
  have h := h κ12 e13
  have C14 : CoK n κ12 := by rw [e13]; exact C9
  have G15 : Gr n κ0 κ12 := by rw [e13]; exact G10.l (by unfold mOf; omega)
  refine r_aload_n C dX3_add_34 rfl (j := 0) rfl ?_
  refine r_dup C dX3_add_35 rfl ?_
  refine r_get (v := .int (κ12.1 11 3)) C (atR (at_c (a := 10) rfl)) fa_X3_22 rfl dX3_add_36 ?_
  refine r_iconst (v := 1) C dX3_add_39 (by decide) ?_
  refine r_iadd C dX3_add_40 ?_
  refine r_putI C (atR (at_c (a := 10) rfl)) fa_X3_22 rfl rfl rfl dX3_add_41 ?_
  refine r_namK (κ := ki κ12 11 3 ((κ12.1 11 3) + 1)) (fun κ16 e17 => ?_)
  have h := h κ16 e17
  have C18 : CoK n κ16 := by rw [e17]; exact C14
  have G19 : Gr n κ0 κ16 := by rw [e17]; exact G15.i (by unfold mOf; omega)
  exact r_vretQ C E rfl (Nat.zero_le _) (Nat.zero_le _) dX3_add_44 rfl ⟨G19, C18, h⟩
theorem v_X3_cover_0 {X : r_X} {w : r_V} {B n : Nat} {l : Launch} {Q : Int32 → Ku → Prop} {κ0 : Ku} (C : r_C X w B 5 cX3_cover RX3) (E : r_E X l tX3_cover) (hn : okN n) {κ : Ku} (hC : CoK n κ) (hG : Gr n κ0 κ) {x1 : Int32} {y2 : Int64}
    (h : r_W X w B 5 0 0 (r_Z X w B tX3_cover (ZKI n κ0 Q)) 3 [(0, Value.ref (B + 11)), (1, Value.int x1), (2, Value.long y2), (4, Value.int 0)] [] (shp n, κ)) :
    r_W X w B 5 0 0 (r_Z X w B tX3_cover (ZKI n κ0 Q)) 0 [(0, Value.ref (B + 11)), (1, Value.int x1), (2, Value.long y2)] [] (shp n, κ) := by
  refine r_iconst (v := 0) C dX3_cover_0 (by decide) ?_
  refine r_istore (lv' := [(4, Value.int 0), (0, Value.ref (B + 11)), (1, Value.int x1), (2, Value.long y2)]) C dX3_cover_1 (by decide) rfl ?_
  exact r_loc (by simp) h
theorem v_X3_cover_3 {X : r_X} {w : r_V} {B n : Nat} {l : Launch} {Q : Int32 → Ku → Prop} {κ0 : Ku} (C : r_C X w B 5 cX3_cover RX3) (E : r_E X l tX3_cover) (hn : okN n) {κ : Ku} (hC : CoK n κ) (hG : Gr n κ0 κ) {x1 x4 : Int32} {y2 : Int64}
    (h : ((κ.1 11 3) ≤ x4 → (Q 0 κ)) ∧ (¬ (κ.1 11 3) ≤ x4 → (vp_in x4 40 ∧ (((κ.1 12 x4.toNatClampNeg) = x1 → ((y2 < (κ.2.1 13 x4.toNatClampNeg) → (∀ z5 : Int32, z5 = x4 + 1 → (r_W X w B 5 0 0 (r_Z X w B tX3_cover (ZKI n κ0 Q)) 3 [(0, Value.ref (B + 11)), (1, Value.int x1), (2, Value.long y2), (4, Value.int z5)] [] (shp n, κ)))) ∧ (¬ y2 < (κ.2.1 13 x4.toNatClampNeg) → (((κ.2.1 14 x4.toNatClampNeg) ≤ y2 → (∀ z8 : Int32, z8 = x4 + 1 → (r_W X w B 5 0 0 (r_Z X w B tX3_cover (ZKI n κ0 Q)) 3 [(0, Value.ref (B + 11)), (1, Value.int x1), (2, Value.long y2), (4, Value.int z8)] [] (shp n, κ)))) ∧ (¬ (κ.2.1 14 x4.toNatClampNeg) ≤ y2 → (Q 1 κ)))))) ∧ (¬ (κ.1 12 x4.toNatClampNeg) = x1 → (∀ z10 : Int32, z10 = x4 + 1 → (r_W X w B 5 0 0 (r_Z X w B tX3_cover (ZKI n κ0 Q)) 3 [(0, Value.ref (B + 11)), (1, Value.int x1), (2, Value.long y2), (4, Value.int z10)] [] (shp n, κ)))))))) :
    r_W X w B 5 0 0 (r_Z X w B tX3_cover (ZKI n κ0 Q)) 3 [(0, Value.ref (B + 11)), (1, Value.int x1), (2, Value.long y2), (4, Value.int x4)] [] (shp n, κ) := by
  refine r_iload C dX3_cover_3 (j := 3) rfl ?_
  refine r_aload_n C dX3_cover_5 rfl (j := 0) rfl ?_
  refine r_get (v := .int (κ.1 11 3)) C (atR (at_c (a := 10) rfl)) fa_X3_22 rfl dX3_cover_6 ?_
  refine r_icmp_ge (tgt := 55) C dX3_cover_9 (by decide) (fun c1 => ?_) (fun c1 => ?_)
  · have h := h.1 c1
    refine r_iconst (v := 0) C dX3_cover_55 (by decide) ?_
    exact r_zretQ C E rfl (by decide) (Nat.zero_le _) (Nat.zero_le _) dX3_cover_56 rfl ⟨hG, hC, h⟩
  · have h := h.2 c1
    refine r_aload_n C dX3_cover_12 rfl (j := 0) rfl ?_
    refine r_getE (e := 12) C (atR (at_c (a := 10) rfl)) fa_X3_9 rfl hC.1.2.2.2.2.2.2.2.2.2.2.2.2.2.1 (by decide) dX3_cover_13 ?_
    refine r_iload C dX3_cover_16 (j := 3) rfl ?_
    obtain ⟨g2, h⟩ := h
    refine r_iald (ti := 0) (n := 40) C (atR (at_c (a := 11) rfl)) ⟨rfl, fun _ => rfl⟩ g2 dX3_cover_18 ?_
    refine r_iload_n C dX3_cover_19 rfl (j := 1) rfl ?_
    refine r_icmp_ne (tgt := 49) C dX3_cover_20 (by decide) (fun c3 => ?_) (fun c3 => ?_)
    · have h := h.2 c3
      obtain ⟨z10, e11⟩ : ∃ y : Int32, y = x4 + 1 := ⟨_, rfl⟩
      have h := h z10 e11
      refine r_iinc (v := z10) (lv' := [(4, Value.int z10), (0, Value.ref (B + 11)), (1, Value.int x1), (2, Value.long y2)]) C dX3_cover_49 (k := 3) rfl (by rw [e11]; rfl) (by decide) rfl ?_
      refine r_goto (tgt := 3) C dX3_cover_52 (by decide) ?_
      exact r_loc (by simp) h
    · have h := h.1 c3
      refine r_aload_n C dX3_cover_23 rfl (j := 0) rfl ?_
      refine r_getE (e := 13) C (atR (at_c (a := 10) rfl)) fa_X3_15 rfl hC.1.2.2.2.2.2.2.2.2.2.2.2.2.2.2.1 (by decide) dX3_cover_24 ?_
      refine r_iload C dX3_cover_27 (j := 3) rfl ?_
      refine r_lald (ti := 1) (n := 40) C (atR (at_c (a := 12) rfl)) ⟨rfl, fun _ => rfl⟩ g2 dX3_cover_29 ?_
      refine r_lload_n C dX3_cover_30 rfl (j := 2) rfl ?_
      refine r_lcmp C dX3_cover_31 ?_
      refine r_if_gt (tgt := 49) C dX3_cover_32 (by decide) (fun c4 => ?_) (fun c4 => ?_)
      · have h := h.1 (lgc_gt.mp c4)
        obtain ⟨z5, e6⟩ : ∃ y : Int32, y = x4 + 1 := ⟨_, rfl⟩
        have h := h z5 e6
        refine r_iinc (v := z5) (lv' := [(4, Value.int z5), (0, Value.ref (B + 11)), (1, Value.int x1), (2, Value.long y2)]) C dX3_cover_49 (k := 3) rfl (by rw [e6]; rfl) (by decide) rfl ?_
        refine r_goto (tgt := 3) C dX3_cover_52 (by decide) ?_
        exact r_loc (by simp) h
      · have h := h.2 (fun q => c4 (lgc_gt.mpr q))
        refine r_lload_n C dX3_cover_35 rfl (j := 2) rfl ?_
        refine r_aload_n C dX3_cover_36 rfl (j := 0) rfl ?_
        refine r_getE (e := 14) C (atR (at_c (a := 10) rfl)) fa_X3_19 rfl hC.1.2.2.2.2.2.2.2.2.2.2.2.2.2.2.2.1 (by decide) dX3_cover_37 ?_
        refine r_iload C dX3_cover_40 (j := 3) rfl ?_
        refine r_lald (ti := 1) (n := 40) C (atR (at_c (a := 13) rfl)) ⟨rfl, fun _ => rfl⟩ g2 dX3_cover_42 ?_
        refine r_lcmp C dX3_cover_43 ?_
        refine r_if_ge (tgt := 49) C dX3_cover_44 (by decide) (fun c7 => ?_) (fun c7 => ?_)
        · have h := h.1 (lgc_ge.mp c7)
          obtain ⟨z8, e9⟩ : ∃ y : Int32, y = x4 + 1 := ⟨_, rfl⟩
          have h := h z8 e9
          refine r_iinc (v := z8) (lv' := [(4, Value.int z8), (0, Value.ref (B + 11)), (1, Value.int x1), (2, Value.long y2)]) C dX3_cover_49 (k := 3) rfl (by rw [e9]; rfl) (by decide) rfl ?_
          refine r_goto (tgt := 3) C dX3_cover_52 (by decide) ?_
          exact r_loc (by simp) h
        · have h := h.2 (fun q => c7 (lgc_ge.mpr q))
          refine r_iconst (v := 1) C dX3_cover_47 (by decide) ?_
          exact r_zretQ C E rfl (by decide) (Nat.zero_le _) (Nat.zero_le _) dX3_cover_48 rfl ⟨hG, hC, h⟩
theorem v_X5_isFull_0 {X : r_X} {w : r_V} {B n : Nat} {l : Launch} {Q : Int32 → Ku → Prop} {κ0 : Ku} (C : r_C X w B 1 cX5_isFull RX5) (E : r_E X l tX5_isFull) (hn : okN n) {κ : Ku} (hC : CoK n κ) (hG : Gr n κ0 κ) {a0 : Nat} (o0 : atS n a0 = some (.inl 5))
    (h : ∃ n1, atS n (a0 + 1) = some (.inr (0, n1)) ∧ (∀ z4 : Int32, z4 = (if (κ.1 a0 1) < (nI n1) then (0 : Int32) else (1 : Int32)) → ((z4 = 0 ∨ z4 = 1) ∧ (Q z4 κ)))) :
    r_W X w B 1 0 0 (r_Z X w B tX5_isFull (ZKI n κ0 Q)) 0 [(0, Value.ref (B + a0))] [] (shp n, κ) := by
  refine r_aload_n C dX5_isFull_0 rfl (j := 0) rfl ?_
  refine r_get (v := .int (κ.1 a0 1)) C (atR o0) fa_X5_7 rfl dX5_isFull_1 ?_
  refine r_aload_n C dX5_isFull_4 rfl (j := 0) rfl ?_
  obtain ⟨n1, g2, h⟩ := h
  refine r_getE (e := a0 + 1) C (atR o0) fa_X5_13 rfl (hC.2.1 _ o0) (by omega) dX5_isFull_5 ?_
  refine r_alen (v := nI n1) C (atR g2) ⟨rfl, fun _ => rfl⟩ rfl dX5_isFull_8 ?_
  have k6 : ∀ z4 : Int32, z4 = (if (κ.1 a0 1) < (nI n1) then (0 : Int32) else (1 : Int32)) → r_W X w B 1 0 0 (r_Z X w B tX5_isFull (ZKI n κ0 Q)) 17 [(0, Value.ref (B + a0))] [Value.int z4] (shp n, κ) := by
    intro z4 e5
    have h := h z4 e5
    obtain ⟨g7, h⟩ := h
    exact r_zretQ C E rfl g7 (Nat.zero_le _) (Nat.zero_le _) dX5_isFull_17 rfl ⟨hG, hC, h⟩
  clear h
  refine r_icmp_lt (tgt := 16) C dX5_isFull_9 (by decide) (fun c3 => ?_) (fun c3 => ?_)
  · have c3 : (κ.1 a0 1) < (nI n1) := c3
    refine r_iconst (v := 0) C dX5_isFull_16 (by decide) ?_
    exact k6 _ (by rw [if_pos c3] <;> rfl)
  · have c3 : ¬ (κ.1 a0 1) < (nI n1) := c3
    refine r_iconst (v := 1) C dX5_isFull_12 (by decide) ?_
    refine r_goto (tgt := 17) C dX5_isFull_13 (by decide) ?_
    exact k6 _ (by rw [if_neg c3] <;> rfl)
theorem v_X5_get_0 {X : r_X} {w : r_V} {B n : Nat} {l : Launch} {Q : Int32 → Ku → Prop} {κ0 : Ku} (C : r_C X w B 2 cX5_get RX5) (E : r_E X l tX5_get) (hn : okN n) {κ : Ku} (hC : CoK n κ) (hG : Gr n κ0 κ) {a0 : Nat} {x1 : Int32} (o0 : atS n a0 = some (.inl 5))
    (h : (x1 < 0 → (Q 0 κ)) ∧ (¬ x1 < 0 → (((κ.1 a0 1) ≤ x1 → (Q 0 κ)) ∧ (¬ (κ.1 a0 1) ≤ x1 → (∃ n3, atS n (a0 + 1) = some (.inr (0, n3)) ∧ (vp_in x1 n3 ∧ (Q (κ.1 (a0 + 1) x1.toNatClampNeg) κ))))))) :
    r_W X w B 2 0 0 (r_Z X w B tX5_get (ZKI n κ0 Q)) 0 [(0, Value.ref (B + a0)), (1, Value.int x1)] [] (shp n, κ) := by
  refine r_iload_n C dX5_get_0 rfl (j := 1) rfl ?_
  refine r_if_lt (tgt := 21) C dX5_get_1 (by decide) (fun c1 => ?_) (fun c1 => ?_)
  · have h := h.1 c1
    refine r_iconst (v := 0) C dX5_get_21 (by decide) ?_
    exact r_iretQ C E rfl (Nat.zero_le _) (Nat.zero_le _) dX5_get_22 rfl ⟨hG, hC, h⟩
  · have h := h.2 c1
    refine r_iload_n C dX5_get_4 rfl (j := 1) rfl ?_
    refine r_aload_n C dX5_get_5 rfl (j := 0) rfl ?_
    refine r_get (v := .int (κ.1 a0 1)) C (atR o0) fa_X5_7 rfl dX5_get_6 ?_
    refine r_icmp_ge (tgt := 21) C dX5_get_9 (by decide) (fun c2 => ?_) (fun c2 => ?_)
    · have h := h.1 c2
      refine r_iconst (v := 0) C dX5_get_21 (by decide) ?_
      exact r_iretQ C E rfl (Nat.zero_le _) (Nat.zero_le _) dX5_get_22 rfl ⟨hG, hC, h⟩
    · have h := h.2 c2
      refine r_aload_n C dX5_get_12 rfl (j := 0) rfl ?_
      obtain ⟨n3, g4, h⟩ := h
      refine r_getE (e := a0 + 1) C (atR o0) fa_X5_13 rfl (hC.2.1 _ o0) (by omega) dX5_get_13 ?_
      refine r_iload_n C dX5_get_16 rfl (j := 1) rfl ?_
      obtain ⟨g5, h⟩ := h
      refine r_iald (ti := 0) (n := n3) C (atR g4) ⟨rfl, fun _ => rfl⟩ g5 dX5_get_17 ?_
      refine r_goto (tgt := 22) C dX5_get_18 (by decide) ?_
      exact r_iretQ C E rfl (Nat.zero_le _) (Nat.zero_le _) dX5_get_22 rfl ⟨hG, hC, h⟩
theorem v_X5_add_0 {X : r_X} {w : r_V} {B n : Nat} {l : Launch} {Q : Ku → Prop} {κ0 : Ku} (C : r_C X w B 2 cX5_add RX5) (E : r_E X l tX5_add) (hn : okN n) {κ : Ku} (hC : CoK n κ) (hG : Gr n κ0 κ) {a0 : Nat} {x1 : Int32} (o0 : atS n a0 = some (.inl 5))
    (h : ∃ Q1 : Int32 → Ku → Prop, r_KI l w B n tX5_isFull [Value.ref (B + a0)] κ Q1 ∧ (∀ (z5 : Int32) (κ3 : Ku), Q1 z5 κ3 → ((z5 = 0 → (∃ n11, atS n (a0 + 1) = some (.inr (0, n11)) ∧ (vp_in (κ3.1 a0 1) n11 ∧ (∀ κ14 : Ku, κ14 = ki κ3 (a0 + 1) ((κ3.1 a0 1).toNatClampNeg) x1 → (∀ κ18 : Ku, κ18 = ki κ14 a0 1 ((κ14.1 a0 1) + 1) → (Q κ18)))))) ∧ (¬ z5 = 0 → (Q κ3))))) :
    r_W X w B 2 0 0 (r_Z X w B tX5_add (ZKV n κ0 Q)) 0 [(0, Value.ref (B + a0)), (1, Value.int x1)] [] (shp n, κ) := by
  refine r_aload_n C dX5_add_0 rfl (j := 0) rfl ?_
  obtain ⟨Q1, m2, h⟩ := h
  refine r_callVI (rest := []) C E [] (atR o0) rfl ky_X5_isFull kl_X5_17 ki_X5_isFull kx_X5_isFull ⟨Nat.le_of_ble_eq_true rfl, Nat.le_of_ble_eq_true rfl⟩ ⟨rfl, rfl⟩ m2 rfl rfl (Nat.le_of_ble_eq_true rfl) (Nat.zero_le _) (Nat.zero_le _) dX5_add_1 (fun z5 σ3 s4 q6 => ?_)
  obtain ⟨s3x, κ3⟩ := σ3
  simp only at s4
  subst s4
  obtain ⟨f7, C8, q6⟩ := q6
  have G9 := hG.trans f7
  have h := h z5 κ3 q6
  refine r_if_ne (tgt := 27) C dX5_add_4 (by decide) (fun c10 => ?_) (fun c10 => ?_)
  · have h := h.2 c10
    exact r_vretQ C E rfl (Nat.zero_le _) (Nat.zero_le _) dX5_add_27 rfl ⟨G9, C8, h⟩
  · have h := h.1 c10
    refine r_aload_n C dX5_add_7 rfl (j := 0) rfl ?_
    obtain ⟨n11, g12, h⟩ := h
    refine r_getE (e := a0 + 1) C (atR o0) fa_X5_13 rfl (C8.2.1 _ o0) (by omega) dX5_add_8 ?_
    refine r_aload_n C dX5_add_11 rfl (j := 0) rfl ?_
    refine r_get (v := .int (κ3.1 a0 1)) C (atR o0) fa_X5_7 rfl dX5_add_12 ?_
    refine r_iload_n C dX5_add_15 rfl (j := 1) rfl ?_
    obtain ⟨g13, h⟩ := h
    refine r_iast (ti := 0) (n := n11) C (atR g12) ⟨rfl, fun _ => rfl⟩ g13 dX5_add_16 ?_
    refine r_namK (κ := ki κ3 (a0 + 1) ((κ3.1 a0 1).toNatClampNeg) x1) (fun κ14 e15 => ?_)
    have h := h κ14 e15
    have C16 : CoK n κ14 := by rw [e15]; exact C8
    have G17 : Gr n κ0 κ14 := by rw [e15]; exact G9.i (by have q := at_row hn o0; unfold mOf at *; omega)
    refine r_aload_n C dX5_add_17 rfl (j := 0) rfl ?_
    refine r_dup C dX5_add_18 rfl ?_
    refine r_get (v := .int (κ14.1 a0 1)) C (atR o0) fa_X5_7 rfl dX5_add_19 ?_
    refine r_iconst (v := 1) C dX5_add_22 (by decide) ?_
    refine r_iadd C dX5_add_23 ?_
    refine r_putI C (atR o0) fa_X5_7 rfl rfl rfl dX5_add_24 ?_
    refine r_namK (κ := ki κ14 a0 1 ((κ14.1 a0 1) + 1)) (fun κ18 e19 => ?_)
    have h := h κ18 e19
    have C20 : CoK n κ18 := by rw [e19]; exact C16
    have G21 : Gr n κ0 κ18 := by rw [e19]; exact G17.i (by have q := at_row hn o0; unfold mOf at *; omega)
    exact r_vretQ C E rfl (Nat.zero_le _) (Nat.zero_le _) dX5_add_27 rfl ⟨G21, C20, h⟩
theorem v_X5_copy_0 {X : r_X} {w : r_V} {B n : Nat} {l : Launch} {Q : Ku → Prop} {κ0 : Ku} (C : r_C X w B 3 cX5_copy RX5) (E : r_E X l tX5_copy) (hn : okN n) {κ : Ku} (hC : CoK n κ) (hG : Gr n κ0 κ) {a0 a1 : Nat} (o0 : atS n a0 = some (.inl 5)) (o1 : atS n a1 = some (.inl 5))
    (h : ∀ κ1 : Ku, κ1 = ki κ a0 1 0 → (r_W X w B 3 0 0 (r_Z X w B tX5_copy (ZKV n κ0 Q)) 7 [(0, Value.ref (B + a0)), (1, Value.ref (B + a1)), (2, Value.int 0)] [] (shp n, κ1))) :
    r_W X w B 3 0 0 (r_Z X w B tX5_copy (ZKV n κ0 Q)) 0 [(0, Value.ref (B + a0)), (1, Value.ref (B + a1))] [] (shp n, κ) := by
  refine r_aload_n C dX5_copy_0 rfl (j := 0) rfl ?_
  refine r_iconst (v := 0) C dX5_copy_1 (by decide) ?_
  refine r_putI C (atR o0) fa_X5_7 rfl rfl rfl dX5_copy_2 ?_
  refine r_namK (κ := ki κ a0 1 0) (fun κ1 e2 => ?_)
  have h := h κ1 e2
  have C3 : CoK n κ1 := by rw [e2]; exact hC
  have G4 : Gr n κ0 κ1 := by rw [e2]; exact hG.i (by have q := at_row hn o0; unfold mOf at *; omega)
  refine r_iconst (v := 0) C dX5_copy_5 (by decide) ?_
  refine r_istore_n (lv' := [(2, Value.int 0), (0, Value.ref (B + a0)), (1, Value.ref (B + a1))]) C dX5_copy_6 rfl (by decide) rfl ?_
  exact r_loc (by simp) h
theorem v_X5_copy_7 {X : r_X} {w : r_V} {B n : Nat} {l : Launch} {Q : Ku → Prop} {κ0 : Ku} (C : r_C X w B 3 cX5_copy RX5) (E : r_E X l tX5_copy) (hn : okN n) {κ : Ku} (hC : CoK n κ) (hG : Gr n κ0 κ) {a0 a1 : Nat} {x2 : Int32} (o0 : atS n a0 = some (.inl 5)) (o1 : atS n a1 = some (.inl 5))
    (h : ((κ.1 a1 1) ≤ x2 → (Q κ)) ∧ (¬ (κ.1 a1 1) ≤ x2 → (∃ n2, atS n (a1 + 1) = some (.inr (0, n2)) ∧ (vp_in x2 n2 ∧ (∃ Q5 : Ku → Prop, r_KV l w B n tX5_add [Value.ref (B + a0), Value.int (κ.1 (a1 + 1) x2.toNatClampNeg)] κ Q5 ∧ (∀ κ7 : Ku, Q5 κ7 → (∀ z14 : Int32, z14 = x2 + 1 → (r_W X w B 3 0 0 (r_Z X w B tX5_copy (ZKV n κ0 Q)) 7 [(0, Value.ref (B + a0)), (1, Value.ref (B + a1)), (2, Value.int z14)] [] (shp n, κ7))))))))) :
    r_W X w B 3 0 0 (r_Z X w B tX5_copy (ZKV n κ0 Q)) 7 [(0, Value.ref (B + a0)), (1, Value.ref (B + a1)), (2, Value.int x2)] [] (shp n, κ) := by
  refine r_iload_n C dX5_copy_7 rfl (j := 2) rfl ?_
  refine r_aload_n C dX5_copy_8 rfl (j := 1) rfl ?_
  refine r_get (v := .int (κ.1 a1 1)) C (atR o1) fa_X5_7 rfl dX5_copy_9 ?_
  refine r_icmp_ge (tgt := 31) C dX5_copy_12 (by decide) (fun c1 => ?_) (fun c1 => ?_)
  · have h := h.1 c1
    exact r_vretQ C E rfl (Nat.zero_le _) (Nat.zero_le _) dX5_copy_31 rfl ⟨hG, hC, h⟩
  · have h := h.2 c1
    refine r_aload_n C dX5_copy_15 rfl (j := 0) rfl ?_
    refine r_aload_n C dX5_copy_16 rfl (j := 1) rfl ?_
    obtain ⟨n2, g3, h⟩ := h
    refine r_getE (e := a1 + 1) C (atR o1) fa_X5_13 rfl (hC.2.1 _ o1) (by omega) dX5_copy_17 ?_
    refine r_iload_n C dX5_copy_20 rfl (j := 2) rfl ?_
    obtain ⟨g4, h⟩ := h
    refine r_iald (ti := 0) (n := n2) C (atR g3) ⟨rfl, fun _ => rfl⟩ g4 dX5_copy_21 ?_
    obtain ⟨Q5, m6, h⟩ := h
    refine r_callVV (rest := []) C E [Value.int (κ.1 (a1 + 1) x2.toNatClampNeg)] (atR o0) rfl ky_X5_add kl_X5_21 ki_X5_add kx_X5_add ⟨Nat.le_of_ble_eq_true rfl, Nat.le_of_ble_eq_true rfl⟩ ⟨rfl, rfl⟩ m6 rfl rfl (Nat.le_of_ble_eq_true rfl) (Nat.zero_le _) (Nat.zero_le _) dX5_copy_22 (fun σ7 s8 q10 => ?_)
    obtain ⟨s7x, κ7⟩ := σ7
    simp only at s8
    subst s8
    obtain ⟨f11, C12, q10⟩ := q10
    have G13 := hG.trans f11
    have h := h κ7 q10
    obtain ⟨z14, e15⟩ : ∃ y : Int32, y = x2 + 1 := ⟨_, rfl⟩
    have h := h z14 e15
    refine r_iinc (v := z14) (lv' := [(2, Value.int z14), (0, Value.ref (B + a0)), (1, Value.ref (B + a1))]) C dX5_copy_25 (k := 2) rfl (by rw [e15]; rfl) (by decide) rfl ?_
    refine r_goto (tgt := 7) C dX5_copy_28 (by decide) ?_
    exact r_loc (by simp) h
theorem v_X5_drop_0 {X : r_X} {w : r_V} {B n : Nat} {l : Launch} {Q : Ku → Prop} {κ0 : Ku} (C : r_C X w B 4 cX5_drop RX5) (E : r_E X l tX5_drop) (hn : okN n) {κ : Ku} (hC : CoK n κ) (hG : Gr n κ0 κ) {a0 : Nat} {x1 : Int32} (o0 : atS n a0 = some (.inl 5))
    (h : r_W X w B 4 0 0 (r_Z X w B tX5_drop (ZKV n κ0 Q)) 4 [(0, Value.ref (B + a0)), (1, Value.int x1), (2, Value.int 0), (3, Value.int 0)] [] (shp n, κ)) :
    r_W X w B 4 0 0 (r_Z X w B tX5_drop (ZKV n κ0 Q)) 0 [(0, Value.ref (B + a0)), (1, Value.int x1)] [] (shp n, κ) := by
  refine r_iconst (v := 0) C dX5_drop_0 (by decide) ?_
  refine r_istore_n (lv' := [(2, Value.int 0), (0, Value.ref (B + a0)), (1, Value.int x1)]) C dX5_drop_1 rfl (by decide) rfl ?_
  refine r_iconst (v := 0) C dX5_drop_2 (by decide) ?_
  refine r_istore_n (lv' := [(3, Value.int 0), (2, Value.int 0), (0, Value.ref (B + a0)), (1, Value.int x1)]) C dX5_drop_3 rfl (by decide) rfl ?_
  exact r_loc (by simp) h
theorem v_X5_drop_4 {X : r_X} {w : r_V} {B n : Nat} {l : Launch} {Q : Ku → Prop} {κ0 : Ku} (C : r_C X w B 4 cX5_drop RX5) (E : r_E X l tX5_drop) (hn : okN n) {κ : Ku} (hC : CoK n κ) (hG : Gr n κ0 κ) {a0 : Nat} {x1 x2 x3 : Int32} (o0 : atS n a0 = some (.inl 5))
    (h : ((κ.1 a0 1) ≤ x3 → (∀ κ2 : Ku, κ2 = ki κ a0 1 x2 → (Q κ2))) ∧ (¬ (κ.1 a0 1) ≤ x3 → (∃ n6, atS n (a0 + 1) = some (.inr (0, n6)) ∧ (vp_in x3 n6 ∧ (((κ.1 (a0 + 1) x3.toNatClampNeg) = x1 → (∀ z10 : Int32, z10 = x3 + 1 → (r_W X w B 4 0 0 (r_Z X w B tX5_drop (ZKV n κ0 Q)) 4 [(0, Value.ref (B + a0)), (1, Value.int x1), (2, Value.int x2), (3, Value.int z10)] [] (shp n, κ)))) ∧ (¬ (κ.1 (a0 + 1) x3.toNatClampNeg) = x1 → (vp_in x2 n6 ∧ (∀ κ13 : Ku, κ13 = ki κ (a0 + 1) x2.toNatClampNeg (κ.1 (a0 + 1) x3.toNatClampNeg) → (∀ z17 : Int32, z17 = x2 + 1 → (∀ z19 : Int32, z19 = x3 + 1 → (r_W X w B 4 0 0 (r_Z X w B tX5_drop (ZKV n κ0 Q)) 4 [(0, Value.ref (B + a0)), (1, Value.int x1), (2, Value.int z17), (3, Value.int z19)] [] (shp n, κ13)))))))))))) :
    r_W X w B 4 0 0 (r_Z X w B tX5_drop (ZKV n κ0 Q)) 4 [(0, Value.ref (B + a0)), (1, Value.int x1), (2, Value.int x2), (3, Value.int x3)] [] (shp n, κ) := by
  refine r_iload_n C dX5_drop_4 rfl (j := 3) rfl ?_
  refine r_aload_n C dX5_drop_5 rfl (j := 0) rfl ?_
  refine r_get (v := .int (κ.1 a0 1)) C (atR o0) fa_X5_7 rfl dX5_drop_6 ?_
  refine r_icmp_ge (tgt := 43) C dX5_drop_9 (by decide) (fun c1 => ?_) (fun c1 => ?_)
  · have h := h.1 c1
    refine r_aload_n C dX5_drop_43 rfl (j := 0) rfl ?_
    refine r_iload_n C dX5_drop_44 rfl (j := 2) rfl ?_
    refine r_putI C (atR o0) fa_X5_7 rfl rfl rfl dX5_drop_45 ?_
    refine r_namK (κ := ki κ a0 1 x2) (fun κ2 e3 => ?_)
    have h := h κ2 e3
    have C4 : CoK n κ2 := by rw [e3]; exact hC
    have G5 : Gr n κ0 κ2 := by rw [e3]; exact hG.i (by have q := at_row hn o0; unfold mOf at *; omega)
    exact r_vretQ C E rfl (Nat.zero_le _) (Nat.zero_le _) dX5_drop_48 rfl ⟨G5, C4, h⟩
  · have h := h.2 c1
    refine r_aload_n C dX5_drop_12 rfl (j := 0) rfl ?_
    obtain ⟨n6, g7, h⟩ := h
    refine r_getE (e := a0 + 1) C (atR o0) fa_X5_13 rfl (hC.2.1 _ o0) (by omega) dX5_drop_13 ?_
    refine r_iload_n C dX5_drop_16 rfl (j := 3) rfl ?_
    obtain ⟨g8, h⟩ := h
    refine r_iald (ti := 0) (n := n6) C (atR g7) ⟨rfl, fun _ => rfl⟩ g8 dX5_drop_17 ?_
    refine r_iload_n C dX5_drop_18 rfl (j := 1) rfl ?_
    refine r_icmp_eq (tgt := 37) C dX5_drop_19 (by decide) (fun c9 => ?_) (fun c9 => ?_)
    · have h := h.1 c9
      obtain ⟨z10, e11⟩ : ∃ y : Int32, y = x3 + 1 := ⟨_, rfl⟩
      have h := h z10 e11
      refine r_iinc (v := z10) (lv' := [(3, Value.int z10), (0, Value.ref (B + a0)), (1, Value.int x1), (2, Value.int x2)]) C dX5_drop_37 (k := 3) rfl (by rw [e11]; rfl) (by decide) rfl ?_
      refine r_goto (tgt := 4) C dX5_drop_40 (by decide) ?_
      exact r_loc (by simp) h
    · have h := h.2 c9
      refine r_aload_n C dX5_drop_22 rfl (j := 0) rfl ?_
      refine r_getE (e := a0 + 1) C (atR o0) fa_X5_13 rfl (hC.2.1 _ o0) (by omega) dX5_drop_23 ?_
      refine r_iload_n C dX5_drop_26 rfl (j := 2) rfl ?_
      refine r_aload_n C dX5_drop_27 rfl (j := 0) rfl ?_
      refine r_getE (e := a0 + 1) C (atR o0) fa_X5_13 rfl (hC.2.1 _ o0) (by omega) dX5_drop_28 ?_
      refine r_iload_n C dX5_drop_31 rfl (j := 3) rfl ?_
      refine r_iald (ti := 0) (n := n6) C (atR g7) ⟨rfl, fun _ => rfl⟩ g8 dX5_drop_32 ?_
      obtain ⟨g12, h⟩ := h
      refine r_iast (ti := 0) (n := n6) C (atR g7) ⟨rfl, fun _ => rfl⟩ g12 dX5_drop_33 ?_
      refine r_namK (κ := ki κ (a0 + 1) x2.toNatClampNeg (κ.1 (a0 + 1) x3.toNatClampNeg)) (fun κ13 e14 => ?_)
      have h := h κ13 e14
      have C15 : CoK n κ13 := by rw [e14]; exact hC
      have G16 : Gr n κ0 κ13 := by rw [e14]; exact hG.i (by have q := at_row hn o0; unfold mOf at *; omega)
      obtain ⟨z17, e18⟩ : ∃ y : Int32, y = x2 + 1 := ⟨_, rfl⟩
      have h := h z17 e18
      refine r_iinc (v := z17) (lv' := [(2, Value.int z17), (0, Value.ref (B + a0)), (1, Value.int x1), (3, Value.int x3)]) C dX5_drop_34 (k := 2) rfl (by rw [e18]; rfl) (by decide) rfl ?_
      obtain ⟨z19, e20⟩ : ∃ y : Int32, y = x3 + 1 := ⟨_, rfl⟩
      have h := h z19 e20
      refine r_iinc (v := z19) (lv' := [(3, Value.int z19), (2, Value.int z17), (0, Value.ref (B + a0)), (1, Value.int x1)]) C dX5_drop_37 (k := 3) rfl (by rw [e20]; rfl) (by decide) rfl ?_
      refine r_goto (tgt := 4) C dX5_drop_40 (by decide) ?_
      exact r_loc (by simp) h
theorem v_X2_make_0 {X : r_X} {w : r_V} {B n : Nat} {l : Launch} {Q : Ku → Prop} {κ0 : Ku} (C : r_C X w B 4 cX2_make RX2) (E : r_E X l tX2_make) (hn : okN n) {κ : Ku} (hC : CoK n κ) (hG : Gr n κ0 κ) {a0 : Nat} {x1 x2 x3 : Int32} (o0 : atS n a0 = some (.inl 2))
    (h : ∀ κ1 : Ku, κ1 = ki κ a0 0 x1 → (∀ κ5 : Ku, κ5 = ki κ1 a0 1 x2 → (∀ κ9 : Ku, κ9 = ki κ5 a0 2 x3 → (∀ κ13 : Ku, κ13 = ki κ9 a0 3 0 → (∀ κ17 : Ku, κ17 = ki κ13 (a0 + 1) 1 0 → (∃ Q21 : Ku → Prop, r_KV l w B n tJ7_fill_d0a16 [Value.ref (B + (a0 + 3)), Value.long 0] κ17 Q21 ∧ (∀ κ23 : Ku, Q21 κ23 → (Q κ23)))))))) :
    r_W X w B 4 0 0 (r_Z X w B tX2_make (ZKV n κ0 Q)) 0 [(0, Value.ref (B + a0)), (1, Value.int x1), (2, Value.int x2), (3, Value.int x3)] [] (shp n, κ) := by
  refine r_aload_n C dX2_make_0 rfl (j := 0) rfl ?_
  refine r_iload_n C dX2_make_1 rfl (j := 1) rfl ?_
  refine r_putI C (atR o0) fa_X2_9 rfl rfl rfl dX2_make_2 ?_
  refine r_namK (κ := ki κ a0 0 x1) (fun κ1 e2 => ?_)
  have h := h κ1 e2
  have C3 : CoK n κ1 := by rw [e2]; exact hC
  have G4 : Gr n κ0 κ1 := by rw [e2]; exact hG.i (by have q := at_frame hn o0; unfold mOf at *; omega)
  refine r_aload_n C dX2_make_5 rfl (j := 0) rfl ?_
  refine r_iload_n C dX2_make_6 rfl (j := 2) rfl ?_
  refine r_putI C (atR o0) fa_X2_15 rfl rfl rfl dX2_make_7 ?_
  refine r_namK (κ := ki κ1 a0 1 x2) (fun κ5 e6 => ?_)
  have h := h κ5 e6
  have C7 : CoK n κ5 := by rw [e6]; exact C3
  have G8 : Gr n κ0 κ5 := by rw [e6]; exact G4.i (by have q := at_frame hn o0; unfold mOf at *; omega)
  refine r_aload_n C dX2_make_10 rfl (j := 0) rfl ?_
  refine r_iload_n C dX2_make_11 rfl (j := 3) rfl ?_
  refine r_putI C (atR o0) fa_X2_18 rfl rfl rfl dX2_make_12 ?_
  refine r_namK (κ := ki κ5 a0 2 x3) (fun κ9 e10 => ?_)
  have h := h κ9 e10
  have C11 : CoK n κ9 := by rw [e10]; exact C7
  have G12 : Gr n κ0 κ9 := by rw [e10]; exact G8.i (by have q := at_frame hn o0; unfold mOf at *; omega)
  refine r_aload_n C dX2_make_15 rfl (j := 0) rfl ?_
  refine r_iconst (v := 0) C dX2_make_16 (by decide) ?_
  refine r_putI C (atR o0) fa_X2_21 rfl rfl rfl dX2_make_17 ?_
  refine r_namK (κ := ki κ9 a0 3 0) (fun κ13 e14 => ?_)
  have h := h κ13 e14
  have C15 : CoK n κ13 := by rw [e14]; exact C11
  have G16 : Gr n κ0 κ13 := by rw [e14]; exact G12.i (by have q := at_frame hn o0; unfold mOf at *; omega)
  refine r_aload_n C dX2_make_20 rfl (j := 0) rfl ?_
  refine r_getE (e := a0 + 1) C (atR o0) fa_X2_29 rfl (C15.2.2.1 _ o0).1 (r_atN (atR (κ := κ13) (at_frame hn o0).1)) dX2_make_21 ?_
  refine r_iconst (v := 0) C dX2_make_24 (by decide) ?_
  refine r_putI C (atR (at_frame hn o0).1) fa_X2_37 rfl rfl rfl dX2_make_25 ?_
  refine r_namK (κ := ki κ13 (a0 + 1) 1 0) (fun κ17 e18 => ?_)
  have h := h κ17 e18
  have C19 : CoK n κ17 := by rw [e18]; exact C15
  have G20 : Gr n κ0 κ17 := by rw [e18]; exact G16.i (by have q := at_row hn (at_frame hn o0).1; unfold mOf at *; omega)
  refine r_aload_n C dX2_make_28 rfl (j := 0) rfl ?_
  refine r_getE (e := a0 + 3) C (atR o0) fa_X2_33 rfl (C19.2.2.1 _ o0).2 (by omega) dX2_make_29 ?_
  refine r_lconst (v := 0) C dX2_make_32 (by decide) ?_
  obtain ⟨Q21, m22, h⟩ := h
  refine r_callSV (rest := []) C E [Value.ref (B + (a0 + 3)), Value.long 0] ky_J7_fill_d0a16 kl_X2_40 ks_J7_fill_d0a16 ⟨Nat.le_of_ble_eq_true rfl, Nat.le_of_ble_eq_true rfl⟩ ⟨rfl, rfl⟩ m22 rfl rfl (Nat.le_of_ble_eq_true rfl) (Nat.zero_le _) (Nat.zero_le _) dX2_make_33 (fun σ23 s24 q26 => ?_)
  obtain ⟨s23x, κ23⟩ := σ23
  simp only at s24
  subst s24
  obtain ⟨f27, C28, q26⟩ := q26
  have G29 := G20.trans f27
  have h := h κ23 q26
  exact r_vretQ C E rfl (Nat.zero_le _) (Nat.zero_le _) dX2_make_36 rfl ⟨G29, C28, h⟩
theorem v_X2_length_0 {X : r_X} {w : r_V} {B n : Nat} {l : Launch} {Q : Int32 → Ku → Prop} {κ0 : Ku} (C : r_C X w B 1 cX2_length RX2) (E : r_E X l tX2_length) (hn : okN n) {κ : Ku} (hC : CoK n κ) (hG : Gr n κ0 κ) {a0 : Nat} (o0 : atS n a0 = some (.inl 2))
    (h : ∀ z2 : Int32, z2 = (if (κ.1 a0 0) = 3 then (κ.1 a0 2) else (2 : Int32)) → (Q z2 κ)) :
    r_W X w B 1 0 0 (r_Z X w B tX2_length (ZKI n κ0 Q)) 0 [(0, Value.ref (B + a0))] [] (shp n, κ) := by
  refine r_aload_n C dX2_length_0 rfl (j := 0) rfl ?_
  refine r_get (v := .int (κ.1 a0 0)) C (atR o0) fa_X2_9 rfl dX2_length_1 ?_
  refine r_iconst (v := 3) C dX2_length_4 (by decide) ?_
  have k4 : ∀ z2 : Int32, z2 = (if (κ.1 a0 0) = 3 then (κ.1 a0 2) else (2 : Int32)) → r_W X w B 1 0 0 (r_Z X w B tX2_length (ZKI n κ0 Q)) 16 [(0, Value.ref (B + a0))] [Value.int z2] (shp n, κ) := by
    intro z2 e3
    have h := h z2 e3
    exact r_iretQ C E rfl (Nat.zero_le _) (Nat.zero_le _) dX2_length_16 rfl ⟨hG, hC, h⟩
  clear h
  refine r_icmp_ne (tgt := 15) C dX2_length_5 (by decide) (fun c1 => ?_) (fun c1 => ?_)
  · have c1 : ¬ (κ.1 a0 0) = 3 := c1
    refine r_iconst (v := 2) C dX2_length_15 (by decide) ?_
    exact k4 _ (by rw [if_neg c1] <;> rfl)
  · have c1 : (κ.1 a0 0) = 3 := c1
    refine r_aload_n C dX2_length_8 rfl (j := 0) rfl ?_
    refine r_get (v := .int (κ.1 a0 2)) C (atR o0) fa_X2_18 rfl dX2_length_9 ?_
    refine r_goto (tgt := 16) C dX2_length_12 (by decide) ?_
    exact k4 _ (by rw [if_pos c1] <;> rfl)
theorem v_X2_isOver_0 {X : r_X} {w : r_V} {B n : Nat} {l : Launch} {Q : Int32 → Ku → Prop} {κ0 : Ku} (C : r_C X w B 1 cX2_isOver RX2) (E : r_E X l tX2_isOver) (hn : okN n) {κ : Ku} (hC : CoK n κ) (hG : Gr n κ0 κ) {a0 : Nat} (o0 : atS n a0 = some (.inl 2))
    (h : ((κ.1 a0 0) = 0 → (Q 0 κ)) ∧ (¬ (κ.1 a0 0) = 0 → (∃ Q2 : Int32 → Ku → Prop, r_KI l w B n tX2_length [Value.ref (B + a0)] κ Q2 ∧ (∀ (z6 : Int32) (κ4 : Ku), Q2 z6 κ4 → (∀ z12 : Int32, z12 = (if (κ.1 a0 3) < z6 then (0 : Int32) else (1 : Int32)) → ((z12 = 0 ∨ z12 = 1) ∧ (Q z12 κ4))))))) :
    r_W X w B 1 0 0 (r_Z X w B tX2_isOver (ZKI n κ0 Q)) 0 [(0, Value.ref (B + a0))] [] (shp n, κ) := by
  refine r_aload_n C dX2_isOver_0 rfl (j := 0) rfl ?_
  refine r_get (v := .int (κ.1 a0 0)) C (atR o0) fa_X2_9 rfl dX2_isOver_1 ?_
  refine r_if_eq (tgt := 22) C dX2_isOver_4 (by decide) (fun c1 => ?_) (fun c1 => ?_)
  · have h := h.1 c1
    refine r_iconst (v := 0) C dX2_isOver_22 (by decide) ?_
    exact r_zretQ C E rfl (by decide) (Nat.zero_le _) (Nat.zero_le _) dX2_isOver_23 rfl ⟨hG, hC, h⟩
  · have h := h.2 c1
    refine r_aload_n C dX2_isOver_7 rfl (j := 0) rfl ?_
    refine r_get (v := .int (κ.1 a0 3)) C (atR o0) fa_X2_21 rfl dX2_isOver_8 ?_
    refine r_aload_n C dX2_isOver_11 rfl (j := 0) rfl ?_
    obtain ⟨Q2, m3, h⟩ := h
    refine r_callVI (rest := [Value.int (κ.1 a0 3)]) C E [] (atR o0) rfl ky_X2_length kl_X2_46 ki_X2_length kx_X2_length ⟨Nat.le_of_ble_eq_true rfl, Nat.le_of_ble_eq_true rfl⟩ ⟨rfl, rfl⟩ m3 rfl rfl (Nat.le_of_ble_eq_true rfl) (Nat.zero_le _) (Nat.zero_le _) dX2_isOver_12 (fun z6 σ4 s5 q7 => ?_)
    obtain ⟨s4x, κ4⟩ := σ4
    simp only at s5
    subst s5
    obtain ⟨f8, C9, q7⟩ := q7
    have G10 := hG.trans f8
    have h := h z6 κ4 q7
    have k14 : ∀ z12 : Int32, z12 = (if (κ.1 a0 3) < z6 then (0 : Int32) else (1 : Int32)) → r_W X w B 1 0 0 (r_Z X w B tX2_isOver (ZKI n κ0 Q)) 23 [(0, Value.ref (B + a0))] [Value.int z12] (shp n, κ4) := by
      intro z12 e13
      have h := h z12 e13
      obtain ⟨g15, h⟩ := h
      exact r_zretQ C E rfl g15 (Nat.zero_le _) (Nat.zero_le _) dX2_isOver_23 rfl ⟨G10, C9, h⟩
    clear h
    refine r_icmp_lt (tgt := 22) C dX2_isOver_15 (by decide) (fun c11 => ?_) (fun c11 => ?_)
    · have c11 : (κ.1 a0 3) < z6 := c11
      refine r_iconst (v := 0) C dX2_isOver_22 (by decide) ?_
      exact k14 _ (by rw [if_pos c11] <;> rfl)
    · have c11 : ¬ (κ.1 a0 3) < z6 := c11
      refine r_iconst (v := 1) C dX2_isOver_18 (by decide) ?_
      refine r_goto (tgt := 23) C dX2_isOver_19 (by decide) ?_
      exact k14 _ (by rw [if_neg c11] <;> rfl)
theorem v_X2_left_0 {X : r_X} {w : r_V} {B n : Nat} {l : Launch} {Q : Int32 → Ku → Prop} {κ0 : Ku} (C : r_C X w B 1 cX2_left RX2) (E : r_E X l tX2_left) (hn : okN n) {κ : Ku} (hC : CoK n κ) (hG : Gr n κ0 κ) {a0 : Nat} (o0 : atS n a0 = some (.inl 2))
    (h : ∀ z1 : Int32, z1 = κ.1 a0 0 → ((z1 = 1 → (Q (7 + (κ.1 a0 2)) κ)) ∧ (¬ z1 = 1 → ((z1 = 2 → (Q (4 + (κ.1 a0 2)) κ)) ∧ (¬ z1 = 2 → ((z1 = 3 → (Q 3 κ)) ∧ (¬ z1 = 3 → (Q 0 κ)))))))) :
    r_W X w B 1 0 0 (r_Z X w B tX2_left (ZKI n κ0 Q)) 0 [(0, Value.ref (B + a0))] [] (shp n, κ) := by
  refine r_aload_n C dX2_left_0 rfl (j := 0) rfl ?_
  refine r_get (v := .int (κ.1 a0 0)) C (atR o0) fa_X2_9 rfl dX2_left_1 ?_
  refine r_topi (fun z1 e2 => ?_)
  have h := h z1 e2
  by_cases c3 : z1 = 1
  · have h := h.1 c3
    refine r_tableIn (tgt := 32) (off := 28) C dX2_left_4 (by rw [c3]; decide) (by rw [c3]; decide) (by rw [c3]; rfl) (by decide) ?_
    refine r_bipush (v := 7) C dX2_left_32 (by decide) ?_
    refine r_aload_n C dX2_left_34 rfl (j := 0) rfl ?_
    refine r_get (v := .int (κ.1 a0 2)) C (atR o0) fa_X2_18 rfl dX2_left_35 ?_
    refine r_iadd C dX2_left_38 ?_
    exact r_iretQ C E rfl (Nat.zero_le _) (Nat.zero_le _) dX2_left_39 rfl ⟨hG, hC, h⟩
  have h := h.2 c3
  have c3 := r_neT c3
  by_cases c4 : z1 = 2
  · have h := h.1 c4
    refine r_tableIn (tgt := 40) (off := 36) C dX2_left_4 (by rw [c4]; decide) (by rw [c4]; decide) (by rw [c4]; rfl) (by decide) ?_
    refine r_iconst (v := 4) C dX2_left_40 (by decide) ?_
    refine r_aload_n C dX2_left_41 rfl (j := 0) rfl ?_
    refine r_get (v := .int (κ.1 a0 2)) C (atR o0) fa_X2_18 rfl dX2_left_42 ?_
    refine r_iadd C dX2_left_45 ?_
    exact r_iretQ C E rfl (Nat.zero_le _) (Nat.zero_le _) dX2_left_46 rfl ⟨hG, hC, h⟩
  have h := h.2 c4
  have c4 := r_neT c4
  by_cases c5 : z1 = 3
  · have h := h.1 c5
    refine r_tableIn (tgt := 47) (off := 43) C dX2_left_4 (by rw [c5]; decide) (by rw [c5]; decide) (by rw [c5]; rfl) (by decide) ?_
    refine r_iconst (v := 3) C dX2_left_47 (by decide) ?_
    exact r_iretQ C E rfl (Nat.zero_le _) (Nat.zero_le _) dX2_left_48 rfl ⟨hG, hC, h⟩
  have h := h.2 c5
  have c5 := r_neT c5
  refine r_tableOut (tgt := 49) C dX2_left_4 (by clear h; simp at *; omega) (by decide) ?_
  refine r_iconst (v := 0) C dX2_left_49 (by decide) ?_
  exact r_iretQ C E rfl (Nat.zero_le _) (Nat.zero_le _) dX2_left_50 rfl ⟨hG, hC, h⟩
theorem v_X2_markGood_0 {X : r_X} {w : r_V} {B n : Nat} {l : Launch} {Q : Ku → Prop} {κ0 : Ku} (C : r_C X w B 2 cX2_markGood RX2) (E : r_E X l tX2_markGood) (hn : okN n) {κ : Ku} (hC : CoK n κ) (hG : Gr n κ0 κ) {a0 : Nat} {x1 : Int32} (o0 : atS n a0 = some (.inl 2))
    (h : vp_in x1 n ∧ (∀ κ2 : Ku, κ2 = kl κ (a0 + 3) x1.toNatClampNeg ((κ.2.1 (a0 + 3) x1.toNatClampNeg) ||| ((1 : Int64) <<< ((κ.1 a0 3).toInt64 &&& 63))) → (Q κ2))) :
    r_W X w B 2 0 0 (r_Z X w B tX2_markGood (ZKV n κ0 Q)) 0 [(0, Value.ref (B + a0)), (1, Value.int x1)] [] (shp n, κ) := by
  refine r_aload_n C dX2_markGood_0 rfl (j := 0) rfl ?_
  refine r_getE (e := a0 + 3) C (atR o0) fa_X2_33 rfl (hC.2.2.1 _ o0).2 (by omega) dX2_markGood_1 ?_
  refine r_iload_n C dX2_markGood_4 rfl (j := 1) rfl ?_
  refine r_dup2_11 C dX2_markGood_5 rfl rfl ?_
  obtain ⟨g1, h⟩ := h
  refine r_lald (ti := 1) (n := n) C (atR (at_frame hn o0).2.2.1) ⟨rfl, fun _ => rfl⟩ g1 dX2_markGood_6 ?_
  refine r_lconst (v := 1) C dX2_markGood_7 (by decide) ?_
  refine r_aload_n C dX2_markGood_8 rfl (j := 0) rfl ?_
  refine r_get (v := .int (κ.1 a0 3)) C (atR o0) fa_X2_21 rfl dX2_markGood_9 ?_
  refine r_lshl (v := (1 : Int64) <<< ((κ.1 a0 3).toInt64 &&& 63)) C dX2_markGood_12 rfl ?_
  refine r_lor C dX2_markGood_13 ?_
  refine r_last (ti := 1) (n := n) C (atR (at_frame hn o0).2.2.1) ⟨rfl, fun _ => rfl⟩ g1 dX2_markGood_14 ?_
  refine r_namK (κ := kl κ (a0 + 3) x1.toNatClampNeg ((κ.2.1 (a0 + 3) x1.toNatClampNeg) ||| ((1 : Int64) <<< ((κ.1 a0 3).toInt64 &&& 63)))) (fun κ2 e3 => ?_)
  have h := h κ2 e3
  have C4 : CoK n κ2 := by rw [e3]; exact hC
  have G5 : Gr n κ0 κ2 := by rw [e3]; exact hG.l (by have q := at_frame hn o0; unfold mOf at *; omega)
  exact r_vretQ C E rfl (Nat.zero_le _) (Nat.zero_le _) dX2_markGood_15 rfl ⟨G5, C4, h⟩
theorem v_X2_areGood_0 {X : r_X} {w : r_V} {B n : Nat} {l : Launch} {Q : Int32 → Ku → Prop} {κ0 : Ku} (C : r_C X w B 6 cX2_areGood RX2) (E : r_E X l tX2_areGood) (hn : okN n) {κ : Ku} (hC : CoK n κ) (hG : Gr n κ0 κ) {a0 : Nat} {x1 x2 x3 : Int32} (o0 : atS n a0 = some (.inl 2))
    (h : ∀ y1 : Int64, y1 = (((1 : Int64) <<< (x3.toInt64 &&& 63)) - 1) <<< (x2.toInt64 &&& 63) → (vp_in x1 n ∧ (∀ z5 : Int32, z5 = (if ((κ.2.1 (a0 + 3) x1.toNatClampNeg) &&& y1) = y1 then (1 : Int32) else (0 : Int32)) → ((z5 = 0 ∨ z5 = 1) ∧ (Q z5 κ))))) :
    r_W X w B 6 0 0 (r_Z X w B tX2_areGood (ZKI n κ0 Q)) 0 [(0, Value.ref (B + a0)), (1, Value.int x1), (2, Value.int x2), (3, Value.int x3)] [] (shp n, κ) := by
  refine r_lconst (v := 1) C dX2_areGood_0 (by decide) ?_
  refine r_iload_n C dX2_areGood_1 rfl (j := 3) rfl ?_
  refine r_lshl (v := (1 : Int64) <<< (x3.toInt64 &&& 63)) C dX2_areGood_2 rfl ?_
  refine r_lconst (v := 1) C dX2_areGood_3 (by decide) ?_
  refine r_lsub C dX2_areGood_4 ?_
  refine r_iload_n C dX2_areGood_5 rfl (j := 2) rfl ?_
  refine r_lshl (v := (((1 : Int64) <<< (x3.toInt64 &&& 63)) - 1) <<< (x2.toInt64 &&& 63)) C dX2_areGood_6 rfl ?_
  refine r_topl (fun y1 e2 => ?_)
  have h := h y1 e2
  refine r_lstore (lv' := [(4, Value.long y1), (0, Value.ref (B + a0)), (1, Value.int x1), (2, Value.int x2), (3, Value.int x3)]) C dX2_areGood_7 (by decide) rfl ?_
  refine r_aload_n C dX2_areGood_9 rfl (j := 1) rfl ?_
  refine r_getE (e := a0 + 3) C (atR o0) fa_X2_33 rfl (hC.2.2.1 _ o0).2 (by omega) dX2_areGood_10 ?_
  refine r_iload_n C dX2_areGood_13 rfl (j := 2) rfl ?_
  obtain ⟨g3, h⟩ := h
  refine r_lald (ti := 1) (n := n) C (atR (at_frame hn o0).2.2.1) ⟨rfl, fun _ => rfl⟩ g3 dX2_areGood_14 ?_
  refine r_lload C dX2_areGood_15 (j := 0) rfl ?_
  refine r_land C dX2_areGood_17 ?_
  refine r_lload C dX2_areGood_18 (j := 0) rfl ?_
  refine r_lcmp C dX2_areGood_20 ?_
  have k7 : ∀ z5 : Int32, z5 = (if ((κ.2.1 (a0 + 3) x1.toNatClampNeg) &&& y1) = y1 then (1 : Int32) else (0 : Int32)) → r_W X w B 6 0 0 (r_Z X w B tX2_areGood (ZKI n κ0 Q)) 29 [(4, Value.long y1), (0, Value.ref (B + a0)), (1, Value.int x1), (2, Value.int x2), (3, Value.int x3)] [Value.int z5] (shp n, κ) := by
    intro z5 e6
    have h := h z5 e6
    obtain ⟨g8, h⟩ := h
    exact r_zretQ C E rfl g8 (Nat.zero_le _) (Nat.zero_le _) dX2_areGood_29 rfl ⟨hG, hC, h⟩
  clear h
  refine r_if_ne (tgt := 28) C dX2_areGood_21 (by decide) (fun c4 => ?_) (fun c4 => ?_)
  · have c4 : ¬ ((κ.2.1 (a0 + 3) x1.toNatClampNeg) &&& y1) = y1 := (fun q => c4 (lgc_eq.mpr q))
    refine r_iconst (v := 0) C dX2_areGood_28 (by decide) ?_
    exact k7 _ (by rw [if_neg c4] <;> rfl)
  · have c4 : ((κ.2.1 (a0 + 3) x1.toNatClampNeg) &&& y1) = y1 := (lgc_eq.mp c4)
    refine r_iconst (v := 1) C dX2_areGood_24 (by decide) ?_
    refine r_goto (tgt := 29) C dX2_areGood_25 (by decide) ?_
    exact k7 _ (by rw [if_pos c4] <;> rfl)
theorem v_X2_isReceivedAt_0 {X : r_X} {w : r_V} {B n : Nat} {l : Launch} {Q : Int32 → Ku → Prop} {κ0 : Ku} (C : r_C X w B 2 cX2_isReceivedAt RX2) (E : r_E X l tX2_isReceivedAt) (hn : okN n) {κ : Ku} (hC : CoK n κ) (hG : Gr n κ0 κ) {a0 : Nat} {x1 : Int32} (o0 : atS n a0 = some (.inl 2))
    (h : ∀ z2 : Int32, z2 = (if (κ.1 a0 0) = 3 then (1 : Int32) else (2 : Int32)) → (∃ Q5 : Int32 → Ku → Prop, r_KI l w B n tX2_areGood [Value.ref (B + a0), Value.int x1, Value.int 0, Value.int z2] κ Q5 ∧ (∀ (z9 : Int32) (κ7 : Ku), Q5 z9 κ7 → ((z9 = 0 ∨ z9 = 1) ∧ (Q z9 κ7))))) :
    r_W X w B 2 0 0 (r_Z X w B tX2_isReceivedAt (ZKI n κ0 Q)) 0 [(0, Value.ref (B + a0)), (1, Value.int x1)] [] (shp n, κ) := by
  refine r_aload_n C dX2_isReceivedAt_0 rfl (j := 0) rfl ?_
  refine r_iload_n C dX2_isReceivedAt_1 rfl (j := 1) rfl ?_
  refine r_iconst (v := 0) C dX2_isReceivedAt_2 (by decide) ?_
  refine r_aload_n C dX2_isReceivedAt_3 rfl (j := 0) rfl ?_
  refine r_get (v := .int (κ.1 a0 0)) C (atR o0) fa_X2_9 rfl dX2_isReceivedAt_4 ?_
  refine r_iconst (v := 3) C dX2_isReceivedAt_7 (by decide) ?_
  have k4 : ∀ z2 : Int32, z2 = (if (κ.1 a0 0) = 3 then (1 : Int32) else (2 : Int32)) → r_W X w B 2 0 0 (r_Z X w B tX2_isReceivedAt (ZKI n κ0 Q)) 16 [(0, Value.ref (B + a0)), (1, Value.int x1)] [Value.int z2, Value.int 0, Value.int x1, Value.ref (B + a0)] (shp n, κ) := by
    intro z2 e3
    have h := h z2 e3
    obtain ⟨Q5, m6, h⟩ := h
    refine r_callVI (rest := []) C E [Value.int x1, Value.int 0, Value.int z2] (atR o0) rfl ky_X2_areGood kl_X2_50 ki_X2_areGood kx_X2_areGood ⟨Nat.le_of_ble_eq_true rfl, Nat.le_of_ble_eq_true rfl⟩ ⟨rfl, rfl⟩ m6 rfl rfl (Nat.le_of_ble_eq_true rfl) (Nat.zero_le _) (Nat.zero_le _) dX2_isReceivedAt_16 (fun z9 σ7 s8 q10 => ?_)
    obtain ⟨s7x, κ7⟩ := σ7
    simp only at s8
    subst s8
    obtain ⟨f11, C12, q10⟩ := q10
    have G13 := hG.trans f11
    have h := h z9 κ7 q10
    obtain ⟨g14, h⟩ := h
    exact r_zretQ C E rfl g14 (Nat.zero_le _) (Nat.zero_le _) dX2_isReceivedAt_19 rfl ⟨G13, C12, h⟩
  clear h
  refine r_icmp_ne (tgt := 15) C dX2_isReceivedAt_8 (by decide) (fun c1 => ?_) (fun c1 => ?_)
  · have c1 : ¬ (κ.1 a0 0) = 3 := c1
    refine r_iconst (v := 2) C dX2_isReceivedAt_15 (by decide) ?_
    exact k4 _ (by rw [if_neg c1] <;> rfl)
  · have c1 : (κ.1 a0 0) = 3 := c1
    refine r_iconst (v := 1) C dX2_isReceivedAt_11 (by decide) ?_
    refine r_goto (tgt := 16) C dX2_isReceivedAt_12 (by decide) ?_
    exact k4 _ (by rw [if_pos c1] <;> rfl)
theorem v_X4_pairOf_0 {X : r_X} {w : r_V} {B n : Nat} {l : Launch} {Q : Int32 → Ku → Prop} {κ0 : Ku} (C : r_C X w B 3 cX4_pairOf RX4) (E : r_E X l tX4_pairOf) (hn : okN n) {κ : Ku} (hC : CoK n κ) (hG : Gr n κ0 κ) {x1 x2 : Int32}
    (h : Q ((x1 * 6) + x2) κ) :
    r_W X w B 3 0 0 (r_Z X w B tX4_pairOf (ZKI n κ0 Q)) 0 [(0, Value.ref (B + 4)), (1, Value.int x1), (2, Value.int x2)] [] (shp n, κ) := by
  refine r_iload_n C dX4_pairOf_0 rfl (j := 1) rfl ?_
  refine r_bipush (v := 6) C dX4_pairOf_1 (by decide) ?_
  refine r_imul C dX4_pairOf_3 ?_
  refine r_iload_n C dX4_pairOf_4 rfl (j := 2) rfl ?_
  refine r_iadd C dX4_pairOf_5 ?_
  exact r_iretQ C E rfl (Nat.zero_le _) (Nat.zero_le _) dX4_pairOf_6 rfl ⟨hG, hC, h⟩
theorem v_X4_isFull_0 {X : r_X} {w : r_V} {B n : Nat} {l : Launch} {Q : Int32 → Ku → Prop} {κ0 : Ku} (C : r_C X w B 1 cX4_isFull RX4) (E : r_E X l tX4_isFull) (hn : okN n) {κ : Ku} (hC : CoK n κ) (hG : Gr n κ0 κ)
    (h : ∀ z2 : Int32, z2 = (if (κ.1 4 4) < 300 then (0 : Int32) else (1 : Int32)) → ((z2 = 0 ∨ z2 = 1) ∧ (Q z2 κ))) :
    r_W X w B 1 0 0 (r_Z X w B tX4_isFull (ZKI n κ0 Q)) 0 [(0, Value.ref (B + 4))] [] (shp n, κ) := by
  refine r_aload_n C dX4_isFull_0 rfl (j := 0) rfl ?_
  refine r_get (v := .int (κ.1 4 4)) C (atR (at_c (a := 3) rfl)) fa_X4_25 rfl dX4_isFull_1 ?_
  refine r_sipush (v := 300) C dX4_isFull_4 (by decide) ?_
  have k4 : ∀ z2 : Int32, z2 = (if (κ.1 4 4) < 300 then (0 : Int32) else (1 : Int32)) → r_W X w B 1 0 0 (r_Z X w B tX4_isFull (ZKI n κ0 Q)) 15 [(0, Value.ref (B + 4))] [Value.int z2] (shp n, κ) := by
    intro z2 e3
    have h := h z2 e3
    obtain ⟨g5, h⟩ := h
    exact r_zretQ C E rfl g5 (Nat.zero_le _) (Nat.zero_le _) dX4_isFull_15 rfl ⟨hG, hC, h⟩
  clear h
  refine r_icmp_lt (tgt := 14) C dX4_isFull_7 (by decide) (fun c1 => ?_) (fun c1 => ?_)
  · have c1 : (κ.1 4 4) < 300 := c1
    refine r_iconst (v := 0) C dX4_isFull_14 (by decide) ?_
    exact k4 _ (by rw [if_pos c1] <;> rfl)
  · have c1 : ¬ (κ.1 4 4) < 300 := c1
    refine r_iconst (v := 1) C dX4_isFull_10 (by decide) ?_
    refine r_goto (tgt := 15) C dX4_isFull_11 (by decide) ?_
    exact k4 _ (by rw [if_neg c1] <;> rfl)
theorem v_X4_add_0 {X : r_X} {w : r_V} {B n : Nat} {l : Launch} {Q : Int32 → Ku → Prop} {κ0 : Ku} (C : r_C X w B 4 cX4_add RX4) (E : r_E X l tX4_add) (hn : okN n) {κ : Ku} (hC : CoK n κ) (hG : Gr n κ0 κ) {x1 x2 x3 : Int32}
    (h : ∀ κ1 : Ku, κ1 = ki κ 4 4 ((κ.1 4 4) + 1) → (∃ Q5 : Int32 → Ku → Prop, r_KI l w B n tX4_pairOf [Value.ref (B + 4), Value.int x1, Value.int x2] κ1 Q5 ∧ (∀ (z9 : Int32) (κ7 : Ku), Q5 z9 κ7 → (vp_in (κ1.1 4 4) 301 ∧ (∀ κ15 : Ku, κ15 = ki κ7 5 ((κ1.1 4 4).toNatClampNeg) z9 → (vp_in (κ15.1 4 4) 301 ∧ (∀ κ20 : Ku, κ20 = ki κ15 6 ((κ15.1 4 4).toNatClampNeg) x3 → (vp_in (κ20.1 4 4) 301 ∧ (vp_in (κ20.1 5 ((κ20.1 4 4).toNatClampNeg)) 36 ∧ (∀ κ26 : Ku, κ26 = ki κ20 7 ((κ20.1 4 4).toNatClampNeg) (κ20.1 9 ((κ20.1 5 ((κ20.1 4 4).toNatClampNeg)).toNatClampNeg)) → (vp_in (κ26.1 4 4) 301 ∧ (vp_in (κ26.1 5 ((κ26.1 4 4).toNatClampNeg)) 36 ∧ (∀ κ32 : Ku, κ32 = ki κ26 9 ((κ26.1 5 ((κ26.1 4 4).toNatClampNeg)).toNatClampNeg) ((κ26.1 9 ((κ26.1 5 ((κ26.1 4 4).toNatClampNeg)).toNatClampNeg)) + 1) → (Q (κ32.1 4 4) κ32)))))))))))))) :
    r_W X w B 4 0 0 (r_Z X w B tX4_add (ZKI n κ0 Q)) 0 [(0, Value.ref (B + 4)), (1, Value.int x1), (2, Value.int x2), (3, Value.int x3)] [] (shp n, κ) := by
  refine r_aload_n C dX4_add_0 rfl (j := 0) rfl ?_
  refine r_dup C dX4_add_1 rfl ?_
  refine r_get (v := .int (κ.1 4 4)) C (atR (at_c (a := 3) rfl)) fa_X4_25 rfl dX4_add_2 ?_
  refine r_iconst (v := 1) C dX4_add_5 (by decide) ?_
  refine r_iadd C dX4_add_6 ?_
  refine r_putI C (atR (at_c (a := 3) rfl)) fa_X4_25 rfl rfl rfl dX4_add_7 ?_
  refine r_namK (κ := ki κ 4 4 ((κ.1 4 4) + 1)) (fun κ1 e2 => ?_)
  have h := h κ1 e2
  have C3 : CoK n κ1 := by rw [e2]; exact hC
  have G4 : Gr n κ0 κ1 := by rw [e2]; exact hG.i (by unfold mOf; omega)
  refine r_aload_n C dX4_add_10 rfl (j := 0) rfl ?_
  refine r_getE (e := 5) C (atR (at_c (a := 3) rfl)) fa_X4_9 rfl C3.1.2.2.2.2.2.2.2.1 (by decide) dX4_add_11 ?_
  refine r_aload_n C dX4_add_14 rfl (j := 0) rfl ?_
  refine r_get (v := .int (κ1.1 4 4)) C (atR (at_c (a := 3) rfl)) fa_X4_25 rfl dX4_add_15 ?_
  refine r_aload_n C dX4_add_18 rfl (j := 0) rfl ?_
  refine r_iload_n C dX4_add_19 rfl (j := 1) rfl ?_
  refine r_iload_n C dX4_add_20 rfl (j := 2) rfl ?_
  obtain ⟨Q5, m6, h⟩ := h
  refine r_callVI (rest := [Value.int (κ1.1 4 4), Value.ref (B + 5)]) C E [Value.int x1, Value.int x2] (atR (at_c (a := 3) rfl)) rfl ky_X4_pairOf kl_X4_35 ki_X4_pairOf kx_X4_pairOf ⟨Nat.le_of_ble_eq_true rfl, Nat.le_of_ble_eq_true rfl⟩ ⟨rfl, rfl⟩ m6 rfl rfl (Nat.le_of_ble_eq_true rfl) (Nat.zero_le _) (Nat.zero_le _) dX4_add_21 (fun z9 σ7 s8 q10 => ?_)
  obtain ⟨s7x, κ7⟩ := σ7
  simp only at s8
  subst s8
  obtain ⟨f11, C12, q10⟩ := q10
  have G13 := G4.trans f11
  have h := h z9 κ7 q10
  obtain ⟨g14, h⟩ := h
  refine r_iast (ti := 0) (n := 301) C (atR (at_c (a := 4) rfl)) ⟨rfl, fun _ => rfl⟩ g14 dX4_add_24 ?_
  refine r_namK (κ := ki κ7 5 ((κ1.1 4 4).toNatClampNeg) z9) (fun κ15 e16 => ?_)
  have h := h κ15 e16
  have C17 : CoK n κ15 := by rw [e16]; exact C12
  have G18 : Gr n κ0 κ15 := by rw [e16]; exact G13.i (by unfold mOf; omega)
  refine r_aload_n C dX4_add_25 rfl (j := 0) rfl ?_
  refine r_getE (e := 6) C (atR (at_c (a := 3) rfl)) fa_X4_15 rfl C17.1.2.2.2.2.2.2.2.2.1 (by decide) dX4_add_26 ?_
  refine r_aload_n C dX4_add_29 rfl (j := 0) rfl ?_
  refine r_get (v := .int (κ15.1 4 4)) C (atR (at_c (a := 3) rfl)) fa_X4_25 rfl dX4_add_30 ?_
  refine r_iload_n C dX4_add_33 rfl (j := 3) rfl ?_
  obtain ⟨g19, h⟩ := h
  refine r_iast (ti := 0) (n := 301) C (atR (at_c (a := 5) rfl)) ⟨rfl, fun _ => rfl⟩ g19 dX4_add_34 ?_
  refine r_namK (κ := ki κ15 6 ((κ15.1 4 4).toNatClampNeg) x3) (fun κ20 e21 => ?_)
  have h := h κ20 e21
  have C22 : CoK n κ20 := by rw [e21]; exact C17
  have G23 : Gr n κ0 κ20 := by rw [e21]; exact G18.i (by unfold mOf; omega)
  refine r_aload_n C dX4_add_35 rfl (j := 0) rfl ?_
  refine r_getE (e := 7) C (atR (at_c (a := 3) rfl)) fa_X4_18 rfl C22.1.2.2.2.2.2.2.2.2.2.1 (by decide) dX4_add_36 ?_
  refine r_aload_n C dX4_add_39 rfl (j := 0) rfl ?_
  refine r_get (v := .int (κ20.1 4 4)) C (atR (at_c (a := 3) rfl)) fa_X4_25 rfl dX4_add_40 ?_
  refine r_aload_n C dX4_add_43 rfl (j := 0) rfl ?_
  refine r_getE (e := 9) C (atR (at_c (a := 3) rfl)) fa_X4_29 rfl C22.1.2.2.2.2.2.2.2.2.2.2.2.1 (by decide) dX4_add_44 ?_
  refine r_aload_n C dX4_add_47 rfl (j := 0) rfl ?_
  refine r_getE (e := 5) C (atR (at_c (a := 3) rfl)) fa_X4_9 rfl C22.1.2.2.2.2.2.2.2.1 (by decide) dX4_add_48 ?_
  refine r_aload_n C dX4_add_51 rfl (j := 0) rfl ?_
  refine r_get (v := .int (κ20.1 4 4)) C (atR (at_c (a := 3) rfl)) fa_X4_25 rfl dX4_add_52 ?_
  obtain ⟨g24, h⟩ := h
  refine r_iald (ti := 0) (n := 301) C (atR (at_c (a := 4) rfl)) ⟨rfl, fun _ => rfl⟩ g24 dX4_add_55 ?_
  obtain ⟨g25, h⟩ := h
  refine r_iald (ti := 0) (n := 36) C (atR (at_c (a := 8) rfl)) ⟨rfl, fun _ => rfl⟩ g25 dX4_add_56 ?_
  refine r_iast (ti := 0) (n := 301) C (atR (at_c (a := 6) rfl)) ⟨rfl, fun _ => rfl⟩ g24 dX4_add_57 ?_
  refine r_namK (κ := ki κ20 7 ((κ20.1 4 4).toNatClampNeg) (κ20.1 9 ((κ20.1 5 ((κ20.1 4 4).toNatClampNeg)).toNatClampNeg))) (fun κ26 e27 => ?_)
  have h := h κ26 e27
  have C28 : CoK n κ26 := by rw [e27]; exact C22
  have G29 : Gr n κ0 κ26 := by rw [e27]; exact G23.i (by unfold mOf; omega)
  refine r_aload_n C dX4_add_58 rfl (j := 0) rfl ?_
  refine r_getE (e := 9) C (atR (at_c (a := 3) rfl)) fa_X4_29 rfl C28.1.2.2.2.2.2.2.2.2.2.2.2.1 (by decide) dX4_add_59 ?_
  refine r_aload_n C dX4_add_62 rfl (j := 0) rfl ?_
  refine r_getE (e := 5) C (atR (at_c (a := 3) rfl)) fa_X4_9 rfl C28.1.2.2.2.2.2.2.2.1 (by decide) dX4_add_63 ?_
  refine r_aload_n C dX4_add_66 rfl (j := 0) rfl ?_
  refine r_get (v := .int (κ26.1 4 4)) C (atR (at_c (a := 3) rfl)) fa_X4_25 rfl dX4_add_67 ?_
  obtain ⟨g30, h⟩ := h
  refine r_iald (ti := 0) (n := 301) C (atR (at_c (a := 4) rfl)) ⟨rfl, fun _ => rfl⟩ g30 dX4_add_70 ?_
  refine r_dup2_11 C dX4_add_71 rfl rfl ?_
  obtain ⟨g31, h⟩ := h
  refine r_iald (ti := 0) (n := 36) C (atR (at_c (a := 8) rfl)) ⟨rfl, fun _ => rfl⟩ g31 dX4_add_72 ?_
  refine r_iconst (v := 1) C dX4_add_73 (by decide) ?_
  refine r_iadd C dX4_add_74 ?_
  refine r_iast (ti := 0) (n := 36) C (atR (at_c (a := 8) rfl)) ⟨rfl, fun _ => rfl⟩ g31 dX4_add_75 ?_
  refine r_namK (κ := ki κ26 9 ((κ26.1 5 ((κ26.1 4 4).toNatClampNeg)).toNatClampNeg) ((κ26.1 9 ((κ26.1 5 ((κ26.1 4 4).toNatClampNeg)).toNatClampNeg)) + 1)) (fun κ32 e33 => ?_)
  have h := h κ32 e33
  have C34 : CoK n κ32 := by rw [e33]; exact C28
  have G35 : Gr n κ0 κ32 := by rw [e33]; exact G29.i (by unfold mOf; omega)
  refine r_aload_n C dX4_add_76 rfl (j := 0) rfl ?_
  refine r_get (v := .int (κ32.1 4 4)) C (atR (at_c (a := 3) rfl)) fa_X4_25 rfl dX4_add_77 ?_
  exact r_iretQ C E rfl (Nat.zero_le _) (Nat.zero_le _) dX4_add_80 rfl ⟨G35, C34, h⟩
theorem v_X4_numberOf_0 {X : r_X} {w : r_V} {B n : Nat} {l : Launch} {Q : Int32 → Ku → Prop} {κ0 : Ku} (C : r_C X w B 2 cX4_numberOf RX4) (E : r_E X l tX4_numberOf) (hn : okN n) {κ : Ku} (hC : CoK n κ) (hG : Gr n κ0 κ) {x1 : Int32}
    (h : vp_in x1 301 ∧ (Q (κ.1 7 x1.toNatClampNeg) κ)) :
    r_W X w B 2 0 0 (r_Z X w B tX4_numberOf (ZKI n κ0 Q)) 0 [(0, Value.ref (B + 4)), (1, Value.int x1)] [] (shp n, κ) := by
  refine r_aload_n C dX4_numberOf_0 rfl (j := 0) rfl ?_
  refine r_getE (e := 7) C (atR (at_c (a := 3) rfl)) fa_X4_18 rfl hC.1.2.2.2.2.2.2.2.2.2.1 (by decide) dX4_numberOf_1 ?_
  refine r_iload_n C dX4_numberOf_4 rfl (j := 1) rfl ?_
  obtain ⟨g1, h⟩ := h
  refine r_iald (ti := 0) (n := 301) C (atR (at_c (a := 6) rfl)) ⟨rfl, fun _ => rfl⟩ g1 dX4_numberOf_5 ?_
  exact r_iretQ C E rfl (Nat.zero_le _) (Nat.zero_le _) dX4_numberOf_6 rfl ⟨hG, hC, h⟩
theorem v_X4_receiverOf_0 {X : r_X} {w : r_V} {B n : Nat} {l : Launch} {Q : Int32 → Ku → Prop} {κ0 : Ku} (C : r_C X w B 2 cX4_receiverOf RX4) (E : r_E X l tX4_receiverOf) (hn : okN n) {κ : Ku} (hC : CoK n κ) (hG : Gr n κ0 κ) {a1 : Nat} (o1 : atS n a1 = some (.inl 5))
    (h : ∃ Q1 : Int32 → Ku → Prop, r_KI l w B n tX5_get [Value.ref (B + a1), Value.int 0] κ Q1 ∧ (∀ (z5 : Int32) (κ3 : Ku), Q1 z5 κ3 → (vp_in z5 301 ∧ (Q ((κ3.1 5 z5.toNatClampNeg) - (κ3.1 5 z5.toNatClampNeg) / 6 * 6) κ3)))) :
    r_W X w B 2 0 0 (r_Z X w B tX4_receiverOf (ZKI n κ0 Q)) 0 [(0, Value.ref (B + 4)), (1, Value.ref (B + a1))] [] (shp n, κ) := by
  refine r_aload_n C dX4_receiverOf_0 rfl (j := 0) rfl ?_
  refine r_getE (e := 5) C (atR (at_c (a := 3) rfl)) fa_X4_9 rfl hC.1.2.2.2.2.2.2.2.1 (by decide) dX4_receiverOf_1 ?_
  refine r_aload_n C dX4_receiverOf_4 rfl (j := 1) rfl ?_
  refine r_iconst (v := 0) C dX4_receiverOf_5 (by decide) ?_
  obtain ⟨Q1, m2, h⟩ := h
  refine r_callVI (rest := [Value.ref (B + 5)]) C E [Value.int 0] (atR o1) rfl ky_X5_get kl_X4_39 ki_X5_get kx_X5_get ⟨Nat.le_of_ble_eq_true rfl, Nat.le_of_ble_eq_true rfl⟩ ⟨rfl, rfl⟩ m2 rfl rfl (Nat.le_of_ble_eq_true rfl) (Nat.zero_le _) (Nat.zero_le _) dX4_receiverOf_6 (fun z5 σ3 s4 q6 => ?_)
  obtain ⟨s3x, κ3⟩ := σ3
  simp only at s4
  subst s4
  obtain ⟨f7, C8, q6⟩ := q6
  have G9 := hG.trans f7
  have h := h z5 κ3 q6
  obtain ⟨g10, h⟩ := h
  refine r_iald (ti := 0) (n := 301) C (atR (at_c (a := 4) rfl)) ⟨rfl, fun _ => rfl⟩ g10 dX4_receiverOf_9 ?_
  refine r_bipush (v := 6) C dX4_receiverOf_10 (by decide) ?_
  refine r_irem C dX4_receiverOf_12 (by decide) ?_
  exact r_iretQ C E rfl (Nat.zero_le _) (Nat.zero_le _) dX4_receiverOf_13 rfl ⟨G9, C8, h⟩
theorem v_X4_dataSlotsOf_0 {X : r_X} {w : r_V} {B n : Nat} {l : Launch} {Q : Int32 → Ku → Prop} {κ0 : Ku} (C : r_C X w B 4 cX4_dataSlotsOf RX4) (E : r_E X l tX4_dataSlotsOf) (hn : okN n) {κ : Ku} (hC : CoK n κ) (hG : Gr n κ0 κ) {a1 : Nat} (o1 : atS n a1 = some (.inl 5))
    (h : r_W X w B 4 0 0 (r_Z X w B tX4_dataSlotsOf (ZKI n κ0 Q)) 4 [(0, Value.ref (B + 4)), (1, Value.ref (B + a1)), (2, Value.int 1), (3, Value.int 0)] [] (shp n, κ)) :
    r_W X w B 4 0 0 (r_Z X w B tX4_dataSlotsOf (ZKI n κ0 Q)) 0 [(0, Value.ref (B + 4)), (1, Value.ref (B + a1))] [] (shp n, κ) := by
  refine r_iconst (v := 1) C dX4_dataSlotsOf_0 (by decide) ?_
  refine r_istore_n (lv' := [(2, Value.int 1), (0, Value.ref (B + 4)), (1, Value.ref (B + a1))]) C dX4_dataSlotsOf_1 rfl (by decide) rfl ?_
  refine r_iconst (v := 0) C dX4_dataSlotsOf_2 (by decide) ?_
  refine r_istore_n (lv' := [(3, Value.int 0), (2, Value.int 1), (0, Value.ref (B + 4)), (1, Value.ref (B + a1))]) C dX4_dataSlotsOf_3 rfl (by decide) rfl ?_
  exact r_loc (by simp) h
theorem v_X4_dataSlotsOf_4 {X : r_X} {w : r_V} {B n : Nat} {l : Launch} {Q : Int32 → Ku → Prop} {κ0 : Ku} (C : r_C X w B 4 cX4_dataSlotsOf RX4) (E : r_E X l tX4_dataSlotsOf) (hn : okN n) {κ : Ku} (hC : CoK n κ) (hG : Gr n κ0 κ) {a1 : Nat} {x2 x3 : Int32} (o1 : atS n a1 = some (.inl 5))
    (h : ((κ.1 a1 1) ≤ x3 → (Q x2 κ)) ∧ (¬ (κ.1 a1 1) ≤ x3 → (∃ Q2 : Int32 → Ku → Prop, r_KI l w B n tX5_get [Value.ref (B + a1), Value.int x3] κ Q2 ∧ (∀ (z6 : Int32) (κ4 : Ku), Q2 z6 κ4 → (vp_in z6 301 ∧ (∀ z12 : Int32, z12 = x2 + (κ4.1 6 z6.toNatClampNeg) → (∀ z14 : Int32, z14 = x3 + 1 → (r_W X w B 4 0 0 (r_Z X w B tX4_dataSlotsOf (ZKI n κ0 Q)) 4 [(0, Value.ref (B + 4)), (1, Value.ref (B + a1)), (2, Value.int z12), (3, Value.int z14)] [] (shp n, κ4))))))))) :
    r_W X w B 4 0 0 (r_Z X w B tX4_dataSlotsOf (ZKI n κ0 Q)) 4 [(0, Value.ref (B + 4)), (1, Value.ref (B + a1)), (2, Value.int x2), (3, Value.int x3)] [] (shp n, κ) := by
  refine r_iload_n C dX4_dataSlotsOf_4 rfl (j := 3) rfl ?_
  refine r_aload_n C dX4_dataSlotsOf_5 rfl (j := 1) rfl ?_
  refine r_get (v := .int (κ.1 a1 1)) C (atR o1) fa_X4_45 rfl dX4_dataSlotsOf_6 ?_
  refine r_icmp_ge (tgt := 31) C dX4_dataSlotsOf_9 (by decide) (fun c1 => ?_) (fun c1 => ?_)
  · have h := h.1 c1
    refine r_iload_n C dX4_dataSlotsOf_31 rfl (j := 2) rfl ?_
    exact r_iretQ C E rfl (Nat.zero_le _) (Nat.zero_le _) dX4_dataSlotsOf_32 rfl ⟨hG, hC, h⟩
  · have h := h.2 c1
    refine r_iload_n C dX4_dataSlotsOf_12 rfl (j := 2) rfl ?_
    refine r_aload_n C dX4_dataSlotsOf_13 rfl (j := 0) rfl ?_
    refine r_getE (e := 6) C (atR (at_c (a := 3) rfl)) fa_X4_15 rfl hC.1.2.2.2.2.2.2.2.2.1 (by decide) dX4_dataSlotsOf_14 ?_
    refine r_aload_n C dX4_dataSlotsOf_17 rfl (j := 1) rfl ?_
    refine r_iload_n C dX4_dataSlotsOf_18 rfl (j := 3) rfl ?_
    obtain ⟨Q2, m3, h⟩ := h
    refine r_callVI (rest := [Value.ref (B + 6), Value.int x2]) C E [Value.int x3] (atR o1) rfl ky_X5_get kl_X4_39 ki_X5_get kx_X5_get ⟨Nat.le_of_ble_eq_true rfl, Nat.le_of_ble_eq_true rfl⟩ ⟨rfl, rfl⟩ m3 rfl rfl (Nat.le_of_ble_eq_true rfl) (Nat.zero_le _) (Nat.zero_le _) dX4_dataSlotsOf_19 (fun z6 σ4 s5 q7 => ?_)
    obtain ⟨s4x, κ4⟩ := σ4
    simp only at s5
    subst s5
    obtain ⟨f8, C9, q7⟩ := q7
    have G10 := hG.trans f8
    have h := h z6 κ4 q7
    obtain ⟨g11, h⟩ := h
    refine r_iald (ti := 0) (n := 301) C (atR (at_c (a := 5) rfl)) ⟨rfl, fun _ => rfl⟩ g11 dX4_dataSlotsOf_22 ?_
    refine r_iadd C dX4_dataSlotsOf_23 ?_
    refine r_topi (fun z12 e13 => ?_)
    have h := h z12 e13
    refine r_istore_n (lv' := [(2, Value.int z12), (0, Value.ref (B + 4)), (1, Value.ref (B + a1)), (3, Value.int x3)]) C dX4_dataSlotsOf_24 rfl (by decide) rfl ?_
    obtain ⟨z14, e15⟩ : ∃ y : Int32, y = x3 + 1 := ⟨_, rfl⟩
    have h := h z14 e15
    refine r_iinc (v := z14) (lv' := [(3, Value.int z14), (2, Value.int z12), (0, Value.ref (B + 4)), (1, Value.ref (B + a1))]) C dX4_dataSlotsOf_25 (k := 3) rfl (by rw [e15]; rfl) (by decide) rfl ?_
    refine r_goto (tgt := 4) C dX4_dataSlotsOf_28 (by decide) ?_
    exact r_loc (by simp) h
theorem v_X4_copyFirstOfOneReceiver_0 {X : r_X} {w : r_V} {B n : Nat} {l : Launch} {Q : Ku → Prop} {κ0 : Ku} (C : r_C X w B 4 cX4_copyFirstOfOneReceiver RX4) (E : r_E X l tX4_copyFirstOfOneReceiver) (hn : okN n) {κ : Ku} (hC : CoK n κ) (hG : Gr n κ0 κ) {a1 a2 : Nat} (o1 : atS n a1 = some (.inl 5)) (o2 : atS n a2 = some (.inl 5))
    (h : ∀ κ1 : Ku, κ1 = ki κ a2 1 0 → (r_W X w B 4 0 0 (r_Z X w B tX4_copyFirstOfOneReceiver (ZKV n κ0 Q)) 7 [(0, Value.ref (B + 4)), (1, Value.ref (B + a1)), (2, Value.ref (B + a2)), (3, Value.int 0)] [] (shp n, κ1))) :
    r_W X w B 4 0 0 (r_Z X w B tX4_copyFirstOfOneReceiver (ZKV n κ0 Q)) 0 [(0, Value.ref (B + 4)), (1, Value.ref (B + a1)), (2, Value.ref (B + a2))] [] (shp n, κ) := by
  refine r_aload_n C dX4_copyFirstOfOneReceiver_0 rfl (j := 2) rfl ?_
  refine r_iconst (v := 0) C dX4_copyFirstOfOneReceiver_1 (by decide) ?_
  refine r_putI C (atR o2) fa_X4_45 rfl rfl rfl dX4_copyFirstOfOneReceiver_2 ?_
  refine r_namK (κ := ki κ a2 1 0) (fun κ1 e2 => ?_)
  have h := h κ1 e2
  have C3 : CoK n κ1 := by rw [e2]; exact hC
  have G4 : Gr n κ0 κ1 := by rw [e2]; exact hG.i (by have q := at_row hn o2; unfold mOf at *; omega)
  refine r_iconst (v := 0) C dX4_copyFirstOfOneReceiver_5 (by decide) ?_
  refine r_istore_n (lv' := [(3, Value.int 0), (0, Value.ref (B + 4)), (1, Value.ref (B + a1)), (2, Value.ref (B + a2))]) C dX4_copyFirstOfOneReceiver_6 rfl (by decide) rfl ?_
  exact r_loc (by simp) h
theorem v_X4_copyFirstOfOneReceiver_7 {X : r_X} {w : r_V} {B n : Nat} {l : Launch} {Q : Ku → Prop} {κ0 : Ku} (C : r_C X w B 4 cX4_copyFirstOfOneReceiver RX4) (E : r_E X l tX4_copyFirstOfOneReceiver) (hn : okN n) {κ : Ku} (hC : CoK n κ) (hG : Gr n κ0 κ) {a1 a2 : Nat} {x3 : Int32} (o1 : atS n a1 = some (.inl 5)) (o2 : atS n a2 = some (.inl 5))
    (h : ((κ.1 a1 1) ≤ x3 → (Q κ)) ∧ (¬ (κ.1 a1 1) ≤ x3 → (∃ Q2 : Int32 → Ku → Prop, r_KI l w B n tX5_isFull [Value.ref (B + a2)] κ Q2 ∧ (∀ (z6 : Int32) (κ4 : Ku), Q2 z6 κ4 → ((z6 = 0 → (∃ Q12 : Int32 → Ku → Prop, r_KI l w B n tX5_get [Value.ref (B + a1), Value.int x3] κ4 Q12 ∧ (∀ (z16 : Int32) (κ14 : Ku), Q12 z16 κ14 → (vp_in z16 301 ∧ (∃ Q22 : Int32 → Ku → Prop, r_KI l w B n tX5_get [Value.ref (B + a1), Value.int 0] κ14 Q22 ∧ (∀ (z26 : Int32) (κ24 : Ku), Q22 z26 κ24 → (vp_in z26 301 ∧ (((κ14.1 5 z16.toNatClampNeg) = (κ24.1 5 z26.toNatClampNeg) → (∃ Q33 : Int32 → Ku → Prop, r_KI l w B n tX5_get [Value.ref (B + a1), Value.int x3] κ24 Q33 ∧ (∀ (z37 : Int32) (κ35 : Ku), Q33 z37 κ35 → (∃ Q42 : Ku → Prop, r_KV l w B n tX5_add [Value.ref (B + a2), Value.int z37] κ35 Q42 ∧ (∀ κ44 : Ku, Q42 κ44 → (∀ z51 : Int32, z51 = x3 + 1 → (r_W X w B 4 0 0 (r_Z X w B tX4_copyFirstOfOneReceiver (ZKV n κ0 Q)) 7 [(0, Value.ref (B + 4)), (1, Value.ref (B + a1)), (2, Value.ref (B + a2)), (3, Value.int z51)] [] (shp n, κ44)))))))) ∧ (¬ (κ14.1 5 z16.toNatClampNeg) = (κ24.1 5 z26.toNatClampNeg) → (Q κ24)))))))))) ∧ (¬ z6 = 0 → (Q κ4))))))) :
    r_W X w B 4 0 0 (r_Z X w B tX4_copyFirstOfOneReceiver (ZKV n κ0 Q)) 7 [(0, Value.ref (B + 4)), (1, Value.ref (B + a1)), (2, Value.ref (B + a2)), (3, Value.int x3)] [] (shp n, κ) := by
  refine r_iload_n C dX4_copyFirstOfOneReceiver_7 rfl (j := 3) rfl ?_
  refine r_aload_n C dX4_copyFirstOfOneReceiver_8 rfl (j := 1) rfl ?_
  refine r_get (v := .int (κ.1 a1 1)) C (atR o1) fa_X4_45 rfl dX4_copyFirstOfOneReceiver_9 ?_
  refine r_icmp_ge (tgt := 60) C dX4_copyFirstOfOneReceiver_12 (by decide) (fun c1 => ?_) (fun c1 => ?_)
  · have h := h.1 c1
    exact r_vretQ C E rfl (Nat.zero_le _) (Nat.zero_le _) dX4_copyFirstOfOneReceiver_60 rfl ⟨hG, hC, h⟩
  · have h := h.2 c1
    refine r_aload_n C dX4_copyFirstOfOneReceiver_15 rfl (j := 2) rfl ?_
    obtain ⟨Q2, m3, h⟩ := h
    refine r_callVI (rest := []) C E [] (atR o2) rfl ky_X5_isFull kl_X4_46 ki_X5_isFull kx_X5_isFull ⟨Nat.le_of_ble_eq_true rfl, Nat.le_of_ble_eq_true rfl⟩ ⟨rfl, rfl⟩ m3 rfl rfl (Nat.le_of_ble_eq_true rfl) (Nat.zero_le _) (Nat.zero_le _) dX4_copyFirstOfOneReceiver_16 (fun z6 σ4 s5 q7 => ?_)
    obtain ⟨s4x, κ4⟩ := σ4
    simp only at s5
    subst s5
    obtain ⟨f8, C9, q7⟩ := q7
    have G10 := hG.trans f8
    have h := h z6 κ4 q7
    refine r_if_ne (tgt := 60) C dX4_copyFirstOfOneReceiver_19 (by decide) (fun c11 => ?_) (fun c11 => ?_)
    · have h := h.2 c11
      exact r_vretQ C E rfl (Nat.zero_le _) (Nat.zero_le _) dX4_copyFirstOfOneReceiver_60 rfl ⟨G10, C9, h⟩
    · have h := h.1 c11
      refine r_aload_n C dX4_copyFirstOfOneReceiver_22 rfl (j := 0) rfl ?_
      refine r_getE (e := 5) C (atR (at_c (a := 3) rfl)) fa_X4_9 rfl C9.1.2.2.2.2.2.2.2.1 (by decide) dX4_copyFirstOfOneReceiver_23 ?_
      refine r_aload_n C dX4_copyFirstOfOneReceiver_26 rfl (j := 1) rfl ?_
      refine r_iload_n C dX4_copyFirstOfOneReceiver_27 rfl (j := 3) rfl ?_
      obtain ⟨Q12, m13, h⟩ := h
      refine r_callVI (rest := [Value.ref (B + 5)]) C E [Value.int x3] (atR o1) rfl ky_X5_get kl_X4_39 ki_X5_get kx_X5_get ⟨Nat.le_of_ble_eq_true rfl, Nat.le_of_ble_eq_true rfl⟩ ⟨rfl, rfl⟩ m13 rfl rfl (Nat.le_of_ble_eq_true rfl) (Nat.zero_le _) (Nat.zero_le _) dX4_copyFirstOfOneReceiver_28 (fun z16 σ14 s15 q17 => ?_)
      obtain ⟨s14x, κ14⟩ := σ14
      simp only at s15
      subst s15
      obtain ⟨f18, C19, q17⟩ := q17
      have G20 := G10.trans f18
      have h := h z16 κ14 q17
      obtain ⟨g21, h⟩ := h
      refine r_iald (ti := 0) (n := 301) C (atR (at_c (a := 4) rfl)) ⟨rfl, fun _ => rfl⟩ g21 dX4_copyFirstOfOneReceiver_31 ?_
      refine r_aload_n C dX4_copyFirstOfOneReceiver_32 rfl (j := 0) rfl ?_
      refine r_getE (e := 5) C (atR (at_c (a := 3) rfl)) fa_X4_9 rfl C19.1.2.2.2.2.2.2.2.1 (by decide) dX4_copyFirstOfOneReceiver_33 ?_
      refine r_aload_n C dX4_copyFirstOfOneReceiver_36 rfl (j := 1) rfl ?_
      refine r_iconst (v := 0) C dX4_copyFirstOfOneReceiver_37 (by decide) ?_
      obtain ⟨Q22, m23, h⟩ := h
      refine r_callVI (rest := [Value.ref (B + 5), Value.int (κ14.1 5 z16.toNatClampNeg)]) C E [Value.int 0] (atR o1) rfl ky_X5_get kl_X4_39 ki_X5_get kx_X5_get ⟨Nat.le_of_ble_eq_true rfl, Nat.le_of_ble_eq_true rfl⟩ ⟨rfl, rfl⟩ m23 rfl rfl (Nat.le_of_ble_eq_true rfl) (Nat.zero_le _) (Nat.zero_le _) dX4_copyFirstOfOneReceiver_38 (fun z26 σ24 s25 q27 => ?_)
      obtain ⟨s24x, κ24⟩ := σ24
      simp only at s25
      subst s25
      obtain ⟨f28, C29, q27⟩ := q27
      have G30 := G20.trans f28
      have h := h z26 κ24 q27
      obtain ⟨g31, h⟩ := h
      refine r_iald (ti := 0) (n := 301) C (atR (at_c (a := 4) rfl)) ⟨rfl, fun _ => rfl⟩ g31 dX4_copyFirstOfOneReceiver_41 ?_
      refine r_icmp_ne (tgt := 60) C dX4_copyFirstOfOneReceiver_42 (by decide) (fun c32 => ?_) (fun c32 => ?_)
      · have h := h.2 c32
        exact r_vretQ C E rfl (Nat.zero_le _) (Nat.zero_le _) dX4_copyFirstOfOneReceiver_60 rfl ⟨G30, C29, h⟩
      · have h := h.1 c32
        refine r_aload_n C dX4_copyFirstOfOneReceiver_45 rfl (j := 2) rfl ?_
        refine r_aload_n C dX4_copyFirstOfOneReceiver_46 rfl (j := 1) rfl ?_
        refine r_iload_n C dX4_copyFirstOfOneReceiver_47 rfl (j := 3) rfl ?_
        obtain ⟨Q33, m34, h⟩ := h
        refine r_callVI (rest := [Value.ref (B + a2)]) C E [Value.int x3] (atR o1) rfl ky_X5_get kl_X4_39 ki_X5_get kx_X5_get ⟨Nat.le_of_ble_eq_true rfl, Nat.le_of_ble_eq_true rfl⟩ ⟨rfl, rfl⟩ m34 rfl rfl (Nat.le_of_ble_eq_true rfl) (Nat.zero_le _) (Nat.zero_le _) dX4_copyFirstOfOneReceiver_48 (fun z37 σ35 s36 q38 => ?_)
        obtain ⟨s35x, κ35⟩ := σ35
        simp only at s36
        subst s36
        obtain ⟨f39, C40, q38⟩ := q38
        have G41 := G30.trans f39
        have h := h z37 κ35 q38
        obtain ⟨Q42, m43, h⟩ := h
        refine r_callVV (rest := []) C E [Value.int z37] (atR o2) rfl ky_X5_add kl_X4_50 ki_X5_add kx_X5_add ⟨Nat.le_of_ble_eq_true rfl, Nat.le_of_ble_eq_true rfl⟩ ⟨rfl, rfl⟩ m43 rfl rfl (Nat.le_of_ble_eq_true rfl) (Nat.zero_le _) (Nat.zero_le _) dX4_copyFirstOfOneReceiver_51 (fun σ44 s45 q47 => ?_)
        obtain ⟨s44x, κ44⟩ := σ44
        simp only at s45
        subst s45
        obtain ⟨f48, C49, q47⟩ := q47
        have G50 := G41.trans f48
        have h := h κ44 q47
        obtain ⟨z51, e52⟩ : ∃ y : Int32, y = x3 + 1 := ⟨_, rfl⟩
        have h := h z51 e52
        refine r_iinc (v := z51) (lv' := [(3, Value.int z51), (0, Value.ref (B + 4)), (1, Value.ref (B + a1)), (2, Value.ref (B + a2))]) C dX4_copyFirstOfOneReceiver_54 (k := 3) rfl (by rw [e52]; rfl) (by decide) rfl ?_
        refine r_goto (tgt := 7) C dX4_copyFirstOfOneReceiver_57 (by decide) ?_
        exact r_loc (by simp) h
theorem v_X4_copyGood_0 {X : r_X} {w : r_V} {B n : Nat} {l : Launch} {Q : Ku → Prop} {κ0 : Ku} (C : r_C X w B 7 cX4_copyGood RX4) (E : r_E X l tX4_copyGood) (hn : okN n) {κ : Ku} (hC : CoK n κ) (hG : Gr n κ0 κ) {a1 a3 : Nat} {x2 : Int32} (o1 : atS n a1 = some (.inl 2)) (o3 : atS n a3 = some (.inl 5))
    (h : ∀ κ1 : Ku, κ1 = ki κ a3 1 0 → (r_W X w B 7 0 0 (r_Z X w B tX4_copyGood (ZKV n κ0 Q)) 11 [(0, Value.ref (B + 4)), (1, Value.ref (B + a1)), (2, Value.int x2), (3, Value.ref (B + a3)), (4, Value.int 1), (5, Value.int 0)] [] (shp n, κ1))) :
    r_W X w B 7 0 0 (r_Z X w B tX4_copyGood (ZKV n κ0 Q)) 0 [(0, Value.ref (B + 4)), (1, Value.ref (B + a1)), (2, Value.int x2), (3, Value.ref (B + a3))] [] (shp n, κ) := by
  refine r_aload_n C dX4_copyGood_0 rfl (j := 3) rfl ?_
  refine r_iconst (v := 0) C dX4_copyGood_1 (by decide) ?_
  refine r_putI C (atR o3) fa_X4_45 rfl rfl rfl dX4_copyGood_2 ?_
  refine r_namK (κ := ki κ a3 1 0) (fun κ1 e2 => ?_)
  have h := h κ1 e2
  have C3 : CoK n κ1 := by rw [e2]; exact hC
  have G4 : Gr n κ0 κ1 := by rw [e2]; exact hG.i (by have q := at_row hn o3; unfold mOf at *; omega)
  refine r_iconst (v := 1) C dX4_copyGood_5 (by decide) ?_
  refine r_istore (lv' := [(4, Value.int 1), (0, Value.ref (B + 4)), (1, Value.ref (B + a1)), (2, Value.int x2), (3, Value.ref (B + a3))]) C dX4_copyGood_6 (by decide) rfl ?_
  refine r_iconst (v := 0) C dX4_copyGood_8 (by decide) ?_
  refine r_istore (lv' := [(5, Value.int 0), (4, Value.int 1), (0, Value.ref (B + 4)), (1, Value.ref (B + a1)), (2, Value.int x2), (3, Value.ref (B + a3))]) C dX4_copyGood_9 (by decide) rfl ?_
  exact r_loc (by simp) h
theorem v_X4_copyGood_11 {X : r_X} {w : r_V} {B n : Nat} {l : Launch} {Q : Ku → Prop} {κ0 : Ku} (C : r_C X w B 7 cX4_copyGood RX4) (E : r_E X l tX4_copyGood) (hn : okN n) {κ : Ku} (hC : CoK n κ) (hG : Gr n κ0 κ) {a1 a3 : Nat} {x2 x4 x5 : Int32} (o1 : atS n a1 = some (.inl 2)) (o3 : atS n a3 = some (.inl 5))
    (h : ((κ.1 (a1 + 1) 1) ≤ x5 → (Q κ)) ∧ (¬ (κ.1 (a1 + 1) 1) ≤ x5 → (∃ Q2 : Int32 → Ku → Prop, r_KI l w B n tX5_get [Value.ref (B + (a1 + 1)), Value.int x5] κ Q2 ∧ (∀ (z6 : Int32) (κ4 : Ku), Q2 z6 κ4 → (vp_in z6 301 ∧ (∃ Q12 : Int32 → Ku → Prop, r_KI l w B n tX2_areGood [Value.ref (B + a1), Value.int x2, Value.int x4, Value.int (κ4.1 6 z6.toNatClampNeg)] κ4 Q12 ∧ (∀ (z16 : Int32) (κ14 : Ku), Q12 z16 κ14 → ((z16 = 0 → (r_W X w B 7 0 0 (r_Z X w B tX4_copyGood (ZKV n κ0 Q)) 57 [(0, Value.ref (B + 4)), (1, Value.ref (B + a1)), (2, Value.int x2), (3, Value.ref (B + a3)), (4, Value.int x4), (5, Value.int x5), (6, Value.int z6)] [] (shp n, κ14))) ∧ (¬ z16 = 0 → (∃ Q22 : Ku → Prop, r_KV l w B n tX5_add [Value.ref (B + a3), Value.int z6] κ14 Q22 ∧ (∀ κ24 : Ku, Q22 κ24 → (r_W X w B 7 0 0 (r_Z X w B tX4_copyGood (ZKV n κ0 Q)) 57 [(0, Value.ref (B + 4)), (1, Value.ref (B + a1)), (2, Value.int x2), (3, Value.ref (B + a3)), (4, Value.int x4), (5, Value.int x5), (6, Value.int z6)] [] (shp n, κ24))))))))))))) :
    r_W X w B 7 0 0 (r_Z X w B tX4_copyGood (ZKV n κ0 Q)) 11 [(0, Value.ref (B + 4)), (1, Value.ref (B + a1)), (2, Value.int x2), (3, Value.ref (B + a3)), (4, Value.int x4), (5, Value.int x5)] [] (shp n, κ) := by
  refine r_iload C dX4_copyGood_11 (j := 5) rfl ?_
  refine r_aload_n C dX4_copyGood_13 rfl (j := 1) rfl ?_
  refine r_getE (e := a1 + 1) C (atR o1) fa_X4_54 rfl (hC.2.2.1 _ o1).1 (r_atN (atR (κ := κ) (at_frame hn o1).1)) dX4_copyGood_14 ?_
  refine r_get (v := .int (κ.1 (a1 + 1) 1)) C (atR (at_frame hn o1).1) fa_X4_45 rfl dX4_copyGood_17 ?_
  refine r_icmp_ge (tgt := 75) C dX4_copyGood_20 (by decide) (fun c1 => ?_) (fun c1 => ?_)
  · have h := h.1 c1
    exact r_vretQ C E rfl (Nat.zero_le _) (Nat.zero_le _) dX4_copyGood_75 rfl ⟨hG, hC, h⟩
  · have h := h.2 c1
    refine r_aload_n C dX4_copyGood_23 rfl (j := 1) rfl ?_
    refine r_getE (e := a1 + 1) C (atR o1) fa_X4_54 rfl (hC.2.2.1 _ o1).1 (r_atN (atR (κ := κ) (at_frame hn o1).1)) dX4_copyGood_24 ?_
    refine r_iload C dX4_copyGood_27 (j := 5) rfl ?_
    obtain ⟨Q2, m3, h⟩ := h
    refine r_callVI (rest := []) C E [Value.int x5] (atR (at_frame hn o1).1) rfl ky_X5_get kl_X4_39 ki_X5_get kx_X5_get ⟨Nat.le_of_ble_eq_true rfl, Nat.le_of_ble_eq_true rfl⟩ ⟨rfl, rfl⟩ m3 rfl rfl (Nat.le_of_ble_eq_true rfl) (Nat.zero_le _) (Nat.zero_le _) dX4_copyGood_29 (fun z6 σ4 s5 q7 => ?_)
    obtain ⟨s4x, κ4⟩ := σ4
    simp only at s5
    subst s5
    obtain ⟨f8, C9, q7⟩ := q7
    have G10 := hG.trans f8
    have h := h z6 κ4 q7
    refine r_istore (lv' := [(6, Value.int z6), (0, Value.ref (B + 4)), (1, Value.ref (B + a1)), (2, Value.int x2), (3, Value.ref (B + a3)), (4, Value.int x4), (5, Value.int x5)]) C dX4_copyGood_32 (by decide) rfl ?_
    refine r_aload_n C dX4_copyGood_34 rfl (j := 2) rfl ?_
    refine r_iload_n C dX4_copyGood_35 rfl (j := 3) rfl ?_
    refine r_iload C dX4_copyGood_36 (j := 5) rfl ?_
    refine r_aload_n C dX4_copyGood_38 rfl (j := 1) rfl ?_
    refine r_getE (e := 6) C (atR (at_c (a := 3) rfl)) fa_X4_15 rfl C9.1.2.2.2.2.2.2.2.2.1 (by decide) dX4_copyGood_39 ?_
    refine r_iload C dX4_copyGood_42 (j := 0) rfl ?_
    obtain ⟨g11, h⟩ := h
    refine r_iald (ti := 0) (n := 301) C (atR (at_c (a := 5) rfl)) ⟨rfl, fun _ => rfl⟩ g11 dX4_copyGood_44 ?_
    obtain ⟨Q12, m13, h⟩ := h
    refine r_callVI (rest := []) C E [Value.int x2, Value.int x4, Value.int (κ4.1 6 z6.toNatClampNeg)] (atR o1) rfl ky_X2_areGood kl_X4_60 ki_X2_areGood kx_X2_areGood ⟨Nat.le_of_ble_eq_true rfl, Nat.le_of_ble_eq_true rfl⟩ ⟨rfl, rfl⟩ m13 rfl rfl (Nat.le_of_ble_eq_true rfl) (Nat.zero_le _) (Nat.zero_le _) dX4_copyGood_45 (fun z16 σ14 s15 q17 => ?_)
    obtain ⟨s14x, κ14⟩ := σ14
    simp only at s15
    subst s15
    obtain ⟨f18, C19, q17⟩ := q17
    have G20 := G10.trans f18
    have h := h z16 κ14 q17
    refine r_if_eq (tgt := 57) C dX4_copyGood_48 (by decide) (fun c21 => ?_) (fun c21 => ?_)
    · have h := h.1 c21
      exact r_loc (by simp) h
    · have h := h.2 c21
      refine r_aload_n C dX4_copyGood_51 rfl (j := 4) rfl ?_
      refine r_iload C dX4_copyGood_52 (j := 0) rfl ?_
      obtain ⟨Q22, m23, h⟩ := h
      refine r_callVV (rest := []) C E [Value.int z6] (atR o3) rfl ky_X5_add kl_X4_50 ki_X5_add kx_X5_add ⟨Nat.le_of_ble_eq_true rfl, Nat.le_of_ble_eq_true rfl⟩ ⟨rfl, rfl⟩ m23 rfl rfl (Nat.le_of_ble_eq_true rfl) (Nat.zero_le _) (Nat.zero_le _) dX4_copyGood_54 (fun σ24 s25 q27 => ?_)
      obtain ⟨s24x, κ24⟩ := σ24
      simp only at s25
      subst s25
      obtain ⟨f28, C29, q27⟩ := q27
      have G30 := G20.trans f28
      have h := h κ24 q27
      exact r_loc (by simp) h
theorem v_X4_copyGood_57 {X : r_X} {w : r_V} {B n : Nat} {l : Launch} {Q : Ku → Prop} {κ0 : Ku} (C : r_C X w B 7 cX4_copyGood RX4) (E : r_E X l tX4_copyGood) (hn : okN n) {κ : Ku} (hC : CoK n κ) (hG : Gr n κ0 κ) {a1 a3 : Nat} {x2 x4 x5 x6 : Int32} (o1 : atS n a1 = some (.inl 2)) (o3 : atS n a3 = some (.inl 5))
    (h : vp_in x6 301 ∧ (∀ z2 : Int32, z2 = x4 + (κ.1 6 x6.toNatClampNeg) → (∀ z4 : Int32, z4 = x5 + 1 → (r_W X w B 7 0 0 (r_Z X w B tX4_copyGood (ZKV n κ0 Q)) 11 [(0, Value.ref (B + 4)), (1, Value.ref (B + a1)), (2, Value.int x2), (3, Value.ref (B + a3)), (4, Value.int z2), (5, Value.int z4)] [] (shp n, κ))))) :
    r_W X w B 7 0 0 (r_Z X w B tX4_copyGood (ZKV n κ0 Q)) 57 [(0, Value.ref (B + 4)), (1, Value.ref (B + a1)), (2, Value.int x2), (3, Value.ref (B + a3)), (4, Value.int x4), (5, Value.int x5), (6, Value.int x6)] [] (shp n, κ) := by
  refine r_iload C dX4_copyGood_57 (j := 4) rfl ?_
  refine r_aload_n C dX4_copyGood_59 rfl (j := 0) rfl ?_
  refine r_getE (e := 6) C (atR (at_c (a := 3) rfl)) fa_X4_15 rfl hC.1.2.2.2.2.2.2.2.2.1 (by decide) dX4_copyGood_60 ?_
  refine r_iload C dX4_copyGood_63 (j := 6) rfl ?_
  obtain ⟨g1, h⟩ := h
  refine r_iald (ti := 0) (n := 301) C (atR (at_c (a := 5) rfl)) ⟨rfl, fun _ => rfl⟩ g1 dX4_copyGood_65 ?_
  refine r_iadd C dX4_copyGood_66 ?_
  refine r_topi (fun z2 e3 => ?_)
  have h := h z2 e3
  refine r_istore (lv' := [(4, Value.int z2), (0, Value.ref (B + 4)), (1, Value.ref (B + a1)), (2, Value.int x2), (3, Value.ref (B + a3)), (5, Value.int x5), (6, Value.int x6)]) C dX4_copyGood_67 (by decide) rfl ?_
  obtain ⟨z4, e5⟩ : ∃ y : Int32, y = x5 + 1 := ⟨_, rfl⟩
  have h := h z4 e5
  refine r_iinc (v := z4) (lv' := [(5, Value.int z4), (4, Value.int z2), (0, Value.ref (B + 4)), (1, Value.ref (B + a1)), (2, Value.int x2), (3, Value.ref (B + a3)), (6, Value.int x6)]) C dX4_copyGood_69 (k := 5) rfl (by rw [e5]; rfl) (by decide) rfl ?_
  refine r_goto (tgt := 11) C dX4_copyGood_72 (by decide) ?_
  exact r_loc (by simp) h
theorem v_X4_wantAtLeast_0 {X : r_X} {w : r_V} {B n : Nat} {l : Launch} {Q : Ku → Prop} {κ0 : Ku} (C : r_C X w B 3 cX4_wantAtLeast RX4) (E : r_E X l tX4_wantAtLeast) (hn : okN n) {κ : Ku} (hC : CoK n κ) (hG : Gr n κ0 κ) {x1 x2 : Int32}
    (h : vp_in x1 36 ∧ (∃ Q2 : Int32 → Ku → Prop, r_KI l w B n tJ9_max_7cf53 [Value.int (κ.1 10 x1.toNatClampNeg), Value.int x2] κ Q2 ∧ (∀ (z6 : Int32) (κ4 : Ku), Q2 z6 κ4 → (∀ κ11 : Ku, κ11 = ki κ4 10 x1.toNatClampNeg z6 → (Q κ11))))) :
    r_W X w B 3 0 0 (r_Z X w B tX4_wantAtLeast (ZKV n κ0 Q)) 0 [(0, Value.ref (B + 4)), (1, Value.int x1), (2, Value.int x2)] [] (shp n, κ) := by
  refine r_aload_n C dX4_wantAtLeast_0 rfl (j := 0) rfl ?_
  refine r_getE (e := 10) C (atR (at_c (a := 3) rfl)) fa_X4_32 rfl hC.1.2.2.2.2.2.2.2.2.2.2.2.2.1 (by decide) dX4_wantAtLeast_1 ?_
  refine r_iload_n C dX4_wantAtLeast_4 rfl (j := 1) rfl ?_
  refine r_aload_n C dX4_wantAtLeast_5 rfl (j := 0) rfl ?_
  refine r_getE (e := 10) C (atR (at_c (a := 3) rfl)) fa_X4_32 rfl hC.1.2.2.2.2.2.2.2.2.2.2.2.2.1 (by decide) dX4_wantAtLeast_6 ?_
  refine r_iload_n C dX4_wantAtLeast_9 rfl (j := 1) rfl ?_
  obtain ⟨g1, h⟩ := h
  refine r_iald (ti := 0) (n := 36) C (atR (at_c (a := 9) rfl)) ⟨rfl, fun _ => rfl⟩ g1 dX4_wantAtLeast_10 ?_
  refine r_iload_n C dX4_wantAtLeast_11 rfl (j := 2) rfl ?_
  obtain ⟨Q2, m3, h⟩ := h
  refine r_callSI (rest := [Value.int x1, Value.ref (B + 10)]) C E [Value.int (κ.1 10 x1.toNatClampNeg), Value.int x2] ky_J9_max_7cf53 kl_X4_64 ks_J9_max_7cf53 ⟨Nat.le_of_ble_eq_true rfl, Nat.le_of_ble_eq_true rfl⟩ ⟨rfl, rfl⟩ m3 rfl rfl (Nat.le_of_ble_eq_true rfl) (Nat.zero_le _) (Nat.zero_le _) dX4_wantAtLeast_12 (fun z6 σ4 s5 q7 => ?_)
  obtain ⟨s4x, κ4⟩ := σ4
  simp only at s5
  subst s5
  obtain ⟨f8, C9, q7⟩ := q7
  have G10 := hG.trans f8
  have h := h z6 κ4 q7
  refine r_iast (ti := 0) (n := 36) C (atR (at_c (a := 9) rfl)) ⟨rfl, fun _ => rfl⟩ g1 dX4_wantAtLeast_15 ?_
  refine r_namK (κ := ki κ4 10 x1.toNatClampNeg z6) (fun κ11 e12 => ?_)
  have h := h κ11 e12
  have C13 : CoK n κ11 := by rw [e12]; exact C9
  have G14 : Gr n κ0 κ11 := by rw [e12]; exact G10.i (by unfold mOf; omega)
  exact r_vretQ C E rfl (Nat.zero_le _) (Nat.zero_le _) dX4_wantAtLeast_16 rfl ⟨G14, C13, h⟩
theorem v_X4_hold_0 {X : r_X} {w : r_V} {B n : Nat} {l : Launch} {Q : Ku → Prop} {κ0 : Ku} (C : r_C X w B 3 cX4_hold RX4) (E : r_E X l tX4_hold) (hn : okN n) {κ : Ku} (hC : CoK n κ) (hG : Gr n κ0 κ) {x1 x2 : Int32}
    (h : vp_in x2 301 ∧ (vp_in x1 36 ∧ (((κ.1 7 x2.toNatClampNeg) < (κ.1 10 x1.toNatClampNeg) → (Q κ)) ∧ (¬ (κ.1 7 x2.toNatClampNeg) < (κ.1 10 x1.toNatClampNeg) → (∀ κ4 : Ku, κ4 = ki κ 8 x2.toNatClampNeg 1 → (Q κ4)))))) :
    r_W X w B 3 0 0 (r_Z X w B tX4_hold (ZKV n κ0 Q)) 0 [(0, Value.ref (B + 4)), (1, Value.int x1), (2, Value.int x2)] [] (shp n, κ) := by
  refine r_aload_n C dX4_hold_0 rfl (j := 0) rfl ?_
  refine r_getE (e := 7) C (atR (at_c (a := 3) rfl)) fa_X4_18 rfl hC.1.2.2.2.2.2.2.2.2.2.1 (by decide) dX4_hold_1 ?_
  refine r_iload_n C dX4_hold_4 rfl (j := 2) rfl ?_
  obtain ⟨g1, h⟩ := h
  refine r_iald (ti := 0) (n := 301) C (atR (at_c (a := 6) rfl)) ⟨rfl, fun _ => rfl⟩ g1 dX4_hold_5 ?_
  refine r_aload_n C dX4_hold_6 rfl (j := 0) rfl ?_
  refine r_getE (e := 10) C (atR (at_c (a := 3) rfl)) fa_X4_32 rfl hC.1.2.2.2.2.2.2.2.2.2.2.2.2.1 (by decide) dX4_hold_7 ?_
  refine r_iload_n C dX4_hold_10 rfl (j := 1) rfl ?_
  obtain ⟨g2, h⟩ := h
  refine r_iald (ti := 0) (n := 36) C (atR (at_c (a := 9) rfl)) ⟨rfl, fun _ => rfl⟩ g2 dX4_hold_11 ?_
  refine r_icmp_lt (tgt := 22) C dX4_hold_12 (by decide) (fun c3 => ?_) (fun c3 => ?_)
  · have h := h.1 c3
    exact r_vretQ C E rfl (Nat.zero_le _) (Nat.zero_le _) dX4_hold_22 rfl ⟨hG, hC, h⟩
  · have h := h.2 c3
    refine r_aload_n C dX4_hold_15 rfl (j := 0) rfl ?_
    refine r_getE (e := 8) C (atR (at_c (a := 3) rfl)) fa_X4_21 rfl hC.1.2.2.2.2.2.2.2.2.2.2.1 (by decide) dX4_hold_16 ?_
    refine r_iload_n C dX4_hold_19 rfl (j := 2) rfl ?_
    refine r_iconst (v := 1) C dX4_hold_20 (by decide) ?_
    refine r_zast (ti := 2) (n := 301) C (atR (at_c (a := 7) rfl)) ⟨rfl, fun _ => rfl⟩ g1 (by decide) dX4_hold_21 ?_
    refine r_namK (κ := ki κ 8 x2.toNatClampNeg 1) (fun κ4 e5 => ?_)
    have h := h κ4 e5
    have C6 : CoK n κ4 := by rw [e5]; exact hC
    have G7 : Gr n κ0 κ4 := by rw [e5]; exact hG.i (by unfold mOf; omega)
    exact r_vretQ C E rfl (Nat.zero_le _) (Nat.zero_le _) dX4_hold_22 rfl ⟨G7, C6, h⟩
theorem v_X4_releases_0 {X : r_X} {w : r_V} {B n : Nat} {l : Launch} {Q : Int32 → Ku → Prop} {κ0 : Ku} (C : r_C X w B 3 cX4_releases RX4) (E : r_E X l tX4_releases) (hn : okN n) {κ : Ku} (hC : CoK n κ) (hG : Gr n κ0 κ) {x1 x2 : Int32}
    (h : vp_in x2 301 ∧ (((κ.1 8 x2.toNatClampNeg) = 0 → (Q 0 κ)) ∧ (¬ (κ.1 8 x2.toNatClampNeg) = 0 → (((κ.1 5 x2.toNatClampNeg) = x1 → (vp_in x1 36 ∧ (((κ.1 7 x2.toNatClampNeg) ≤ (κ.1 10 x1.toNatClampNeg) → (∀ κ6 : Ku, κ6 = ki κ 8 x2.toNatClampNeg 0 → (((κ6.1 7 x2.toNatClampNeg) = (κ6.1 10 x1.toNatClampNeg) → (∀ κ11 : Ku, κ11 = ki κ6 10 x1.toNatClampNeg ((κ6.1 10 x1.toNatClampNeg) + 1) → (Q 1 κ11))) ∧ (¬ (κ6.1 7 x2.toNatClampNeg) = (κ6.1 10 x1.toNatClampNeg) → (Q 1 κ6))))) ∧ (¬ (κ.1 7 x2.toNatClampNeg) ≤ (κ.1 10 x1.toNatClampNeg) → (Q 0 κ))))) ∧ (¬ (κ.1 5 x2.toNatClampNeg) = x1 → (Q 0 κ)))))) :
    r_W X w B 3 0 0 (r_Z X w B tX4_releases (ZKI n κ0 Q)) 0 [(0, Value.ref (B + 4)), (1, Value.int x1), (2, Value.int x2)] [] (shp n, κ) := by
  refine r_aload_n C dX4_releases_0 rfl (j := 0) rfl ?_
  refine r_getE (e := 8) C (atR (at_c (a := 3) rfl)) fa_X4_21 rfl hC.1.2.2.2.2.2.2.2.2.2.2.1 (by decide) dX4_releases_1 ?_
  refine r_iload_n C dX4_releases_4 rfl (j := 2) rfl ?_
  obtain ⟨g1, h⟩ := h
  refine r_zald (ti := 2) (n := 301) C (atR (at_c (a := 7) rfl)) ⟨rfl, fun _ => rfl⟩ g1 dX4_releases_5 ?_
  refine r_if_eq (tgt := 34) C dX4_releases_6 (by decide) (fun c2 => ?_) (fun c2 => ?_)
  · have h := h.1 c2
    refine r_iconst (v := 0) C dX4_releases_34 (by decide) ?_
    exact r_zretQ C E rfl (by decide) (Nat.zero_le _) (Nat.zero_le _) dX4_releases_35 rfl ⟨hG, hC, h⟩
  · have h := h.2 c2
    refine r_aload_n C dX4_releases_9 rfl (j := 0) rfl ?_
    refine r_getE (e := 5) C (atR (at_c (a := 3) rfl)) fa_X4_9 rfl hC.1.2.2.2.2.2.2.2.1 (by decide) dX4_releases_10 ?_
    refine r_iload_n C dX4_releases_13 rfl (j := 2) rfl ?_
    refine r_iald (ti := 0) (n := 301) C (atR (at_c (a := 4) rfl)) ⟨rfl, fun _ => rfl⟩ g1 dX4_releases_14 ?_
    refine r_iload_n C dX4_releases_15 rfl (j := 1) rfl ?_
    refine r_icmp_ne (tgt := 34) C dX4_releases_16 (by decide) (fun c3 => ?_) (fun c3 => ?_)
    · have h := h.2 c3
      refine r_iconst (v := 0) C dX4_releases_34 (by decide) ?_
      exact r_zretQ C E rfl (by decide) (Nat.zero_le _) (Nat.zero_le _) dX4_releases_35 rfl ⟨hG, hC, h⟩
    · have h := h.1 c3
      refine r_aload_n C dX4_releases_19 rfl (j := 0) rfl ?_
      refine r_getE (e := 7) C (atR (at_c (a := 3) rfl)) fa_X4_18 rfl hC.1.2.2.2.2.2.2.2.2.2.1 (by decide) dX4_releases_20 ?_
      refine r_iload_n C dX4_releases_23 rfl (j := 2) rfl ?_
      refine r_iald (ti := 0) (n := 301) C (atR (at_c (a := 6) rfl)) ⟨rfl, fun _ => rfl⟩ g1 dX4_releases_24 ?_
      refine r_aload_n C dX4_releases_25 rfl (j := 0) rfl ?_
      refine r_getE (e := 10) C (atR (at_c (a := 3) rfl)) fa_X4_32 rfl hC.1.2.2.2.2.2.2.2.2.2.2.2.2.1 (by decide) dX4_releases_26 ?_
      refine r_iload_n C dX4_releases_29 rfl (j := 1) rfl ?_
      obtain ⟨g4, h⟩ := h
      refine r_iald (ti := 0) (n := 36) C (atR (at_c (a := 9) rfl)) ⟨rfl, fun _ => rfl⟩ g4 dX4_releases_30 ?_
      refine r_icmp_le (tgt := 36) C dX4_releases_31 (by decide) (fun c5 => ?_) (fun c5 => ?_)
      · have h := h.1 c5
        refine r_aload_n C dX4_releases_36 rfl (j := 0) rfl ?_
        refine r_getE (e := 8) C (atR (at_c (a := 3) rfl)) fa_X4_21 rfl hC.1.2.2.2.2.2.2.2.2.2.2.1 (by decide) dX4_releases_37 ?_
        refine r_iload_n C dX4_releases_40 rfl (j := 2) rfl ?_
        refine r_iconst (v := 0) C dX4_releases_41 (by decide) ?_
        refine r_zast (ti := 2) (n := 301) C (atR (at_c (a := 7) rfl)) ⟨rfl, fun _ => rfl⟩ g1 (by decide) dX4_releases_42 ?_
        refine r_namK (κ := ki κ 8 x2.toNatClampNeg 0) (fun κ6 e7 => ?_)
        have h := h κ6 e7
        have C8 : CoK n κ6 := by rw [e7]; exact hC
        have G9 : Gr n κ0 κ6 := by rw [e7]; exact hG.i (by unfold mOf; omega)
        refine r_aload_n C dX4_releases_43 rfl (j := 0) rfl ?_
        refine r_getE (e := 7) C (atR (at_c (a := 3) rfl)) fa_X4_18 rfl C8.1.2.2.2.2.2.2.2.2.2.1 (by decide) dX4_releases_44 ?_
        refine r_iload_n C dX4_releases_47 rfl (j := 2) rfl ?_
        refine r_iald (ti := 0) (n := 301) C (atR (at_c (a := 6) rfl)) ⟨rfl, fun _ => rfl⟩ g1 dX4_releases_48 ?_
        refine r_aload_n C dX4_releases_49 rfl (j := 0) rfl ?_
        refine r_getE (e := 10) C (atR (at_c (a := 3) rfl)) fa_X4_32 rfl C8.1.2.2.2.2.2.2.2.2.2.2.2.2.1 (by decide) dX4_releases_50 ?_
        refine r_iload_n C dX4_releases_53 rfl (j := 1) rfl ?_
        refine r_iald (ti := 0) (n := 36) C (atR (at_c (a := 9) rfl)) ⟨rfl, fun _ => rfl⟩ g4 dX4_releases_54 ?_
        refine r_icmp_ne (tgt := 68) C dX4_releases_55 (by decide) (fun c10 => ?_) (fun c10 => ?_)
        · have h := h.2 c10
          refine r_iconst (v := 1) C dX4_releases_68 (by decide) ?_
          exact r_zretQ C E rfl (by decide) (Nat.zero_le _) (Nat.zero_le _) dX4_releases_69 rfl ⟨G9, C8, h⟩
        · have h := h.1 c10
          refine r_aload_n C dX4_releases_58 rfl (j := 0) rfl ?_
          refine r_getE (e := 10) C (atR (at_c (a := 3) rfl)) fa_X4_32 rfl C8.1.2.2.2.2.2.2.2.2.2.2.2.2.1 (by decide) dX4_releases_59 ?_
          refine r_iload_n C dX4_releases_62 rfl (j := 1) rfl ?_
          refine r_dup2_11 C dX4_releases_63 rfl rfl ?_
          refine r_iald (ti := 0) (n := 36) C (atR (at_c (a := 9) rfl)) ⟨rfl, fun _ => rfl⟩ g4 dX4_releases_64 ?_
          refine r_iconst (v := 1) C dX4_releases_65 (by decide) ?_
          refine r_iadd C dX4_releases_66 ?_
          refine r_iast (ti := 0) (n := 36) C (atR (at_c (a := 9) rfl)) ⟨rfl, fun _ => rfl⟩ g4 dX4_releases_67 ?_
          refine r_namK (κ := ki κ6 10 x1.toNatClampNeg ((κ6.1 10 x1.toNatClampNeg) + 1)) (fun κ11 e12 => ?_)
          have h := h κ11 e12
          have C13 : CoK n κ11 := by rw [e12]; exact C8
          have G14 : Gr n κ0 κ11 := by rw [e12]; exact G9.i (by unfold mOf; omega)
          refine r_iconst (v := 1) C dX4_releases_68 (by decide) ?_
          exact r_zretQ C E rfl (by decide) (Nat.zero_le _) (Nat.zero_le _) dX4_releases_69 rfl ⟨G14, C13, h⟩
      · have h := h.2 c5
        refine r_iconst (v := 0) C dX4_releases_34 (by decide) ?_
        exact r_zretQ C E rfl (by decide) (Nat.zero_le _) (Nat.zero_le _) dX4_releases_35 rfl ⟨hG, hC, h⟩
theorem v_X6_isFree_0 {X : r_X} {w : r_V} {B n : Nat} {l : Launch} {Q : Int32 → Ku → Prop} {κ0 : Ku} (C : r_C X w B 1 cX6_isFree RX6) (E : r_E X l tX6_isFree) (hn : okN n) {κ : Ku} (hC : CoK n κ) (hG : Gr n κ0 κ) {a0 : Nat} (o0 : atS n a0 = some (.inl 6))
    (h : ∀ z3 : Int32, z3 = (if (κ.1 a0 9) = 0 then (if (κ.1 (κ.2.2 a0 13) 0) = 0 then (1 : Int32) else (0 : Int32)) else (0 : Int32)) → ((z3 = 0 ∨ z3 = 1) ∧ (Q z3 κ))) :
    r_W X w B 1 0 0 (r_Z X w B tX6_isFree (ZKI n κ0 Q)) 0 [(0, Value.ref (B + a0))] [] (shp n, κ) := by
  refine r_aload_n C dX6_isFree_0 rfl (j := 0) rfl ?_
  refine r_get (v := .int (κ.1 a0 9)) C (atR o0) fa_X6_31 rfl dX6_isFree_1 ?_
  have k5 : ∀ z3 : Int32, z3 = (if (κ.1 a0 9) = 0 then (if (κ.1 (κ.2.2 a0 13) 0) = 0 then (1 : Int32) else (0 : Int32)) else (0 : Int32)) → r_W X w B 1 0 0 (r_Z X w B tX6_isFree (ZKI n κ0 Q)) 22 [(0, Value.ref (B + a0))] [Value.int z3] (shp n, κ) := by
    intro z3 e4
    have h := h z3 e4
    obtain ⟨g6, h⟩ := h
    exact r_zretQ C E rfl g6 (Nat.zero_le _) (Nat.zero_le _) dX6_isFree_22 rfl ⟨hG, hC, h⟩
  clear h
  refine r_if_ne (tgt := 21) C dX6_isFree_4 (by decide) (fun c1 => ?_) (fun c1 => ?_)
  · have c1 : ¬ (κ.1 a0 9) = 0 := c1
    refine r_iconst (v := 0) C dX6_isFree_21 (by decide) ?_
    exact k5 _ (by rw [if_neg c1] <;> rfl)
  · have c1 : (κ.1 a0 9) = 0 := c1
    refine r_aload_n C dX6_isFree_7 rfl (j := 0) rfl ?_
    refine r_getE (e := κ.2.2 a0 13) C (atR o0) fa_X6_80 rfl rfl (r_atN (atR (κ := κ) (hC.2.2.2.1 _ o0).2.2.2.1)) dX6_isFree_8 ?_
    refine r_get (v := .int (κ.1 (κ.2.2 a0 13) 0)) C (atR (hC.2.2.2.1 _ o0).2.2.2.1) fa_X6_87 rfl dX6_isFree_11 ?_
    refine r_if_ne (tgt := 21) C dX6_isFree_14 (by decide) (fun c2 => ?_) (fun c2 => ?_)
    · have c2 : ¬ (κ.1 (κ.2.2 a0 13) 0) = 0 := c2
      refine r_iconst (v := 0) C dX6_isFree_21 (by decide) ?_
      exact k5 _ (by rw [if_pos c1, if_neg c2] <;> rfl)
    · have c2 : (κ.1 (κ.2.2 a0 13) 0) = 0 := c2
      refine r_iconst (v := 1) C dX6_isFree_17 (by decide) ?_
      refine r_goto (tgt := 22) C dX6_isFree_18 (by decide) ?_
      exact k5 _ (by rw [if_pos c1, if_pos c2] <;> rfl)
theorem v_X6_mayAttempt_0 {X : r_X} {w : r_V} {B n : Nat} {l : Launch} {Q : Int32 → Ku → Prop} {κ0 : Ku} (C : r_C X w B 3 cX6_mayAttempt RX6) (E : r_E X l tX6_mayAttempt) (hn : okN n) {κ : Ku} (hC : CoK n κ) (hG : Gr n κ0 κ) {a0 : Nat} {y1 : Int64} (o0 : atS n a0 = some (.inl 6))
    (h : ((κ.1 (κ.2.2 a0 14) 0) = 0 → (∃ Q2 : Int32 → Ku → Prop, r_KI l w B n tX6_isFree [Value.ref (B + a0)] κ Q2 ∧ (∀ (z6 : Int32) (κ4 : Ku), Q2 z6 κ4 → (∀ z16 : Int32, z16 = (if z6 = 0 then (0 : Int32) else (if (κ4.1 (a0 + 1) 1) ≤ 0 then (0 : Int32) else (if (κ4.1 a0 5) = 0 then (if (κ4.1 a0 6) < (κ4.1 a0 7) then (0 : Int32) else (if y1 < (κ4.2.1 a0 8) then (0 : Int32) else (1 : Int32))) else (0 : Int32)))) → ((z16 = 0 ∨ z16 = 1) ∧ (Q z16 κ4)))))) ∧ (¬ (κ.1 (κ.2.2 a0 14) 0) = 0 → (Q 0 κ))) :
    r_W X w B 3 0 0 (r_Z X w B tX6_mayAttempt (ZKI n κ0 Q)) 0 [(0, Value.ref (B + a0)), (1, Value.long y1)] [] (shp n, κ) := by
  refine r_aload_n C dX6_mayAttempt_0 rfl (j := 0) rfl ?_
  refine r_getE (e := κ.2.2 a0 14) C (atR o0) fa_X6_84 rfl rfl (r_atN (atR (κ := κ) (hC.2.2.2.1 _ o0).2.2.2.2)) dX6_mayAttempt_1 ?_
  refine r_get (v := .int (κ.1 (κ.2.2 a0 14) 0)) C (atR (hC.2.2.2.1 _ o0).2.2.2.2) fa_X6_87 rfl dX6_mayAttempt_4 ?_
  refine r_if_ne (tgt := 58) C dX6_mayAttempt_7 (by decide) (fun c1 => ?_) (fun c1 => ?_)
  · have h := h.2 c1
    refine r_iconst (v := 0) C dX6_mayAttempt_58 (by decide) ?_
    exact r_zretQ C E rfl (by decide) (Nat.zero_le _) (Nat.zero_le _) dX6_mayAttempt_59 rfl ⟨hG, hC, h⟩
  · have h := h.1 c1
    refine r_aload_n C dX6_mayAttempt_10 rfl (j := 0) rfl ?_
    obtain ⟨Q2, m3, h⟩ := h
    refine r_callVI (rest := []) C E [] (atR o0) rfl ky_X6_isFree kl_X6_90 ki_X6_isFree kx_X6_isFree ⟨Nat.le_of_ble_eq_true rfl, Nat.le_of_ble_eq_true rfl⟩ ⟨rfl, rfl⟩ m3 rfl rfl (Nat.le_of_ble_eq_true rfl) (Nat.zero_le _) (Nat.zero_le _) dX6_mayAttempt_11 (fun z6 σ4 s5 q7 => ?_)
    obtain ⟨s4x, κ4⟩ := σ4
    simp only at s5
    subst s5
    obtain ⟨f8, C9, q7⟩ := q7
    have G10 := hG.trans f8
    have h := h z6 κ4 q7
    have k18 : ∀ z16 : Int32, z16 = (if z6 = 0 then (0 : Int32) else (if (κ4.1 (a0 + 1) 1) ≤ 0 then (0 : Int32) else (if (κ4.1 a0 5) = 0 then (if (κ4.1 a0 6) < (κ4.1 a0 7) then (0 : Int32) else (if y1 < (κ4.2.1 a0 8) then (0 : Int32) else (1 : Int32))) else (0 : Int32)))) → r_W X w B 3 0 0 (r_Z X w B tX6_mayAttempt (ZKI n κ0 Q)) 59 [(0, Value.ref (B + a0)), (1, Value.long y1)] [Value.int z16] (shp n, κ4) := by
      intro z16 e17
      have h := h z16 e17
      obtain ⟨g19, h⟩ := h
      exact r_zretQ C E rfl g19 (Nat.zero_le _) (Nat.zero_le _) dX6_mayAttempt_59 rfl ⟨G10, C9, h⟩
    clear h
    refine r_if_eq (tgt := 58) C dX6_mayAttempt_14 (by decide) (fun c11 => ?_) (fun c11 => ?_)
    · have c11 : z6 = 0 := c11
      refine r_iconst (v := 0) C dX6_mayAttempt_58 (by decide) ?_
      exact k18 _ (by rw [if_pos c11] <;> rfl)
    · have c11 : ¬ z6 = 0 := c11
      refine r_aload_n C dX6_mayAttempt_17 rfl (j := 0) rfl ?_
      refine r_getE (e := a0 + 1) C (atR o0) fa_X6_48 rfl (C9.2.2.2.1 _ o0).1 (r_atN (atR (κ := κ4) (at_stat hn o0).1)) dX6_mayAttempt_18 ?_
      refine r_get (v := .int (κ4.1 (a0 + 1) 1)) C (atR (at_stat hn o0).1) fa_X6_94 rfl dX6_mayAttempt_21 ?_
      refine r_if_le (tgt := 58) C dX6_mayAttempt_24 (by decide) (fun c12 => ?_) (fun c12 => ?_)
      · have c12 : (κ4.1 (a0 + 1) 1) ≤ 0 := c12
        refine r_iconst (v := 0) C dX6_mayAttempt_58 (by decide) ?_
        exact k18 _ (by rw [if_neg c11, if_pos c12] <;> rfl)
      · have c12 : ¬ (κ4.1 (a0 + 1) 1) ≤ 0 := c12
        refine r_aload_n C dX6_mayAttempt_27 rfl (j := 0) rfl ?_
        refine r_get (v := .int (κ4.1 a0 5)) C (atR o0) fa_X6_18 rfl dX6_mayAttempt_28 ?_
        refine r_if_ne (tgt := 58) C dX6_mayAttempt_31 (by decide) (fun c13 => ?_) (fun c13 => ?_)
        · have c13 : ¬ (κ4.1 a0 5) = 0 := c13
          refine r_iconst (v := 0) C dX6_mayAttempt_58 (by decide) ?_
          exact k18 _ (by rw [if_neg c11, if_neg c12, if_neg c13] <;> rfl)
        · have c13 : (κ4.1 a0 5) = 0 := c13
          refine r_aload_n C dX6_mayAttempt_34 rfl (j := 0) rfl ?_
          refine r_get (v := .int (κ4.1 a0 6)) C (atR o0) fa_X6_21 rfl dX6_mayAttempt_35 ?_
          refine r_aload_n C dX6_mayAttempt_38 rfl (j := 0) rfl ?_
          refine r_get (v := .int (κ4.1 a0 7)) C (atR o0) fa_X6_24 rfl dX6_mayAttempt_39 ?_
          refine r_icmp_lt (tgt := 58) C dX6_mayAttempt_42 (by decide) (fun c14 => ?_) (fun c14 => ?_)
          · have c14 : (κ4.1 a0 6) < (κ4.1 a0 7) := c14
            refine r_iconst (v := 0) C dX6_mayAttempt_58 (by decide) ?_
            exact k18 _ (by rw [if_neg c11, if_neg c12, if_pos c13, if_pos c14] <;> rfl)
          · have c14 : ¬ (κ4.1 a0 6) < (κ4.1 a0 7) := c14
            refine r_aload_n C dX6_mayAttempt_45 rfl (j := 0) rfl ?_
            refine r_get (v := .long (κ4.2.1 a0 8)) C (atR o0) fa_X6_27 rfl dX6_mayAttempt_46 ?_
            refine r_lload_n C dX6_mayAttempt_49 rfl (j := 1) rfl ?_
            refine r_lcmp C dX6_mayAttempt_50 ?_
            refine r_if_gt (tgt := 58) C dX6_mayAttempt_51 (by decide) (fun c15 => ?_) (fun c15 => ?_)
            · have c15 : y1 < (κ4.2.1 a0 8) := (lgc_gt.mp c15)
              refine r_iconst (v := 0) C dX6_mayAttempt_58 (by decide) ?_
              exact k18 _ (by rw [if_neg c11, if_neg c12, if_pos c13, if_neg c14, if_pos c15] <;> rfl)
            · have c15 : ¬ y1 < (κ4.2.1 a0 8) := (fun q => c15 (lgc_gt.mpr q))
              refine r_iconst (v := 1) C dX6_mayAttempt_54 (by decide) ?_
              refine r_goto (tgt := 59) C dX6_mayAttempt_55 (by decide) ?_
              exact k18 _ (by rw [if_neg c11, if_neg c12, if_pos c13, if_neg c14, if_neg c15] <;> rfl)
theorem v_X6_waitsFor_0 {X : r_X} {w : r_V} {B n : Nat} {l : Launch} {Q : Int32 → Ku → Prop} {κ0 : Ku} (C : r_C X w B 3 cX6_waitsFor RX6) (E : r_E X l tX6_waitsFor) (hn : okN n) {κ : Ku} (hC : CoK n κ) (hG : Gr n κ0 κ) {a0 : Nat} {x1 x2 : Int32} (o0 : atS n a0 = some (.inl 6))
    (h : ∀ z3 : Int32, z3 = (if (κ.1 a0 9) = x1 then (if (κ.1 a0 10) = x2 then (1 : Int32) else (0 : Int32)) else (0 : Int32)) → ((z3 = 0 ∨ z3 = 1) ∧ (Q z3 κ))) :
    r_W X w B 3 0 0 (r_Z X w B tX6_waitsFor (ZKI n κ0 Q)) 0 [(0, Value.ref (B + a0)), (1, Value.int x1), (2, Value.int x2)] [] (shp n, κ) := by
  refine r_aload_n C dX6_waitsFor_0 rfl (j := 0) rfl ?_
  refine r_get (v := .int (κ.1 a0 9)) C (atR o0) fa_X6_31 rfl dX6_waitsFor_1 ?_
  refine r_iload_n C dX6_waitsFor_4 rfl (j := 1) rfl ?_
  have k5 : ∀ z3 : Int32, z3 = (if (κ.1 a0 9) = x1 then (if (κ.1 a0 10) = x2 then (1 : Int32) else (0 : Int32)) else (0 : Int32)) → r_W X w B 3 0 0 (r_Z X w B tX6_waitsFor (ZKI n κ0 Q)) 21 [(0, Value.ref (B + a0)), (1, Value.int x1), (2, Value.int x2)] [Value.int z3] (shp n, κ) := by
    intro z3 e4
    have h := h z3 e4
    obtain ⟨g6, h⟩ := h
    exact r_zretQ C E rfl g6 (Nat.zero_le _) (Nat.zero_le _) dX6_waitsFor_21 rfl ⟨hG, hC, h⟩
  clear h
  refine r_icmp_ne (tgt := 20) C dX6_waitsFor_5 (by decide) (fun c1 => ?_) (fun c1 => ?_)
  · have c1 : ¬ (κ.1 a0 9) = x1 := c1
    refine r_iconst (v := 0) C dX6_waitsFor_20 (by decide) ?_
    exact k5 _ (by rw [if_neg c1] <;> rfl)
  · have c1 : (κ.1 a0 9) = x1 := c1
    refine r_aload_n C dX6_waitsFor_8 rfl (j := 0) rfl ?_
    refine r_get (v := .int (κ.1 a0 10)) C (atR o0) fa_X6_34 rfl dX6_waitsFor_9 ?_
    refine r_iload_n C dX6_waitsFor_12 rfl (j := 2) rfl ?_
    refine r_icmp_ne (tgt := 20) C dX6_waitsFor_13 (by decide) (fun c2 => ?_) (fun c2 => ?_)
    · have c2 : ¬ (κ.1 a0 10) = x2 := c2
      refine r_iconst (v := 0) C dX6_waitsFor_20 (by decide) ?_
      exact k5 _ (by rw [if_pos c1, if_neg c2] <;> rfl)
    · have c2 : (κ.1 a0 10) = x2 := c2
      refine r_iconst (v := 1) C dX6_waitsFor_16 (by decide) ?_
      refine r_goto (tgt := 21) C dX6_waitsFor_17 (by decide) ?_
      exact k5 _ (by rw [if_pos c1, if_pos c2] <;> rfl)
theorem v_X6_startAnew_0 {X : r_X} {w : r_V} {B n : Nat} {l : Launch} {Q : Ku → Prop} {κ0 : Ku} (C : r_C X w B 1 cX6_startAnew RX6) (E : r_E X l tX6_startAnew) (hn : okN n) {κ : Ku} (hC : CoK n κ) (hG : Gr n κ0 κ) {a0 : Nat} (o0 : atS n a0 = some (.inl 6))
    (h : ∀ κ1 : Ku, κ1 = ki κ a0 4 0 → (∀ κ5 : Ku, κ5 = ki κ1 a0 3 3 → (Q κ5))) :
    r_W X w B 1 0 0 (r_Z X w B tX6_startAnew (ZKV n κ0 Q)) 0 [(0, Value.ref (B + a0))] [] (shp n, κ) := by
  refine r_aload_n C dX6_startAnew_0 rfl (j := 0) rfl ?_
  refine r_iconst (v := 0) C dX6_startAnew_1 (by decide) ?_
  refine r_putI C (atR o0) fa_X6_15 rfl rfl rfl dX6_startAnew_2 ?_
  refine r_namK (κ := ki κ a0 4 0) (fun κ1 e2 => ?_)
  have h := h κ1 e2
  have C3 : CoK n κ1 := by rw [e2]; exact hC
  have G4 : Gr n κ0 κ1 := by rw [e2]; exact hG.i (by have q := at_stat hn o0; unfold mOf at *; omega)
  refine r_aload_n C dX6_startAnew_5 rfl (j := 0) rfl ?_
  refine r_iconst (v := 3) C dX6_startAnew_6 (by decide) ?_
  refine r_putI C (atR o0) fa_X6_9 rfl rfl rfl dX6_startAnew_7 ?_
  refine r_namK (κ := ki κ1 a0 3 3) (fun κ5 e6 => ?_)
  have h := h κ5 e6
  have C7 : CoK n κ5 := by rw [e6]; exact C3
  have G8 : Gr n κ0 κ5 := by rw [e6]; exact G4.i (by have q := at_stat hn o0; unfold mOf at *; omega)
  exact r_vretQ C E rfl (Nat.zero_le _) (Nat.zero_le _) dX6_startAnew_10 rfl ⟨G8, C7, h⟩
theorem v_X6_beginDue_0 {X : r_X} {w : r_V} {B n : Nat} {l : Launch} {Q : Ku → Prop} {κ0 : Ku} (C : r_C X w B 2 cX6_beginDue RX6) (E : r_E X l tX6_beginDue) (hn : okN n) {κ : Ku} (hC : CoK n κ) (hG : Gr n κ0 κ) {a0 : Nat} (o0 : atS n a0 = some (.inl 6))
    (h : ∀ b1 : Nat, b1 = κ.2.2 a0 13 → (∀ κ4 : Ku, κ4 = kr κ a0 13 (κ.2.2 a0 14) → (∀ κ8 : Ku, κ8 = ki κ4 (κ4.2.2 a0 13) 0 0 → (∀ κ12 : Ku, κ12 = kr κ8 a0 14 b1 → (∃ Q16 : Ku → Prop, r_KV l w B n tX6_countBegun [Value.ref (B + a0)] κ12 Q16 ∧ (∀ κ18 : Ku, Q16 κ18 → (Q κ18))))))) :
    r_W X w B 2 0 0 (r_Z X w B tX6_beginDue (ZKV n κ0 Q)) 0 [(0, Value.ref (B + a0))] [] (shp n, κ) := by
  refine r_aload_n C dX6_beginDue_0 rfl (j := 0) rfl ?_
  refine r_getE (e := κ.2.2 a0 13) C (atR o0) fa_X6_80 rfl rfl (r_atN (atR (κ := κ) (hC.2.2.2.1 _ o0).2.2.2.1)) dX6_beginDue_1 ?_
  refine r_topa (fun b1 e2 => ?_)
  have h := h b1 e2
  have o3 : atS n b1 = some (.inl 2) := by rw [e2]; exact (hC.2.2.2.1 _ o0).2.2.2.1
  refine r_astore_n (lv' := [(1, Value.ref (B + b1)), (0, Value.ref (B + a0))]) C dX6_beginDue_4 rfl (by decide) rfl ?_
  refine r_aload_n C dX6_beginDue_5 rfl (j := 1) rfl ?_
  refine r_aload_n C dX6_beginDue_6 rfl (j := 1) rfl ?_
  refine r_getE (e := κ.2.2 a0 14) C (atR o0) fa_X6_84 rfl rfl (r_atN (atR (κ := κ) (hC.2.2.2.1 _ o0).2.2.2.2)) dX6_beginDue_7 ?_
  refine r_putR C (atR o0) fa_X6_80 rfl (r_atN (atR (κ := κ) (hC.2.2.2.1 _ o0).2.2.2.2)) dX6_beginDue_10 ?_
  refine r_namK (κ := kr κ a0 13 (κ.2.2 a0 14)) (fun κ4 e5 => ?_)
  have h := h κ4 e5
  have C6 : CoK n κ4 := by rw [e5]; exact CoK.r hn hC o0 (by omega) (hC.2.2.2.1 _ o0).2.2.2.2
  have G7 : Gr n κ0 κ4 := by rw [e5]; exact hG.r (by have q := at_stat hn o0; unfold mOf at *; omega)
  refine r_aload_n C dX6_beginDue_13 rfl (j := 1) rfl ?_
  refine r_getE (e := κ4.2.2 a0 13) C (atR o0) fa_X6_80 rfl rfl (r_atN (atR (κ := κ4) (C6.2.2.2.1 _ o0).2.2.2.1)) dX6_beginDue_14 ?_
  refine r_iconst (v := 0) C dX6_beginDue_17 (by decide) ?_
  refine r_putI C (atR (C6.2.2.2.1 _ o0).2.2.2.1) fa_X6_87 rfl rfl rfl dX6_beginDue_18 ?_
  refine r_namK (κ := ki κ4 (κ4.2.2 a0 13) 0 0) (fun κ8 e9 => ?_)
  have h := h κ8 e9
  have C10 : CoK n κ8 := by rw [e9]; exact C6
  have G11 : Gr n κ0 κ8 := by rw [e9]; exact G7.i (by have q := at_frame hn (C6.2.2.2.1 _ o0).2.2.2.1; unfold mOf at *; omega)
  refine r_aload_n C dX6_beginDue_21 rfl (j := 1) rfl ?_
  refine r_aload_n C dX6_beginDue_22 rfl (j := 0) rfl ?_
  refine r_putR C (atR o0) fa_X6_84 rfl (r_atN (atR (κ := κ8) o3)) dX6_beginDue_23 ?_
  refine r_namK (κ := kr κ8 a0 14 b1) (fun κ12 e13 => ?_)
  have h := h κ12 e13
  have C14 : CoK n κ12 := by rw [e13]; exact CoK.r hn C10 o0 (by omega) o3
  have G15 : Gr n κ0 κ12 := by rw [e13]; exact G11.r (by have q := at_stat hn o0; unfold mOf at *; omega)
  refine r_aload_n C dX6_beginDue_26 rfl (j := 1) rfl ?_
  obtain ⟨Q16, m17, h⟩ := h
  refine r_callVV (rest := []) C E [] (atR o0) rfl ky_X6_countBegun kl_X6_97 ki_X6_countBegun kx_X6_countBegun ⟨Nat.le_of_ble_eq_true rfl, Nat.le_of_ble_eq_true rfl⟩ ⟨rfl, rfl⟩ m17 rfl rfl (Nat.le_of_ble_eq_true rfl) (Nat.zero_le _) (Nat.zero_le _) dX6_beginDue_27 (fun σ18 s19 q21 => ?_)
  obtain ⟨s18x, κ18⟩ := σ18
  simp only at s19
  subst s19
  obtain ⟨f22, C23, q21⟩ := q21
  have G24 := G15.trans f22
  have h := h κ18 q21
  exact r_vretQ C E rfl (Nat.zero_le _) (Nat.zero_le _) dX6_beginDue_30 rfl ⟨G24, C23, h⟩
theorem v_X6_countBegun_0 {X : r_X} {w : r_V} {B n : Nat} {l : Launch} {Q : Ku → Prop} {κ0 : Ku} (C : r_C X w B 1 cX6_countBegun RX6) (E : r_E X l tX6_countBegun) (hn : okN n) {κ : Ku} (hC : CoK n κ) (hG : Gr n κ0 κ) {a0 : Nat} (o0 : atS n a0 = some (.inl 6))
    (h : vp_in (κ.1 (κ.2.2 a0 14) 0) 5 ∧ (∀ κ2 : Ku, κ2 = ki κ (a0 + 5) ((κ.1 (κ.2.2 a0 14) 0).toNatClampNeg) ((κ.1 (a0 + 5) ((κ.1 (κ.2.2 a0 14) 0).toNatClampNeg)) + 1) → (Q κ2))) :
    r_W X w B 1 0 0 (r_Z X w B tX6_countBegun (ZKV n κ0 Q)) 0 [(0, Value.ref (B + a0))] [] (shp n, κ) := by
  refine r_aload_n C dX6_countBegun_0 rfl (j := 0) rfl ?_
  refine r_getE (e := a0 + 5) C (atR o0) fa_X6_55 rfl (hC.2.2.2.1 _ o0).2.2.1 (by omega) dX6_countBegun_1 ?_
  refine r_aload_n C dX6_countBegun_4 rfl (j := 0) rfl ?_
  refine r_getE (e := κ.2.2 a0 14) C (atR o0) fa_X6_84 rfl rfl (r_atN (atR (κ := κ) (hC.2.2.2.1 _ o0).2.2.2.2)) dX6_countBegun_5 ?_
  refine r_get (v := .int (κ.1 (κ.2.2 a0 14) 0)) C (atR (hC.2.2.2.1 _ o0).2.2.2.2) fa_X6_87 rfl dX6_countBegun_8 ?_
  refine r_dup2_11 C dX6_countBegun_11 rfl rfl ?_
  obtain ⟨g1, h⟩ := h
  refine r_iald (ti := 0) (n := 5) C (atR (at_stat hn o0).2.2.2.2.1) ⟨rfl, fun _ => rfl⟩ g1 dX6_countBegun_12 ?_
  refine r_iconst (v := 1) C dX6_countBegun_13 (by decide) ?_
  refine r_iadd C dX6_countBegun_14 ?_
  refine r_iast (ti := 0) (n := 5) C (atR (at_stat hn o0).2.2.2.2.1) ⟨rfl, fun _ => rfl⟩ g1 dX6_countBegun_15 ?_
  refine r_namK (κ := ki κ (a0 + 5) ((κ.1 (κ.2.2 a0 14) 0).toNatClampNeg) ((κ.1 (a0 + 5) ((κ.1 (κ.2.2 a0 14) 0).toNatClampNeg)) + 1)) (fun κ2 e3 => ?_)
  have h := h κ2 e3
  have C4 : CoK n κ2 := by rw [e3]; exact hC
  have G5 : Gr n κ0 κ2 := by rw [e3]; exact hG.i (by have q := at_stat hn o0; unfold mOf at *; omega)
  exact r_vretQ C E rfl (Nat.zero_le _) (Nat.zero_le _) dX6_countBegun_16 rfl ⟨G5, C4, h⟩
theorem v_X6_endFrame_0 {X : r_X} {w : r_V} {B n : Nat} {l : Launch} {Q : Ku → Prop} {κ0 : Ku} (C : r_C X w B 4 cX6_endFrame RX6) (E : r_E X l tX6_endFrame) (hn : okN n) {κ : Ku} (hC : CoK n κ) (hG : Gr n κ0 κ) {a0 : Nat} {y1 : Int64} (o0 : atS n a0 = some (.inl 6))
    (h : ∀ z1 : Int32, z1 = κ.1 (κ.2.2 a0 14) 0 → (∀ κ3 : Ku, κ3 = ki κ (κ.2.2 a0 14) 0 0 → ((z1 = 1 → (r_W X w B 4 0 0 (r_Z X w B tX6_endFrame (ZKV n κ0 Q)) 26 [(0, Value.ref (B + a0)), (1, Value.long y1), (3, Value.int z1)] [] (shp n, κ3))) ∧ (¬ z1 = 1 → ((z1 = 3 → (r_W X w B 4 0 0 (r_Z X w B tX6_endFrame (ZKV n κ0 Q)) 26 [(0, Value.ref (B + a0)), (1, Value.long y1), (3, Value.int z1)] [] (shp n, κ3))) ∧ (¬ z1 = 3 → (Q κ3))))))) :
    r_W X w B 4 0 0 (r_Z X w B tX6_endFrame (ZKV n κ0 Q)) 0 [(0, Value.ref (B + a0)), (1, Value.long y1)] [] (shp n, κ) := by
  refine r_aload_n C dX6_endFrame_0 rfl (j := 0) rfl ?_
  refine r_getE (e := κ.2.2 a0 14) C (atR o0) fa_X6_84 rfl rfl (r_atN (atR (κ := κ) (hC.2.2.2.1 _ o0).2.2.2.2)) dX6_endFrame_1 ?_
  refine r_get (v := .int (κ.1 (κ.2.2 a0 14) 0)) C (atR (hC.2.2.2.1 _ o0).2.2.2.2) fa_X6_87 rfl dX6_endFrame_4 ?_
  refine r_topi (fun z1 e2 => ?_)
  have h := h z1 e2
  refine r_istore_n (lv' := [(3, Value.int z1), (0, Value.ref (B + a0)), (1, Value.long y1)]) C dX6_endFrame_7 rfl (by decide) rfl ?_
  refine r_aload_n C dX6_endFrame_8 rfl (j := 1) rfl ?_
  refine r_getE (e := κ.2.2 a0 14) C (atR o0) fa_X6_84 rfl rfl (r_atN (atR (κ := κ) (hC.2.2.2.1 _ o0).2.2.2.2)) dX6_endFrame_9 ?_
  refine r_iconst (v := 0) C dX6_endFrame_12 (by decide) ?_
  refine r_putI C (atR (hC.2.2.2.1 _ o0).2.2.2.2) fa_X6_87 rfl rfl rfl dX6_endFrame_13 ?_
  refine r_namK (κ := ki κ (κ.2.2 a0 14) 0 0) (fun κ3 e4 => ?_)
  have h := h κ3 e4
  have C5 : CoK n κ3 := by rw [e4]; exact hC
  have G6 : Gr n κ0 κ3 := by rw [e4]; exact hG.i (by have q := at_frame hn (hC.2.2.2.1 _ o0).2.2.2.2; unfold mOf at *; omega)
  refine r_iload_n C dX6_endFrame_16 rfl (j := 0) rfl ?_
  refine r_iconst (v := 1) C dX6_endFrame_17 (by decide) ?_
  refine r_icmp_eq (tgt := 26) C dX6_endFrame_18 (by decide) (fun c7 => ?_) (fun c7 => ?_)
  · have h := h.1 c7
    exact r_loc (by simp) h
  · have h := h.2 c7
    refine r_iload_n C dX6_endFrame_21 rfl (j := 0) rfl ?_
    refine r_iconst (v := 3) C dX6_endFrame_22 (by decide) ?_
    refine r_icmp_ne (tgt := 60) C dX6_endFrame_23 (by decide) (fun c8 => ?_) (fun c8 => ?_)
    · have h := h.2 c8
      exact r_vretQ C E rfl (Nat.zero_le _) (Nat.zero_le _) dX6_endFrame_60 rfl ⟨G6, C5, h⟩
    · have h := h.1 c8
      exact r_loc (by simp) h
theorem v_X6_endFrame_26 {X : r_X} {w : r_V} {B n : Nat} {l : Launch} {Q : Ku → Prop} {κ0 : Ku} (C : r_C X w B 4 cX6_endFrame RX6) (E : r_E X l tX6_endFrame) (hn : okN n) {κ : Ku} (hC : CoK n κ) (hG : Gr n κ0 κ) {a0 : Nat} {x3 : Int32} {y1 : Int64} (o0 : atS n a0 = some (.inl 6))
    (h : ∀ z2 : Int32, z2 = (if x3 = 1 then (2 : Int32) else (4 : Int32)) → (∀ κ5 : Ku, κ5 = ki κ a0 9 z2 → (∀ κ9 : Ku, κ9 = ki κ5 a0 10 (κ5.1 (κ5.2.2 a0 14) 1) → (∀ κ13 : Ku, κ13 = kl κ9 a0 11 (y1 + 4) → (Q κ13))))) :
    r_W X w B 4 0 0 (r_Z X w B tX6_endFrame (ZKV n κ0 Q)) 26 [(0, Value.ref (B + a0)), (1, Value.long y1), (3, Value.int x3)] [] (shp n, κ) := by
  refine r_aload_n C dX6_endFrame_26 rfl (j := 0) rfl ?_
  refine r_iload_n C dX6_endFrame_27 rfl (j := 2) rfl ?_
  refine r_iconst (v := 1) C dX6_endFrame_28 (by decide) ?_
  have k4 : ∀ z2 : Int32, z2 = (if x3 = 1 then (2 : Int32) else (4 : Int32)) → r_W X w B 4 0 0 (r_Z X w B tX6_endFrame (ZKV n κ0 Q)) 37 [(0, Value.ref (B + a0)), (1, Value.long y1), (3, Value.int x3)] [Value.int z2, Value.ref (B + a0)] (shp n, κ) := by
    intro z2 e3
    have h := h z2 e3
    refine r_putI C (atR o0) fa_X6_31 rfl rfl rfl dX6_endFrame_37 ?_
    refine r_namK (κ := ki κ a0 9 z2) (fun κ5 e6 => ?_)
    have h := h κ5 e6
    have C7 : CoK n κ5 := by rw [e6]; exact hC
    have G8 : Gr n κ0 κ5 := by rw [e6]; exact hG.i (by have q := at_stat hn o0; unfold mOf at *; omega)
    refine r_aload_n C dX6_endFrame_40 rfl (j := 0) rfl ?_
    refine r_aload_n C dX6_endFrame_41 rfl (j := 0) rfl ?_
    refine r_getE (e := κ5.2.2 a0 14) C (atR o0) fa_X6_84 rfl rfl (r_atN (atR (κ := κ5) (C7.2.2.2.1 _ o0).2.2.2.2)) dX6_endFrame_42 ?_
    refine r_get (v := .int (κ5.1 (κ5.2.2 a0 14) 1)) C (atR (C7.2.2.2.1 _ o0).2.2.2.2) fa_X6_100 rfl dX6_endFrame_45 ?_
    refine r_putI C (atR o0) fa_X6_34 rfl rfl rfl dX6_endFrame_48 ?_
    refine r_namK (κ := ki κ5 a0 10 (κ5.1 (κ5.2.2 a0 14) 1)) (fun κ9 e10 => ?_)
    have h := h κ9 e10
    have C11 : CoK n κ9 := by rw [e10]; exact C7
    have G12 : Gr n κ0 κ9 := by rw [e10]; exact G8.i (by have q := at_stat hn o0; unfold mOf at *; omega)
    refine r_aload_n C dX6_endFrame_51 rfl (j := 0) rfl ?_
    refine r_lload_n C dX6_endFrame_52 rfl (j := 1) rfl ?_
    refine r_ldc2 (v := 4) C kj_X6_103 dX6_endFrame_53 ?_
    refine r_ladd C dX6_endFrame_56 ?_
    refine r_putL C (atR o0) fa_X6_37 rfl dX6_endFrame_57 ?_
    refine r_namK (κ := kl κ9 a0 11 (y1 + 4)) (fun κ13 e14 => ?_)
    have h := h κ13 e14
    have C15 : CoK n κ13 := by rw [e14]; exact C11
    have G16 : Gr n κ0 κ13 := by rw [e14]; exact G12.l (by have q := at_stat hn o0; unfold mOf at *; omega)
    exact r_vretQ C E rfl (Nat.zero_le _) (Nat.zero_le _) dX6_endFrame_60 rfl ⟨G16, C15, h⟩
  clear h
  refine r_icmp_ne (tgt := 36) C dX6_endFrame_29 (by decide) (fun c1 => ?_) (fun c1 => ?_)
  · have c1 : ¬ x3 = 1 := c1
    refine r_iconst (v := 4) C dX6_endFrame_36 (by decide) ?_
    exact k4 _ (by rw [if_neg c1] <;> rfl)
  · have c1 : x3 = 1 := c1
    refine r_iconst (v := 2) C dX6_endFrame_32 (by decide) ?_
    refine r_goto (tgt := 37) C dX6_endFrame_33 (by decide) ?_
    exact k4 _ (by rw [if_pos c1] <;> rfl)
theorem v_X6_countIdle_0 {X : r_X} {w : r_V} {B n : Nat} {l : Launch} {Q : Ku → Prop} {κ0 : Ku} (C : r_C X w B 2 cX6_countIdle RX6) (E : r_E X l tX6_countIdle) (hn : okN n) {κ : Ku} (hC : CoK n κ) (hG : Gr n κ0 κ) {a0 : Nat} {x1 : Int32} (o0 : atS n a0 = some (.inl 6))
    (h : (x1 = 0 → (∀ κ2 : Ku, κ2 = ki κ a0 6 0 → (Q κ2))) ∧ (¬ x1 = 0 → (∀ κ6 : Ku, κ6 = ki κ a0 6 ((κ.1 a0 6) + 1) → (((κ6.1 a0 6) ≤ (κ6.1 a0 7) → (Q κ6)) ∧ (¬ (κ6.1 a0 6) ≤ (κ6.1 a0 7) → (((κ6.1 a0 5) ≤ 0 → (Q κ6)) ∧ (¬ (κ6.1 a0 5) ≤ 0 → (∀ κ12 : Ku, κ12 = ki κ6 a0 5 ((κ6.1 a0 5) - 1) → (Q κ12))))))))) :
    r_W X w B 2 0 0 (r_Z X w B tX6_countIdle (ZKV n κ0 Q)) 0 [(0, Value.ref (B + a0)), (1, Value.int x1)] [] (shp n, κ) := by
  refine r_iload_n C dX6_countIdle_0 rfl (j := 1) rfl ?_
  refine r_if_ne (tgt := 10) C dX6_countIdle_1 (by decide) (fun c1 => ?_) (fun c1 => ?_)
  · have h := h.2 c1
    refine r_aload_n C dX6_countIdle_10 rfl (j := 0) rfl ?_
    refine r_dup C dX6_countIdle_11 rfl ?_
    refine r_get (v := .int (κ.1 a0 6)) C (atR o0) fa_X6_21 rfl dX6_countIdle_12 ?_
    refine r_iconst (v := 1) C dX6_countIdle_15 (by decide) ?_
    refine r_iadd C dX6_countIdle_16 ?_
    refine r_putI C (atR o0) fa_X6_21 rfl rfl rfl dX6_countIdle_17 ?_
    refine r_namK (κ := ki κ a0 6 ((κ.1 a0 6) + 1)) (fun κ6 e7 => ?_)
    have h := h κ6 e7
    have C8 : CoK n κ6 := by rw [e7]; exact hC
    have G9 : Gr n κ0 κ6 := by rw [e7]; exact hG.i (by have q := at_stat hn o0; unfold mOf at *; omega)
    refine r_aload_n C dX6_countIdle_20 rfl (j := 0) rfl ?_
    refine r_get (v := .int (κ6.1 a0 6)) C (atR o0) fa_X6_21 rfl dX6_countIdle_21 ?_
    refine r_aload_n C dX6_countIdle_24 rfl (j := 0) rfl ?_
    refine r_get (v := .int (κ6.1 a0 7)) C (atR o0) fa_X6_24 rfl dX6_countIdle_25 ?_
    refine r_icmp_le (tgt := 48) C dX6_countIdle_28 (by decide) (fun c10 => ?_) (fun c10 => ?_)
    · have h := h.1 c10
      exact r_vretQ C E rfl (Nat.zero_le _) (Nat.zero_le _) dX6_countIdle_48 rfl ⟨G9, C8, h⟩
    · have h := h.2 c10
      refine r_aload_n C dX6_countIdle_31 rfl (j := 0) rfl ?_
      refine r_get (v := .int (κ6.1 a0 5)) C (atR o0) fa_X6_18 rfl dX6_countIdle_32 ?_
      refine r_if_le (tgt := 48) C dX6_countIdle_35 (by decide) (fun c11 => ?_) (fun c11 => ?_)
      · have h := h.1 c11
        exact r_vretQ C E rfl (Nat.zero_le _) (Nat.zero_le _) dX6_countIdle_48 rfl ⟨G9, C8, h⟩
      · have h := h.2 c11
        refine r_aload_n C dX6_countIdle_38 rfl (j := 0) rfl ?_
        refine r_dup C dX6_countIdle_39 rfl ?_
        refine r_get (v := .int (κ6.1 a0 5)) C (atR o0) fa_X6_18 rfl dX6_countIdle_40 ?_
        refine r_iconst (v := 1) C dX6_countIdle_43 (by decide) ?_
        refine r_isub C dX6_countIdle_44 ?_
        refine r_putI C (atR o0) fa_X6_18 rfl rfl rfl dX6_countIdle_45 ?_
        refine r_namK (κ := ki κ6 a0 5 ((κ6.1 a0 5) - 1)) (fun κ12 e13 => ?_)
        have h := h κ12 e13
        have C14 : CoK n κ12 := by rw [e13]; exact C8
        have G15 : Gr n κ0 κ12 := by rw [e13]; exact G9.i (by have q := at_stat hn o0; unfold mOf at *; omega)
        exact r_vretQ C E rfl (Nat.zero_le _) (Nat.zero_le _) dX6_countIdle_48 rfl ⟨G15, C14, h⟩
  · have h := h.1 c1
    refine r_aload_n C dX6_countIdle_4 rfl (j := 0) rfl ?_
    refine r_iconst (v := 0) C dX6_countIdle_5 (by decide) ?_
    refine r_putI C (atR o0) fa_X6_21 rfl rfl rfl dX6_countIdle_6 ?_
    refine r_namK (κ := ki κ a0 6 0) (fun κ2 e3 => ?_)
    have h := h κ2 e3
    have C4 : CoK n κ2 := by rw [e3]; exact hC
    have G5 : Gr n κ0 κ2 := by rw [e3]; exact hG.i (by have q := at_stat hn o0; unfold mOf at *; omega)
    exact r_vretQ C E rfl (Nat.zero_le _) (Nat.zero_le _) dX6_countIdle_9 rfl ⟨G5, C4, h⟩
