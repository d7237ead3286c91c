theorem v_X7_hear_0 {X : r_X} {w : r_V} {B n : Nat} {l : Launch} {Q : Int32 → Ku → Prop} {κ0 : Ku} (C : r_C X w B 6 cX7_hear RX7) (E : r_E X l tX7_hear) (hn : okN n) {κ : Ku} (hC : CoK n κ) (hG : Gr n κ0 κ) {x1 x2 x3 : Int32}
    (h : ∃ Q1 : Int32 → Ku → Prop, r_KI l w B n tX7_isStation [Value.ref (B + 1), Value.int x1] κ Q1 ∧ (∀ (z5 : Int32) (κ3 : Ku), Q1 z5 κ3 → ((z5 = 0 → (Q (-11) κ3)) ∧ (¬ z5 = 0 → (∃ Q11 : Int32 → Ku → Prop, r_KI l w B n tX7_isStation [Value.ref (B + 1), Value.int x2] κ3 Q11 ∧ (∀ (z15 : Int32) (κ13 : Ku), Q11 z15 κ13 → ((z15 = 0 → (Q (-11) κ13)) ∧ (¬ z15 = 0 → ((x1 = x2 → (Q (-12) κ13)) ∧ (¬ x1 = x2 → (vp_in x1 n ∧ (∀ b24 : Nat, b24 = 22 + 14 * x1.toNatClampNeg → (vp_in x2 n ∧ (∀ z29 : Int32, z29 = κ13.1 (22 + 14 * x2.toNatClampNeg) 1 → (∀ z32 : Int32, z32 = (if ((κ13.1 b24 2) &&& z29) = 0 then (0 : Int32) else (1 : Int32)) → ((z32 = x3 → (Q 0 κ13)) ∧ (¬ z32 = x3 → (∀ κ36 : Ku, κ36 = ki κ13 b24 2 ((κ13.1 b24 2) ^^^ z29) → (Q 1 κ36))))))))))))))))))) :
    r_W X w B 6 0 0 (r_Z X w B tX7_hear (ZKI n κ0 Q)) 0 [(0, Value.ref (B + 1)), (1, Value.int x1), (2, Value.int x2), (3, Value.int x3)] [] (shp n, κ) := by
  refine r_aload_n C dX7_hear_0 rfl (j := 0) rfl ?_
  refine r_iload_n C dX7_hear_1 rfl (j := 1) rfl ?_
  obtain ⟨Q1, m2, h⟩ := h
  refine r_callVI (rest := []) C E [Value.int x1] (atR (at_c (a := 0) rfl)) rfl ky_X7_isStation kl_X7_75 ki_X7_isStation kx_X7_isStation ⟨Nat.le_of_ble_eq_true rfl, Nat.le_of_ble_eq_true rfl⟩ ⟨rfl, rfl⟩ m2 rfl rfl (Nat.le_of_ble_eq_true rfl) (Nat.zero_le _) (Nat.zero_le _) dX7_hear_2 (fun z5 σ3 s4 q6 => ?_)
  obtain ⟨s3x, κ3⟩ := σ3
  simp only at s4
  subst s4
  obtain ⟨f7, C8, q6⟩ := q6
  have G9 := hG.trans f7
  have h := h z5 κ3 q6
  refine r_if_eq (tgt := 16) C dX7_hear_5 (by decide) (fun c10 => ?_) (fun c10 => ?_)
  · have h := h.1 c10
    refine r_bipush (v := (-11)) C dX7_hear_16 (by decide) ?_
    exact r_iretQ C E rfl (Nat.zero_le _) (Nat.zero_le _) dX7_hear_18 rfl ⟨G9, C8, h⟩
  · have h := h.2 c10
    refine r_aload_n C dX7_hear_8 rfl (j := 0) rfl ?_
    refine r_iload_n C dX7_hear_9 rfl (j := 2) rfl ?_
    obtain ⟨Q11, m12, h⟩ := h
    refine r_callVI (rest := []) C E [Value.int x2] (atR (at_c (a := 0) rfl)) rfl ky_X7_isStation kl_X7_75 ki_X7_isStation kx_X7_isStation ⟨Nat.le_of_ble_eq_true rfl, Nat.le_of_ble_eq_true rfl⟩ ⟨rfl, rfl⟩ m12 rfl rfl (Nat.le_of_ble_eq_true rfl) (Nat.zero_le _) (Nat.zero_le _) dX7_hear_10 (fun z15 σ13 s14 q16 => ?_)
    obtain ⟨s13x, κ13⟩ := σ13
    simp only at s14
    subst s14
    obtain ⟨f17, C18, q16⟩ := q16
    have G19 := G9.trans f17
    have h := h z15 κ13 q16
    refine r_if_ne (tgt := 19) C dX7_hear_13 (by decide) (fun c20 => ?_) (fun c20 => ?_)
    · have h := h.2 c20
      refine r_iload_n C dX7_hear_19 rfl (j := 1) rfl ?_
      refine r_iload_n C dX7_hear_20 rfl (j := 2) rfl ?_
      refine r_icmp_ne (tgt := 27) C dX7_hear_21 (by decide) (fun c21 => ?_) (fun c21 => ?_)
      · have h := h.2 c21
        refine r_aload_n C dX7_hear_27 rfl (j := 0) rfl ?_
        refine r_getE (e := 21) C (atR (at_c (a := 0) rfl)) fa_X7_68 rfl C18.1.1 (by decide) dX7_hear_28 ?_
        refine r_iload_n C dX7_hear_31 rfl (j := 1) rfl ?_
        obtain ⟨g22, h⟩ := h
        have o23 : atS n (22 + 14 * x1.toNatClampNeg) = some (.inl 6) := at_st hn (vp_lt g22)
        refine r_aalE (e := 22 + 14 * x1.toNatClampNeg) C (atR at_21) ⟨rfl, fun _ => rfl⟩ g22 (C18.2.2.2.2 _ (vp_lt g22)) (by omega) dX7_hear_32 ?_
        refine r_topa (fun b24 e25 => ?_)
        have h := h b24 e25
        have o26 : atS n b24 = some (.inl 6) := by rw [e25]; exact o23
        refine r_astore (lv' := [(4, Value.ref (B + b24)), (0, Value.ref (B + 1)), (1, Value.int x1), (2, Value.int x2), (3, Value.int x3)]) C dX7_hear_33 (by decide) rfl ?_
        refine r_aload_n C dX7_hear_35 rfl (j := 1) rfl ?_
        refine r_getE (e := 21) C (atR (at_c (a := 0) rfl)) fa_X7_68 rfl C18.1.1 (by decide) dX7_hear_36 ?_
        refine r_iload_n C dX7_hear_39 rfl (j := 3) rfl ?_
        obtain ⟨g27, h⟩ := h
        have o28 : atS n (22 + 14 * x2.toNatClampNeg) = some (.inl 6) := at_st hn (vp_lt g27)
        refine r_aalE (e := 22 + 14 * x2.toNatClampNeg) C (atR at_21) ⟨rfl, fun _ => rfl⟩ g27 (C18.2.2.2.2 _ (vp_lt g27)) (by omega) dX7_hear_40 ?_
        refine r_get (v := .int (κ13.1 (22 + 14 * x2.toNatClampNeg) 1)) C (atR o28) fa_X7_79 rfl dX7_hear_41 ?_
        refine r_topi (fun z29 e30 => ?_)
        have h := h z29 e30
        refine r_istore (lv' := [(5, Value.int z29), (4, Value.ref (B + b24)), (0, Value.ref (B + 1)), (1, Value.int x1), (2, Value.int x2), (3, Value.int x3)]) C dX7_hear_44 (by decide) rfl ?_
        refine r_aload C dX7_hear_46 (j := 1) rfl ?_
        refine r_get (v := .int (κ13.1 b24 2)) C (atR o26) fa_X7_82 rfl dX7_hear_48 ?_
        refine r_iload C dX7_hear_51 (j := 0) rfl ?_
        refine r_iand C dX7_hear_53 ?_
        have k34 : ∀ z32 : Int32, z32 = (if ((κ13.1 b24 2) &&& z29) = 0 then (0 : Int32) else (1 : Int32)) → r_W X w B 6 0 0 (r_Z X w B tX7_hear (ZKI n κ0 Q)) 62 [(5, Value.int z29), (4, Value.ref (B + b24)), (0, Value.ref (B + 1)), (1, Value.int x1), (2, Value.int x2), (3, Value.int x3)] [Value.int z32] (shp n, κ13) := by
          intro z32 e33
          have h := h z32 e33
          refine r_iload_n C dX7_hear_62 rfl (j := 5) rfl ?_
          refine r_icmp_ne (tgt := 68) C dX7_hear_63 (by decide) (fun c35 => ?_) (fun c35 => ?_)
          · have h := h.2 c35
            refine r_aload C dX7_hear_68 (j := 1) rfl ?_
            refine r_dup C dX7_hear_70 rfl ?_
            refine r_get (v := .int (κ13.1 b24 2)) C (atR o26) fa_X7_82 rfl dX7_hear_71 ?_
            refine r_iload C dX7_hear_74 (j := 0) rfl ?_
            refine r_ixor C dX7_hear_76 ?_
            refine r_putI C (atR o26) fa_X7_82 rfl rfl rfl dX7_hear_77 ?_
            refine r_namK (κ := ki κ13 b24 2 ((κ13.1 b24 2) ^^^ z29)) (fun κ36 e37 => ?_)
            have h := h κ36 e37
            have C38 : CoK n κ36 := by rw [e37]; exact C18
            have G39 : Gr n κ0 κ36 := by rw [e37]; exact G19.i (by have q := at_stat hn o26; unfold mOf at *; omega)
            refine r_iconst (v := 1) C dX7_hear_80 (by decide) ?_
            exact r_iretQ C E rfl (Nat.zero_le _) (Nat.zero_le _) dX7_hear_81 rfl ⟨G39, C38, h⟩
          · have h := h.1 c35
            refine r_iconst (v := 0) C dX7_hear_66 (by decide) ?_
            exact r_iretQ C E rfl (Nat.zero_le _) (Nat.zero_le _) dX7_hear_67 rfl ⟨G19, C18, h⟩
        clear h
        refine r_if_eq (tgt := 61) C dX7_hear_54 (by decide) (fun c31 => ?_) (fun c31 => ?_)
        · have c31 : ((κ13.1 b24 2) &&& z29) = 0 := c31
          refine r_iconst (v := 0) C dX7_hear_61 (by decide) ?_
          exact k34 _ (by rw [if_pos c31] <;> rfl)
        · have c31 : ¬ ((κ13.1 b24 2) &&& z29) = 0 := c31
          refine r_iconst (v := 1) C dX7_hear_57 (by decide) ?_
          refine r_goto (tgt := 62) C dX7_hear_58 (by decide) ?_
          exact k34 _ (by rw [if_neg c31] <;> rfl)
      · have h := h.1 c21
        refine r_bipush (v := (-12)) C dX7_hear_24 (by decide) ?_
        exact r_iretQ C E rfl (Nat.zero_le _) (Nat.zero_le _) dX7_hear_26 rfl ⟨G19, C18, h⟩
    · have h := h.1 c20
      refine r_bipush (v := (-11)) C dX7_hear_16 (by decide) ?_
      exact r_iretQ C E rfl (Nat.zero_le _) (Nat.zero_le _) dX7_hear_18 rfl ⟨G19, C18, h⟩
theorem v_X7_coin_0 {X : r_X} {w : r_V} {B n : Nat} {l : Launch} {Q : Int32 → Ku → Prop} {κ0 : Ku} (C : r_C X w B 2 cX7_coin RX7) (E : r_E X l tX7_coin) (hn : okN n) {κ : Ku} (hC : CoK n κ) (hG : Gr n κ0 κ) {x1 : Int32}
    (h : (0 ≤ x1 → (∃ Q2 : Ku → Prop, r_KV l w B n tX0_add [Value.ref (B + 2), Value.int x1] κ Q2 ∧ (∀ κ4 : Ku, Q2 κ4 → (∃ Q11 : Int32 → Ku → Prop, r_KI l w B n tX0_undrawn [Value.ref (B + 2)] κ4 Q11 ∧ (∀ (z15 : Int32) (κ13 : Ku), Q11 z15 κ13 → (Q z15 κ13)))))) ∧ (¬ 0 ≤ x1 → (Q (-12) κ))) :
    r_W X w B 2 0 0 (r_Z X w B tX7_coin (ZKI n κ0 Q)) 0 [(0, Value.ref (B + 1)), (1, Value.int x1)] [] (shp n, κ) := by
  refine r_iload_n C dX7_coin_0 rfl (j := 1) rfl ?_
  refine r_if_ge (tgt := 7) C dX7_coin_1 (by decide) (fun c1 => ?_) (fun c1 => ?_)
  · have h := h.1 c1
    refine r_aload_n C dX7_coin_7 rfl (j := 0) rfl ?_
    refine r_getE (e := 2) C (atR (at_c (a := 0) rfl)) fa_X7_10 rfl hC.1.2.1 (by decide) dX7_coin_8 ?_
    refine r_iload_n C dX7_coin_11 rfl (j := 1) rfl ?_
    obtain ⟨Q2, m3, h⟩ := h
    refine r_callVV (rest := []) C E [Value.int x1] (atR (at_c (a := 1) rfl)) rfl ky_X0_add kl_X7_85 ki_X0_add kx_X0_add ⟨Nat.le_of_ble_eq_true rfl, Nat.le_of_ble_eq_true rfl⟩ ⟨rfl, rfl⟩ m3 rfl rfl (Nat.le_of_ble_eq_true rfl) (Nat.zero_le _) (Nat.zero_le _) dX7_coin_12 (fun σ4 s5 q7 => ?_)
    obtain ⟨s4x, κ4⟩ := σ4
    simp only at s5
    subst s5
    obtain ⟨f8, C9, q7⟩ := q7
    have G10 := hG.trans f8
    have h := h κ4 q7
    refine r_aload_n C dX7_coin_15 rfl (j := 0) rfl ?_
    refine r_getE (e := 2) C (atR (at_c (a := 0) rfl)) fa_X7_10 rfl C9.1.2.1 (by decide) dX7_coin_16 ?_
    obtain ⟨Q11, m12, h⟩ := h
    refine r_callVI (rest := []) C E [] (atR (at_c (a := 1) rfl)) rfl ky_X0_undrawn kl_X7_88 ki_X0_undrawn kx_X0_undrawn ⟨Nat.le_of_ble_eq_true rfl, Nat.le_of_ble_eq_true rfl⟩ ⟨rfl, rfl⟩ m12 rfl rfl (Nat.le_of_ble_eq_true rfl) (Nat.zero_le _) (Nat.zero_le _) dX7_coin_19 (fun z15 σ13 s14 q16 => ?_)
    obtain ⟨s13x, κ13⟩ := σ13
    simp only at s14
    subst s14
    obtain ⟨f17, C18, q16⟩ := q16
    have G19 := G10.trans f17
    have h := h z15 κ13 q16
    exact r_iretQ C E rfl (Nat.zero_le _) (Nat.zero_le _) dX7_coin_22 rfl ⟨G19, C18, h⟩
  · have h := h.2 c1
    refine r_bipush (v := (-12)) C dX7_coin_4 (by decide) ?_
    exact r_iretQ C E rfl (Nat.zero_le _) (Nat.zero_le _) dX7_coin_6 rfl ⟨hG, hC, h⟩
theorem v_X7_threshold_0 {X : r_X} {w : r_V} {B n : Nat} {l : Launch} {Q : Int32 → Ku → Prop} {κ0 : Ku} (C : r_C X w B 3 cX7_threshold RX7) (E : r_E X l tX7_threshold) (hn : okN n) {κ : Ku} (hC : CoK n κ) (hG : Gr n κ0 κ) {x1 : Int32}
    (h : (x1 < 0 → (Q (-12) κ)) ∧ (¬ x1 < 0 → ((x1 ≤ 100 → (∀ z3 : Int32, z3 = κ.1 1 6 → (∀ κ5 : Ku, κ5 = ki κ 1 6 x1 → (Q z3 κ5)))) ∧ (¬ x1 ≤ 100 → (Q (-12) κ))))) :
    r_W X w B 3 0 0 (r_Z X w B tX7_threshold (ZKI n κ0 Q)) 0 [(0, Value.ref (B + 1)), (1, Value.int x1)] [] (shp n, κ) := by
  refine r_iload_n C dX7_threshold_0 rfl (j := 1) rfl ?_
  refine r_if_lt (tgt := 10) C dX7_threshold_1 (by decide) (fun c1 => ?_) (fun c1 => ?_)
  · have h := h.1 c1
    refine r_bipush (v := (-12)) C dX7_threshold_10 (by decide) ?_
    exact r_iretQ C E rfl (Nat.zero_le _) (Nat.zero_le _) dX7_threshold_12 rfl ⟨hG, hC, h⟩
  · have h := h.2 c1
    refine r_iload_n C dX7_threshold_4 rfl (j := 1) rfl ?_
    refine r_bipush (v := 100) C dX7_threshold_5 (by decide) ?_
    refine r_icmp_le (tgt := 13) C dX7_threshold_7 (by decide) (fun c2 => ?_) (fun c2 => ?_)
    · have h := h.1 c2
      refine r_aload_n C dX7_threshold_13 rfl (j := 0) rfl ?_
      refine r_get (v := .int (κ.1 1 6)) C (atR (at_c (a := 0) rfl)) fa_X7_46 rfl dX7_threshold_14 ?_
      refine r_topi (fun z3 e4 => ?_)
      have h := h z3 e4
      refine r_istore_n (lv' := [(2, Value.int z3), (0, Value.ref (B + 1)), (1, Value.int x1)]) C dX7_threshold_17 rfl (by decide) rfl ?_
      refine r_aload_n C dX7_threshold_18 rfl (j := 1) rfl ?_
      refine r_iload_n C dX7_threshold_19 rfl (j := 2) rfl ?_
      refine r_putI C (atR (at_c (a := 0) rfl)) fa_X7_46 rfl rfl rfl dX7_threshold_20 ?_
      refine r_namK (κ := ki κ 1 6 x1) (fun κ5 e6 => ?_)
      have h := h κ5 e6
      have C7 : CoK n κ5 := by rw [e6]; exact hC
      have G8 : Gr n κ0 κ5 := by rw [e6]; exact hG.i (by unfold mOf; omega)
      refine r_iload_n C dX7_threshold_23 rfl (j := 0) rfl ?_
      exact r_iretQ C E rfl (Nat.zero_le _) (Nat.zero_le _) dX7_threshold_24 rfl ⟨G8, C7, h⟩
    · have h := h.2 c2
      refine r_bipush (v := (-12)) C dX7_threshold_10 (by decide) ?_
      exact r_iretQ C E rfl (Nat.zero_le _) (Nat.zero_le _) dX7_threshold_12 rfl ⟨hG, hC, h⟩
theorem v_X7_offer_0 {X : r_X} {w : r_V} {B n : Nat} {l : Launch} {Q : Int32 → Ku → Prop} {κ0 : Ku} (C : r_C X w B 6 cX7_offer RX7) (E : r_E X l tX7_offer) (hn : okN n) {κ : Ku} (hC : CoK n κ) (hG : Gr n κ0 κ) {x1 x2 x3 : Int32}
    (h : ∃ Q1 : Int32 → Ku → Prop, r_KI l w B n tX7_isStation [Value.ref (B + 1), Value.int x1] κ Q1 ∧ (∀ (z5 : Int32) (κ3 : Ku), Q1 z5 κ3 → ((z5 = 0 → (Q (-11) κ3)) ∧ (¬ z5 = 0 → (∃ Q11 : Int32 → Ku → Prop, r_KI l w B n tX7_isStation [Value.ref (B + 1), Value.int x2] κ3 Q11 ∧ (∀ (z15 : Int32) (κ13 : Ku), Q11 z15 κ13 → ((z15 = 0 → (Q (-11) κ13)) ∧ (¬ z15 = 0 → ((x1 = x2 → (Q (-12) κ13)) ∧ (¬ x1 = x2 → ((x3 < 1 → (Q (-12) κ13)) ∧ (¬ x3 < 1 → ((x3 ≤ 8 → (vp_in x1 n ∧ (∀ b26 : Nat, b26 = 22 + 14 * x1.toNatClampNeg → (∃ Q29 : Int32 → Ku → Prop, r_KI l w B n tX4_isFull [Value.ref (B + 4)] κ13 Q29 ∧ (∀ (z33 : Int32) (κ31 : Ku), Q29 z33 κ31 → ((z33 = 0 → (∃ Q39 : Int32 → Ku → Prop, r_KI l w B n tX5_isFull [Value.ref (B + (b26 + 1))] κ31 Q39 ∧ (∀ (z43 : Int32) (κ41 : Ku), Q39 z43 κ41 → ((z43 = 0 → (∃ Q49 : Int32 → Ku → Prop, r_KI l w B n tX4_add [Value.ref (B + 4), Value.int x1, Value.int x2, Value.int x3] κ41 Q49 ∧ (∀ (z53 : Int32) (κ51 : Ku), Q49 z53 κ51 → (((κ51.1 (b26 + 1) 1) = 0 → (∃ Q59 : Ku → Prop, r_KV l w B n tX7_drawCount [Value.ref (B + 1), Value.ref (B + b26)] κ51 Q59 ∧ (∀ κ61 : Ku, Q59 κ61 → (∃ Q68 : Ku → Prop, r_KV l w B n tX5_add [Value.ref (B + (b26 + 1)), Value.int z53] κ61 Q68 ∧ (∀ κ70 : Ku, Q68 κ70 → (Q z53 κ70)))))) ∧ (¬ (κ51.1 (b26 + 1) 1) = 0 → (∃ Q77 : Ku → Prop, r_KV l w B n tX5_add [Value.ref (B + (b26 + 1)), Value.int z53] κ51 Q77 ∧ (∀ κ79 : Ku, Q77 κ79 → (Q z53 κ79)))))))) ∧ (¬ z43 = 0 → (Q (-14) κ41)))))) ∧ (¬ z33 = 0 → (Q (-14) κ31)))))))) ∧ (¬ x3 ≤ 8 → (Q (-12) κ13))))))))))))))) :
    r_W X w B 6 0 0 (r_Z X w B tX7_offer (ZKI n κ0 Q)) 0 [(0, Value.ref (B + 1)), (1, Value.int x1), (2, Value.int x2), (3, Value.int x3)] [] (shp n, κ) := by
  refine r_aload_n C dX7_offer_0 rfl (j := 0) rfl ?_
  refine r_iload_n C dX7_offer_1 rfl (j := 1) rfl ?_
  obtain ⟨Q1, m2, h⟩ := h
  refine r_callVI (rest := []) C E [Value.int x1] (atR (at_c (a := 0) rfl)) rfl ky_X7_isStation kl_X7_75 ki_X7_isStation kx_X7_isStation ⟨Nat.le_of_ble_eq_true rfl, Nat.le_of_ble_eq_true rfl⟩ ⟨rfl, rfl⟩ m2 rfl rfl (Nat.le_of_ble_eq_true rfl) (Nat.zero_le _) (Nat.zero_le _) dX7_offer_2 (fun z5 σ3 s4 q6 => ?_)
  obtain ⟨s3x, κ3⟩ := σ3
  simp only at s4
  subst s4
  obtain ⟨f7, C8, q6⟩ := q6
  have G9 := hG.trans f7
  have h := h z5 κ3 q6
  refine r_if_eq (tgt := 16) C dX7_offer_5 (by decide) (fun c10 => ?_) (fun c10 => ?_)
  · have h := h.1 c10
    refine r_bipush (v := (-11)) C dX7_offer_16 (by decide) ?_
    exact r_iretQ C E rfl (Nat.zero_le _) (Nat.zero_le _) dX7_offer_18 rfl ⟨G9, C8, h⟩
  · have h := h.2 c10
    refine r_aload_n C dX7_offer_8 rfl (j := 0) rfl ?_
    refine r_iload_n C dX7_offer_9 rfl (j := 2) rfl ?_
    obtain ⟨Q11, m12, h⟩ := h
    refine r_callVI (rest := []) C E [Value.int x2] (atR (at_c (a := 0) rfl)) rfl ky_X7_isStation kl_X7_75 ki_X7_isStation kx_X7_isStation ⟨Nat.le_of_ble_eq_true rfl, Nat.le_of_ble_eq_true rfl⟩ ⟨rfl, rfl⟩ m12 rfl rfl (Nat.le_of_ble_eq_true rfl) (Nat.zero_le _) (Nat.zero_le _) dX7_offer_10 (fun z15 σ13 s14 q16 => ?_)
    obtain ⟨s13x, κ13⟩ := σ13
    simp only at s14
    subst s14
    obtain ⟨f17, C18, q16⟩ := q16
    have G19 := G9.trans f17
    have h := h z15 κ13 q16
    refine r_if_ne (tgt := 19) C dX7_offer_13 (by decide) (fun c20 => ?_) (fun c20 => ?_)
    · have h := h.2 c20
      refine r_iload_n C dX7_offer_19 rfl (j := 1) rfl ?_
      refine r_iload_n C dX7_offer_20 rfl (j := 2) rfl ?_
      refine r_icmp_eq (tgt := 35) C dX7_offer_21 (by decide) (fun c21 => ?_) (fun c21 => ?_)
      · have h := h.1 c21
        refine r_bipush (v := (-12)) C dX7_offer_35 (by decide) ?_
        exact r_iretQ C E rfl (Nat.zero_le _) (Nat.zero_le _) dX7_offer_37 rfl ⟨G19, C18, h⟩
      · have h := h.2 c21
        refine r_iload_n C dX7_offer_24 rfl (j := 3) rfl ?_
        refine r_iconst (v := 1) C dX7_offer_25 (by decide) ?_
        refine r_icmp_lt (tgt := 35) C dX7_offer_26 (by decide) (fun c22 => ?_) (fun c22 => ?_)
        · have h := h.1 c22
          refine r_bipush (v := (-12)) C dX7_offer_35 (by decide) ?_
          exact r_iretQ C E rfl (Nat.zero_le _) (Nat.zero_le _) dX7_offer_37 rfl ⟨G19, C18, h⟩
        · have h := h.2 c22
          refine r_iload_n C dX7_offer_29 rfl (j := 3) rfl ?_
          refine r_bipush (v := 8) C dX7_offer_30 (by decide) ?_
          refine r_icmp_le (tgt := 38) C dX7_offer_32 (by decide) (fun c23 => ?_) (fun c23 => ?_)
          · have h := h.1 c23
            refine r_aload_n C dX7_offer_38 rfl (j := 0) rfl ?_
            refine r_getE (e := 21) C (atR (at_c (a := 0) rfl)) fa_X7_68 rfl C18.1.1 (by decide) dX7_offer_39 ?_
            refine r_iload_n C dX7_offer_42 rfl (j := 1) rfl ?_
            obtain ⟨g24, h⟩ := h
            have o25 : atS n (22 + 14 * x1.toNatClampNeg) = some (.inl 6) := at_st hn (vp_lt g24)
            refine r_aalE (e := 22 + 14 * x1.toNatClampNeg) C (atR at_21) ⟨rfl, fun _ => rfl⟩ g24 (C18.2.2.2.2 _ (vp_lt g24)) (by omega) dX7_offer_43 ?_
            refine r_topa (fun b26 e27 => ?_)
            have h := h b26 e27
            have o28 : atS n b26 = some (.inl 6) := by rw [e27]; exact o25
            refine r_astore (lv' := [(4, Value.ref (B + b26)), (0, Value.ref (B + 1)), (1, Value.int x1), (2, Value.int x2), (3, Value.int x3)]) C dX7_offer_44 (by decide) rfl ?_
            refine r_aload_n C dX7_offer_46 rfl (j := 1) rfl ?_
            refine r_getE (e := 4) C (atR (at_c (a := 0) rfl)) fa_X7_19 rfl C18.1.2.2.1 (by decide) dX7_offer_47 ?_
            obtain ⟨Q29, m30, h⟩ := h
            refine r_callVI (rest := []) C E [] (atR (at_c (a := 3) rfl)) rfl ky_X4_isFull kl_X7_92 ki_X4_isFull kx_X4_isFull ⟨Nat.le_of_ble_eq_true rfl, Nat.le_of_ble_eq_true rfl⟩ ⟨rfl, rfl⟩ m30 rfl rfl (Nat.le_of_ble_eq_true rfl) (Nat.zero_le _) (Nat.zero_le _) dX7_offer_50 (fun z33 σ31 s32 q34 => ?_)
            obtain ⟨s31x, κ31⟩ := σ31
            simp only at s32
            subst s32
            obtain ⟨f35, C36, q34⟩ := q34
            have G37 := G19.trans f35
            have h := h z33 κ31 q34
            refine r_if_ne (tgt := 67) C dX7_offer_53 (by decide) (fun c38 => ?_) (fun c38 => ?_)
            · have h := h.2 c38
              refine r_bipush (v := (-14)) C dX7_offer_67 (by decide) ?_
              exact r_iretQ C E rfl (Nat.zero_le _) (Nat.zero_le _) dX7_offer_69 rfl ⟨G37, C36, h⟩
            · have h := h.1 c38
              refine r_aload C dX7_offer_56 (j := 0) rfl ?_
              refine r_getE (e := b26 + 1) C (atR o28) fa_X7_96 rfl (C36.2.2.2.1 _ o28).1 (r_atN (atR (κ := κ31) (at_stat hn o28).1)) dX7_offer_58 ?_
              obtain ⟨Q39, m40, h⟩ := h
              refine r_callVI (rest := []) C E [] (atR (at_stat hn o28).1) rfl ky_X5_isFull kl_X7_99 ki_X5_isFull kx_X5_isFull ⟨Nat.le_of_ble_eq_true rfl, Nat.le_of_ble_eq_true rfl⟩ ⟨rfl, rfl⟩ m40 rfl rfl (Nat.le_of_ble_eq_true rfl) (Nat.zero_le _) (Nat.zero_le _) dX7_offer_61 (fun z43 σ41 s42 q44 => ?_)
              obtain ⟨s41x, κ41⟩ := σ41
              simp only at s42
              subst s42
              obtain ⟨f45, C46, q44⟩ := q44
              have G47 := G37.trans f45
              have h := h z43 κ41 q44
              refine r_if_eq (tgt := 70) C dX7_offer_64 (by decide) (fun c48 => ?_) (fun c48 => ?_)
              · have h := h.1 c48
                refine r_aload_n C dX7_offer_70 rfl (j := 1) rfl ?_
                refine r_getE (e := 4) C (atR (at_c (a := 0) rfl)) fa_X7_19 rfl C46.1.2.2.1 (by decide) dX7_offer_71 ?_
                refine r_iload_n C dX7_offer_74 rfl (j := 2) rfl ?_
                refine r_iload_n C dX7_offer_75 rfl (j := 3) rfl ?_
                refine r_iload_n C dX7_offer_76 rfl (j := 4) rfl ?_
                obtain ⟨Q49, m50, h⟩ := h
                refine r_callVI (rest := []) C E [Value.int x1, Value.int x2, Value.int x3] (atR (at_c (a := 3) rfl)) rfl ky_X4_add kl_X7_100 ki_X4_add kx_X4_add ⟨Nat.le_of_ble_eq_true rfl, Nat.le_of_ble_eq_true rfl⟩ ⟨rfl, rfl⟩ m50 rfl rfl (Nat.le_of_ble_eq_true rfl) (Nat.zero_le _) (Nat.zero_le _) dX7_offer_77 (fun z53 σ51 s52 q54 => ?_)
                obtain ⟨s51x, κ51⟩ := σ51
                simp only at s52
                subst s52
                obtain ⟨f55, C56, q54⟩ := q54
                have G57 := G47.trans f55
                have h := h z53 κ51 q54
                refine r_istore (lv' := [(5, Value.int z53), (4, Value.ref (B + b26)), (0, Value.ref (B + 1)), (1, Value.int x1), (2, Value.int x2), (3, Value.int x3)]) C dX7_offer_80 (by decide) rfl ?_
                refine r_aload C dX7_offer_82 (j := 1) rfl ?_
                refine r_getE (e := b26 + 1) C (atR o28) fa_X7_96 rfl (C56.2.2.2.1 _ o28).1 (r_atN (atR (κ := κ51) (at_stat hn o28).1)) dX7_offer_84 ?_
                refine r_get (v := .int (κ51.1 (b26 + 1) 1)) C (atR (at_stat hn o28).1) fa_X7_103 rfl dX7_offer_87 ?_
                refine r_if_ne (tgt := 99) C dX7_offer_90 (by decide) (fun c58 => ?_) (fun c58 => ?_)
                · have h := h.2 c58
                  refine r_aload C dX7_offer_99 (j := 1) rfl ?_
                  refine r_getE (e := b26 + 1) C (atR o28) fa_X7_96 rfl (C56.2.2.2.1 _ o28).1 (r_atN (atR (κ := κ51) (at_stat hn o28).1)) dX7_offer_101 ?_
                  refine r_iload C dX7_offer_104 (j := 0) rfl ?_
                  obtain ⟨Q77, m78, h⟩ := h
                  refine r_callVV (rest := []) C E [Value.int z53] (atR (at_stat hn o28).1) rfl ky_X5_add kl_X7_110 ki_X5_add kx_X5_add ⟨Nat.le_of_ble_eq_true rfl, Nat.le_of_ble_eq_true rfl⟩ ⟨rfl, rfl⟩ m78 rfl rfl (Nat.le_of_ble_eq_true rfl) (Nat.zero_le _) (Nat.zero_le _) dX7_offer_106 (fun σ79 s80 q82 => ?_)
                  obtain ⟨s79x, κ79⟩ := σ79
                  simp only at s80
                  subst s80
                  obtain ⟨f83, C84, q82⟩ := q82
                  have G85 := G57.trans f83
                  have h := h κ79 q82
                  refine r_iload C dX7_offer_109 (j := 0) rfl ?_
                  exact r_iretQ C E rfl (Nat.zero_le _) (Nat.zero_le _) dX7_offer_111 rfl ⟨G85, C84, h⟩
                · have h := h.1 c58
                  refine r_aload_n C dX7_offer_93 rfl (j := 2) rfl ?_
                  refine r_aload C dX7_offer_94 (j := 1) rfl ?_
                  obtain ⟨Q59, m60, h⟩ := h
                  refine r_callVV (rest := []) C E [Value.ref (B + b26)] (atR (at_c (a := 0) rfl)) rfl ky_X7_drawCount kl_X7_106 ki_X7_drawCount kx_X7_drawCount ⟨Nat.le_of_ble_eq_true rfl, Nat.le_of_ble_eq_true rfl⟩ ⟨rfl, rfl⟩ m60 rfl rfl (Nat.le_of_ble_eq_true rfl) (Nat.zero_le _) (Nat.zero_le _) dX7_offer_96 (fun σ61 s62 q64 => ?_)
                  obtain ⟨s61x, κ61⟩ := σ61
                  simp only at s62
                  subst s62
                  obtain ⟨f65, C66, q64⟩ := q64
                  have G67 := G57.trans f65
                  have h := h κ61 q64
                  refine r_aload C dX7_offer_99 (j := 1) rfl ?_
                  refine r_getE (e := b26 + 1) C (atR o28) fa_X7_96 rfl (C66.2.2.2.1 _ o28).1 (r_atN (atR (κ := κ61) (at_stat hn o28).1)) dX7_offer_101 ?_
                  refine r_iload C dX7_offer_104 (j := 0) rfl ?_
                  obtain ⟨Q68, m69, h⟩ := h
                  refine r_callVV (rest := []) C E [Value.int z53] (atR (at_stat hn o28).1) rfl ky_X5_add kl_X7_110 ki_X5_add kx_X5_add ⟨Nat.le_of_ble_eq_true rfl, Nat.le_of_ble_eq_true rfl⟩ ⟨rfl, rfl⟩ m69 rfl rfl (Nat.le_of_ble_eq_true rfl) (Nat.zero_le _) (Nat.zero_le _) dX7_offer_106 (fun σ70 s71 q73 => ?_)
                  obtain ⟨s70x, κ70⟩ := σ70
                  simp only at s71
                  subst s71
                  obtain ⟨f74, C75, q73⟩ := q73
                  have G76 := G67.trans f74
                  have h := h κ70 q73
                  refine r_iload C dX7_offer_109 (j := 0) rfl ?_
                  exact r_iretQ C E rfl (Nat.zero_le _) (Nat.zero_le _) dX7_offer_111 rfl ⟨G76, C75, h⟩
              · have h := h.2 c48
                refine r_bipush (v := (-14)) C dX7_offer_67 (by decide) ?_
                exact r_iretQ C E rfl (Nat.zero_le _) (Nat.zero_le _) dX7_offer_69 rfl ⟨G47, C46, h⟩
          · have h := h.2 c23
            refine r_bipush (v := (-12)) C dX7_offer_35 (by decide) ?_
            exact r_iretQ C E rfl (Nat.zero_le _) (Nat.zero_le _) dX7_offer_37 rfl ⟨G19, C18, h⟩
    · have h := h.1 c20
      refine r_bipush (v := (-11)) C dX7_offer_16 (by decide) ?_
      exact r_iretQ C E rfl (Nat.zero_le _) (Nat.zero_le _) dX7_offer_18 rfl ⟨G19, C18, h⟩
theorem v_X7_noise_0 {X : r_X} {w : r_V} {B n : Nat} {l : Launch} {Q : Int32 → Ku → Prop} {κ0 : Ku} (C : r_C X w B 5 cX7_noise RX7) (E : r_E X l tX7_noise) (hn : okN n) {κ : Ku} (hC : CoK n κ) (hG : Gr n κ0 κ) {x1 x4 : Int32} {y2 : Int64}
    (h : ∃ Q1 : Int32 → Ku → Prop, r_KI l w B n tX7_isStation [Value.ref (B + 1), Value.int x1] κ Q1 ∧ (∀ (z5 : Int32) (κ3 : Ku), Q1 z5 κ3 → ((z5 = 0 → (Q (-11) κ3)) ∧ (¬ z5 = 0 → ((y2 < (κ3.2.1 1 7) → (Q (-12) κ3)) ∧ (¬ y2 < (κ3.2.1 1 7) → ((1000000 < y2 → (Q (-12) κ3)) ∧ (¬ 1000000 < y2 → ((x4 < 1 → (Q (-12) κ3)) ∧ (¬ x4 < 1 → ((x4 ≤ 1000 → (∃ Q15 : Int32 → Ku → Prop, r_KI l w B n tX3_isFull [Value.ref (B + 11)] κ3 Q15 ∧ (∀ (z19 : Int32) (κ17 : Ku), Q15 z19 κ17 → ((z19 = 0 → (∃ Q25 : Ku → Prop, r_KV l w B n tX3_add [Value.ref (B + 11), Value.int x1, Value.long y2, Value.int x4] κ17 Q25 ∧ (∀ κ27 : Ku, Q25 κ27 → (Q (κ27.1 11 3) κ27)))) ∧ (¬ z19 = 0 → (Q (-14) κ17)))))) ∧ (¬ x4 ≤ 1000 → (Q (-12) κ3))))))))))))) :
    r_W X w B 5 0 0 (r_Z X w B tX7_noise (ZKI n κ0 Q)) 0 [(0, Value.ref (B + 1)), (1, Value.int x1), (2, Value.long y2), (4, Value.int x4)] [] (shp n, κ) := by
  refine r_aload_n C dX7_noise_0 rfl (j := 0) rfl ?_
  refine r_iload_n C dX7_noise_1 rfl (j := 1) rfl ?_
  obtain ⟨Q1, m2, h⟩ := h
  refine r_callVI (rest := []) C E [Value.int x1] (atR (at_c (a := 0) rfl)) rfl ky_X7_isStation kl_X7_75 ki_X7_isStation kx_X7_isStation ⟨Nat.le_of_ble_eq_true rfl, Nat.le_of_ble_eq_true rfl⟩ ⟨rfl, rfl⟩ m2 rfl rfl (Nat.le_of_ble_eq_true rfl) (Nat.zero_le _) (Nat.zero_le _) dX7_noise_2 (fun z5 σ3 s4 q6 => ?_)
  obtain ⟨s3x, κ3⟩ := σ3
  simp only at s4
  subst s4
  obtain ⟨f7, C8, q6⟩ := q6
  have G9 := hG.trans f7
  have h := h z5 κ3 q6
  refine r_if_ne (tgt := 11) C dX7_noise_5 (by decide) (fun c10 => ?_) (fun c10 => ?_)
  · have h := h.2 c10
    refine r_lload_n C dX7_noise_11 rfl (j := 2) rfl ?_
    refine r_aload_n C dX7_noise_12 rfl (j := 0) rfl ?_
    refine r_get (v := .long (κ3.2.1 1 7)) C (atR (at_c (a := 0) rfl)) fa_X7_50 rfl dX7_noise_13 ?_
    refine r_lcmp C dX7_noise_16 ?_
    refine r_if_lt (tgt := 42) C dX7_noise_17 (by decide) (fun c11 => ?_) (fun c11 => ?_)
    · have h := h.1 (lgc_lt.mp c11)
      refine r_bipush (v := (-12)) C dX7_noise_42 (by decide) ?_
      exact r_iretQ C E rfl (Nat.zero_le _) (Nat.zero_le _) dX7_noise_44 rfl ⟨G9, C8, h⟩
    · have h := h.2 (fun q => c11 (lgc_lt.mpr q))
      refine r_lload_n C dX7_noise_20 rfl (j := 2) rfl ?_
      refine r_ldc2 (v := 1000000) C kj_X7_111 dX7_noise_21 ?_
      refine r_lcmp C dX7_noise_24 ?_
      refine r_if_gt (tgt := 42) C dX7_noise_25 (by decide) (fun c12 => ?_) (fun c12 => ?_)
      · have h := h.1 (lgc_gt.mp c12)
        refine r_bipush (v := (-12)) C dX7_noise_42 (by decide) ?_
        exact r_iretQ C E rfl (Nat.zero_le _) (Nat.zero_le _) dX7_noise_44 rfl ⟨G9, C8, h⟩
      · have h := h.2 (fun q => c12 (lgc_gt.mpr q))
        refine r_iload C dX7_noise_28 (j := 3) rfl ?_
        refine r_iconst (v := 1) C dX7_noise_30 (by decide) ?_
        refine r_icmp_lt (tgt := 42) C dX7_noise_31 (by decide) (fun c13 => ?_) (fun c13 => ?_)
        · have h := h.1 c13
          refine r_bipush (v := (-12)) C dX7_noise_42 (by decide) ?_
          exact r_iretQ C E rfl (Nat.zero_le _) (Nat.zero_le _) dX7_noise_44 rfl ⟨G9, C8, h⟩
        · have h := h.2 c13
          refine r_iload C dX7_noise_34 (j := 3) rfl ?_
          refine r_sipush (v := 1000) C dX7_noise_36 (by decide) ?_
          refine r_icmp_le (tgt := 45) C dX7_noise_39 (by decide) (fun c14 => ?_) (fun c14 => ?_)
          · have h := h.1 c14
            refine r_aload_n C dX7_noise_45 rfl (j := 0) rfl ?_
            refine r_getE (e := 11) C (atR (at_c (a := 0) rfl)) fa_X7_26 rfl C8.1.2.2.2.1 (by decide) dX7_noise_46 ?_
            obtain ⟨Q15, m16, h⟩ := h
            refine r_callVI (rest := []) C E [] (atR (at_c (a := 10) rfl)) rfl ky_X3_isFull kl_X7_113 ki_X3_isFull kx_X3_isFull ⟨Nat.le_of_ble_eq_true rfl, Nat.le_of_ble_eq_true rfl⟩ ⟨rfl, rfl⟩ m16 rfl rfl (Nat.le_of_ble_eq_true rfl) (Nat.zero_le _) (Nat.zero_le _) dX7_noise_49 (fun z19 σ17 s18 q20 => ?_)
            obtain ⟨s17x, κ17⟩ := σ17
            simp only at s18
            subst s18
            obtain ⟨f21, C22, q20⟩ := q20
            have G23 := G9.trans f21
            have h := h z19 κ17 q20
            refine r_if_eq (tgt := 58) C dX7_noise_52 (by decide) (fun c24 => ?_) (fun c24 => ?_)
            · have h := h.1 c24
              refine r_aload_n C dX7_noise_58 rfl (j := 0) rfl ?_
              refine r_getE (e := 11) C (atR (at_c (a := 0) rfl)) fa_X7_26 rfl C22.1.2.2.2.1 (by decide) dX7_noise_59 ?_
              refine r_iload_n C dX7_noise_62 rfl (j := 1) rfl ?_
              refine r_lload_n C dX7_noise_63 rfl (j := 2) rfl ?_
              refine r_iload C dX7_noise_64 (j := 3) rfl ?_
              obtain ⟨Q25, m26, h⟩ := h
              refine r_callVV (rest := []) C E [Value.int x1, Value.long y2, Value.int x4] (atR (at_c (a := 10) rfl)) rfl ky_X3_add kl_X7_114 ki_X3_add kx_X3_add ⟨Nat.le_of_ble_eq_true rfl, Nat.le_of_ble_eq_true rfl⟩ ⟨rfl, rfl⟩ m26 rfl rfl (Nat.le_of_ble_eq_true rfl) (Nat.zero_le _) (Nat.zero_le _) dX7_noise_66 (fun σ27 s28 q30 => ?_)
              obtain ⟨s27x, κ27⟩ := σ27
              simp only at s28
              subst s28
              obtain ⟨f31, C32, q30⟩ := q30
              have G33 := G23.trans f31
              have h := h κ27 q30
              refine r_aload_n C dX7_noise_69 rfl (j := 0) rfl ?_
              refine r_getE (e := 11) C (atR (at_c (a := 0) rfl)) fa_X7_26 rfl C32.1.2.2.2.1 (by decide) dX7_noise_70 ?_
              refine r_get (v := .int (κ27.1 11 3)) C (atR (at_c (a := 10) rfl)) fa_X7_117 rfl dX7_noise_73 ?_
              exact r_iretQ C E rfl (Nat.zero_le _) (Nat.zero_le _) dX7_noise_76 rfl ⟨G33, C32, h⟩
            · have h := h.2 c24
              refine r_bipush (v := (-14)) C dX7_noise_55 (by decide) ?_
              exact r_iretQ C E rfl (Nat.zero_le _) (Nat.zero_le _) dX7_noise_57 rfl ⟨G23, C22, h⟩
          · have h := h.2 c14
            refine r_bipush (v := (-12)) C dX7_noise_42 (by decide) ?_
            exact r_iretQ C E rfl (Nat.zero_le _) (Nat.zero_le _) dX7_noise_44 rfl ⟨G9, C8, h⟩
  · have h := h.1 c10
    refine r_bipush (v := (-11)) C dX7_noise_8 (by decide) ?_
    exact r_iretQ C E rfl (Nat.zero_le _) (Nat.zero_le _) dX7_noise_10 rfl ⟨G9, C8, h⟩
theorem v_X7_run_0 {X : r_X} {w : r_V} {B n : Nat} {l : Launch} {Q : Int32 → Ku → Prop} {κ0 : Ku} (C : r_C X w B 4 cX7_run RX7) (E : r_E X l tX7_run) (hn : okN n) {κ : Ku} (hC : CoK n κ) (hG : Gr n κ0 κ) {x1 : Int32}
    (h : (x1 < 1 → (Q (-12) κ)) ∧ (¬ x1 < 1 → ((x1 ≤ 2000 → (∀ z3 : Int32, z3 = κ.1 15 3 → (r_W X w B 4 0 0 (r_Z X w B tX7_run (ZKI n κ0 Q)) 25 [(0, Value.ref (B + 1)), (1, Value.int x1), (2, Value.int z3), (3, Value.int 0)] [] (shp n, κ)))) ∧ (¬ x1 ≤ 2000 → (Q (-12) κ))))) :
    r_W X w B 4 0 0 (r_Z X w B tX7_run (ZKI n κ0 Q)) 0 [(0, Value.ref (B + 1)), (1, Value.int x1)] [] (shp n, κ) := by
  refine r_iload_n C dX7_run_0 rfl (j := 1) rfl ?_
  refine r_iconst (v := 1) C dX7_run_1 (by decide) ?_
  refine r_icmp_lt (tgt := 12) C dX7_run_2 (by decide) (fun c1 => ?_) (fun c1 => ?_)
  · have h := h.1 c1
    refine r_bipush (v := (-12)) C dX7_run_12 (by decide) ?_
    exact r_iretQ C E rfl (Nat.zero_le _) (Nat.zero_le _) dX7_run_14 rfl ⟨hG, hC, h⟩
  · have h := h.2 c1
    refine r_iload_n C dX7_run_5 rfl (j := 1) rfl ?_
    refine r_sipush (v := 2000) C dX7_run_6 (by decide) ?_
    refine r_icmp_le (tgt := 15) C dX7_run_9 (by decide) (fun c2 => ?_) (fun c2 => ?_)
    · have h := h.1 c2
      refine r_aload_n C dX7_run_15 rfl (j := 0) rfl ?_
      refine r_getE (e := 15) C (atR (at_c (a := 0) rfl)) fa_X7_33 rfl hC.1.2.2.2.2.1 (by decide) dX7_run_16 ?_
      refine r_get (v := .int (κ.1 15 3)) C (atR (at_c (a := 14) rfl)) fa_X7_118 rfl dX7_run_19 ?_
      refine r_topi (fun z3 e4 => ?_)
      have h := h z3 e4
      refine r_istore_n (lv' := [(2, Value.int z3), (0, Value.ref (B + 1)), (1, Value.int x1)]) C dX7_run_22 rfl (by decide) rfl ?_
      refine r_iconst (v := 0) C dX7_run_23 (by decide) ?_
      refine r_istore_n (lv' := [(3, Value.int 0), (2, Value.int z3), (0, Value.ref (B + 1)), (1, Value.int x1)]) C dX7_run_24 rfl (by decide) rfl ?_
      exact r_loc (by simp) h
    · have h := h.2 c2
      refine r_bipush (v := (-12)) C dX7_run_12 (by decide) ?_
      exact r_iretQ C E rfl (Nat.zero_le _) (Nat.zero_le _) dX7_run_14 rfl ⟨hG, hC, h⟩
theorem v_X7_run_25 {X : r_X} {w : r_V} {B n : Nat} {l : Launch} {Q : Int32 → Ku → Prop} {κ0 : Ku} (C : r_C X w B 4 cX7_run RX7) (E : r_E X l tX7_run) (hn : okN n) {κ : Ku} (hC : CoK n κ) (hG : Gr n κ0 κ) {x1 x2 x3 : Int32}
    (h : (x1 ≤ x3 → (Q ((κ.1 15 3) - x2) κ)) ∧ (¬ x1 ≤ x3 → (∃ Q2 : Ku → Prop, r_KV l w B n tX7_beginFrames [Value.ref (B + 1)] κ Q2 ∧ (∀ κ4 : Ku, Q2 κ4 → (∃ Q11 : Ku → Prop, r_KV l w B n tX7_markGoodSlots [Value.ref (B + 1)] κ4 Q11 ∧ (∀ κ13 : Ku, Q11 κ13 → (∃ Q20 : Ku → Prop, r_KV l w B n tX7_endFrames [Value.ref (B + 1)] κ13 Q20 ∧ (∀ κ22 : Ku, Q20 κ22 → (∃ Q29 : Ku → Prop, r_KV l w B n tX7_countIdleSlots [Value.ref (B + 1)] κ22 Q29 ∧ (∀ κ31 : Ku, Q29 κ31 → (∀ κ38 : Ku, κ38 = kl κ31 1 7 ((κ31.2.1 1 7) + 1) → (∀ z42 : Int32, z42 = x3 + 1 → (r_W X w B 4 0 0 (r_Z X w B tX7_run (ZKI n κ0 Q)) 25 [(0, Value.ref (B + 1)), (1, Value.int x1), (2, Value.int x2), (3, Value.int z42)] [] (shp n, κ38)))))))))))))) :
    r_W X w B 4 0 0 (r_Z X w B tX7_run (ZKI n κ0 Q)) 25 [(0, Value.ref (B + 1)), (1, Value.int x1), (2, Value.int x2), (3, Value.int x3)] [] (shp n, κ) := by
  refine r_iload_n C dX7_run_25 rfl (j := 3) rfl ?_
  refine r_iload_n C dX7_run_26 rfl (j := 1) rfl ?_
  refine r_icmp_ge (tgt := 62) C dX7_run_27 (by decide) (fun c1 => ?_) (fun c1 => ?_)
  · have h := h.1 c1
    refine r_aload_n C dX7_run_62 rfl (j := 0) rfl ?_
    refine r_getE (e := 15) C (atR (at_c (a := 0) rfl)) fa_X7_33 rfl hC.1.2.2.2.2.1 (by decide) dX7_run_63 ?_
    refine r_get (v := .int (κ.1 15 3)) C (atR (at_c (a := 14) rfl)) fa_X7_118 rfl dX7_run_66 ?_
    refine r_iload_n C dX7_run_69 rfl (j := 2) rfl ?_
    refine r_isub C dX7_run_70 ?_
    exact r_iretQ C E rfl (Nat.zero_le _) (Nat.zero_le _) dX7_run_71 rfl ⟨hG, hC, h⟩
  · have h := h.2 c1
    refine r_aload_n C dX7_run_30 rfl (j := 0) rfl ?_
    obtain ⟨Q2, m3, h⟩ := h
    refine r_callVV (rest := []) C E [] (atR (at_c (a := 0) rfl)) rfl ky_X7_beginFrames kl_X7_121 ki_X7_beginFrames kx_X7_beginFrames ⟨Nat.le_of_ble_eq_true rfl, Nat.le_of_ble_eq_true rfl⟩ ⟨rfl, rfl⟩ m3 rfl rfl (Nat.le_of_ble_eq_true rfl) (Nat.zero_le _) (Nat.zero_le _) dX7_run_31 (fun σ4 s5 q7 => ?_)
    obtain ⟨s4x, κ4⟩ := σ4
    simp only at s5
    subst s5
    obtain ⟨f8, C9, q7⟩ := q7
    have G10 := hG.trans f8
    have h := h κ4 q7
    refine r_aload_n C dX7_run_34 rfl (j := 0) rfl ?_
    obtain ⟨Q11, m12, h⟩ := h
    refine r_callVV (rest := []) C E [] (atR (at_c (a := 0) rfl)) rfl ky_X7_markGoodSlots kl_X7_124 ki_X7_markGoodSlots kx_X7_markGoodSlots ⟨Nat.le_of_ble_eq_true rfl, Nat.le_of_ble_eq_true rfl⟩ ⟨rfl, rfl⟩ m12 rfl rfl (Nat.le_of_ble_eq_true rfl) (Nat.zero_le _) (Nat.zero_le _) dX7_run_35 (fun σ13 s14 q16 => ?_)
    obtain ⟨s13x, κ13⟩ := σ13
    simp only at s14
    subst s14
    obtain ⟨f17, C18, q16⟩ := q16
    have G19 := G10.trans f17
    have h := h κ13 q16
    refine r_aload_n C dX7_run_38 rfl (j := 0) rfl ?_
    obtain ⟨Q20, m21, h⟩ := h
    refine r_callVV (rest := []) C E [] (atR (at_c (a := 0) rfl)) rfl ky_X7_endFrames kl_X7_127 ki_X7_endFrames kx_X7_endFrames ⟨Nat.le_of_ble_eq_true rfl, Nat.le_of_ble_eq_true rfl⟩ ⟨rfl, rfl⟩ m21 rfl rfl (Nat.le_of_ble_eq_true rfl) (Nat.zero_le _) (Nat.zero_le _) dX7_run_39 (fun σ22 s23 q25 => ?_)
    obtain ⟨s22x, κ22⟩ := σ22
    simp only at s23
    subst s23
    obtain ⟨f26, C27, q25⟩ := q25
    have G28 := G19.trans f26
    have h := h κ22 q25
    refine r_aload_n C dX7_run_42 rfl (j := 0) rfl ?_
    obtain ⟨Q29, m30, h⟩ := h
    refine r_callVV (rest := []) C E [] (atR (at_c (a := 0) rfl)) rfl ky_X7_countIdleSlots kl_X7_130 ki_X7_countIdleSlots kx_X7_countIdleSlots ⟨Nat.le_of_ble_eq_true rfl, Nat.le_of_ble_eq_true rfl⟩ ⟨rfl, rfl⟩ m30 rfl rfl (Nat.le_of_ble_eq_true rfl) (Nat.zero_le _) (Nat.zero_le _) dX7_run_43 (fun σ31 s32 q34 => ?_)
    obtain ⟨s31x, κ31⟩ := σ31
    simp only at s32
    subst s32
    obtain ⟨f35, C36, q34⟩ := q34
    have G37 := G28.trans f35
    have h := h κ31 q34
    refine r_aload_n C dX7_run_46 rfl (j := 0) rfl ?_
    refine r_dup C dX7_run_47 rfl ?_
    refine r_get (v := .long (κ31.2.1 1 7)) C (atR (at_c (a := 0) rfl)) fa_X7_50 rfl dX7_run_48 ?_
    refine r_lconst (v := 1) C dX7_run_51 (by decide) ?_
    refine r_ladd C dX7_run_52 ?_
    refine r_putL C (atR (at_c (a := 0) rfl)) fa_X7_50 rfl dX7_run_53 ?_
    refine r_namK (κ := kl κ31 1 7 ((κ31.2.1 1 7) + 1)) (fun κ38 e39 => ?_)
    have h := h κ38 e39
    have C40 : CoK n κ38 := by rw [e39]; exact C36
    have G41 : Gr n κ0 κ38 := by rw [e39]; exact G37.l (by unfold mOf; omega)
    obtain ⟨z42, e43⟩ : ∃ y : Int32, y = x3 + 1 := ⟨_, rfl⟩
    have h := h z42 e43
    refine r_iinc (v := z42) (lv' := [(3, Value.int z42), (0, Value.ref (B + 1)), (1, Value.int x1), (2, Value.int x2)]) C dX7_run_56 (k := 3) rfl (by rw [e43]; rfl) (by decide) rfl ?_
    refine r_goto (tgt := 25) C dX7_run_59 (by decide) ?_
    exact r_loc (by simp) h
theorem v_X7_event_0 {X : r_X} {w : r_V} {B n : Nat} {l : Launch} {Q : Int32 → Ku → Prop} {κ0 : Ku} (C : r_C X w B 3 cX7_event RX7) (E : r_E X l tX7_event) (hn : okN n) {κ : Ku} (hC : CoK n κ) (hG : Gr n κ0 κ) {x1 x2 : Int32}
    (h : (x1 < 0 → (Q (-1) κ)) ∧ (¬ x1 < 0 → (∃ Q2 : Int32 → Ku → Prop, r_KI l w B n tX1_told [Value.ref (B + 15)] κ Q2 ∧ (∀ (z6 : Int32) (κ4 : Ku), Q2 z6 κ4 → ((x1 < z6 → ((x2 = 0 → (vp_in x1 700 ∧ (Q (κ4.1 16 x1.toNatClampNeg) κ4))) ∧ (¬ x2 = 0 → ((x2 = 1 → (vp_in x1 700 ∧ (Q (κ4.1 17 x1.toNatClampNeg) κ4))) ∧ (¬ x2 = 1 → ((x2 = 2 → (vp_in x1 700 ∧ (Q (κ4.1 18 x1.toNatClampNeg) κ4))) ∧ (¬ x2 = 2 → (Q (-1) κ4)))))))) ∧ (¬ x1 < z6 → (Q (-1) κ4))))))) :
    r_W X w B 3 0 0 (r_Z X w B tX7_event (ZKI n κ0 Q)) 0 [(0, Value.ref (B + 1)), (1, Value.int x1), (2, Value.int x2)] [] (shp n, κ) := by
  refine r_iload_n C dX7_event_0 rfl (j := 1) rfl ?_
  refine r_if_lt (tgt := 15) C dX7_event_1 (by decide) (fun c1 => ?_) (fun c1 => ?_)
  · have h := h.1 c1
    refine r_iconst (v := (-1)) C dX7_event_15 (by decide) ?_
    exact r_iretQ C E rfl (Nat.zero_le _) (Nat.zero_le _) dX7_event_16 rfl ⟨hG, hC, h⟩
  · have h := h.2 c1
    refine r_iload_n C dX7_event_4 rfl (j := 1) rfl ?_
    refine r_aload_n C dX7_event_5 rfl (j := 0) rfl ?_
    refine r_getE (e := 15) C (atR (at_c (a := 0) rfl)) fa_X7_33 rfl hC.1.2.2.2.2.1 (by decide) dX7_event_6 ?_
    obtain ⟨Q2, m3, h⟩ := h
    refine r_callVI (rest := [Value.int x1]) C E [] (atR (at_c (a := 14) rfl)) rfl ky_X1_told kl_X7_133 ki_X1_told kx_X1_told ⟨Nat.le_of_ble_eq_true rfl, Nat.le_of_ble_eq_true rfl⟩ ⟨rfl, rfl⟩ m3 rfl rfl (Nat.le_of_ble_eq_true rfl) (Nat.zero_le _) (Nat.zero_le _) dX7_event_9 (fun z6 σ4 s5 q7 => ?_)
    obtain ⟨s4x, κ4⟩ := σ4
    simp only at s5
    subst s5
    obtain ⟨f8, C9, q7⟩ := q7
    have G10 := hG.trans f8
    have h := h z6 κ4 q7
    refine r_icmp_lt (tgt := 17) C dX7_event_12 (by decide) (fun c11 => ?_) (fun c11 => ?_)
    · have h := h.1 c11
      refine r_iload_n C dX7_event_17 rfl (j := 2) rfl ?_
      by_cases c12 : x2 = 0
      · have h := h.1 c12
        refine r_tableIn (tgt := 44) (off := 26) C dX7_event_18 (by rw [c12]; decide) (by rw [c12]; decide) (by rw [c12]; rfl) (by decide) ?_
        refine r_aload_n C dX7_event_44 rfl (j := 0) rfl ?_
        refine r_getE (e := 15) C (atR (at_c (a := 0) rfl)) fa_X7_33 rfl C9.1.2.2.2.2.1 (by decide) dX7_event_45 ?_
        refine r_getE (e := 16) C (atR (at_c (a := 14) rfl)) fa_X7_136 rfl C9.1.2.2.2.2.2.2.2.2.2.2.2.2.2.2.2.2.1 (by decide) dX7_event_48 ?_
        refine r_iload_n C dX7_event_51 rfl (j := 1) rfl ?_
        obtain ⟨g13, h⟩ := h
        refine r_iald (ti := 0) (n := 700) C (atR (at_c (a := 15) rfl)) ⟨rfl, fun _ => rfl⟩ g13 dX7_event_52 ?_
        exact r_iretQ C E rfl (Nat.zero_le _) (Nat.zero_le _) dX7_event_53 rfl ⟨G10, C9, h⟩
      have h := h.2 c12
      have c12 := r_neT c12
      by_cases c14 : x2 = 1
      · have h := h.1 c14
        refine r_tableIn (tgt := 54) (off := 36) C dX7_event_18 (by rw [c14]; decide) (by rw [c14]; decide) (by rw [c14]; rfl) (by decide) ?_
        refine r_aload_n C dX7_event_54 rfl (j := 0) rfl ?_
        refine r_getE (e := 15) C (atR (at_c (a := 0) rfl)) fa_X7_33 rfl C9.1.2.2.2.2.1 (by decide) dX7_event_55 ?_
        refine r_getE (e := 17) C (atR (at_c (a := 14) rfl)) fa_X7_140 rfl C9.1.2.2.2.2.2.2.2.2.2.2.2.2.2.2.2.2.2.1 (by decide) dX7_event_58 ?_
        refine r_iload_n C dX7_event_61 rfl (j := 1) rfl ?_
        obtain ⟨g15, h⟩ := h
        refine r_iald (ti := 0) (n := 700) C (atR (at_c (a := 16) rfl)) ⟨rfl, fun _ => rfl⟩ g15 dX7_event_62 ?_
        exact r_iretQ C E rfl (Nat.zero_le _) (Nat.zero_le _) dX7_event_63 rfl ⟨G10, C9, h⟩
      have h := h.2 c14
      have c14 := r_neT c14
      by_cases c16 : x2 = 2
      · have h := h.1 c16
        refine r_tableIn (tgt := 64) (off := 46) C dX7_event_18 (by rw [c16]; decide) (by rw [c16]; decide) (by rw [c16]; rfl) (by decide) ?_
        refine r_aload_n C dX7_event_64 rfl (j := 0) rfl ?_
        refine r_getE (e := 15) C (atR (at_c (a := 0) rfl)) fa_X7_33 rfl C9.1.2.2.2.2.1 (by decide) dX7_event_65 ?_
        refine r_getE (e := 18) C (atR (at_c (a := 14) rfl)) fa_X7_143 rfl C9.1.2.2.2.2.2.2.2.2.2.2.2.2.2.2.2.2.2.2 (by decide) dX7_event_68 ?_
        refine r_iload_n C dX7_event_71 rfl (j := 1) rfl ?_
        obtain ⟨g17, h⟩ := h
        refine r_iald (ti := 0) (n := 700) C (atR (at_c (a := 17) rfl)) ⟨rfl, fun _ => rfl⟩ g17 dX7_event_72 ?_
        exact r_iretQ C E rfl (Nat.zero_le _) (Nat.zero_le _) dX7_event_73 rfl ⟨G10, C9, h⟩
      have h := h.2 c16
      have c16 := r_neT c16
      refine r_tableOut (tgt := 74) C dX7_event_18 (by clear h; simp at *; omega) (by decide) ?_
      refine r_iconst (v := (-1)) C dX7_event_74 (by decide) ?_
      exact r_iretQ C E rfl (Nat.zero_le _) (Nat.zero_le _) dX7_event_75 rfl ⟨G10, C9, h⟩
    · have h := h.2 c11
      refine r_iconst (v := (-1)) C dX7_event_15 (by decide) ?_
      exact r_iretQ C E rfl (Nat.zero_le _) (Nat.zero_le _) dX7_event_16 rfl ⟨G10, C9, h⟩
theorem v_X7_state_0 {X : r_X} {w : r_V} {B n : Nat} {l : Launch} {Q : Int32 → Ku → Prop} {κ0 : Ku} (C : r_C X w B 4 cX7_state RX7) (E : r_E X l tX7_state) (hn : okN n) {κ : Ku} (hC : CoK n κ) (hG : Gr n κ0 κ) {x1 x2 : Int32}
    (h : ∃ Q1 : Int32 → Ku → Prop, r_KI l w B n tX7_isStation [Value.ref (B + 1), Value.int x1] κ Q1 ∧ (∀ (z5 : Int32) (κ3 : Ku), Q1 z5 κ3 → ((z5 = 0 → (Q (-11) κ3)) ∧ (¬ z5 = 0 → (vp_in x1 n ∧ (∀ b13 : Nat, b13 = 22 + 14 * x1.toNatClampNeg → ((x2 = 0 → (Q (κ3.1 b13 3) κ3)) ∧ (¬ x2 = 0 → ((x2 = 1 → (Q (κ3.1 b13 5) κ3)) ∧ (¬ x2 = 1 → ((x2 = 2 → (Q (κ3.1 b13 4) κ3)) ∧ (¬ x2 = 2 → ((x2 = 3 → (∃ Q20 : Int64 → Ku → Prop, r_KL l w B n tJ9_max_f86c9 [Value.long 0, Value.long ((κ3.2.1 b13 8) - (κ3.2.1 1 7))] κ3 Q20 ∧ (∀ (y24 : Int64) (κ22 : Ku), Q20 y24 κ22 → (Q y24.toInt32 κ22)))) ∧ (¬ x2 = 3 → ((x2 = 4 → (Q (κ3.1 (κ3.2.2 b13 14) 0) κ3)) ∧ (¬ x2 = 4 → ((x2 = 5 → (Q (κ3.1 b13 6) κ3)) ∧ (¬ x2 = 5 → ((x2 = 6 → (Q (κ3.1 b13 7) κ3)) ∧ (¬ x2 = 6 → ((x2 = 7 → (Q (κ3.1 (b13 + 1) 1) κ3)) ∧ (¬ x2 = 7 → (Q (-12) κ3))))))))))))))))))))))) :
    r_W X w B 4 0 0 (r_Z X w B tX7_state (ZKI n κ0 Q)) 0 [(0, Value.ref (B + 1)), (1, Value.int x1), (2, Value.int x2)] [] (shp n, κ) := by
  refine r_aload_n C dX7_state_0 rfl (j := 0) rfl ?_
  refine r_iload_n C dX7_state_1 rfl (j := 1) rfl ?_
  obtain ⟨Q1, m2, h⟩ := h
  refine r_callVI (rest := []) C E [Value.int x1] (atR (at_c (a := 0) rfl)) rfl ky_X7_isStation kl_X7_75 ki_X7_isStation kx_X7_isStation ⟨Nat.le_of_ble_eq_true rfl, Nat.le_of_ble_eq_true rfl⟩ ⟨rfl, rfl⟩ m2 rfl rfl (Nat.le_of_ble_eq_true rfl) (Nat.zero_le _) (Nat.zero_le _) dX7_state_2 (fun z5 σ3 s4 q6 => ?_)
  obtain ⟨s3x, κ3⟩ := σ3
  simp only at s4
  subst s4
  obtain ⟨f7, C8, q6⟩ := q6
  have G9 := hG.trans f7
  have h := h z5 κ3 q6
  refine r_if_ne (tgt := 11) C dX7_state_5 (by decide) (fun c10 => ?_) (fun c10 => ?_)
  · have h := h.2 c10
    refine r_aload_n C dX7_state_11 rfl (j := 0) rfl ?_
    refine r_getE (e := 21) C (atR (at_c (a := 0) rfl)) fa_X7_68 rfl C8.1.1 (by decide) dX7_state_12 ?_
    refine r_iload_n C dX7_state_15 rfl (j := 1) rfl ?_
    obtain ⟨g11, h⟩ := h
    have o12 : atS n (22 + 14 * x1.toNatClampNeg) = some (.inl 6) := at_st hn (vp_lt g11)
    refine r_aalE (e := 22 + 14 * x1.toNatClampNeg) C (atR at_21) ⟨rfl, fun _ => rfl⟩ g11 (C8.2.2.2.2 _ (vp_lt g11)) (by omega) dX7_state_16 ?_
    refine r_topa (fun b13 e14 => ?_)
    have h := h b13 e14
    have o15 : atS n b13 = some (.inl 6) := by rw [e14]; exact o12
    refine r_astore_n (lv' := [(3, Value.ref (B + b13)), (0, Value.ref (B + 1)), (1, Value.int x1), (2, Value.int x2)]) C dX7_state_17 rfl (by decide) rfl ?_
    refine r_iload_n C dX7_state_18 rfl (j := 3) rfl ?_
    by_cases c16 : x2 = 0
    · have h := h.1 c16
      refine r_tableIn (tgt := 64) (off := 45) C dX7_state_19 (by rw [c16]; decide) (by rw [c16]; decide) (by rw [c16]; rfl) (by decide) ?_
      refine r_aload_n C dX7_state_64 rfl (j := 0) rfl ?_
      refine r_get (v := .int (κ3.1 b13 3)) C (atR o15) fa_X7_146 rfl dX7_state_65 ?_
      exact r_iretQ C E rfl (Nat.zero_le _) (Nat.zero_le _) dX7_state_68 rfl ⟨G9, C8, h⟩
    have h := h.2 c16
    have c16 := r_neT c16
    by_cases c17 : x2 = 1
    · have h := h.1 c17
      refine r_tableIn (tgt := 69) (off := 50) C dX7_state_19 (by rw [c17]; decide) (by rw [c17]; decide) (by rw [c17]; rfl) (by decide) ?_
      refine r_aload_n C dX7_state_69 rfl (j := 0) rfl ?_
      refine r_get (v := .int (κ3.1 b13 5)) C (atR o15) fa_X7_149 rfl dX7_state_70 ?_
      exact r_iretQ C E rfl (Nat.zero_le _) (Nat.zero_le _) dX7_state_73 rfl ⟨G9, C8, h⟩
    have h := h.2 c17
    have c17 := r_neT c17
    by_cases c18 : x2 = 2
    · have h := h.1 c18
      refine r_tableIn (tgt := 74) (off := 55) C dX7_state_19 (by rw [c18]; decide) (by rw [c18]; decide) (by rw [c18]; rfl) (by decide) ?_
      refine r_aload_n C dX7_state_74 rfl (j := 0) rfl ?_
      refine r_get (v := .int (κ3.1 b13 4)) C (atR o15) fa_X7_152 rfl dX7_state_75 ?_
      exact r_iretQ C E rfl (Nat.zero_le _) (Nat.zero_le _) dX7_state_78 rfl ⟨G9, C8, h⟩
    have h := h.2 c18
    have c18 := r_neT c18
    by_cases c19 : x2 = 3
    · have h := h.1 c19
      refine r_tableIn (tgt := 79) (off := 60) C dX7_state_19 (by rw [c19]; decide) (by rw [c19]; decide) (by rw [c19]; rfl) (by decide) ?_
      refine r_lconst (v := 0) C dX7_state_79 (by decide) ?_
      refine r_aload_n C dX7_state_80 rfl (j := 0) rfl ?_
      refine r_get (v := .long (κ3.2.1 b13 8)) C (atR o15) fa_X7_155 rfl dX7_state_81 ?_
      refine r_aload_n C dX7_state_84 rfl (j := 1) rfl ?_
      refine r_get (v := .long (κ3.2.1 1 7)) C (atR (at_c (a := 0) rfl)) fa_X7_50 rfl dX7_state_85 ?_
      refine r_lsub C dX7_state_88 ?_
      obtain ⟨Q20, m21, h⟩ := h
      refine r_callSL (rest := []) C E [Value.long 0, Value.long ((κ3.2.1 b13 8) - (κ3.2.1 1 7))] ky_J9_max_f86c9 kl_X7_158 ks_J9_max_f86c9 ⟨Nat.le_of_ble_eq_true rfl, Nat.le_of_ble_eq_true rfl⟩ ⟨rfl, rfl⟩ m21 rfl rfl (Nat.le_of_ble_eq_true rfl) (Nat.zero_le _) (Nat.zero_le _) dX7_state_89 (fun y24 σ22 s23 q25 => ?_)
      obtain ⟨s22x, κ22⟩ := σ22
      simp only at s23
      subst s23
      obtain ⟨f26, C27, q25⟩ := q25
      have G28 := G9.trans f26
      have h := h y24 κ22 q25
      refine r_l2i (v := y24.toInt32) C dX7_state_92 rfl ?_
      exact r_iretQ C E rfl (Nat.zero_le _) (Nat.zero_le _) dX7_state_93 rfl ⟨G28, C27, h⟩
    have h := h.2 c19
    have c19 := r_neT c19
    by_cases c29 : x2 = 4
    · have h := h.1 c29
      refine r_tableIn (tgt := 94) (off := 75) C dX7_state_19 (by rw [c29]; decide) (by rw [c29]; decide) (by rw [c29]; rfl) (by decide) ?_
      refine r_aload_n C dX7_state_94 rfl (j := 0) rfl ?_
      refine r_getE (e := κ3.2.2 b13 14) C (atR o15) fa_X7_161 rfl rfl (r_atN (atR (κ := κ3) (C8.2.2.2.1 _ o15).2.2.2.2)) dX7_state_95 ?_
      refine r_get (v := .int (κ3.1 (κ3.2.2 b13 14) 0)) C (atR (C8.2.2.2.1 _ o15).2.2.2.2) fa_X7_165 rfl dX7_state_98 ?_
      exact r_iretQ C E rfl (Nat.zero_le _) (Nat.zero_le _) dX7_state_101 rfl ⟨G9, C8, h⟩
    have h := h.2 c29
    have c29 := r_neT c29
    by_cases c30 : x2 = 5
    · have h := h.1 c30
      refine r_tableIn (tgt := 102) (off := 83) C dX7_state_19 (by rw [c30]; decide) (by rw [c30]; decide) (by rw [c30]; rfl) (by decide) ?_
      refine r_aload_n C dX7_state_102 rfl (j := 0) rfl ?_
      refine r_get (v := .int (κ3.1 b13 6)) C (atR o15) fa_X7_169 rfl dX7_state_103 ?_
      exact r_iretQ C E rfl (Nat.zero_le _) (Nat.zero_le _) dX7_state_106 rfl ⟨G9, C8, h⟩
    have h := h.2 c30
    have c30 := r_neT c30
    by_cases c31 : x2 = 6
    · have h := h.1 c31
      refine r_tableIn (tgt := 107) (off := 88) C dX7_state_19 (by rw [c31]; decide) (by rw [c31]; decide) (by rw [c31]; rfl) (by decide) ?_
      refine r_aload_n C dX7_state_107 rfl (j := 0) rfl ?_
      refine r_get (v := .int (κ3.1 b13 7)) C (atR o15) fa_X7_172 rfl dX7_state_108 ?_
      exact r_iretQ C E rfl (Nat.zero_le _) (Nat.zero_le _) dX7_state_111 rfl ⟨G9, C8, h⟩
    have h := h.2 c31
    have c31 := r_neT c31
    by_cases c32 : x2 = 7
    · have h := h.1 c32
      refine r_tableIn (tgt := 112) (off := 93) C dX7_state_19 (by rw [c32]; decide) (by rw [c32]; decide) (by rw [c32]; rfl) (by decide) ?_
      refine r_aload_n C dX7_state_112 rfl (j := 0) rfl ?_
      refine r_getE (e := b13 + 1) C (atR o15) fa_X7_96 rfl (C8.2.2.2.1 _ o15).1 (r_atN (atR (κ := κ3) (at_stat hn o15).1)) dX7_state_113 ?_
      refine r_get (v := .int (κ3.1 (b13 + 1) 1)) C (atR (at_stat hn o15).1) fa_X7_103 rfl dX7_state_116 ?_
      exact r_iretQ C E rfl (Nat.zero_le _) (Nat.zero_le _) dX7_state_119 rfl ⟨G9, C8, h⟩
    have h := h.2 c32
    have c32 := r_neT c32
    refine r_tableOut (tgt := 120) C dX7_state_19 (by clear h; simp at *; omega) (by decide) ?_
    refine r_bipush (v := (-12)) C dX7_state_120 (by decide) ?_
    exact r_iretQ C E rfl (Nat.zero_le _) (Nat.zero_le _) dX7_state_122 rfl ⟨G9, C8, h⟩
  · have h := h.1 c10
    refine r_bipush (v := (-11)) C dX7_state_8 (by decide) ?_
    exact r_iretQ C E rfl (Nat.zero_le _) (Nat.zero_le _) dX7_state_10 rfl ⟨G9, C8, h⟩
theorem v_X7_sent_0 {X : r_X} {w : r_V} {B n : Nat} {l : Launch} {Q : Int32 → Ku → Prop} {κ0 : Ku} (C : r_C X w B 3 cX7_sent RX7) (E : r_E X l tX7_sent) (hn : okN n) {κ : Ku} (hC : CoK n κ) (hG : Gr n κ0 κ) {x1 x2 : Int32}
    (h : ∃ Q1 : Int32 → Ku → Prop, r_KI l w B n tX7_isStation [Value.ref (B + 1), Value.int x1] κ Q1 ∧ (∀ (z5 : Int32) (κ3 : Ku), Q1 z5 κ3 → ((z5 = 0 → (Q (-11) κ3)) ∧ (¬ z5 = 0 → ((x2 < 1 → (Q (-12) κ3)) ∧ (¬ x2 < 1 → ((x2 ≤ 4 → (vp_in x1 n ∧ (vp_in x2 5 ∧ (Q (κ3.1 ((22 + 14 * x1.toNatClampNeg) + 5) x2.toNatClampNeg) κ3)))) ∧ (¬ x2 ≤ 4 → (Q (-12) κ3))))))))) :
    r_W X w B 3 0 0 (r_Z X w B tX7_sent (ZKI n κ0 Q)) 0 [(0, Value.ref (B + 1)), (1, Value.int x1), (2, Value.int x2)] [] (shp n, κ) := by
  refine r_aload_n C dX7_sent_0 rfl (j := 0) rfl ?_
  refine r_iload_n C dX7_sent_1 rfl (j := 1) rfl ?_
  obtain ⟨Q1, m2, h⟩ := h
  refine r_callVI (rest := []) C E [Value.int x1] (atR (at_c (a := 0) rfl)) rfl ky_X7_isStation kl_X7_75 ki_X7_isStation kx_X7_isStation ⟨Nat.le_of_ble_eq_true rfl, Nat.le_of_ble_eq_true rfl⟩ ⟨rfl, rfl⟩ m2 rfl rfl (Nat.le_of_ble_eq_true rfl) (Nat.zero_le _) (Nat.zero_le _) dX7_sent_2 (fun z5 σ3 s4 q6 => ?_)
  obtain ⟨s3x, κ3⟩ := σ3
  simp only at s4
  subst s4
  obtain ⟨f7, C8, q6⟩ := q6
  have G9 := hG.trans f7
  have h := h z5 κ3 q6
  refine r_if_ne (tgt := 11) C dX7_sent_5 (by decide) (fun c10 => ?_) (fun c10 => ?_)
  · have h := h.2 c10
    refine r_iload_n C dX7_sent_11 rfl (j := 2) rfl ?_
    refine r_iconst (v := 1) C dX7_sent_12 (by decide) ?_
    refine r_icmp_lt (tgt := 21) C dX7_sent_13 (by decide) (fun c11 => ?_) (fun c11 => ?_)
    · have h := h.1 c11
      refine r_bipush (v := (-12)) C dX7_sent_21 (by decide) ?_
      exact r_iretQ C E rfl (Nat.zero_le _) (Nat.zero_le _) dX7_sent_23 rfl ⟨G9, C8, h⟩
    · have h := h.2 c11
      refine r_iload_n C dX7_sent_16 rfl (j := 2) rfl ?_
      refine r_iconst (v := 4) C dX7_sent_17 (by decide) ?_
      refine r_icmp_le (tgt := 24) C dX7_sent_18 (by decide) (fun c12 => ?_) (fun c12 => ?_)
      · have h := h.1 c12
        refine r_aload_n C dX7_sent_24 rfl (j := 0) rfl ?_
        refine r_getE (e := 21) C (atR (at_c (a := 0) rfl)) fa_X7_68 rfl C8.1.1 (by decide) dX7_sent_25 ?_
        refine r_iload_n C dX7_sent_28 rfl (j := 1) rfl ?_
        obtain ⟨g13, h⟩ := h
        have o14 : atS n (22 + 14 * x1.toNatClampNeg) = some (.inl 6) := at_st hn (vp_lt g13)
        refine r_aalE (e := 22 + 14 * x1.toNatClampNeg) C (atR at_21) ⟨rfl, fun _ => rfl⟩ g13 (C8.2.2.2.2 _ (vp_lt g13)) (by omega) dX7_sent_29 ?_
        refine r_getE (e := (22 + 14 * x1.toNatClampNeg) + 5) C (atR o14) fa_X7_175 rfl (C8.2.2.2.1 _ o14).2.2.1 (by omega) dX7_sent_30 ?_
        refine r_iload_n C dX7_sent_33 rfl (j := 2) rfl ?_
        obtain ⟨g15, h⟩ := h
        refine r_iald (ti := 0) (n := 5) C (atR (at_stat hn o14).2.2.2.2.1) ⟨rfl, fun _ => rfl⟩ g15 dX7_sent_34 ?_
        exact r_iretQ C E rfl (Nat.zero_le _) (Nat.zero_le _) dX7_sent_35 rfl ⟨G9, C8, h⟩
      · have h := h.2 c12
        refine r_bipush (v := (-12)) C dX7_sent_21 (by decide) ?_
        exact r_iretQ C E rfl (Nat.zero_le _) (Nat.zero_le _) dX7_sent_23 rfl ⟨G9, C8, h⟩
  · have h := h.1 c10
    refine r_bipush (v := (-11)) C dX7_sent_8 (by decide) ?_
    exact r_iretQ C E rfl (Nat.zero_le _) (Nat.zero_le _) dX7_sent_10 rfl ⟨G9, C8, h⟩
theorem v_X7_now_0 {X : r_X} {w : r_V} {B n : Nat} {l : Launch} {Q : Int64 → Ku → Prop} {κ0 : Ku} (C : r_C X w B 1 cX7_now RX7) (E : r_E X l tX7_now) (hn : okN n) {κ : Ku} (hC : CoK n κ) (hG : Gr n κ0 κ)
    (h : Q (κ.2.1 1 7) κ) :
    r_W X w B 1 0 0 (r_Z X w B tX7_now (ZKL n κ0 Q)) 0 [(0, Value.ref (B + 1))] [] (shp n, κ) := by
  refine r_aload_n C dX7_now_0 rfl (j := 0) rfl ?_
  refine r_get (v := .long (κ.2.1 1 7)) C (atR (at_c (a := 0) rfl)) fa_X7_50 rfl dX7_now_1 ?_
  exact r_lretQ C E rfl (Nat.zero_le _) (Nat.zero_le _) dX7_now_4 rfl ⟨hG, hC, h⟩
theorem v_X7_isStation_0 {X : r_X} {w : r_V} {B n : Nat} {l : Launch} {Q : Int32 → Ku → Prop} {κ0 : Ku} (C : r_C X w B 2 cX7_isStation RX7) (E : r_E X l tX7_isStation) (hn : okN n) {κ : Ku} (hC : CoK n κ) (hG : Gr n κ0 κ) {x1 : Int32}
    (h : (x1 < 0 → (Q 0 κ)) ∧ (¬ x1 < 0 → (∀ z3 : Int32, z3 = (if (nI n) ≤ x1 then (0 : Int32) else (1 : Int32)) → ((z3 = 0 ∨ z3 = 1) ∧ (Q z3 κ))))) :
    r_W X w B 2 0 0 (r_Z X w B tX7_isStation (ZKI n κ0 Q)) 0 [(0, Value.ref (B + 1)), (1, Value.int x1)] [] (shp n, κ) := by
  refine r_iload_n C dX7_isStation_0 rfl (j := 1) rfl ?_
  refine r_if_lt (tgt := 17) C dX7_isStation_1 (by decide) (fun c1 => ?_) (fun c1 => ?_)
  · have h := h.1 c1
    refine r_iconst (v := 0) C dX7_isStation_17 (by decide) ?_
    exact r_zretQ C E rfl (by decide) (Nat.zero_le _) (Nat.zero_le _) dX7_isStation_18 rfl ⟨hG, hC, h⟩
  · have h := h.2 c1
    refine r_iload_n C dX7_isStation_4 rfl (j := 1) rfl ?_
    refine r_aload_n C dX7_isStation_5 rfl (j := 0) rfl ?_
    refine r_getE (e := 21) C (atR (at_c (a := 0) rfl)) fa_X7_68 rfl hC.1.1 (by decide) dX7_isStation_6 ?_
    refine r_alen (v := nI n) C (atR at_21) ⟨rfl, fun _ => rfl⟩ rfl dX7_isStation_9 ?_
    have k5 : ∀ z3 : Int32, z3 = (if (nI n) ≤ x1 then (0 : Int32) else (1 : Int32)) → r_W X w B 2 0 0 (r_Z X w B tX7_isStation (ZKI n κ0 Q)) 18 [(0, Value.ref (B + 1)), (1, Value.int x1)] [Value.int z3] (shp n, κ) := by
      intro z3 e4
      have h := h z3 e4
      obtain ⟨g6, h⟩ := h
      exact r_zretQ C E rfl g6 (Nat.zero_le _) (Nat.zero_le _) dX7_isStation_18 rfl ⟨hG, hC, h⟩
    clear h
    refine r_icmp_ge (tgt := 17) C dX7_isStation_10 (by decide) (fun c2 => ?_) (fun c2 => ?_)
    · have c2 : (nI n) ≤ x1 := c2
      refine r_iconst (v := 0) C dX7_isStation_17 (by decide) ?_
      exact k5 _ (by rw [if_pos c2] <;> rfl)
    · have c2 : ¬ (nI n) ≤ x1 := c2
      refine r_iconst (v := 1) C dX7_isStation_13 (by decide) ?_
      refine r_goto (tgt := 18) C dX7_isStation_14 (by decide) ?_
      exact k5 _ (by rw [if_neg c2] <;> rfl)
theorem v_X7_drawCount_0 {X : r_X} {w : r_V} {B n : Nat} {l : Launch} {Q : Ku → Prop} {κ0 : Ku} (C : r_C X w B 2 cX7_drawCount RX7) (E : r_E X l tX7_drawCount) (hn : okN n) {κ : Ku} (hC : CoK n κ) (hG : Gr n κ0 κ) {a1 : Nat} (o1 : atS n a1 = some (.inl 6))
    (h : ∃ Q1 : Int32 → Ku → Prop, r_KI l w B n tX0_draw [Value.ref (B + 2), Value.int ((κ.1 a1 3) + 1)] κ Q1 ∧ (∀ (z5 : Int32) (κ3 : Ku), Q1 z5 κ3 → (∀ κ10 : Ku, κ10 = ki κ3 a1 5 z5 → (Q κ10)))) :
    r_W X w B 2 0 0 (r_Z X w B tX7_drawCount (ZKV n κ0 Q)) 0 [(0, Value.ref (B + 1)), (1, Value.ref (B + a1))] [] (shp n, κ) := by
  refine r_aload_n C dX7_drawCount_0 rfl (j := 1) rfl ?_
  refine r_aload_n C dX7_drawCount_1 rfl (j := 0) rfl ?_
  refine r_getE (e := 2) C (atR (at_c (a := 0) rfl)) fa_X7_10 rfl hC.1.2.1 (by decide) dX7_drawCount_2 ?_
  refine r_aload_n C dX7_drawCount_5 rfl (j := 1) rfl ?_
  refine r_get (v := .int (κ.1 a1 3)) C (atR o1) fa_X7_146 rfl dX7_drawCount_6 ?_
  refine r_iconst (v := 1) C dX7_drawCount_9 (by decide) ?_
  refine r_iadd C dX7_drawCount_10 ?_
  obtain ⟨Q1, m2, h⟩ := h
  refine r_callVI (rest := [Value.ref (B + a1)]) C E [Value.int ((κ.1 a1 3) + 1)] (atR (at_c (a := 1) rfl)) rfl ky_X0_draw kl_X7_178 ki_X0_draw kx_X0_draw ⟨Nat.le_of_ble_eq_true rfl, Nat.le_of_ble_eq_true rfl⟩ ⟨rfl, rfl⟩ m2 rfl rfl (Nat.le_of_ble_eq_true rfl) (Nat.zero_le _) (Nat.zero_le _) dX7_drawCount_11 (fun z5 σ3 s4 q6 => ?_)
  obtain ⟨s3x, κ3⟩ := σ3
  simp only at s4
  subst s4
  obtain ⟨f7, C8, q6⟩ := q6
  have G9 := hG.trans f7
  have h := h z5 κ3 q6
  refine r_putI C (atR o1) fa_X7_149 rfl rfl rfl dX7_drawCount_14 ?_
  refine r_namK (κ := ki κ3 a1 5 z5) (fun κ10 e11 => ?_)
  have h := h κ10 e11
  have C12 : CoK n κ10 := by rw [e11]; exact C8
  have G13 : Gr n κ0 κ10 := by rw [e11]; exact G9.i (by have q := at_stat hn o1; unfold mOf at *; omega)
  exact r_vretQ C E rfl (Nat.zero_le _) (Nat.zero_le _) dX7_drawCount_17 rfl ⟨G13, C12, h⟩
theorem v_X7_beginFrames_0 {X : r_X} {w : r_V} {B n : Nat} {l : Launch} {Q : Ku → Prop} {κ0 : Ku} (C : r_C X w B 5 cX7_beginFrames RX7) (E : r_E X l tX7_beginFrames) (hn : okN n) {κ : Ku} (hC : CoK n κ) (hG : Gr n κ0 κ)
    (h : ∀ κ1 : Ku, κ1 = ki κ 1 8 0 → (∀ z5 : Int32, z5 = nI n → (r_W X w B 5 0 0 (r_Z X w B tX7_beginFrames (ZKV n κ0 Q)) 15 [(0, Value.ref (B + 1)), (1, Value.ref (B + 21)), (2, Value.int z5), (3, Value.int 0)] [] (shp n, κ1)))) :
    r_W X w B 5 0 0 (r_Z X w B tX7_beginFrames (ZKV n κ0 Q)) 0 [(0, Value.ref (B + 1))] [] (shp n, κ) := by
  refine r_aload_n C dX7_beginFrames_0 rfl (j := 0) rfl ?_
  refine r_iconst (v := 0) C dX7_beginFrames_1 (by decide) ?_
  refine r_putI C (atR (at_c (a := 0) rfl)) fa_X7_54 rfl rfl rfl dX7_beginFrames_2 ?_
  refine r_namK (κ := ki κ 1 8 0) (fun κ1 e2 => ?_)
  have h := h κ1 e2
  have C3 : CoK n κ1 := by rw [e2]; exact hC
  have G4 : Gr n κ0 κ1 := by rw [e2]; exact hG.i (by unfold mOf; omega)
  refine r_aload_n C dX7_beginFrames_5 rfl (j := 0) rfl ?_
  refine r_getE (e := 21) C (atR (at_c (a := 0) rfl)) fa_X7_68 rfl C3.1.1 (by decide) dX7_beginFrames_6 ?_
  refine r_astore_n (lv' := [(1, Value.ref (B + 21)), (0, Value.ref (B + 1))]) C dX7_beginFrames_9 rfl (by decide) rfl ?_
  refine r_aload_n C dX7_beginFrames_10 rfl (j := 0) rfl ?_
  refine r_alen (v := nI n) C (atR at_21) ⟨rfl, fun _ => rfl⟩ rfl dX7_beginFrames_11 ?_
  refine r_topi (fun z5 e6 => ?_)
  have h := h z5 e6
  refine r_istore_n (lv' := [(2, Value.int z5), (1, Value.ref (B + 21)), (0, Value.ref (B + 1))]) C dX7_beginFrames_12 rfl (by decide) rfl ?_
  refine r_iconst (v := 0) C dX7_beginFrames_13 (by decide) ?_
  refine r_istore_n (lv' := [(3, Value.int 0), (2, Value.int z5), (1, Value.ref (B + 21)), (0, Value.ref (B + 1))]) C dX7_beginFrames_14 rfl (by decide) rfl ?_
  exact r_loc (by simp) h
theorem v_X7_beginFrames_15 {X : r_X} {w : r_V} {B n : Nat} {l : Launch} {Q : Ku → Prop} {κ0 : Ku} (C : r_C X w B 5 cX7_beginFrames RX7) (E : r_E X l tX7_beginFrames) (hn : okN n) {κ : Ku} (hC : CoK n κ) (hG : Gr n κ0 κ) {x2 x3 : Int32}
    (h : (x2 ≤ x3 → (Q κ)) ∧ (¬ x2 ≤ x3 → (vp_in x3 n ∧ (∀ b4 : Nat, b4 = 22 + 14 * x3.toNatClampNeg → (((κ.1 b4 9) = 0 → (r_W X w B 5 0 0 (r_Z X w B tX7_beginFrames (ZKV n κ0 Q)) 52 [(0, Value.ref (B + 1)), (1, Value.ref (B + 21)), (2, Value.int x2), (3, Value.int x3), (4, Value.ref (B + b4))] [] (shp n, κ))) ∧ (¬ (κ.1 b4 9) = 0 → (((κ.2.1 1 7) < (κ.2.1 b4 11) → (r_W X w B 5 0 0 (r_Z X w B tX7_beginFrames (ZKV n κ0 Q)) 52 [(0, Value.ref (B + 1)), (1, Value.ref (B + 21)), (2, Value.int x2), (3, Value.int x3), (4, Value.ref (B + b4))] [] (shp n, κ))) ∧ (¬ (κ.2.1 1 7) < (κ.2.1 b4 11) → (∃ Q9 : Ku → Prop, r_KV l w B n tX7_failAttempt [Value.ref (B + 1), Value.ref (B + b4)] κ Q9 ∧ (∀ κ11 : Ku, Q9 κ11 → (r_W X w B 5 0 0 (r_Z X w B tX7_beginFrames (ZKV n κ0 Q)) 52 [(0, Value.ref (B + 1)), (1, Value.ref (B + 21)), (2, Value.int x2), (3, Value.int x3), (4, Value.ref (B + b4))] [] (shp n, κ11)))))))))))) :
    r_W X w B 5 0 0 (r_Z X w B tX7_beginFrames (ZKV n κ0 Q)) 15 [(0, Value.ref (B + 1)), (1, Value.ref (B + 21)), (2, Value.int x2), (3, Value.int x3)] [] (shp n, κ) := by
  refine r_iload_n C dX7_beginFrames_15 rfl (j := 3) rfl ?_
  refine r_iload_n C dX7_beginFrames_16 rfl (j := 2) rfl ?_
  refine r_icmp_ge (tgt := 133) C dX7_beginFrames_17 (by decide) (fun c1 => ?_) (fun c1 => ?_)
  · have h := h.1 c1
    exact r_vretQ C E rfl (Nat.zero_le _) (Nat.zero_le _) dX7_beginFrames_133 rfl ⟨hG, hC, h⟩
  · have h := h.2 c1
    refine r_aload_n C dX7_beginFrames_20 rfl (j := 1) rfl ?_
    refine r_iload_n C dX7_beginFrames_21 rfl (j := 3) rfl ?_
    obtain ⟨g2, h⟩ := h
    have o3 : atS n (22 + 14 * x3.toNatClampNeg) = some (.inl 6) := at_st hn (vp_lt g2)
    refine r_aalE (e := 22 + 14 * x3.toNatClampNeg) C (atR at_21) ⟨rfl, fun _ => rfl⟩ g2 (hC.2.2.2.2 _ (vp_lt g2)) (by omega) dX7_beginFrames_22 ?_
    refine r_topa (fun b4 e5 => ?_)
    have h := h b4 e5
    have o6 : atS n b4 = some (.inl 6) := by rw [e5]; exact o3
    refine r_astore (lv' := [(4, Value.ref (B + b4)), (0, Value.ref (B + 1)), (1, Value.ref (B + 21)), (2, Value.int x2), (3, Value.int x3)]) C dX7_beginFrames_23 (by decide) rfl ?_
    refine r_aload C dX7_beginFrames_25 (j := 0) rfl ?_
    refine r_get (v := .int (κ.1 b4 9)) C (atR o6) fa_X7_182 rfl dX7_beginFrames_27 ?_
    refine r_if_eq (tgt := 52) C dX7_beginFrames_30 (by decide) (fun c7 => ?_) (fun c7 => ?_)
    · have h := h.1 c7
      exact r_loc (by simp) h
    · have h := h.2 c7
      refine r_aload C dX7_beginFrames_33 (j := 0) rfl ?_
      refine r_get (v := .long (κ.2.1 b4 11)) C (atR o6) fa_X7_185 rfl dX7_beginFrames_35 ?_
      refine r_aload_n C dX7_beginFrames_38 rfl (j := 1) rfl ?_
      refine r_get (v := .long (κ.2.1 1 7)) C (atR (at_c (a := 0) rfl)) fa_X7_50 rfl dX7_beginFrames_39 ?_
      refine r_lcmp C dX7_beginFrames_42 ?_
      refine r_if_gt (tgt := 52) C dX7_beginFrames_43 (by decide) (fun c8 => ?_) (fun c8 => ?_)
      · have h := h.1 (lgc_gt.mp c8)
        exact r_loc (by simp) h
      · have h := h.2 (fun q => c8 (lgc_gt.mpr q))
        refine r_aload_n C dX7_beginFrames_46 rfl (j := 1) rfl ?_
        refine r_aload C dX7_beginFrames_47 (j := 0) rfl ?_
        obtain ⟨Q9, m10, h⟩ := h
        refine r_callVV (rest := []) C E [Value.ref (B + b4)] (atR (at_c (a := 0) rfl)) rfl ky_X7_failAttempt kl_X7_188 ki_X7_failAttempt kx_X7_failAttempt ⟨Nat.le_of_ble_eq_true rfl, Nat.le_of_ble_eq_true rfl⟩ ⟨rfl, rfl⟩ m10 rfl rfl (Nat.le_of_ble_eq_true rfl) (Nat.zero_le _) (Nat.zero_le _) dX7_beginFrames_49 (fun σ11 s12 q14 => ?_)
        obtain ⟨s11x, κ11⟩ := σ11
        simp only at s12
        subst s12
        obtain ⟨f15, C16, q14⟩ := q14
        have G17 := hG.trans f15
        have h := h κ11 q14
        exact r_loc (by simp) h
theorem v_X7_beginFrames_52 {X : r_X} {w : r_V} {B n : Nat} {l : Launch} {Q : Ku → Prop} {κ0 : Ku} (C : r_C X w B 5 cX7_beginFrames RX7) (E : r_E X l tX7_beginFrames) (hn : okN n) {κ : Ku} (hC : CoK n κ) (hG : Gr n κ0 κ) {a4 : Nat} {x2 x3 : Int32} (o4 : atS n a4 = some (.inl 6))
    (h : ((κ.1 (κ.2.2 a4 13) 0) = 0 → (r_W X w B 5 0 0 (r_Z X w B tX7_beginFrames (ZKV n κ0 Q)) 84 [(0, Value.ref (B + 1)), (1, Value.ref (B + 21)), (2, Value.int x2), (3, Value.int x3), (4, Value.ref (B + a4))] [] (shp n, κ))) ∧ (¬ (κ.1 (κ.2.2 a4 13) 0) = 0 → (((κ.2.1 1 7) < (κ.2.1 a4 12) → (r_W X w B 5 0 0 (r_Z X w B tX7_beginFrames (ZKV n κ0 Q)) 84 [(0, Value.ref (B + 1)), (1, Value.ref (B + 21)), (2, Value.int x2), (3, Value.int x3), (4, Value.ref (B + a4))] [] (shp n, κ))) ∧ (¬ (κ.2.1 1 7) < (κ.2.1 a4 12) → (∃ Q3 : Ku → Prop, r_KV l w B n tX6_beginDue [Value.ref (B + a4)] κ Q3 ∧ (∀ κ5 : Ku, Q3 κ5 → (r_W X w B 5 0 0 (r_Z X w B tX7_beginFrames (ZKV n κ0 Q)) 102 [(0, Value.ref (B + 1)), (1, Value.ref (B + 21)), (2, Value.int x2), (3, Value.int x3), (4, Value.ref (B + a4))] [] (shp n, κ5)))))))) :
    r_W X w B 5 0 0 (r_Z X w B tX7_beginFrames (ZKV n κ0 Q)) 52 [(0, Value.ref (B + 1)), (1, Value.ref (B + 21)), (2, Value.int x2), (3, Value.int x3), (4, Value.ref (B + a4))] [] (shp n, κ) := by
  refine r_aload C dX7_beginFrames_52 (j := 4) rfl ?_
  refine r_getE (e := κ.2.2 a4 13) C (atR o4) fa_X7_191 rfl rfl (r_atN (atR (κ := κ) (hC.2.2.2.1 _ o4).2.2.2.1)) dX7_beginFrames_54 ?_
  refine r_get (v := .int (κ.1 (κ.2.2 a4 13) 0)) C (atR (hC.2.2.2.1 _ o4).2.2.2.1) fa_X7_165 rfl dX7_beginFrames_57 ?_
  refine r_if_eq (tgt := 84) C dX7_beginFrames_60 (by decide) (fun c1 => ?_) (fun c1 => ?_)
  · have h := h.1 c1
    exact r_loc (by simp) h
  · have h := h.2 c1
    refine r_aload C dX7_beginFrames_63 (j := 4) rfl ?_
    refine r_get (v := .long (κ.2.1 a4 12)) C (atR o4) fa_X7_194 rfl dX7_beginFrames_65 ?_
    refine r_aload_n C dX7_beginFrames_68 rfl (j := 0) rfl ?_
    refine r_get (v := .long (κ.2.1 1 7)) C (atR (at_c (a := 0) rfl)) fa_X7_50 rfl dX7_beginFrames_69 ?_
    refine r_lcmp C dX7_beginFrames_72 ?_
    refine r_if_gt (tgt := 84) C dX7_beginFrames_73 (by decide) (fun c2 => ?_) (fun c2 => ?_)
    · have h := h.1 (lgc_gt.mp c2)
      exact r_loc (by simp) h
    · have h := h.2 (fun q => c2 (lgc_gt.mpr q))
      refine r_aload C dX7_beginFrames_76 (j := 4) rfl ?_
      obtain ⟨Q3, m4, h⟩ := h
      refine r_callVV (rest := []) C E [] (atR o4) rfl ky_X6_beginDue kl_X7_197 ki_X6_beginDue kx_X6_beginDue ⟨Nat.le_of_ble_eq_true rfl, Nat.le_of_ble_eq_true rfl⟩ ⟨rfl, rfl⟩ m4 rfl rfl (Nat.le_of_ble_eq_true rfl) (Nat.zero_le _) (Nat.zero_le _) dX7_beginFrames_78 (fun σ5 s6 q8 => ?_)
      obtain ⟨s5x, κ5⟩ := σ5
      simp only at s6
      subst s6
      obtain ⟨f9, C10, q8⟩ := q8
      have G11 := hG.trans f9
      have h := h κ5 q8
      refine r_goto (tgt := 102) C dX7_beginFrames_81 (by decide) ?_
      exact r_loc (by simp) h
theorem v_X7_beginFrames_84 {X : r_X} {w : r_V} {B n : Nat} {l : Launch} {Q : Ku → Prop} {κ0 : Ku} (C : r_C X w B 5 cX7_beginFrames RX7) (E : r_E X l tX7_beginFrames) (hn : okN n) {κ : Ku} (hC : CoK n κ) (hG : Gr n κ0 κ) {a4 : Nat} {x2 x3 : Int32} (o4 : atS n a4 = some (.inl 6))
    (h : ∃ Q1 : Int32 → Ku → Prop, r_KI l w B n tX6_mayAttempt [Value.ref (B + a4), Value.long (κ.2.1 1 7)] κ Q1 ∧ (∀ (z5 : Int32) (κ3 : Ku), Q1 z5 κ3 → ((z5 = 0 → (r_W X w B 5 0 0 (r_Z X w B tX7_beginFrames (ZKV n κ0 Q)) 102 [(0, Value.ref (B + 1)), (1, Value.ref (B + 21)), (2, Value.int x2), (3, Value.int x3), (4, Value.ref (B + a4))] [] (shp n, κ3))) ∧ (¬ z5 = 0 → (∃ Q11 : Ku → Prop, r_KV l w B n tX7_beginAttempt [Value.ref (B + 1), Value.ref (B + a4)] κ3 Q11 ∧ (∀ κ13 : Ku, Q11 κ13 → (r_W X w B 5 0 0 (r_Z X w B tX7_beginFrames (ZKV n κ0 Q)) 102 [(0, Value.ref (B + 1)), (1, Value.ref (B + 21)), (2, Value.int x2), (3, Value.int x3), (4, Value.ref (B + a4))] [] (shp n, κ13)))))))) :
    r_W X w B 5 0 0 (r_Z X w B tX7_beginFrames (ZKV n κ0 Q)) 84 [(0, Value.ref (B + 1)), (1, Value.ref (B + 21)), (2, Value.int x2), (3, Value.int x3), (4, Value.ref (B + a4))] [] (shp n, κ) := by
  refine r_aload C dX7_beginFrames_84 (j := 4) rfl ?_
  refine r_aload_n C dX7_beginFrames_86 rfl (j := 0) rfl ?_
  refine r_get (v := .long (κ.2.1 1 7)) C (atR (at_c (a := 0) rfl)) fa_X7_50 rfl dX7_beginFrames_87 ?_
  obtain ⟨Q1, m2, h⟩ := h
  refine r_callVI (rest := []) C E [Value.long (κ.2.1 1 7)] (atR o4) rfl ky_X6_mayAttempt kl_X7_200 ki_X6_mayAttempt kx_X6_mayAttempt ⟨Nat.le_of_ble_eq_true rfl, Nat.le_of_ble_eq_true rfl⟩ ⟨rfl, rfl⟩ m2 rfl rfl (Nat.le_of_ble_eq_true rfl) (Nat.zero_le _) (Nat.zero_le _) dX7_beginFrames_90 (fun z5 σ3 s4 q6 => ?_)
  obtain ⟨s3x, κ3⟩ := σ3
  simp only at s4
  subst s4
  obtain ⟨f7, C8, q6⟩ := q6
  have G9 := hG.trans f7
  have h := h z5 κ3 q6
  refine r_if_eq (tgt := 102) C dX7_beginFrames_93 (by decide) (fun c10 => ?_) (fun c10 => ?_)
  · have h := h.1 c10
    exact r_loc (by simp) h
  · have h := h.2 c10
    refine r_aload_n C dX7_beginFrames_96 rfl (j := 0) rfl ?_
    refine r_aload C dX7_beginFrames_97 (j := 4) rfl ?_
    obtain ⟨Q11, m12, h⟩ := h
    refine r_callVV (rest := []) C E [Value.ref (B + a4)] (atR (at_c (a := 0) rfl)) rfl ky_X7_beginAttempt kl_X7_204 ki_X7_beginAttempt kx_X7_beginAttempt ⟨Nat.le_of_ble_eq_true rfl, Nat.le_of_ble_eq_true rfl⟩ ⟨rfl, rfl⟩ m12 rfl rfl (Nat.le_of_ble_eq_true rfl) (Nat.zero_le _) (Nat.zero_le _) dX7_beginFrames_99 (fun σ13 s14 q16 => ?_)
    obtain ⟨s13x, κ13⟩ := σ13
    simp only at s14
    subst s14
    obtain ⟨f17, C18, q16⟩ := q16
    have G19 := G9.trans f17
    have h := h κ13 q16
    exact r_loc (by simp) h
theorem v_X7_beginFrames_102 {X : r_X} {w : r_V} {B n : Nat} {l : Launch} {Q : Ku → Prop} {κ0 : Ku} (C : r_C X w B 5 cX7_beginFrames RX7) (E : r_E X l tX7_beginFrames) (hn : okN n) {κ : Ku} (hC : CoK n κ) (hG : Gr n κ0 κ) {a4 : Nat} {x2 x3 : Int32} (o4 : atS n a4 = some (.inl 6))
    (h : ((κ.1 (κ.2.2 a4 14) 0) = 0 → (∀ z2 : Int32, z2 = x3 + 1 → (r_W X w B 5 0 0 (r_Z X w B tX7_beginFrames (ZKV n κ0 Q)) 15 [(0, Value.ref (B + 1)), (1, Value.ref (B + 21)), (2, Value.int x2), (3, Value.int z2)] [] (shp n, κ)))) ∧ (¬ (κ.1 (κ.2.2 a4 14) 0) = 0 → (∀ κ4 : Ku, κ4 = ki κ 1 8 ((κ.1 1 8) ||| (κ.1 a4 1)) → (∀ z8 : Int32, z8 = x3 + 1 → (r_W X w B 5 0 0 (r_Z X w B tX7_beginFrames (ZKV n κ0 Q)) 15 [(0, Value.ref (B + 1)), (1, Value.ref (B + 21)), (2, Value.int x2), (3, Value.int z8)] [] (shp n, κ4)))))) :
    r_W X w B 5 0 0 (r_Z X w B tX7_beginFrames (ZKV n κ0 Q)) 102 [(0, Value.ref (B + 1)), (1, Value.ref (B + 21)), (2, Value.int x2), (3, Value.int x3), (4, Value.ref (B + a4))] [] (shp n, κ) := by
  refine r_aload C dX7_beginFrames_102 (j := 4) rfl ?_
  refine r_getE (e := κ.2.2 a4 14) C (atR o4) fa_X7_161 rfl rfl (r_atN (atR (κ := κ) (hC.2.2.2.1 _ o4).2.2.2.2)) dX7_beginFrames_104 ?_
  refine r_get (v := .int (κ.1 (κ.2.2 a4 14) 0)) C (atR (hC.2.2.2.1 _ o4).2.2.2.2) fa_X7_165 rfl dX7_beginFrames_107 ?_
  refine r_if_eq (tgt := 127) C dX7_beginFrames_110 (by decide) (fun c1 => ?_) (fun c1 => ?_)
  · have h := h.1 c1
    obtain ⟨z2, e3⟩ : ∃ y : Int32, y = x3 + 1 := ⟨_, rfl⟩
    have h := h z2 e3
    refine r_iinc (v := z2) (lv' := [(3, Value.int z2), (0, Value.ref (B + 1)), (1, Value.ref (B + 21)), (2, Value.int x2), (4, Value.ref (B + a4))]) C dX7_beginFrames_127 (k := 3) rfl (by rw [e3]; rfl) (by decide) rfl ?_
    refine r_goto (tgt := 15) C dX7_beginFrames_130 (by decide) ?_
    exact r_loc (by simp) h
  · have h := h.2 c1
    refine r_aload_n C dX7_beginFrames_113 rfl (j := 0) rfl ?_
    refine r_dup C dX7_beginFrames_114 rfl ?_
    refine r_get (v := .int (κ.1 1 8)) C (atR (at_c (a := 0) rfl)) fa_X7_54 rfl dX7_beginFrames_115 ?_
    refine r_aload C dX7_beginFrames_118 (j := 4) rfl ?_
    refine r_get (v := .int (κ.1 a4 1)) C (atR o4) fa_X7_79 rfl dX7_beginFrames_120 ?_
    refine r_ior C dX7_beginFrames_123 ?_
    refine r_putI C (atR (at_c (a := 0) rfl)) fa_X7_54 rfl rfl rfl dX7_beginFrames_124 ?_
    refine r_namK (κ := ki κ 1 8 ((κ.1 1 8) ||| (κ.1 a4 1))) (fun κ4 e5 => ?_)
    have h := h κ4 e5
    have C6 : CoK n κ4 := by rw [e5]; exact hC
    have G7 : Gr n κ0 κ4 := by rw [e5]; exact hG.i (by unfold mOf; omega)
    obtain ⟨z8, e9⟩ : ∃ y : Int32, y = x3 + 1 := ⟨_, rfl⟩
    have h := h z8 e9
    refine r_iinc (v := z8) (lv' := [(3, Value.int z8), (0, Value.ref (B + 1)), (1, Value.ref (B + 21)), (2, Value.int x2), (4, Value.ref (B + a4))]) C dX7_beginFrames_127 (k := 3) rfl (by rw [e9]; rfl) (by decide) rfl ?_
    refine r_goto (tgt := 15) C dX7_beginFrames_130 (by decide) ?_
    exact r_loc (by simp) h
theorem v_X7_beginAttempt_0 {X : r_X} {w : r_V} {B n : Nat} {l : Launch} {Q : Ku → Prop} {κ0 : Ku} (C : r_C X w B 5 cX7_beginAttempt RX7) (E : r_E X l tX7_beginAttempt) (hn : okN n) {κ : Ku} (hC : CoK n κ) (hG : Gr n κ0 κ) {a1 : Nat} (o1 : atS n a1 = some (.inl 6))
    (h : ∀ b1 : Nat, b1 = a1 + 3 → (∃ Q4 : Ku → Prop, r_KV l w B n tX4_copyFirstOfOneReceiver [Value.ref (B + 4), Value.ref (B + (a1 + 1)), Value.ref (B + b1)] κ Q4 ∧ (∀ κ6 : Ku, Q4 κ6 → (∃ Q13 : Int32 → Ku → Prop, r_KI l w B n tX4_receiverOf [Value.ref (B + 4), Value.ref (B + b1)] κ6 Q13 ∧ (∀ (z17 : Int32) (κ15 : Ku), Q13 z17 κ15 → (∃ Q22 : Int32 → Ku → Prop, r_KI l w B n tX4_dataSlotsOf [Value.ref (B + 4), Value.ref (B + b1)] κ15 Q22 ∧ (∀ (z26 : Int32) (κ24 : Ku), Q22 z26 κ24 → ((z26 < (κ24.1 1 6) → (∃ Q32 : Ku → Prop, r_KV l w B n tX2_make [Value.ref (B + (κ24.2.2 a1 14)), Value.int 3, Value.int z17, Value.int z26] κ24 Q32 ∧ (∀ κ34 : Ku, Q32 κ34 → (∃ Q41 : Ku → Prop, r_KV l w B n tX5_copy [Value.ref (B + ((κ34.2.2 a1 14) + 1)), Value.ref (B + b1)] κ34 Q41 ∧ (∀ κ43 : Ku, Q41 κ43 → (∃ Q50 : Ku → Prop, r_KV l w B n tX6_countBegun [Value.ref (B + a1)] κ43 Q50 ∧ (∀ κ52 : Ku, Q50 κ52 → (Q κ52)))))))) ∧ (¬ z26 < (κ24.1 1 6) → (∃ Q59 : Ku → Prop, r_KV l w B n tX2_make [Value.ref (B + (κ24.2.2 a1 14)), Value.int 1, Value.int z17, Value.int z26] κ24 Q59 ∧ (∀ κ61 : Ku, Q59 κ61 → (∃ Q68 : Ku → Prop, r_KV l w B n tX6_countBegun [Value.ref (B + a1)] κ61 Q68 ∧ (∀ κ70 : Ku, Q68 κ70 → (Q κ70)))))))))))))) :
    r_W X w B 5 0 0 (r_Z X w B tX7_beginAttempt (ZKV n κ0 Q)) 0 [(0, Value.ref (B + 1)), (1, Value.ref (B + a1))] [] (shp n, κ) := by
  refine r_aload_n C dX7_beginAttempt_0 rfl (j := 1) rfl ?_
  refine r_getE (e := a1 + 3) C (atR o1) fa_X7_207 rfl (hC.2.2.2.1 _ o1).2.1 (r_atN (atR (κ := κ) (at_stat hn o1).2.2.1)) dX7_beginAttempt_1 ?_
  refine r_topa (fun b1 e2 => ?_)
  have h := h b1 e2
  have o3 : atS n b1 = some (.inl 5) := by rw [e2]; exact (at_stat hn o1).2.2.1
  refine r_astore_n (lv' := [(2, Value.ref (B + b1)), (0, Value.ref (B + 1)), (1, Value.ref (B + a1))]) C dX7_beginAttempt_4 rfl (by decide) rfl ?_
  refine r_aload_n C dX7_beginAttempt_5 rfl (j := 1) rfl ?_
  refine r_getE (e := 4) C (atR (at_c (a := 0) rfl)) fa_X7_19 rfl hC.1.2.2.1 (by decide) dX7_beginAttempt_6 ?_
  refine r_aload_n C dX7_beginAttempt_9 rfl (j := 2) rfl ?_
  refine r_getE (e := a1 + 1) C (atR o1) fa_X7_96 rfl (hC.2.2.2.1 _ o1).1 (r_atN (atR (κ := κ) (at_stat hn o1).1)) dX7_beginAttempt_10 ?_
  refine r_aload_n C dX7_beginAttempt_13 rfl (j := 0) rfl ?_
  obtain ⟨Q4, m5, h⟩ := h
  refine r_callVV (rest := []) C E [Value.ref (B + (a1 + 1)), Value.ref (B + b1)] (atR (at_c (a := 3) rfl)) rfl ky_X4_copyFirstOfOneReceiver kl_X7_210 ki_X4_copyFirstOfOneReceiver kx_X4_copyFirstOfOneReceiver ⟨Nat.le_of_ble_eq_true rfl, Nat.le_of_ble_eq_true rfl⟩ ⟨rfl, rfl⟩ m5 rfl rfl (Nat.le_of_ble_eq_true rfl) (Nat.zero_le _) (Nat.zero_le _) dX7_beginAttempt_14 (fun σ6 s7 q9 => ?_)
  obtain ⟨s6x, κ6⟩ := σ6
  simp only at s7
  subst s7
  obtain ⟨f10, C11, q9⟩ := q9
  have G12 := hG.trans f10
  have h := h κ6 q9
  refine r_aload_n C dX7_beginAttempt_17 rfl (j := 1) rfl ?_
  refine r_getE (e := 4) C (atR (at_c (a := 0) rfl)) fa_X7_19 rfl C11.1.2.2.1 (by decide) dX7_beginAttempt_18 ?_
  refine r_aload_n C dX7_beginAttempt_21 rfl (j := 0) rfl ?_
  obtain ⟨Q13, m14, h⟩ := h
  refine r_callVI (rest := []) C E [Value.ref (B + b1)] (atR (at_c (a := 3) rfl)) rfl ky_X4_receiverOf kl_X7_214 ki_X4_receiverOf kx_X4_receiverOf ⟨Nat.le_of_ble_eq_true rfl, Nat.le_of_ble_eq_true rfl⟩ ⟨rfl, rfl⟩ m14 rfl rfl (Nat.le_of_ble_eq_true rfl) (Nat.zero_le _) (Nat.zero_le _) dX7_beginAttempt_22 (fun z17 σ15 s16 q18 => ?_)
  obtain ⟨s15x, κ15⟩ := σ15
  simp only at s16
  subst s16
  obtain ⟨f19, C20, q18⟩ := q18
  have G21 := G12.trans f19
  have h := h z17 κ15 q18
  refine r_istore_n (lv' := [(3, Value.int z17), (2, Value.ref (B + b1)), (0, Value.ref (B + 1)), (1, Value.ref (B + a1))]) C dX7_beginAttempt_25 rfl (by decide) rfl ?_
  refine r_aload_n C dX7_beginAttempt_26 rfl (j := 2) rfl ?_
  refine r_getE (e := 4) C (atR (at_c (a := 0) rfl)) fa_X7_19 rfl C20.1.2.2.1 (by decide) dX7_beginAttempt_27 ?_
  refine r_aload_n C dX7_beginAttempt_30 rfl (j := 1) rfl ?_
  obtain ⟨Q22, m23, h⟩ := h
  refine r_callVI (rest := []) C E [Value.ref (B + b1)] (atR (at_c (a := 3) rfl)) rfl ky_X4_dataSlotsOf kl_X7_218 ki_X4_dataSlotsOf kx_X4_dataSlotsOf ⟨Nat.le_of_ble_eq_true rfl, Nat.le_of_ble_eq_true rfl⟩ ⟨rfl, rfl⟩ m23 rfl rfl (Nat.le_of_ble_eq_true rfl) (Nat.zero_le _) (Nat.zero_le _) dX7_beginAttempt_31 (fun z26 σ24 s25 q27 => ?_)
  obtain ⟨s24x, κ24⟩ := σ24
  simp only at s25
  subst s25
  obtain ⟨f28, C29, q27⟩ := q27
  have G30 := G21.trans f28
  have h := h z26 κ24 q27
  refine r_istore (lv' := [(4, Value.int z26), (3, Value.int z17), (2, Value.ref (B + b1)), (0, Value.ref (B + 1)), (1, Value.ref (B + a1))]) C dX7_beginAttempt_34 (by decide) rfl ?_
  refine r_iload C dX7_beginAttempt_36 (j := 0) rfl ?_
  refine r_aload_n C dX7_beginAttempt_38 rfl (j := 3) rfl ?_
  refine r_get (v := .int (κ24.1 1 6)) C (atR (at_c (a := 0) rfl)) fa_X7_46 rfl dX7_beginAttempt_39 ?_
  refine r_icmp_lt (tgt := 59) C dX7_beginAttempt_42 (by decide) (fun c31 => ?_) (fun c31 => ?_)
  · have h := h.1 c31
    refine r_aload_n C dX7_beginAttempt_59 rfl (j := 4) rfl ?_
    refine r_getE (e := κ24.2.2 a1 14) C (atR o1) fa_X7_161 rfl rfl (r_atN (atR (κ := κ24) (C29.2.2.2.1 _ o1).2.2.2.2)) dX7_beginAttempt_60 ?_
    refine r_iconst (v := 3) C dX7_beginAttempt_63 (by decide) ?_
    refine r_iload_n C dX7_beginAttempt_64 rfl (j := 1) rfl ?_
    refine r_iload C dX7_beginAttempt_65 (j := 0) rfl ?_
    obtain ⟨Q32, m33, h⟩ := h
    refine r_callVV (rest := []) C E [Value.int 3, Value.int z17, Value.int z26] (atR (C29.2.2.2.1 _ o1).2.2.2.2) rfl ky_X2_make kl_X7_221 ki_X2_make kx_X2_make ⟨Nat.le_of_ble_eq_true rfl, Nat.le_of_ble_eq_true rfl⟩ ⟨rfl, rfl⟩ m33 rfl rfl (Nat.le_of_ble_eq_true rfl) (Nat.zero_le _) (Nat.zero_le _) dX7_beginAttempt_67 (fun σ34 s35 q37 => ?_)
    obtain ⟨s34x, κ34⟩ := σ34
    simp only at s35
    subst s35
    obtain ⟨f38, C39, q37⟩ := q37
    have G40 := G30.trans f38
    have h := h κ34 q37
    refine r_aload_n C dX7_beginAttempt_70 rfl (j := 4) rfl ?_
    refine r_getE (e := κ34.2.2 a1 14) C (atR o1) fa_X7_161 rfl rfl (r_atN (atR (κ := κ34) (C39.2.2.2.1 _ o1).2.2.2.2)) dX7_beginAttempt_71 ?_
    refine r_getE (e := (κ34.2.2 a1 14) + 1) C (atR (C39.2.2.2.1 _ o1).2.2.2.2) fa_X7_225 rfl (C39.2.2.1 _ (C39.2.2.2.1 _ o1).2.2.2.2).1 (r_atN (atR (κ := κ34) (at_frame hn (C39.2.2.2.1 _ o1).2.2.2.2).1)) dX7_beginAttempt_74 ?_
    refine r_aload_n C dX7_beginAttempt_77 rfl (j := 2) rfl ?_
    obtain ⟨Q41, m42, h⟩ := h
    refine r_callVV (rest := []) C E [Value.ref (B + b1)] (atR (at_frame hn (C39.2.2.2.1 _ o1).2.2.2.2).1) rfl ky_X5_copy kl_X7_228 ki_X5_copy kx_X5_copy ⟨Nat.le_of_ble_eq_true rfl, Nat.le_of_ble_eq_true rfl⟩ ⟨rfl, rfl⟩ m42 rfl rfl (Nat.le_of_ble_eq_true rfl) (Nat.zero_le _) (Nat.zero_le _) dX7_beginAttempt_78 (fun σ43 s44 q46 => ?_)
    obtain ⟨s43x, κ43⟩ := σ43
    simp only at s44
    subst s44
    obtain ⟨f47, C48, q46⟩ := q46
    have G49 := G40.trans f47
    have h := h κ43 q46
    refine r_aload_n C dX7_beginAttempt_81 rfl (j := 4) rfl ?_
    obtain ⟨Q50, m51, h⟩ := h
    refine r_callVV (rest := []) C E [] (atR o1) rfl ky_X6_countBegun kl_X7_232 ki_X6_countBegun kx_X6_countBegun ⟨Nat.le_of_ble_eq_true rfl, Nat.le_of_ble_eq_true rfl⟩ ⟨rfl, rfl⟩ m51 rfl rfl (Nat.le_of_ble_eq_true rfl) (Nat.zero_le _) (Nat.zero_le _) dX7_beginAttempt_82 (fun σ52 s53 q55 => ?_)
    obtain ⟨s52x, κ52⟩ := σ52
    simp only at s53
    subst s53
    obtain ⟨f56, C57, q55⟩ := q55
    have G58 := G49.trans f56
    have h := h κ52 q55
    exact r_vretQ C E rfl (Nat.zero_le _) (Nat.zero_le _) dX7_beginAttempt_85 rfl ⟨G58, C57, h⟩
  · have h := h.2 c31
    refine r_aload_n C dX7_beginAttempt_45 rfl (j := 4) rfl ?_
    refine r_getE (e := κ24.2.2 a1 14) C (atR o1) fa_X7_161 rfl rfl (r_atN (atR (κ := κ24) (C29.2.2.2.1 _ o1).2.2.2.2)) dX7_beginAttempt_46 ?_
    refine r_iconst (v := 1) C dX7_beginAttempt_49 (by decide) ?_
    refine r_iload_n C dX7_beginAttempt_50 rfl (j := 1) rfl ?_
    refine r_iload C dX7_beginAttempt_51 (j := 0) rfl ?_
    obtain ⟨Q59, m60, h⟩ := h
    refine r_callVV (rest := []) C E [Value.int 1, Value.int z17, Value.int z26] (atR (C29.2.2.2.1 _ o1).2.2.2.2) rfl ky_X2_make kl_X7_221 ki_X2_make kx_X2_make ⟨Nat.le_of_ble_eq_true rfl, Nat.le_of_ble_eq_true rfl⟩ ⟨rfl, rfl⟩ m60 rfl rfl (Nat.le_of_ble_eq_true rfl) (Nat.zero_le _) (Nat.zero_le _) dX7_beginAttempt_53 (fun σ61 s62 q64 => ?_)
    obtain ⟨s61x, κ61⟩ := σ61
    simp only at s62
    subst s62
    obtain ⟨f65, C66, q64⟩ := q64
    have G67 := G30.trans f65
    have h := h κ61 q64
    refine r_goto (tgt := 81) C dX7_beginAttempt_56 (by decide) ?_
    refine r_aload_n C dX7_beginAttempt_81 rfl (j := 4) rfl ?_
    obtain ⟨Q68, m69, h⟩ := h
    refine r_callVV (rest := []) C E [] (atR o1) rfl ky_X6_countBegun kl_X7_232 ki_X6_countBegun kx_X6_countBegun ⟨Nat.le_of_ble_eq_true rfl, Nat.le_of_ble_eq_true rfl⟩ ⟨rfl, rfl⟩ m69 rfl rfl (Nat.le_of_ble_eq_true rfl) (Nat.zero_le _) (Nat.zero_le _) dX7_beginAttempt_82 (fun σ70 s71 q73 => ?_)
    obtain ⟨s70x, κ70⟩ := σ70
    simp only at s71
    subst s71
    obtain ⟨f74, C75, q73⟩ := q73
    have G76 := G67.trans f74
    have h := h κ70 q73
    exact r_vretQ C E rfl (Nat.zero_le _) (Nat.zero_le _) dX7_beginAttempt_85 rfl ⟨G76, C75, h⟩
theorem v_X7_failAttempt_0 {X : r_X} {w : r_V} {B n : Nat} {l : Launch} {Q : Ku → Prop} {κ0 : Ku} (C : r_C X w B 3 cX7_failAttempt RX7) (E : r_E X l tX7_failAttempt) (hn : okN n) {κ : Ku} (hC : CoK n κ) (hG : Gr n κ0 κ) {a1 : Nat} (o1 : atS n a1 = some (.inl 6))
    (h : ∀ κ1 : Ku, κ1 = ki κ a1 9 0 → (∀ κ5 : Ku, κ5 = ki κ1 a1 4 ((κ1.1 a1 4) + 1) → (((κ5.1 a1 4) ≤ 4 → (∃ Q10 : Int32 → Ku → Prop, r_KI l w B n tJ9_min_7cf53 [Value.int ((2 * (κ5.1 a1 3)) + 1), Value.int 63] κ5 Q10 ∧ (∀ (z14 : Int32) (κ12 : Ku), Q10 z14 κ12 → (∀ κ19 : Ku, κ19 = ki κ12 a1 3 z14 → (r_W X w B 3 0 0 (r_Z X w B tX7_failAttempt (ZKV n κ0 Q)) 77 [(0, Value.ref (B + 1)), (1, Value.ref (B + a1))] [] (shp n, κ19)))))) ∧ (¬ (κ5.1 a1 4) ≤ 4 → (∃ Q23 : Int32 → Ku → Prop, r_KI l w B n tX5_get [Value.ref (B + (a1 + 3)), Value.int 0] κ5 Q23 ∧ (∀ (z27 : Int32) (κ25 : Ku), Q23 z27 κ25 → (∃ Q32 : Ku → Prop, r_KV l w B n tX5_drop [Value.ref (B + (a1 + 1)), Value.int z27] κ25 Q32 ∧ (∀ κ34 : Ku, Q32 κ34 → (∃ Q41 : Ku → Prop, r_KV l w B n tX1_add [Value.ref (B + 15), Value.int z27, Value.int 2, Value.long (κ34.2.1 1 7)] κ34 Q41 ∧ (∀ κ43 : Ku, Q41 κ43 → (∃ Q50 : Ku → Prop, r_KV l w B n tX6_startAnew [Value.ref (B + a1)] κ43 Q50 ∧ (∀ κ52 : Ku, Q50 κ52 → (r_W X w B 3 0 0 (r_Z X w B tX7_failAttempt (ZKV n κ0 Q)) 77 [(0, Value.ref (B + 1)), (1, Value.ref (B + a1))] [] (shp n, κ52)))))))))))))) :
    r_W X w B 3 0 0 (r_Z X w B tX7_failAttempt (ZKV n κ0 Q)) 0 [(0, Value.ref (B + 1)), (1, Value.ref (B + a1))] [] (shp n, κ) := by
  refine r_aload_n C dX7_failAttempt_0 rfl (j := 1) rfl ?_
  refine r_iconst (v := 0) C dX7_failAttempt_1 (by decide) ?_
  refine r_putI C (atR o1) fa_X7_182 rfl rfl rfl dX7_failAttempt_2 ?_
  refine r_namK (κ := ki κ a1 9 0) (fun κ1 e2 => ?_)
  have h := h κ1 e2
  have C3 : CoK n κ1 := by rw [e2]; exact hC
  have G4 : Gr n κ0 κ1 := by rw [e2]; exact hG.i (by have q := at_stat hn o1; unfold mOf at *; omega)
  refine r_aload_n C dX7_failAttempt_5 rfl (j := 1) rfl ?_
  refine r_dup C dX7_failAttempt_6 rfl ?_
  refine r_get (v := .int (κ1.1 a1 4)) C (atR o1) fa_X7_152 rfl dX7_failAttempt_7 ?_
  refine r_iconst (v := 1) C dX7_failAttempt_10 (by decide) ?_
  refine r_iadd C dX7_failAttempt_11 ?_
  refine r_putI C (atR o1) fa_X7_152 rfl rfl rfl dX7_failAttempt_12 ?_
  refine r_namK (κ := ki κ1 a1 4 ((κ1.1 a1 4) + 1)) (fun κ5 e6 => ?_)
  have h := h κ5 e6
  have C7 : CoK n κ5 := by rw [e6]; exact C3
  have G8 : Gr n κ0 κ5 := by rw [e6]; exact G4.i (by have q := at_stat hn o1; unfold mOf at *; omega)
  refine r_aload_n C dX7_failAttempt_15 rfl (j := 1) rfl ?_
  refine r_get (v := .int (κ5.1 a1 4)) C (atR o1) fa_X7_152 rfl dX7_failAttempt_16 ?_
  refine r_iconst (v := 4) C dX7_failAttempt_19 (by decide) ?_
  refine r_icmp_le (tgt := 60) C dX7_failAttempt_20 (by decide) (fun c9 => ?_) (fun c9 => ?_)
  · have h := h.1 c9
    refine r_aload_n C dX7_failAttempt_60 rfl (j := 1) rfl ?_
    refine r_iconst (v := 2) C dX7_failAttempt_61 (by decide) ?_
    refine r_aload_n C dX7_failAttempt_62 rfl (j := 1) rfl ?_
    refine r_get (v := .int (κ5.1 a1 3)) C (atR o1) fa_X7_146 rfl dX7_failAttempt_63 ?_
    refine r_imul C dX7_failAttempt_66 ?_
    refine r_iconst (v := 1) C dX7_failAttempt_67 (by decide) ?_
    refine r_iadd C dX7_failAttempt_68 ?_
    refine r_bipush (v := 63) C dX7_failAttempt_69 (by decide) ?_
    obtain ⟨Q10, m11, h⟩ := h
    refine r_callSI (rest := [Value.ref (B + a1)]) C E [Value.int ((2 * (κ5.1 a1 3)) + 1), Value.int 63] ky_J9_min_7cf53 kl_X7_57 ks_J9_min_7cf53 ⟨Nat.le_of_ble_eq_true rfl, Nat.le_of_ble_eq_true rfl⟩ ⟨rfl, rfl⟩ m11 rfl rfl (Nat.le_of_ble_eq_true rfl) (Nat.zero_le _) (Nat.zero_le _) dX7_failAttempt_71 (fun z14 σ12 s13 q15 => ?_)
    obtain ⟨s12x, κ12⟩ := σ12
    simp only at s13
    subst s13
    obtain ⟨f16, C17, q15⟩ := q15
    have G18 := G8.trans f16
    have h := h z14 κ12 q15
    refine r_putI C (atR o1) fa_X7_146 rfl rfl rfl dX7_failAttempt_74 ?_
    refine r_namK (κ := ki κ12 a1 3 z14) (fun κ19 e20 => ?_)
    have h := h κ19 e20
    have C21 : CoK n κ19 := by rw [e20]; exact C17
    have G22 : Gr n κ0 κ19 := by rw [e20]; exact G18.i (by have q := at_stat hn o1; unfold mOf at *; omega)
    exact r_loc (by simp) h
  · have h := h.2 c9
    refine r_aload_n C dX7_failAttempt_23 rfl (j := 1) rfl ?_
    refine r_getE (e := a1 + 3) C (atR o1) fa_X7_207 rfl (C7.2.2.2.1 _ o1).2.1 (r_atN (atR (κ := κ5) (at_stat hn o1).2.2.1)) dX7_failAttempt_24 ?_
    refine r_iconst (v := 0) C dX7_failAttempt_27 (by decide) ?_
    obtain ⟨Q23, m24, h⟩ := h
    refine r_callVI (rest := []) C E [Value.int 0] (atR (at_stat hn o1).2.2.1) rfl ky_X5_get kl_X7_235 ki_X5_get kx_X5_get ⟨Nat.le_of_ble_eq_true rfl, Nat.le_of_ble_eq_true rfl⟩ ⟨rfl, rfl⟩ m24 rfl rfl (Nat.le_of_ble_eq_true rfl) (Nat.zero_le _) (Nat.zero_le _) dX7_failAttempt_28 (fun z27 σ25 s26 q28 => ?_)
    obtain ⟨s25x, κ25⟩ := σ25
    simp only at s26
    subst s26
    obtain ⟨f29, C30, q28⟩ := q28
    have G31 := G8.trans f29
    have h := h z27 κ25 q28
    refine r_istore_n (lv' := [(2, Value.int z27), (0, Value.ref (B + 1)), (1, Value.ref (B + a1))]) C dX7_failAttempt_31 rfl (by decide) rfl ?_
    refine r_aload_n C dX7_failAttempt_32 rfl (j := 2) rfl ?_
    refine r_getE (e := a1 + 1) C (atR o1) fa_X7_96 rfl (C30.2.2.2.1 _ o1).1 (r_atN (atR (κ := κ25) (at_stat hn o1).1)) dX7_failAttempt_33 ?_
    refine r_iload_n C dX7_failAttempt_36 rfl (j := 0) rfl ?_
    obtain ⟨Q32, m33, h⟩ := h
    refine r_callVV (rest := []) C E [Value.int z27] (atR (at_stat hn o1).1) rfl ky_X5_drop kl_X7_238 ki_X5_drop kx_X5_drop ⟨Nat.le_of_ble_eq_true rfl, Nat.le_of_ble_eq_true rfl⟩ ⟨rfl, rfl⟩ m33 rfl rfl (Nat.le_of_ble_eq_true rfl) (Nat.zero_le _) (Nat.zero_le _) dX7_failAttempt_37 (fun σ34 s35 q37 => ?_)
    obtain ⟨s34x, κ34⟩ := σ34
    simp only at s35
    subst s35
    obtain ⟨f38, C39, q37⟩ := q37
    have G40 := G31.trans f38
    have h := h κ34 q37
    refine r_aload_n C dX7_failAttempt_40 rfl (j := 1) rfl ?_
    refine r_getE (e := 15) C (atR (at_c (a := 0) rfl)) fa_X7_33 rfl C39.1.2.2.2.2.1 (by decide) dX7_failAttempt_41 ?_
    refine r_iload_n C dX7_failAttempt_44 rfl (j := 0) rfl ?_
    refine r_iconst (v := 2) C dX7_failAttempt_45 (by decide) ?_
    refine r_aload_n C dX7_failAttempt_46 rfl (j := 1) rfl ?_
    refine r_get (v := .long (κ34.2.1 1 7)) C (atR (at_c (a := 0) rfl)) fa_X7_50 rfl dX7_failAttempt_47 ?_
    obtain ⟨Q41, m42, h⟩ := h
    refine r_callVV (rest := []) C E [Value.int z27, Value.int 2, Value.long (κ34.2.1 1 7)] (atR (at_c (a := 14) rfl)) rfl ky_X1_add kl_X7_241 ki_X1_add kx_X1_add ⟨Nat.le_of_ble_eq_true rfl, Nat.le_of_ble_eq_true rfl⟩ ⟨rfl, rfl⟩ m42 rfl rfl (Nat.le_of_ble_eq_true rfl) (Nat.zero_le _) (Nat.zero_le _) dX7_failAttempt_50 (fun σ43 s44 q46 => ?_)
    obtain ⟨s43x, κ43⟩ := σ43
    simp only at s44
    subst s44
    obtain ⟨f47, C48, q46⟩ := q46
    have G49 := G40.trans f47
    have h := h κ43 q46
    refine r_aload_n C dX7_failAttempt_53 rfl (j := 2) rfl ?_
    obtain ⟨Q50, m51, h⟩ := h
    refine r_callVV (rest := []) C E [] (atR o1) rfl ky_X6_startAnew kl_X7_244 ki_X6_startAnew kx_X6_startAnew ⟨Nat.le_of_ble_eq_true rfl, Nat.le_of_ble_eq_true rfl⟩ ⟨rfl, rfl⟩ m51 rfl rfl (Nat.le_of_ble_eq_true rfl) (Nat.zero_le _) (Nat.zero_le _) dX7_failAttempt_54 (fun σ52 s53 q55 => ?_)
    obtain ⟨s52x, κ52⟩ := σ52
    simp only at s53
    subst s53
    obtain ⟨f56, C57, q55⟩ := q55
    have G58 := G49.trans f56
    have h := h κ52 q55
    refine r_goto (tgt := 77) C dX7_failAttempt_57 (by decide) ?_
    exact r_loc (by simp) h
theorem v_X7_failAttempt_77 {X : r_X} {w : r_V} {B n : Nat} {l : Launch} {Q : Ku → Prop} {κ0 : Ku} (C : r_C X w B 3 cX7_failAttempt RX7) (E : r_E X l tX7_failAttempt) (hn : okN n) {κ : Ku} (hC : CoK n κ) (hG : Gr n κ0 κ) {a1 : Nat} (o1 : atS n a1 = some (.inl 6))
    (h : ((κ.1 (a1 + 1) 1) ≤ 0 → (Q κ)) ∧ (¬ (κ.1 (a1 + 1) 1) ≤ 0 → (∃ Q2 : Ku → Prop, r_KV l w B n tX7_drawCount [Value.ref (B + 1), Value.ref (B + a1)] κ Q2 ∧ (∀ κ4 : Ku, Q2 κ4 → (Q κ4))))) :
    r_W X w B 3 0 0 (r_Z X w B tX7_failAttempt (ZKV n κ0 Q)) 77 [(0, Value.ref (B + 1)), (1, Value.ref (B + a1))] [] (shp n, κ) := by
  refine r_aload_n C dX7_failAttempt_77 rfl (j := 1) rfl ?_
  refine r_getE (e := a1 + 1) C (atR o1) fa_X7_96 rfl (hC.2.2.2.1 _ o1).1 (r_atN (atR (κ := κ) (at_stat hn o1).1)) dX7_failAttempt_78 ?_
  refine r_get (v := .int (κ.1 (a1 + 1) 1)) C (atR (at_stat hn o1).1) fa_X7_103 rfl dX7_failAttempt_81 ?_
  refine r_if_le (tgt := 92) C dX7_failAttempt_84 (by decide) (fun c1 => ?_) (fun c1 => ?_)
  · have h := h.1 c1
    exact r_vretQ C E rfl (Nat.zero_le _) (Nat.zero_le _) dX7_failAttempt_92 rfl ⟨hG, hC, h⟩
  · have h := h.2 c1
    refine r_aload_n C dX7_failAttempt_87 rfl (j := 0) rfl ?_
    refine r_aload_n C dX7_failAttempt_88 rfl (j := 1) rfl ?_
    obtain ⟨Q2, m3, h⟩ := h
    refine r_callVV (rest := []) C E [Value.ref (B + a1)] (atR (at_c (a := 0) rfl)) rfl ky_X7_drawCount kl_X7_106 ki_X7_drawCount kx_X7_drawCount ⟨Nat.le_of_ble_eq_true rfl, Nat.le_of_ble_eq_true rfl⟩ ⟨rfl, rfl⟩ m3 rfl rfl (Nat.le_of_ble_eq_true rfl) (Nat.zero_le _) (Nat.zero_le _) dX7_failAttempt_89 (fun σ4 s5 q7 => ?_)
    obtain ⟨s4x, κ4⟩ := σ4
    simp only at s5
    subst s5
    obtain ⟨f8, C9, q7⟩ := q7
    have G10 := hG.trans f8
    have h := h κ4 q7
    exact r_vretQ C E rfl (Nat.zero_le _) (Nat.zero_le _) dX7_failAttempt_92 rfl ⟨G10, C9, h⟩
theorem v_X7_markGoodSlots_0 {X : r_X} {w : r_V} {B n : Nat} {l : Launch} {Q : Ku → Prop} {κ0 : Ku} (C : r_C X w B 9 cX7_markGoodSlots RX7) (E : r_E X l tX7_markGoodSlots) (hn : okN n) {κ : Ku} (hC : CoK n κ) (hG : Gr n κ0 κ)
    (h : ∀ z1 : Int32, z1 = nI n → (r_W X w B 9 0 0 (r_Z X w B tX7_markGoodSlots (ZKV n κ0 Q)) 10 [(0, Value.ref (B + 1)), (1, Value.ref (B + 21)), (2, Value.int z1), (3, Value.int 0)] [] (shp n, κ))) :
    r_W X w B 9 0 0 (r_Z X w B tX7_markGoodSlots (ZKV n κ0 Q)) 0 [(0, Value.ref (B + 1))] [] (shp n, κ) := by
  refine r_aload_n C dX7_markGoodSlots_0 rfl (j := 0) rfl ?_
  refine r_getE (e := 21) C (atR (at_c (a := 0) rfl)) fa_X7_68 rfl hC.1.1 (by decide) dX7_markGoodSlots_1 ?_
  refine r_astore_n (lv' := [(1, Value.ref (B + 21)), (0, Value.ref (B + 1))]) C dX7_markGoodSlots_4 rfl (by decide) rfl ?_
  refine r_aload_n C dX7_markGoodSlots_5 rfl (j := 0) rfl ?_
  refine r_alen (v := nI n) C (atR at_21) ⟨rfl, fun _ => rfl⟩ rfl dX7_markGoodSlots_6 ?_
  refine r_topi (fun z1 e2 => ?_)
  have h := h z1 e2
  refine r_istore_n (lv' := [(2, Value.int z1), (1, Value.ref (B + 21)), (0, Value.ref (B + 1))]) C dX7_markGoodSlots_7 rfl (by decide) rfl ?_
  refine r_iconst (v := 0) C dX7_markGoodSlots_8 (by decide) ?_
  refine r_istore_n (lv' := [(3, Value.int 0), (2, Value.int z1), (1, Value.ref (B + 21)), (0, Value.ref (B + 1))]) C dX7_markGoodSlots_9 rfl (by decide) rfl ?_
  exact r_loc (by simp) h
theorem v_X7_markGoodSlots_10 {X : r_X} {w : r_V} {B n : Nat} {l : Launch} {Q : Ku → Prop} {κ0 : Ku} (C : r_C X w B 9 cX7_markGoodSlots RX7) (E : r_E X l tX7_markGoodSlots) (hn : okN n) {κ : Ku} (hC : CoK n κ) (hG : Gr n κ0 κ) {x2 x3 : Int32}
    (h : (x2 ≤ x3 → (Q κ)) ∧ (¬ x2 ≤ x3 → (vp_in x3 n ∧ (∀ b4 : Nat, b4 = 22 + 14 * x3.toNatClampNeg → ((((κ.1 1 8) &&& (κ.1 b4 1)) = 0 → (∀ z8 : Int32, z8 = x3 + 1 → (r_W X w B 9 0 0 (r_Z X w B tX7_markGoodSlots (ZKV n κ0 Q)) 10 [(0, Value.ref (B + 1)), (1, Value.ref (B + 21)), (2, Value.int x2), (3, Value.int z8)] [] (shp n, κ)))) ∧ (¬ ((κ.1 1 8) &&& (κ.1 b4 1)) = 0 → (∀ z10 : Int32, z10 = nI n → (r_W X w B 9 0 0 (r_Z X w B tX7_markGoodSlots (ZKV n κ0 Q)) 47 [(0, Value.ref (B + 1)), (1, Value.ref (B + 21)), (2, Value.int x2), (3, Value.int x3), (4, Value.ref (B + b4)), (5, Value.ref (B + 21)), (6, Value.int z10), (7, Value.int 0)] [] (shp n, κ))))))))) :
    r_W X w B 9 0 0 (r_Z X w B tX7_markGoodSlots (ZKV n κ0 Q)) 10 [(0, Value.ref (B + 1)), (1, Value.ref (B + 21)), (2, Value.int x2), (3, Value.int x3)] [] (shp n, κ) := by
  refine r_iload_n C dX7_markGoodSlots_10 rfl (j := 3) rfl ?_
  refine r_iload_n C dX7_markGoodSlots_11 rfl (j := 2) rfl ?_
  refine r_icmp_ge (tgt := 111) C dX7_markGoodSlots_12 (by decide) (fun c1 => ?_) (fun c1 => ?_)
  · have h := h.1 c1
    exact r_vretQ C E rfl (Nat.zero_le _) (Nat.zero_le _) dX7_markGoodSlots_111 rfl ⟨hG, hC, h⟩
  · have h := h.2 c1
    refine r_aload_n C dX7_markGoodSlots_15 rfl (j := 1) rfl ?_
    refine r_iload_n C dX7_markGoodSlots_16 rfl (j := 3) rfl ?_
    obtain ⟨g2, h⟩ := h
    have o3 : atS n (22 + 14 * x3.toNatClampNeg) = some (.inl 6) := at_st hn (vp_lt g2)
    refine r_aalE (e := 22 + 14 * x3.toNatClampNeg) C (atR at_21) ⟨rfl, fun _ => rfl⟩ g2 (hC.2.2.2.2 _ (vp_lt g2)) (by omega) dX7_markGoodSlots_17 ?_
    refine r_topa (fun b4 e5 => ?_)
    have h := h b4 e5
    have o6 : atS n b4 = some (.inl 6) := by rw [e5]; exact o3
    refine r_astore (lv' := [(4, Value.ref (B + b4)), (0, Value.ref (B + 1)), (1, Value.ref (B + 21)), (2, Value.int x2), (3, Value.int x3)]) C dX7_markGoodSlots_18 (by decide) rfl ?_
    refine r_aload_n C dX7_markGoodSlots_20 rfl (j := 1) rfl ?_
    refine r_get (v := .int (κ.1 1 8)) C (atR (at_c (a := 0) rfl)) fa_X7_54 rfl dX7_markGoodSlots_21 ?_
    refine r_aload C dX7_markGoodSlots_24 (j := 0) rfl ?_
    refine r_get (v := .int (κ.1 b4 1)) C (atR o6) fa_X7_79 rfl dX7_markGoodSlots_26 ?_
    refine r_iand C dX7_markGoodSlots_29 ?_
    refine r_if_eq (tgt := 105) C dX7_markGoodSlots_30 (by decide) (fun c7 => ?_) (fun c7 => ?_)
    · have h := h.1 c7
      obtain ⟨z8, e9⟩ : ∃ y : Int32, y = x3 + 1 := ⟨_, rfl⟩
      have h := h z8 e9
      refine r_iinc (v := z8) (lv' := [(3, Value.int z8), (4, Value.ref (B + b4)), (0, Value.ref (B + 1)), (1, Value.ref (B + 21)), (2, Value.int x2)]) C dX7_markGoodSlots_105 (k := 4) rfl (by rw [e9]; rfl) (by decide) rfl ?_
      refine r_goto (tgt := 10) C dX7_markGoodSlots_108 (by decide) ?_
      exact r_loc (by simp) h
    · have h := h.2 c7
      refine r_aload_n C dX7_markGoodSlots_33 rfl (j := 1) rfl ?_
      refine r_getE (e := 21) C (atR (at_c (a := 0) rfl)) fa_X7_68 rfl hC.1.1 (by decide) dX7_markGoodSlots_34 ?_
      refine r_astore (lv' := [(5, Value.ref (B + 21)), (4, Value.ref (B + b4)), (0, Value.ref (B + 1)), (1, Value.ref (B + 21)), (2, Value.int x2), (3, Value.int x3)]) C dX7_markGoodSlots_37 (by decide) rfl ?_
      refine r_aload C dX7_markGoodSlots_39 (j := 0) rfl ?_
      refine r_alen (v := nI n) C (atR at_21) ⟨rfl, fun _ => rfl⟩ rfl dX7_markGoodSlots_41 ?_
      refine r_topi (fun z10 e11 => ?_)
      have h := h z10 e11
      refine r_istore (lv' := [(6, Value.int z10), (5, Value.ref (B + 21)), (4, Value.ref (B + b4)), (0, Value.ref (B + 1)), (1, Value.ref (B + 21)), (2, Value.int x2), (3, Value.int x3)]) C dX7_markGoodSlots_42 (by decide) rfl ?_
      refine r_iconst (v := 0) C dX7_markGoodSlots_44 (by decide) ?_
      refine r_istore (lv' := [(7, Value.int 0), (6, Value.int z10), (5, Value.ref (B + 21)), (4, Value.ref (B + b4)), (0, Value.ref (B + 1)), (1, Value.ref (B + 21)), (2, Value.int x2), (3, Value.int x3)]) C dX7_markGoodSlots_45 (by decide) rfl ?_
      exact r_loc (by simp) h
theorem v_X7_markGoodSlots_47 {X : r_X} {w : r_V} {B n : Nat} {l : Launch} {Q : Ku → Prop} {κ0 : Ku} (C : r_C X w B 9 cX7_markGoodSlots RX7) (E : r_E X l tX7_markGoodSlots) (hn : okN n) {κ : Ku} (hC : CoK n κ) (hG : Gr n κ0 κ) {a4 : Nat} {x2 x3 x6 x7 : Int32} (o4 : atS n a4 = some (.inl 6))
    (h : (x6 ≤ x7 → (∀ κ2 : Ku, κ2 = ki κ (κ.2.2 a4 14) 3 ((κ.1 (κ.2.2 a4 14) 3) + 1) → (∀ z6 : Int32, z6 = x3 + 1 → (r_W X w B 9 0 0 (r_Z X w B tX7_markGoodSlots (ZKV n κ0 Q)) 10 [(0, Value.ref (B + 1)), (1, Value.ref (B + 21)), (2, Value.int x2), (3, Value.int z6)] [] (shp n, κ2))))) ∧ (¬ x6 ≤ x7 → (vp_in x7 n ∧ (∀ b10 : Nat, b10 = 22 + 14 * x7.toNatClampNeg → (∃ Q13 : Int32 → Ku → Prop, r_KI l w B n tX7_isGood [Value.ref (B + 1), Value.ref (B + b10), Value.ref (B + a4)] κ Q13 ∧ (∀ (z17 : Int32) (κ15 : Ku), Q13 z17 κ15 → ((z17 = 0 → (∀ z23 : Int32, z23 = x7 + 1 → (r_W X w B 9 0 0 (r_Z X w B tX7_markGoodSlots (ZKV n κ0 Q)) 47 [(0, Value.ref (B + 1)), (1, Value.ref (B + 21)), (2, Value.int x2), (3, Value.int x3), (4, Value.ref (B + a4)), (5, Value.ref (B + 21)), (6, Value.int x6), (7, Value.int z23)] [] (shp n, κ15)))) ∧ (¬ z17 = 0 → (∃ Q25 : Ku → Prop, r_KV l w B n tX2_markGood [Value.ref (B + (κ15.2.2 a4 14)), Value.int (κ15.1 b10 0)] κ15 Q25 ∧ (∀ κ27 : Ku, Q25 κ27 → (∀ z34 : Int32, z34 = x7 + 1 → (r_W X w B 9 0 0 (r_Z X w B tX7_markGoodSlots (ZKV n κ0 Q)) 47 [(0, Value.ref (B + 1)), (1, Value.ref (B + 21)), (2, Value.int x2), (3, Value.int x3), (4, Value.ref (B + a4)), (5, Value.ref (B + 21)), (6, Value.int x6), (7, Value.int z34)] [] (shp n, κ27))))))))))))) :
    r_W X w B 9 0 0 (r_Z X w B tX7_markGoodSlots (ZKV n κ0 Q)) 47 [(0, Value.ref (B + 1)), (1, Value.ref (B + 21)), (2, Value.int x2), (3, Value.int x3), (4, Value.ref (B + a4)), (5, Value.ref (B + 21)), (6, Value.int x6), (7, Value.int x7)] [] (shp n, κ) := by
  refine r_iload C dX7_markGoodSlots_47 (j := 7) rfl ?_
  refine r_iload C dX7_markGoodSlots_49 (j := 6) rfl ?_
  refine r_icmp_ge (tgt := 91) C dX7_markGoodSlots_51 (by decide) (fun c1 => ?_) (fun c1 => ?_)
  · have h := h.1 c1
    refine r_aload C dX7_markGoodSlots_91 (j := 4) rfl ?_
    refine r_getE (e := κ.2.2 a4 14) C (atR o4) fa_X7_161 rfl rfl (r_atN (atR (κ := κ) (hC.2.2.2.1 _ o4).2.2.2.2)) dX7_markGoodSlots_93 ?_
    refine r_dup C dX7_markGoodSlots_96 rfl ?_
    refine r_get (v := .int (κ.1 (κ.2.2 a4 14) 3)) C (atR (hC.2.2.2.1 _ o4).2.2.2.2) fa_X7_257 rfl dX7_markGoodSlots_97 ?_
    refine r_iconst (v := 1) C dX7_markGoodSlots_100 (by decide) ?_
    refine r_iadd C dX7_markGoodSlots_101 ?_
    refine r_putI C (atR (hC.2.2.2.1 _ o4).2.2.2.2) fa_X7_257 rfl rfl rfl dX7_markGoodSlots_102 ?_
    refine r_namK (κ := ki κ (κ.2.2 a4 14) 3 ((κ.1 (κ.2.2 a4 14) 3) + 1)) (fun κ2 e3 => ?_)
    have h := h κ2 e3
    have C4 : CoK n κ2 := by rw [e3]; exact hC
    have G5 : Gr n κ0 κ2 := by rw [e3]; exact hG.i (by have q := at_frame hn (hC.2.2.2.1 _ o4).2.2.2.2; unfold mOf at *; omega)
    obtain ⟨z6, e7⟩ : ∃ y : Int32, y = x3 + 1 := ⟨_, rfl⟩
    have h := h z6 e7
    refine r_iinc (v := z6) (lv' := [(3, Value.int z6), (0, Value.ref (B + 1)), (1, Value.ref (B + 21)), (2, Value.int x2), (4, Value.ref (B + a4)), (5, Value.ref (B + 21)), (6, Value.int x6), (7, Value.int x7)]) C dX7_markGoodSlots_105 (k := 3) rfl (by rw [e7]; rfl) (by decide) rfl ?_
    refine r_goto (tgt := 10) C dX7_markGoodSlots_108 (by decide) ?_
    exact r_loc (by simp) h
  · have h := h.2 c1
    refine r_aload C dX7_markGoodSlots_54 (j := 5) rfl ?_
    refine r_iload C dX7_markGoodSlots_56 (j := 7) rfl ?_
    obtain ⟨g8, h⟩ := h
    have o9 : atS n (22 + 14 * x7.toNatClampNeg) = some (.inl 6) := at_st hn (vp_lt g8)
    refine r_aalE (e := 22 + 14 * x7.toNatClampNeg) C (atR at_21) ⟨rfl, fun _ => rfl⟩ g8 (hC.2.2.2.2 _ (vp_lt g8)) (by omega) dX7_markGoodSlots_58 ?_
    refine r_topa (fun b10 e11 => ?_)
    have h := h b10 e11
    have o12 : atS n b10 = some (.inl 6) := by rw [e11]; exact o9
    refine r_astore (lv' := [(8, Value.ref (B + b10)), (0, Value.ref (B + 1)), (1, Value.ref (B + 21)), (2, Value.int x2), (3, Value.int x3), (4, Value.ref (B + a4)), (5, Value.ref (B + 21)), (6, Value.int x6), (7, Value.int x7)]) C dX7_markGoodSlots_59 (by decide) rfl ?_
    refine r_aload_n C dX7_markGoodSlots_61 rfl (j := 1) rfl ?_
    refine r_aload C dX7_markGoodSlots_62 (j := 0) rfl ?_
    refine r_aload C dX7_markGoodSlots_64 (j := 5) rfl ?_
    obtain ⟨Q13, m14, h⟩ := h
    refine r_callVI (rest := []) C E [Value.ref (B + b10), Value.ref (B + a4)] (atR (at_c (a := 0) rfl)) rfl ky_X7_isGood kl_X7_247 ki_X7_isGood kx_X7_isGood ⟨Nat.le_of_ble_eq_true rfl, Nat.le_of_ble_eq_true rfl⟩ ⟨rfl, rfl⟩ m14 rfl rfl (Nat.le_of_ble_eq_true rfl) (Nat.zero_le _) (Nat.zero_le _) dX7_markGoodSlots_66 (fun z17 σ15 s16 q18 => ?_)
    obtain ⟨s15x, κ15⟩ := σ15
    simp only at s16
    subst s16
    obtain ⟨f19, C20, q18⟩ := q18
    have G21 := hG.trans f19
    have h := h z17 κ15 q18
    refine r_if_eq (tgt := 85) C dX7_markGoodSlots_69 (by decide) (fun c22 => ?_) (fun c22 => ?_)
    · have h := h.1 c22
      obtain ⟨z23, e24⟩ : ∃ y : Int32, y = x7 + 1 := ⟨_, rfl⟩
      have h := h z23 e24
      refine r_iinc (v := z23) (lv' := [(7, Value.int z23), (8, Value.ref (B + b10)), (0, Value.ref (B + 1)), (1, Value.ref (B + 21)), (2, Value.int x2), (3, Value.int x3), (4, Value.ref (B + a4)), (5, Value.ref (B + 21)), (6, Value.int x6)]) C dX7_markGoodSlots_85 (k := 8) rfl (by rw [e24]; rfl) (by decide) rfl ?_
      refine r_goto (tgt := 47) C dX7_markGoodSlots_88 (by decide) ?_
      exact r_loc (by simp) h
    · have h := h.2 c22
      refine r_aload C dX7_markGoodSlots_72 (j := 5) rfl ?_
      refine r_getE (e := κ15.2.2 a4 14) C (atR o4) fa_X7_161 rfl rfl (r_atN (atR (κ := κ15) (C20.2.2.2.1 _ o4).2.2.2.2)) dX7_markGoodSlots_74 ?_
      refine r_aload C dX7_markGoodSlots_77 (j := 0) rfl ?_
      refine r_get (v := .int (κ15.1 b10 0)) C (atR o12) fa_X7_251 rfl dX7_markGoodSlots_79 ?_
      obtain ⟨Q25, m26, h⟩ := h
      refine r_callVV (rest := []) C E [Value.int (κ15.1 b10 0)] (atR (C20.2.2.2.1 _ o4).2.2.2.2) rfl ky_X2_markGood kl_X7_254 ki_X2_markGood kx_X2_markGood ⟨Nat.le_of_ble_eq_true rfl, Nat.le_of_ble_eq_true rfl⟩ ⟨rfl, rfl⟩ m26 rfl rfl (Nat.le_of_ble_eq_true rfl) (Nat.zero_le _) (Nat.zero_le _) dX7_markGoodSlots_82 (fun σ27 s28 q30 => ?_)
      obtain ⟨s27x, κ27⟩ := σ27
      simp only at s28
      subst s28
      obtain ⟨f31, C32, q30⟩ := q30
      have G33 := G21.trans f31
      have h := h κ27 q30
      obtain ⟨z34, e35⟩ : ∃ y : Int32, y = x7 + 1 := ⟨_, rfl⟩
      have h := h z34 e35
      refine r_iinc (v := z34) (lv' := [(7, Value.int z34), (8, Value.ref (B + b10)), (0, Value.ref (B + 1)), (1, Value.ref (B + 21)), (2, Value.int x2), (3, Value.int x3), (4, Value.ref (B + a4)), (5, Value.ref (B + 21)), (6, Value.int x6)]) C dX7_markGoodSlots_85 (k := 8) rfl (by rw [e35]; rfl) (by decide) rfl ?_
      refine r_goto (tgt := 47) C dX7_markGoodSlots_88 (by decide) ?_
      exact r_loc (by simp) h
theorem v_X7_isGood_0 {X : r_X} {w : r_V} {B n : Nat} {l : Launch} {Q : Int32 → Ku → Prop} {κ0 : Ku} (C : r_C X w B 3 cX7_isGood RX7) (E : r_E X l tX7_isGood) (hn : okN n) {κ : Ku} (hC : CoK n κ) (hG : Gr n κ0 κ) {a1 a2 : Nat} (o1 : atS n a1 = some (.inl 6)) (o2 : atS n a2 = some (.inl 6))
    (h : (((κ.1 1 8) &&& (κ.1 a1 1)) = 0 → ((((κ.1 1 8) &&& (κ.1 a1 2)) = (κ.1 a2 1) → (∃ Q3 : Int32 → Ku → Prop, r_KI l w B n tX3_cover [Value.ref (B + 11), Value.int (κ.1 a1 0), Value.long (κ.2.1 1 7)] κ Q3 ∧ (∀ (z7 : Int32) (κ5 : Ku), Q3 z7 κ5 → (∀ z13 : Int32, z13 = (if z7 = 0 then (1 : Int32) else (0 : Int32)) → ((z13 = 0 ∨ z13 = 1) ∧ (Q z13 κ5)))))) ∧ (¬ ((κ.1 1 8) &&& (κ.1 a1 2)) = (κ.1 a2 1) → (Q 0 κ)))) ∧ (¬ ((κ.1 1 8) &&& (κ.1 a1 1)) = 0 → (Q 0 κ))) :
    r_W X w B 3 0 0 (r_Z X w B tX7_isGood (ZKI n κ0 Q)) 0 [(0, Value.ref (B + 1)), (1, Value.ref (B + a1)), (2, Value.ref (B + a2))] [] (shp n, κ) := by
  refine r_aload_n C dX7_isGood_0 rfl (j := 0) rfl ?_
  refine r_get (v := .int (κ.1 1 8)) C (atR (at_c (a := 0) rfl)) fa_X7_54 rfl dX7_isGood_1 ?_
  refine r_aload_n C dX7_isGood_4 rfl (j := 1) rfl ?_
  refine r_get (v := .int (κ.1 a1 1)) C (atR o1) fa_X7_79 rfl dX7_isGood_5 ?_
  refine r_iand C dX7_isGood_8 ?_
  refine r_if_ne (tgt := 50) C dX7_isGood_9 (by decide) (fun c1 => ?_) (fun c1 => ?_)
  · have h := h.2 c1
    refine r_iconst (v := 0) C dX7_isGood_50 (by decide) ?_
    exact r_zretQ C E rfl (by decide) (Nat.zero_le _) (Nat.zero_le _) dX7_isGood_51 rfl ⟨hG, hC, h⟩
  · have h := h.1 c1
    refine r_aload_n C dX7_isGood_12 rfl (j := 0) rfl ?_
    refine r_get (v := .int (κ.1 1 8)) C (atR (at_c (a := 0) rfl)) fa_X7_54 rfl dX7_isGood_13 ?_
    refine r_aload_n C dX7_isGood_16 rfl (j := 1) rfl ?_
    refine r_get (v := .int (κ.1 a1 2)) C (atR o1) fa_X7_82 rfl dX7_isGood_17 ?_
    refine r_iand C dX7_isGood_20 ?_
    refine r_aload_n C dX7_isGood_21 rfl (j := 2) rfl ?_
    refine r_get (v := .int (κ.1 a2 1)) C (atR o2) fa_X7_79 rfl dX7_isGood_22 ?_
    refine r_icmp_ne (tgt := 50) C dX7_isGood_25 (by decide) (fun c2 => ?_) (fun c2 => ?_)
    · have h := h.2 c2
      refine r_iconst (v := 0) C dX7_isGood_50 (by decide) ?_
      exact r_zretQ C E rfl (by decide) (Nat.zero_le _) (Nat.zero_le _) dX7_isGood_51 rfl ⟨hG, hC, h⟩
    · have h := h.1 c2
      refine r_aload_n C dX7_isGood_28 rfl (j := 0) rfl ?_
      refine r_getE (e := 11) C (atR (at_c (a := 0) rfl)) fa_X7_26 rfl hC.1.2.2.2.1 (by decide) dX7_isGood_29 ?_
      refine r_aload_n C dX7_isGood_32 rfl (j := 1) rfl ?_
      refine r_get (v := .int (κ.1 a1 0)) C (atR o1) fa_X7_251 rfl dX7_isGood_33 ?_
      refine r_aload_n C dX7_isGood_36 rfl (j := 0) rfl ?_
      refine r_get (v := .long (κ.2.1 1 7)) C (atR (at_c (a := 0) rfl)) fa_X7_50 rfl dX7_isGood_37 ?_
      obtain ⟨Q3, m4, h⟩ := h
      refine r_callVI (rest := []) C E [Value.int (κ.1 a1 0), Value.long (κ.2.1 1 7)] (atR (at_c (a := 10) rfl)) rfl ky_X3_cover kl_X7_260 ki_X3_cover kx_X3_cover ⟨Nat.le_of_ble_eq_true rfl, Nat.le_of_ble_eq_true rfl⟩ ⟨rfl, rfl⟩ m4 rfl rfl (Nat.le_of_ble_eq_true rfl) (Nat.zero_le _) (Nat.zero_le _) dX7_isGood_40 (fun z7 σ5 s6 q8 => ?_)
      obtain ⟨s5x, κ5⟩ := σ5
      simp only at s6
      subst s6
      obtain ⟨f9, C10, q8⟩ := q8
      have G11 := hG.trans f9
      have h := h z7 κ5 q8
      have k15 : ∀ z13 : Int32, z13 = (if z7 = 0 then (1 : Int32) else (0 : Int32)) → r_W X w B 3 0 0 (r_Z X w B tX7_isGood (ZKI n κ0 Q)) 51 [(0, Value.ref (B + 1)), (1, Value.ref (B + a1)), (2, Value.ref (B + a2))] [Value.int z13] (shp n, κ5) := by
        intro z13 e14
        have h := h z13 e14
        obtain ⟨g16, h⟩ := h
        exact r_zretQ C E rfl g16 (Nat.zero_le _) (Nat.zero_le _) dX7_isGood_51 rfl ⟨G11, C10, h⟩
      clear h
      refine r_if_ne (tgt := 50) C dX7_isGood_43 (by decide) (fun c12 => ?_) (fun c12 => ?_)
      · have c12 : ¬ z7 = 0 := c12
        refine r_iconst (v := 0) C dX7_isGood_50 (by decide) ?_
        exact k15 _ (by rw [if_neg c12] <;> rfl)
      · have c12 : z7 = 0 := c12
        refine r_iconst (v := 1) C dX7_isGood_46 (by decide) ?_
        refine r_goto (tgt := 51) C dX7_isGood_47 (by decide) ?_
        exact k15 _ (by rw [if_pos c12] <;> rfl)
theorem v_X7_endFrames_0 {X : r_X} {w : r_V} {B n : Nat} {l : Launch} {Q : Ku → Prop} {κ0 : Ku} (C : r_C X w B 10 cX7_endFrames RX7) (E : r_E X l tX7_endFrames) (hn : okN n) {κ : Ku} (hC : CoK n κ) (hG : Gr n κ0 κ)
    (h : ∀ z1 : Int32, z1 = nI n → (r_W X w B 10 0 0 (r_Z X w B tX7_endFrames (ZKV n κ0 Q)) 10 [(0, Value.ref (B + 1)), (1, Value.ref (B + 21)), (2, Value.int z1), (3, Value.int 0)] [] (shp n, κ))) :
    r_W X w B 10 0 0 (r_Z X w B tX7_endFrames (ZKV n κ0 Q)) 0 [(0, Value.ref (B + 1))] [] (shp n, κ) := by
  refine r_aload_n C dX7_endFrames_0 rfl (j := 0) rfl ?_
  refine r_getE (e := 21) C (atR (at_c (a := 0) rfl)) fa_X7_68 rfl hC.1.1 (by decide) dX7_endFrames_1 ?_
  refine r_astore_n (lv' := [(1, Value.ref (B + 21)), (0, Value.ref (B + 1))]) C dX7_endFrames_4 rfl (by decide) rfl ?_
  refine r_aload_n C dX7_endFrames_5 rfl (j := 0) rfl ?_
  refine r_alen (v := nI n) C (atR at_21) ⟨rfl, fun _ => rfl⟩ rfl dX7_endFrames_6 ?_
  refine r_topi (fun z1 e2 => ?_)
  have h := h z1 e2
  refine r_istore_n (lv' := [(2, Value.int z1), (1, Value.ref (B + 21)), (0, Value.ref (B + 1))]) C dX7_endFrames_7 rfl (by decide) rfl ?_
  refine r_iconst (v := 0) C dX7_endFrames_8 (by decide) ?_
  refine r_istore_n (lv' := [(3, Value.int 0), (2, Value.int z1), (1, Value.ref (B + 21)), (0, Value.ref (B + 1))]) C dX7_endFrames_9 rfl (by decide) rfl ?_
  exact r_loc (by simp) h
theorem v_X7_endFrames_10 {X : r_X} {w : r_V} {B n : Nat} {l : Launch} {Q : Ku → Prop} {κ0 : Ku} (C : r_C X w B 10 cX7_endFrames RX7) (E : r_E X l tX7_endFrames) (hn : okN n) {κ : Ku} (hC : CoK n κ) (hG : Gr n κ0 κ) {x2 x3 : Int32}
    (h : (x2 ≤ x3 → (Q κ)) ∧ (¬ x2 ≤ x3 → (vp_in x3 n ∧ (∀ b4 : Nat, b4 = 22 + 14 * x3.toNatClampNeg → (∀ b7 : Nat, b7 = κ.2.2 b4 14 → (∃ Q10 : Int32 → Ku → Prop, r_KI l w B n tX2_isOver [Value.ref (B + b7)] κ Q10 ∧ (∀ (z14 : Int32) (κ12 : Ku), Q10 z14 κ12 → ((z14 = 0 → (∀ z20 : Int32, z20 = x3 + 1 → (r_W X w B 10 0 0 (r_Z X w B tX7_endFrames (ZKV n κ0 Q)) 10 [(0, Value.ref (B + 1)), (1, Value.ref (B + 21)), (2, Value.int x2), (3, Value.int z20)] [] (shp n, κ12)))) ∧ (¬ z14 = 0 → (∀ z22 : Int32, z22 = nI n → (r_W X w B 10 0 0 (r_Z X w B tX7_endFrames (ZKV n κ0 Q)) 49 [(0, Value.ref (B + 1)), (1, Value.ref (B + 21)), (2, Value.int x2), (3, Value.int x3), (4, Value.ref (B + b4)), (5, Value.ref (B + b7)), (6, Value.ref (B + 21)), (7, Value.int z22), (8, Value.int 0)] [] (shp n, κ12)))))))))))) :
    r_W X w B 10 0 0 (r_Z X w B tX7_endFrames (ZKV n κ0 Q)) 10 [(0, Value.ref (B + 1)), (1, Value.ref (B + 21)), (2, Value.int x2), (3, Value.int x3)] [] (shp n, κ) := by
  refine r_iload_n C dX7_endFrames_10 rfl (j := 3) rfl ?_
  refine r_iload_n C dX7_endFrames_11 rfl (j := 2) rfl ?_
  refine r_icmp_ge (tgt := 121) C dX7_endFrames_12 (by decide) (fun c1 => ?_) (fun c1 => ?_)
  · have h := h.1 c1
    exact r_vretQ C E rfl (Nat.zero_le _) (Nat.zero_le _) dX7_endFrames_121 rfl ⟨hG, hC, h⟩
  · have h := h.2 c1
    refine r_aload_n C dX7_endFrames_15 rfl (j := 1) rfl ?_
    refine r_iload_n C dX7_endFrames_16 rfl (j := 3) rfl ?_
    obtain ⟨g2, h⟩ := h
    have o3 : atS n (22 + 14 * x3.toNatClampNeg) = some (.inl 6) := at_st hn (vp_lt g2)
    refine r_aalE (e := 22 + 14 * x3.toNatClampNeg) C (atR at_21) ⟨rfl, fun _ => rfl⟩ g2 (hC.2.2.2.2 _ (vp_lt g2)) (by omega) dX7_endFrames_17 ?_
    refine r_topa (fun b4 e5 => ?_)
    have h := h b4 e5
    have o6 : atS n b4 = some (.inl 6) := by rw [e5]; exact o3
    refine r_astore (lv' := [(4, Value.ref (B + b4)), (0, Value.ref (B + 1)), (1, Value.ref (B + 21)), (2, Value.int x2), (3, Value.int x3)]) C dX7_endFrames_18 (by decide) rfl ?_
    refine r_aload C dX7_endFrames_20 (j := 0) rfl ?_
    refine r_getE (e := κ.2.2 b4 14) C (atR o6) fa_X7_161 rfl rfl (r_atN (atR (κ := κ) (hC.2.2.2.1 _ o6).2.2.2.2)) dX7_endFrames_22 ?_
    refine r_topa (fun b7 e8 => ?_)
    have h := h b7 e8
    have o9 : atS n b7 = some (.inl 2) := by rw [e8]; exact (hC.2.2.2.1 _ o6).2.2.2.2
    refine r_astore (lv' := [(5, Value.ref (B + b7)), (4, Value.ref (B + b4)), (0, Value.ref (B + 1)), (1, Value.ref (B + 21)), (2, Value.int x2), (3, Value.int x3)]) C dX7_endFrames_25 (by decide) rfl ?_
    refine r_aload C dX7_endFrames_27 (j := 0) rfl ?_
    obtain ⟨Q10, m11, h⟩ := h
    refine r_callVI (rest := []) C E [] (atR o9) rfl ky_X2_isOver kl_X7_264 ki_X2_isOver kx_X2_isOver ⟨Nat.le_of_ble_eq_true rfl, Nat.le_of_ble_eq_true rfl⟩ ⟨rfl, rfl⟩ m11 rfl rfl (Nat.le_of_ble_eq_true rfl) (Nat.zero_le _) (Nat.zero_le _) dX7_endFrames_29 (fun z14 σ12 s13 q15 => ?_)
    obtain ⟨s12x, κ12⟩ := σ12
    simp only at s13
    subst s13
    obtain ⟨f16, C17, q15⟩ := q15
    have G18 := hG.trans f16
    have h := h z14 κ12 q15
    refine r_if_eq (tgt := 115) C dX7_endFrames_32 (by decide) (fun c19 => ?_) (fun c19 => ?_)
    · have h := h.1 c19
      obtain ⟨z20, e21⟩ : ∃ y : Int32, y = x3 + 1 := ⟨_, rfl⟩
      have h := h z20 e21
      refine r_iinc (v := z20) (lv' := [(3, Value.int z20), (5, Value.ref (B + b7)), (4, Value.ref (B + b4)), (0, Value.ref (B + 1)), (1, Value.ref (B + 21)), (2, Value.int x2)]) C dX7_endFrames_115 (k := 5) rfl (by rw [e21]; rfl) (by decide) rfl ?_
      refine r_goto (tgt := 10) C dX7_endFrames_118 (by decide) ?_
      exact r_loc (by simp) h
    · have h := h.2 c19
      refine r_aload_n C dX7_endFrames_35 rfl (j := 2) rfl ?_
      refine r_getE (e := 21) C (atR (at_c (a := 0) rfl)) fa_X7_68 rfl C17.1.1 (by decide) dX7_endFrames_36 ?_
      refine r_astore (lv' := [(6, Value.ref (B + 21)), (5, Value.ref (B + b7)), (4, Value.ref (B + b4)), (0, Value.ref (B + 1)), (1, Value.ref (B + 21)), (2, Value.int x2), (3, Value.int x3)]) C dX7_endFrames_39 (by decide) rfl ?_
      refine r_aload C dX7_endFrames_41 (j := 0) rfl ?_
      refine r_alen (v := nI n) C (atR at_21) ⟨rfl, fun _ => rfl⟩ rfl dX7_endFrames_43 ?_
      refine r_topi (fun z22 e23 => ?_)
      have h := h z22 e23
      refine r_istore (lv' := [(7, Value.int z22), (6, Value.ref (B + 21)), (5, Value.ref (B + b7)), (4, Value.ref (B + b4)), (0, Value.ref (B + 1)), (1, Value.ref (B + 21)), (2, Value.int x2), (3, Value.int x3)]) C dX7_endFrames_44 (by decide) rfl ?_
      refine r_iconst (v := 0) C dX7_endFrames_46 (by decide) ?_
      refine r_istore (lv' := [(8, Value.int 0), (7, Value.int z22), (6, Value.ref (B + 21)), (5, Value.ref (B + b7)), (4, Value.ref (B + b4)), (0, Value.ref (B + 1)), (1, Value.ref (B + 21)), (2, Value.int x2), (3, Value.int x3)]) C dX7_endFrames_47 (by decide) rfl ?_
      exact r_loc (by simp) h
theorem v_X7_endFrames_49 {X : r_X} {w : r_V} {B n : Nat} {l : Launch} {Q : Ku → Prop} {κ0 : Ku} (C : r_C X w B 10 cX7_endFrames RX7) (E : r_E X l tX7_endFrames) (hn : okN n) {κ : Ku} (hC : CoK n κ) (hG : Gr n κ0 κ) {a4 a5 : Nat} {x2 x3 x7 x8 : Int32} (o4 : atS n a4 = some (.inl 6)) (o5 : atS n a5 = some (.inl 2))
    (h : (x7 ≤ x8 → (∃ Q2 : Ku → Prop, r_KV l w B n tX6_endFrame [Value.ref (B + a4), Value.long (κ.2.1 1 7)] κ Q2 ∧ (∀ κ4 : Ku, Q2 κ4 → (∀ z11 : Int32, z11 = x3 + 1 → (r_W X w B 10 0 0 (r_Z X w B tX7_endFrames (ZKV n κ0 Q)) 10 [(0, Value.ref (B + 1)), (1, Value.ref (B + 21)), (2, Value.int x2), (3, Value.int z11)] [] (shp n, κ4)))))) ∧ (¬ x7 ≤ x8 → (vp_in x8 n ∧ (∀ b15 : Nat, b15 = 22 + 14 * x8.toNatClampNeg → ((((κ.1 b15 2) &&& (κ.1 a4 1)) = 0 → (∀ z19 : Int32, z19 = x8 + 1 → (r_W X w B 10 0 0 (r_Z X w B tX7_endFrames (ZKV n κ0 Q)) 49 [(0, Value.ref (B + 1)), (1, Value.ref (B + 21)), (2, Value.int x2), (3, Value.int x3), (4, Value.ref (B + a4)), (5, Value.ref (B + a5)), (6, Value.ref (B + 21)), (7, Value.int x7), (8, Value.int z19)] [] (shp n, κ)))) ∧ (¬ ((κ.1 b15 2) &&& (κ.1 a4 1)) = 0 → (∃ Q21 : Int32 → Ku → Prop, r_KI l w B n tX2_isReceivedAt [Value.ref (B + a5), Value.int (κ.1 b15 0)] κ Q21 ∧ (∀ (z25 : Int32) (κ23 : Ku), Q21 z25 κ23 → ((z25 = 0 → (∀ z31 : Int32, z31 = x8 + 1 → (r_W X w B 10 0 0 (r_Z X w B tX7_endFrames (ZKV n κ0 Q)) 49 [(0, Value.ref (B + 1)), (1, Value.ref (B + 21)), (2, Value.int x2), (3, Value.int x3), (4, Value.ref (B + a4)), (5, Value.ref (B + a5)), (6, Value.ref (B + 21)), (7, Value.int x7), (8, Value.int z31)] [] (shp n, κ23)))) ∧ (¬ z25 = 0 → (∃ Q33 : Ku → Prop, r_KV l w B n tX7_receive [Value.ref (B + 1), Value.ref (B + b15), Value.ref (B + a4), Value.ref (B + a5)] κ23 Q33 ∧ (∀ κ35 : Ku, Q33 κ35 → (∀ z42 : Int32, z42 = x8 + 1 → (r_W X w B 10 0 0 (r_Z X w B tX7_endFrames (ZKV n κ0 Q)) 49 [(0, Value.ref (B + 1)), (1, Value.ref (B + 21)), (2, Value.int x2), (3, Value.int x3), (4, Value.ref (B + a4)), (5, Value.ref (B + a5)), (6, Value.ref (B + 21)), (7, Value.int x7), (8, Value.int z42)] [] (shp n, κ35))))))))))))))) :
    r_W X w B 10 0 0 (r_Z X w B tX7_endFrames (ZKV n κ0 Q)) 49 [(0, Value.ref (B + 1)), (1, Value.ref (B + 21)), (2, Value.int x2), (3, Value.int x3), (4, Value.ref (B + a4)), (5, Value.ref (B + a5)), (6, Value.ref (B + 21)), (7, Value.int x7), (8, Value.int x8)] [] (shp n, κ) := by
  refine r_iload C dX7_endFrames_49 (j := 8) rfl ?_
  refine r_iload C dX7_endFrames_51 (j := 7) rfl ?_
  refine r_icmp_ge (tgt := 106) C dX7_endFrames_53 (by decide) (fun c1 => ?_) (fun c1 => ?_)
  · have h := h.1 c1
    refine r_aload C dX7_endFrames_106 (j := 4) rfl ?_
    refine r_aload_n C dX7_endFrames_108 rfl (j := 0) rfl ?_
    refine r_get (v := .long (κ.2.1 1 7)) C (atR (at_c (a := 0) rfl)) fa_X7_50 rfl dX7_endFrames_109 ?_
    obtain ⟨Q2, m3, h⟩ := h
    refine r_callVV (rest := []) C E [Value.long (κ.2.1 1 7)] (atR o4) rfl ky_X6_endFrame kl_X7_274 ki_X6_endFrame kx_X6_endFrame ⟨Nat.le_of_ble_eq_true rfl, Nat.le_of_ble_eq_true rfl⟩ ⟨rfl, rfl⟩ m3 rfl rfl (Nat.le_of_ble_eq_true rfl) (Nat.zero_le _) (Nat.zero_le _) dX7_endFrames_112 (fun σ4 s5 q7 => ?_)
    obtain ⟨s4x, κ4⟩ := σ4
    simp only at s5
    subst s5
    obtain ⟨f8, C9, q7⟩ := q7
    have G10 := hG.trans f8
    have h := h κ4 q7
    obtain ⟨z11, e12⟩ : ∃ y : Int32, y = x3 + 1 := ⟨_, rfl⟩
    have h := h z11 e12
    refine r_iinc (v := z11) (lv' := [(3, Value.int z11), (0, Value.ref (B + 1)), (1, Value.ref (B + 21)), (2, Value.int x2), (4, Value.ref (B + a4)), (5, Value.ref (B + a5)), (6, Value.ref (B + 21)), (7, Value.int x7), (8, Value.int x8)]) C dX7_endFrames_115 (k := 3) rfl (by rw [e12]; rfl) (by decide) rfl ?_
    refine r_goto (tgt := 10) C dX7_endFrames_118 (by decide) ?_
    exact r_loc (by simp) h
  · have h := h.2 c1
    refine r_aload C dX7_endFrames_56 (j := 6) rfl ?_
    refine r_iload C dX7_endFrames_58 (j := 8) rfl ?_
    obtain ⟨g13, h⟩ := h
    have o14 : atS n (22 + 14 * x8.toNatClampNeg) = some (.inl 6) := at_st hn (vp_lt g13)
    refine r_aalE (e := 22 + 14 * x8.toNatClampNeg) C (atR at_21) ⟨rfl, fun _ => rfl⟩ g13 (hC.2.2.2.2 _ (vp_lt g13)) (by omega) dX7_endFrames_60 ?_
    refine r_topa (fun b15 e16 => ?_)
    have h := h b15 e16
    have o17 : atS n b15 = some (.inl 6) := by rw [e16]; exact o14
    refine r_astore (lv' := [(9, Value.ref (B + b15)), (0, Value.ref (B + 1)), (1, Value.ref (B + 21)), (2, Value.int x2), (3, Value.int x3), (4, Value.ref (B + a4)), (5, Value.ref (B + a5)), (6, Value.ref (B + 21)), (7, Value.int x7), (8, Value.int x8)]) C dX7_endFrames_61 (by decide) rfl ?_
    refine r_aload C dX7_endFrames_63 (j := 0) rfl ?_
    refine r_get (v := .int (κ.1 b15 2)) C (atR o17) fa_X7_82 rfl dX7_endFrames_65 ?_
    refine r_aload C dX7_endFrames_68 (j := 5) rfl ?_
    refine r_get (v := .int (κ.1 a4 1)) C (atR o4) fa_X7_79 rfl dX7_endFrames_70 ?_
    refine r_iand C dX7_endFrames_73 ?_
    refine r_if_eq (tgt := 100) C dX7_endFrames_74 (by decide) (fun c18 => ?_) (fun c18 => ?_)
    · have h := h.1 c18
      obtain ⟨z19, e20⟩ : ∃ y : Int32, y = x8 + 1 := ⟨_, rfl⟩
      have h := h z19 e20
      refine r_iinc (v := z19) (lv' := [(8, Value.int z19), (9, Value.ref (B + b15)), (0, Value.ref (B + 1)), (1, Value.ref (B + 21)), (2, Value.int x2), (3, Value.int x3), (4, Value.ref (B + a4)), (5, Value.ref (B + a5)), (6, Value.ref (B + 21)), (7, Value.int x7)]) C dX7_endFrames_100 (k := 9) rfl (by rw [e20]; rfl) (by decide) rfl ?_
      refine r_goto (tgt := 49) C dX7_endFrames_103 (by decide) ?_
      exact r_loc (by simp) h
    · have h := h.2 c18
      refine r_aload C dX7_endFrames_77 (j := 6) rfl ?_
      refine r_aload C dX7_endFrames_79 (j := 0) rfl ?_
      refine r_get (v := .int (κ.1 b15 0)) C (atR o17) fa_X7_251 rfl dX7_endFrames_81 ?_
      obtain ⟨Q21, m22, h⟩ := h
      refine r_callVI (rest := []) C E [Value.int (κ.1 b15 0)] (atR o5) rfl ky_X2_isReceivedAt kl_X7_267 ki_X2_isReceivedAt kx_X2_isReceivedAt ⟨Nat.le_of_ble_eq_true rfl, Nat.le_of_ble_eq_true rfl⟩ ⟨rfl, rfl⟩ m22 rfl rfl (Nat.le_of_ble_eq_true rfl) (Nat.zero_le _) (Nat.zero_le _) dX7_endFrames_84 (fun z25 σ23 s24 q26 => ?_)
      obtain ⟨s23x, κ23⟩ := σ23
      simp only at s24
      subst s24
      obtain ⟨f27, C28, q26⟩ := q26
      have G29 := hG.trans f27
      have h := h z25 κ23 q26
      refine r_if_eq (tgt := 100) C dX7_endFrames_87 (by decide) (fun c30 => ?_) (fun c30 => ?_)
      · have h := h.1 c30
        obtain ⟨z31, e32⟩ : ∃ y : Int32, y = x8 + 1 := ⟨_, rfl⟩
        have h := h z31 e32
        refine r_iinc (v := z31) (lv' := [(8, Value.int z31), (9, Value.ref (B + b15)), (0, Value.ref (B + 1)), (1, Value.ref (B + 21)), (2, Value.int x2), (3, Value.int x3), (4, Value.ref (B + a4)), (5, Value.ref (B + a5)), (6, Value.ref (B + 21)), (7, Value.int x7)]) C dX7_endFrames_100 (k := 9) rfl (by rw [e32]; rfl) (by decide) rfl ?_
        refine r_goto (tgt := 49) C dX7_endFrames_103 (by decide) ?_
        exact r_loc (by simp) h
      · have h := h.2 c30
        refine r_aload_n C dX7_endFrames_90 rfl (j := 1) rfl ?_
        refine r_aload C dX7_endFrames_91 (j := 0) rfl ?_
        refine r_aload C dX7_endFrames_93 (j := 5) rfl ?_
        refine r_aload C dX7_endFrames_95 (j := 6) rfl ?_
        obtain ⟨Q33, m34, h⟩ := h
        refine r_callVV (rest := []) C E [Value.ref (B + b15), Value.ref (B + a4), Value.ref (B + a5)] (atR (at_c (a := 0) rfl)) rfl ky_X7_receive kl_X7_270 ki_X7_receive kx_X7_receive ⟨Nat.le_of_ble_eq_true rfl, Nat.le_of_ble_eq_true rfl⟩ ⟨rfl, rfl⟩ m34 rfl rfl (Nat.le_of_ble_eq_true rfl) (Nat.zero_le _) (Nat.zero_le _) dX7_endFrames_97 (fun σ35 s36 q38 => ?_)
        obtain ⟨s35x, κ35⟩ := σ35
        simp only at s36
        subst s36
        obtain ⟨f39, C40, q38⟩ := q38
        have G41 := G29.trans f39
        have h := h κ35 q38
        obtain ⟨z42, e43⟩ : ∃ y : Int32, y = x8 + 1 := ⟨_, rfl⟩
        have h := h z42 e43
        refine r_iinc (v := z42) (lv' := [(8, Value.int z42), (9, Value.ref (B + b15)), (0, Value.ref (B + 1)), (1, Value.ref (B + 21)), (2, Value.int x2), (3, Value.int x3), (4, Value.ref (B + a4)), (5, Value.ref (B + a5)), (6, Value.ref (B + 21)), (7, Value.int x7)]) C dX7_endFrames_100 (k := 9) rfl (by rw [e43]; rfl) (by decide) rfl ?_
        refine r_goto (tgt := 49) C dX7_endFrames_103 (by decide) ?_
        exact r_loc (by simp) h
theorem v_X7_receive_0 {X : r_X} {w : r_V} {B n : Nat} {l : Launch} {Q : Ku → Prop} {κ0 : Ku} (C : r_C X w B 4 cX7_receive RX7) (E : r_E X l tX7_receive) (hn : okN n) {κ : Ku} (hC : CoK n κ) (hG : Gr n κ0 κ) {a1 a2 a3 : Nat} (o1 : atS n a1 = some (.inl 6)) (o2 : atS n a2 = some (.inl 6)) (o3 : atS n a3 = some (.inl 2))
    (h : ∀ κ1 : Ku, κ1 = kl κ a1 19 (κ.2.1 1 7) → (((κ1.1 a3 1) = (κ1.1 a1 0) → (∀ z6 : Int32, z6 = κ1.1 a3 0 → ((z6 = 1 → (∃ Q9 : Ku → Prop, r_KV l w B n tX7_receiveAsk [Value.ref (B + 1), Value.ref (B + a1), Value.ref (B + a2), Value.ref (B + a3)] κ1 Q9 ∧ (∀ κ11 : Ku, Q9 κ11 → (Q κ11)))) ∧ (¬ z6 = 1 → ((z6 = 2 → (∃ Q19 : Ku → Prop, r_KV l w B n tX7_receiveAnswer [Value.ref (B + 1), Value.ref (B + a1), Value.ref (B + a2)] κ1 Q19 ∧ (∀ κ21 : Ku, Q19 κ21 → (Q κ21)))) ∧ (¬ z6 = 2 → ((z6 = 3 → (∃ Q29 : Ku → Prop, r_KV l w B n tX7_receiveData [Value.ref (B + 1), Value.ref (B + a1), Value.ref (B + a2), Value.ref (B + a3)] κ1 Q29 ∧ (∀ κ31 : Ku, Q29 κ31 → (Q κ31)))) ∧ (¬ z6 = 3 → ((z6 = 4 → (∃ Q39 : Ku → Prop, r_KV l w B n tX7_receiveAcknowledge [Value.ref (B + 1), Value.ref (B + a1), Value.ref (B + a2), Value.ref (B + a3)] κ1 Q39 ∧ (∀ κ41 : Ku, Q39 κ41 → (Q κ41)))) ∧ (¬ z6 = 4 → (Q κ1))))))))))) ∧ (¬ (κ1.1 a3 1) = (κ1.1 a1 0) → (∃ Q48 : Int32 → Ku → Prop, r_KI l w B n tX2_left [Value.ref (B + a3)] κ1 Q48 ∧ (∀ (z52 : Int32) (κ50 : Ku), Q48 z52 κ50 → (∃ Q57 : Int64 → Ku → Prop, r_KL l w B n tJ9_max_f86c9 [Value.long (κ1.2.1 a1 8), Value.long (((κ1.2.1 1 7) + 1) + z52.toInt64)] κ50 Q57 ∧ (∀ (y61 : Int64) (κ59 : Ku), Q57 y61 κ59 → (∀ κ66 : Ku, κ66 = kl κ59 a1 8 y61 → (Q κ66))))))))) :
    r_W X w B 4 0 0 (r_Z X w B tX7_receive (ZKV n κ0 Q)) 0 [(0, Value.ref (B + 1)), (1, Value.ref (B + a1)), (2, Value.ref (B + a2)), (3, Value.ref (B + a3))] [] (shp n, κ) := by
  refine r_aload_n C dX7_receive_0 rfl (j := 1) rfl ?_
  refine r_aload_n C dX7_receive_1 rfl (j := 0) rfl ?_
  refine r_get (v := .long (κ.2.1 1 7)) C (atR (at_c (a := 0) rfl)) fa_X7_50 rfl dX7_receive_2 ?_
  refine r_putL C (atR o1) fa_X7_278 rfl dX7_receive_5 ?_
  refine r_namK (κ := kl κ a1 19 (κ.2.1 1 7)) (fun κ1 e2 => ?_)
  have h := h κ1 e2
  have C3 : CoK n κ1 := by rw [e2]; exact hC
  have G4 : Gr n κ0 κ1 := by rw [e2]; exact hG.l (by have q := at_stat hn o1; unfold mOf at *; omega)
  refine r_aload_n C dX7_receive_8 rfl (j := 3) rfl ?_
  refine r_get (v := .int (κ1.1 a3 1)) C (atR o3) fa_X7_281 rfl dX7_receive_9 ?_
  refine r_aload_n C dX7_receive_12 rfl (j := 1) rfl ?_
  refine r_get (v := .int (κ1.1 a1 0)) C (atR o1) fa_X7_251 rfl dX7_receive_13 ?_
  refine r_icmp_eq (tgt := 43) C dX7_receive_16 (by decide) (fun c5 => ?_) (fun c5 => ?_)
  · have h := h.1 c5
    refine r_aload_n C dX7_receive_43 rfl (j := 3) rfl ?_
    refine r_get (v := .int (κ1.1 a3 0)) C (atR o3) fa_X7_165 rfl dX7_receive_44 ?_
    refine r_topi (fun z6 e7 => ?_)
    have h := h z6 e7
    by_cases c8 : z6 = 1
    · have h := h.1 c8
      refine r_tableIn (tgt := 76) (off := 29) C dX7_receive_47 (by rw [c8]; decide) (by rw [c8]; decide) (by rw [c8]; rfl) (by decide) ?_
      refine r_aload_n C dX7_receive_76 rfl (j := 0) rfl ?_
      refine r_aload_n C dX7_receive_77 rfl (j := 1) rfl ?_
      refine r_aload_n C dX7_receive_78 rfl (j := 2) rfl ?_
      refine r_aload_n C dX7_receive_79 rfl (j := 3) rfl ?_
      obtain ⟨Q9, m10, h⟩ := h
      refine r_callVV (rest := []) C E [Value.ref (B + a1), Value.ref (B + a2), Value.ref (B + a3)] (atR (at_c (a := 0) rfl)) rfl ky_X7_receiveAsk kl_X7_287 ki_X7_receiveAsk kx_X7_receiveAsk ⟨Nat.le_of_ble_eq_true rfl, Nat.le_of_ble_eq_true rfl⟩ ⟨rfl, rfl⟩ m10 rfl rfl (Nat.le_of_ble_eq_true rfl) (Nat.zero_le _) (Nat.zero_le _) dX7_receive_80 (fun σ11 s12 q14 => ?_)
      obtain ⟨s11x, κ11⟩ := σ11
      simp only at s12
      subst s12
      obtain ⟨f15, C16, q14⟩ := q14
      have G17 := G4.trans f15
      have h := h κ11 q14
      refine r_goto (tgt := 115) C dX7_receive_83 (by decide) ?_
      exact r_vretQ C E rfl (Nat.zero_le _) (Nat.zero_le _) dX7_receive_115 rfl ⟨G17, C16, h⟩
    have h := h.2 c8
    have c8 := r_neT c8
    by_cases c18 : z6 = 2
    · have h := h.1 c18
      refine r_tableIn (tgt := 86) (off := 39) C dX7_receive_47 (by rw [c18]; decide) (by rw [c18]; decide) (by rw [c18]; rfl) (by decide) ?_
      refine r_aload_n C dX7_receive_86 rfl (j := 0) rfl ?_
      refine r_aload_n C dX7_receive_87 rfl (j := 1) rfl ?_
      refine r_aload_n C dX7_receive_88 rfl (j := 2) rfl ?_
      obtain ⟨Q19, m20, h⟩ := h
      refine r_callVV (rest := []) C E [Value.ref (B + a1), Value.ref (B + a2)] (atR (at_c (a := 0) rfl)) rfl ky_X7_receiveAnswer kl_X7_290 ki_X7_receiveAnswer kx_X7_receiveAnswer ⟨Nat.le_of_ble_eq_true rfl, Nat.le_of_ble_eq_true rfl⟩ ⟨rfl, rfl⟩ m20 rfl rfl (Nat.le_of_ble_eq_true rfl) (Nat.zero_le _) (Nat.zero_le _) dX7_receive_89 (fun σ21 s22 q24 => ?_)
      obtain ⟨s21x, κ21⟩ := σ21
      simp only at s22
      subst s22
      obtain ⟨f25, C26, q24⟩ := q24
      have G27 := G4.trans f25
      have h := h κ21 q24
      refine r_goto (tgt := 115) C dX7_receive_92 (by decide) ?_
      exact r_vretQ C E rfl (Nat.zero_le _) (Nat.zero_le _) dX7_receive_115 rfl ⟨G27, C26, h⟩
    have h := h.2 c18
    have c18 := r_neT c18
    by_cases c28 : z6 = 3
    · have h := h.1 c28
      refine r_tableIn (tgt := 95) (off := 48) C dX7_receive_47 (by rw [c28]; decide) (by rw [c28]; decide) (by rw [c28]; rfl) (by decide) ?_
      refine r_aload_n C dX7_receive_95 rfl (j := 0) rfl ?_
      refine r_aload_n C dX7_receive_96 rfl (j := 1) rfl ?_
      refine r_aload_n C dX7_receive_97 rfl (j := 2) rfl ?_
      refine r_aload_n C dX7_receive_98 rfl (j := 3) rfl ?_
      obtain ⟨Q29, m30, h⟩ := h
      refine r_callVV (rest := []) C E [Value.ref (B + a1), Value.ref (B + a2), Value.ref (B + a3)] (atR (at_c (a := 0) rfl)) rfl ky_X7_receiveData kl_X7_294 ki_X7_receiveData kx_X7_receiveData ⟨Nat.le_of_ble_eq_true rfl, Nat.le_of_ble_eq_true rfl⟩ ⟨rfl, rfl⟩ m30 rfl rfl (Nat.le_of_ble_eq_true rfl) (Nat.zero_le _) (Nat.zero_le _) dX7_receive_99 (fun σ31 s32 q34 => ?_)
      obtain ⟨s31x, κ31⟩ := σ31
      simp only at s32
      subst s32
      obtain ⟨f35, C36, q34⟩ := q34
      have G37 := G4.trans f35
      have h := h κ31 q34
      refine r_goto (tgt := 115) C dX7_receive_102 (by decide) ?_
      exact r_vretQ C E rfl (Nat.zero_le _) (Nat.zero_le _) dX7_receive_115 rfl ⟨G37, C36, h⟩
    have h := h.2 c28
    have c28 := r_neT c28
    by_cases c38 : z6 = 4
    · have h := h.1 c38
      refine r_tableIn (tgt := 105) (off := 58) C dX7_receive_47 (by rw [c38]; decide) (by rw [c38]; decide) (by rw [c38]; rfl) (by decide) ?_
      refine r_aload_n C dX7_receive_105 rfl (j := 0) rfl ?_
      refine r_aload_n C dX7_receive_106 rfl (j := 1) rfl ?_
      refine r_aload_n C dX7_receive_107 rfl (j := 2) rfl ?_
      refine r_aload_n C dX7_receive_108 rfl (j := 3) rfl ?_
      obtain ⟨Q39, m40, h⟩ := h
      refine r_callVV (rest := []) C E [Value.ref (B + a1), Value.ref (B + a2), Value.ref (B + a3)] (atR (at_c (a := 0) rfl)) rfl ky_X7_receiveAcknowledge kl_X7_297 ki_X7_receiveAcknowledge kx_X7_receiveAcknowledge ⟨Nat.le_of_ble_eq_true rfl, Nat.le_of_ble_eq_true rfl⟩ ⟨rfl, rfl⟩ m40 rfl rfl (Nat.le_of_ble_eq_true rfl) (Nat.zero_le _) (Nat.zero_le _) dX7_receive_109 (fun σ41 s42 q44 => ?_)
      obtain ⟨s41x, κ41⟩ := σ41
      simp only at s42
      subst s42
      obtain ⟨f45, C46, q44⟩ := q44
      have G47 := G4.trans f45
      have h := h κ41 q44
      refine r_goto (tgt := 115) C dX7_receive_112 (by decide) ?_
      exact r_vretQ C E rfl (Nat.zero_le _) (Nat.zero_le _) dX7_receive_115 rfl ⟨G47, C46, h⟩
    have h := h.2 c38
    have c38 := r_neT c38
    refine r_tableOut (tgt := 115) C dX7_receive_47 (by clear h; simp at *; omega) (by decide) ?_
    exact r_vretQ C E rfl (Nat.zero_le _) (Nat.zero_le _) dX7_receive_115 rfl ⟨G4, C3, h⟩
  · have h := h.2 c5
    refine r_aload_n C dX7_receive_19 rfl (j := 1) rfl ?_
    refine r_aload_n C dX7_receive_20 rfl (j := 1) rfl ?_
    refine r_get (v := .long (κ1.2.1 a1 8)) C (atR o1) fa_X7_155 rfl dX7_receive_21 ?_
    refine r_aload_n C dX7_receive_24 rfl (j := 0) rfl ?_
    refine r_get (v := .long (κ1.2.1 1 7)) C (atR (at_c (a := 0) rfl)) fa_X7_50 rfl dX7_receive_25 ?_
    refine r_lconst (v := 1) C dX7_receive_28 (by decide) ?_
    refine r_ladd C dX7_receive_29 ?_
    refine r_aload_n C dX7_receive_30 rfl (j := 3) rfl ?_
    obtain ⟨Q48, m49, h⟩ := h
    refine r_callVI (rest := [Value.long ((κ1.2.1 1 7) + 1), Value.long (κ1.2.1 a1 8), Value.ref (B + a1)]) C E [] (atR o3) rfl ky_X2_left kl_X7_284 ki_X2_left kx_X2_left ⟨Nat.le_of_ble_eq_true rfl, Nat.le_of_ble_eq_true rfl⟩ ⟨rfl, rfl⟩ m49 rfl rfl (Nat.le_of_ble_eq_true rfl) (Nat.zero_le _) (Nat.zero_le _) dX7_receive_31 (fun z52 σ50 s51 q53 => ?_)
    obtain ⟨s50x, κ50⟩ := σ50
    simp only at s51
    subst s51
    obtain ⟨f54, C55, q53⟩ := q53
    have G56 := G4.trans f54
    have h := h z52 κ50 q53
    refine r_i2l (v := z52.toInt64) C dX7_receive_34 rfl ?_
    refine r_ladd C dX7_receive_35 ?_
    obtain ⟨Q57, m58, h⟩ := h
    refine r_callSL (rest := [Value.ref (B + a1)]) C E [Value.long (κ1.2.1 a1 8), Value.long (((κ1.2.1 1 7) + 1) + z52.toInt64)] ky_J9_max_f86c9 kl_X7_158 ks_J9_max_f86c9 ⟨Nat.le_of_ble_eq_true rfl, Nat.le_of_ble_eq_true rfl⟩ ⟨rfl, rfl⟩ m58 rfl rfl (Nat.le_of_ble_eq_true rfl) (Nat.zero_le _) (Nat.zero_le _) dX7_receive_36 (fun y61 σ59 s60 q62 => ?_)
    obtain ⟨s59x, κ59⟩ := σ59
    simp only at s60
    subst s60
    obtain ⟨f63, C64, q62⟩ := q62
    have G65 := G56.trans f63
    have h := h y61 κ59 q62
    refine r_putL C (atR o1) fa_X7_155 rfl dX7_receive_39 ?_
    refine r_namK (κ := kl κ59 a1 8 y61) (fun κ66 e67 => ?_)
    have h := h κ66 e67
    have C68 : CoK n κ66 := by rw [e67]; exact C64
    have G69 : Gr n κ0 κ66 := by rw [e67]; exact G65.l (by have q := at_stat hn o1; unfold mOf at *; omega)
    exact r_vretQ C E rfl (Nat.zero_le _) (Nat.zero_le _) dX7_receive_42 rfl ⟨G69, C68, h⟩
theorem v_X7_receiveAsk_0 {X : r_X} {w : r_V} {B n : Nat} {l : Launch} {Q : Ku → Prop} {κ0 : Ku} (C : r_C X w B 4 cX7_receiveAsk RX7) (E : r_E X l tX7_receiveAsk) (hn : okN n) {κ : Ku} (hC : CoK n κ) (hG : Gr n κ0 κ) {a1 a2 a3 : Nat} (o1 : atS n a1 = some (.inl 6)) (o2 : atS n a2 = some (.inl 6)) (o3 : atS n a3 = some (.inl 2))
    (h : (((κ.2.1 1 7) + 1) < (κ.2.1 a1 8) → (Q κ)) ∧ (¬ ((κ.2.1 1 7) + 1) < (κ.2.1 a1 8) → (((κ.1 a1 9) = 0 → (((κ.1 (κ.2.2 a1 13) 0) = 0 → (∃ Q4 : Ku → Prop, r_KV l w B n tX2_make [Value.ref (B + (κ.2.2 a1 13)), Value.int 2, Value.int (κ.1 a2 0), Value.int (κ.1 a3 2)] κ Q4 ∧ (∀ κ6 : Ku, Q4 κ6 → (∀ κ13 : Ku, κ13 = kl κ6 a1 12 ((κ6.2.1 1 7) + 2) → (Q κ13))))) ∧ (¬ (κ.1 (κ.2.2 a1 13) 0) = 0 → (Q κ)))) ∧ (¬ (κ.1 a1 9) = 0 → (Q κ))))) :
    r_W X w B 4 0 0 (r_Z X w B tX7_receiveAsk (ZKV n κ0 Q)) 0 [(0, Value.ref (B + 1)), (1, Value.ref (B + a1)), (2, Value.ref (B + a2)), (3, Value.ref (B + a3))] [] (shp n, κ) := by
  refine r_aload_n C dX7_receiveAsk_0 rfl (j := 1) rfl ?_
  refine r_get (v := .long (κ.2.1 a1 8)) C (atR o1) fa_X7_155 rfl dX7_receiveAsk_1 ?_
  refine r_aload_n C dX7_receiveAsk_4 rfl (j := 0) rfl ?_
  refine r_get (v := .long (κ.2.1 1 7)) C (atR (at_c (a := 0) rfl)) fa_X7_50 rfl dX7_receiveAsk_5 ?_
  refine r_lconst (v := 1) C dX7_receiveAsk_8 (by decide) ?_
  refine r_ladd C dX7_receiveAsk_9 ?_
  refine r_lcmp C dX7_receiveAsk_10 ?_
  refine r_if_gt (tgt := 59) C dX7_receiveAsk_11 (by decide) (fun c1 => ?_) (fun c1 => ?_)
  · have h := h.1 (lgc_gt.mp c1)
    exact r_vretQ C E rfl (Nat.zero_le _) (Nat.zero_le _) dX7_receiveAsk_59 rfl ⟨hG, hC, h⟩
  · have h := h.2 (fun q => c1 (lgc_gt.mpr q))
    refine r_aload_n C dX7_receiveAsk_14 rfl (j := 1) rfl ?_
    refine r_get (v := .int (κ.1 a1 9)) C (atR o1) fa_X7_182 rfl dX7_receiveAsk_15 ?_
    refine r_if_ne (tgt := 59) C dX7_receiveAsk_18 (by decide) (fun c2 => ?_) (fun c2 => ?_)
    · have h := h.2 c2
      exact r_vretQ C E rfl (Nat.zero_le _) (Nat.zero_le _) dX7_receiveAsk_59 rfl ⟨hG, hC, h⟩
    · have h := h.1 c2
      refine r_aload_n C dX7_receiveAsk_21 rfl (j := 1) rfl ?_
      refine r_getE (e := κ.2.2 a1 13) C (atR o1) fa_X7_191 rfl rfl (r_atN (atR (κ := κ) (hC.2.2.2.1 _ o1).2.2.2.1)) dX7_receiveAsk_22 ?_
      refine r_get (v := .int (κ.1 (κ.2.2 a1 13) 0)) C (atR (hC.2.2.2.1 _ o1).2.2.2.1) fa_X7_165 rfl dX7_receiveAsk_25 ?_
      refine r_if_ne (tgt := 59) C dX7_receiveAsk_28 (by decide) (fun c3 => ?_) (fun c3 => ?_)
      · have h := h.2 c3
        exact r_vretQ C E rfl (Nat.zero_le _) (Nat.zero_le _) dX7_receiveAsk_59 rfl ⟨hG, hC, h⟩
      · have h := h.1 c3
        refine r_aload_n C dX7_receiveAsk_31 rfl (j := 1) rfl ?_
        refine r_getE (e := κ.2.2 a1 13) C (atR o1) fa_X7_191 rfl rfl (r_atN (atR (κ := κ) (hC.2.2.2.1 _ o1).2.2.2.1)) dX7_receiveAsk_32 ?_
        refine r_iconst (v := 2) C dX7_receiveAsk_35 (by decide) ?_
        refine r_aload_n C dX7_receiveAsk_36 rfl (j := 2) rfl ?_
        refine r_get (v := .int (κ.1 a2 0)) C (atR o2) fa_X7_251 rfl dX7_receiveAsk_37 ?_
        refine r_aload_n C dX7_receiveAsk_40 rfl (j := 3) rfl ?_
        refine r_get (v := .int (κ.1 a3 2)) C (atR o3) fa_X7_300 rfl dX7_receiveAsk_41 ?_
        obtain ⟨Q4, m5, h⟩ := h
        refine r_callVV (rest := []) C E [Value.int 2, Value.int (κ.1 a2 0), Value.int (κ.1 a3 2)] (atR (hC.2.2.2.1 _ o1).2.2.2.1) rfl ky_X2_make kl_X7_221 ki_X2_make kx_X2_make ⟨Nat.le_of_ble_eq_true rfl, Nat.le_of_ble_eq_true rfl⟩ ⟨rfl, rfl⟩ m5 rfl rfl (Nat.le_of_ble_eq_true rfl) (Nat.zero_le _) (Nat.zero_le _) dX7_receiveAsk_44 (fun σ6 s7 q9 => ?_)
        obtain ⟨s6x, κ6⟩ := σ6
        simp only at s7
        subst s7
        obtain ⟨f10, C11, q9⟩ := q9
        have G12 := hG.trans f10
        have h := h κ6 q9
        refine r_aload_n C dX7_receiveAsk_47 rfl (j := 1) rfl ?_
        refine r_aload_n C dX7_receiveAsk_48 rfl (j := 0) rfl ?_
        refine r_get (v := .long (κ6.2.1 1 7)) C (atR (at_c (a := 0) rfl)) fa_X7_50 rfl dX7_receiveAsk_49 ?_
        refine r_ldc2 (v := 2) C kj_X7_303 dX7_receiveAsk_52 ?_
        refine r_ladd C dX7_receiveAsk_55 ?_
        refine r_putL C (atR o1) fa_X7_194 rfl dX7_receiveAsk_56 ?_
        refine r_namK (κ := kl κ6 a1 12 ((κ6.2.1 1 7) + 2)) (fun κ13 e14 => ?_)
        have h := h κ13 e14
        have C15 : CoK n κ13 := by rw [e14]; exact C11
        have G16 : Gr n κ0 κ13 := by rw [e14]; exact G12.l (by have q := at_stat hn o1; unfold mOf at *; omega)
        exact r_vretQ C E rfl (Nat.zero_le _) (Nat.zero_le _) dX7_receiveAsk_59 rfl ⟨G16, C15, h⟩
theorem v_X7_receiveAnswer_0 {X : r_X} {w : r_V} {B n : Nat} {l : Launch} {Q : Ku → Prop} {κ0 : Ku} (C : r_C X w B 3 cX7_receiveAnswer RX7) (E : r_E X l tX7_receiveAnswer) (hn : okN n) {κ : Ku} (hC : CoK n κ) (hG : Gr n κ0 κ) {a1 a2 : Nat} (o1 : atS n a1 = some (.inl 6)) (o2 : atS n a2 = some (.inl 6))
    (h : ∃ Q1 : Int32 → Ku → Prop, r_KI l w B n tX6_waitsFor [Value.ref (B + a1), Value.int 2, Value.int (κ.1 a2 0)] κ Q1 ∧ (∀ (z5 : Int32) (κ3 : Ku), Q1 z5 κ3 → ((z5 = 0 → (Q κ3)) ∧ (¬ z5 = 0 → (∀ κ11 : Ku, κ11 = ki κ3 a1 9 0 → (∃ Q15 : Int32 → Ku → Prop, r_KI l w B n tX4_dataSlotsOf [Value.ref (B + 4), Value.ref (B + (a1 + 3))] κ11 Q15 ∧ (∀ (z19 : Int32) (κ17 : Ku), Q15 z19 κ17 → (∃ Q24 : Ku → Prop, r_KV l w B n tX2_make [Value.ref (B + (κ11.2.2 a1 13)), Value.int 3, Value.int (κ11.1 a2 0), Value.int z19] κ17 Q24 ∧ (∀ κ26 : Ku, Q24 κ26 → (∃ Q33 : Ku → Prop, r_KV l w B n tX5_copy [Value.ref (B + ((κ26.2.2 a1 13) + 1)), Value.ref (B + (a1 + 3))] κ26 Q33 ∧ (∀ κ35 : Ku, Q33 κ35 → (∀ κ42 : Ku, κ42 = kl κ35 a1 12 ((κ35.2.1 1 7) + 2) → (Q κ42))))))))))))) :
    r_W X w B 3 0 0 (r_Z X w B tX7_receiveAnswer (ZKV n κ0 Q)) 0 [(0, Value.ref (B + 1)), (1, Value.ref (B + a1)), (2, Value.ref (B + a2))] [] (shp n, κ) := by
  refine r_aload_n C dX7_receiveAnswer_0 rfl (j := 1) rfl ?_
  refine r_iconst (v := 2) C dX7_receiveAnswer_1 (by decide) ?_
  refine r_aload_n C dX7_receiveAnswer_2 rfl (j := 2) rfl ?_
  refine r_get (v := .int (κ.1 a2 0)) C (atR o2) fa_X7_251 rfl dX7_receiveAnswer_3 ?_
  obtain ⟨Q1, m2, h⟩ := h
  refine r_callVI (rest := []) C E [Value.int 2, Value.int (κ.1 a2 0)] (atR o1) rfl ky_X6_waitsFor kl_X7_305 ki_X6_waitsFor kx_X6_waitsFor ⟨Nat.le_of_ble_eq_true rfl, Nat.le_of_ble_eq_true rfl⟩ ⟨rfl, rfl⟩ m2 rfl rfl (Nat.le_of_ble_eq_true rfl) (Nat.zero_le _) (Nat.zero_le _) dX7_receiveAnswer_6 (fun z5 σ3 s4 q6 => ?_)
  obtain ⟨s3x, κ3⟩ := σ3
  simp only at s4
  subst s4
  obtain ⟨f7, C8, q6⟩ := q6
  have G9 := hG.trans f7
  have h := h z5 κ3 q6
  refine r_if_eq (tgt := 66) C dX7_receiveAnswer_9 (by decide) (fun c10 => ?_) (fun c10 => ?_)
  · have h := h.1 c10
    exact r_vretQ C E rfl (Nat.zero_le _) (Nat.zero_le _) dX7_receiveAnswer_66 rfl ⟨G9, C8, h⟩
  · have h := h.2 c10
    refine r_aload_n C dX7_receiveAnswer_12 rfl (j := 1) rfl ?_
    refine r_iconst (v := 0) C dX7_receiveAnswer_13 (by decide) ?_
    refine r_putI C (atR o1) fa_X7_182 rfl rfl rfl dX7_receiveAnswer_14 ?_
    refine r_namK (κ := ki κ3 a1 9 0) (fun κ11 e12 => ?_)
    have h := h κ11 e12
    have C13 : CoK n κ11 := by rw [e12]; exact C8
    have G14 : Gr n κ0 κ11 := by rw [e12]; exact G9.i (by have q := at_stat hn o1; unfold mOf at *; omega)
    refine r_aload_n C dX7_receiveAnswer_17 rfl (j := 1) rfl ?_
    refine r_getE (e := κ11.2.2 a1 13) C (atR o1) fa_X7_191 rfl rfl (r_atN (atR (κ := κ11) (C13.2.2.2.1 _ o1).2.2.2.1)) dX7_receiveAnswer_18 ?_
    refine r_iconst (v := 3) C dX7_receiveAnswer_21 (by decide) ?_
    refine r_aload_n C dX7_receiveAnswer_22 rfl (j := 2) rfl ?_
    refine r_get (v := .int (κ11.1 a2 0)) C (atR o2) fa_X7_251 rfl dX7_receiveAnswer_23 ?_
    refine r_aload_n C dX7_receiveAnswer_26 rfl (j := 0) rfl ?_
    refine r_getE (e := 4) C (atR (at_c (a := 0) rfl)) fa_X7_19 rfl C13.1.2.2.1 (by decide) dX7_receiveAnswer_27 ?_
    refine r_aload_n C dX7_receiveAnswer_30 rfl (j := 1) rfl ?_
    refine r_getE (e := a1 + 3) C (atR o1) fa_X7_207 rfl (C13.2.2.2.1 _ o1).2.1 (r_atN (atR (κ := κ11) (at_stat hn o1).2.2.1)) dX7_receiveAnswer_31 ?_
    obtain ⟨Q15, m16, h⟩ := h
    refine r_callVI (rest := [Value.int (κ11.1 a2 0), Value.int 3, Value.ref (B + (κ11.2.2 a1 13))]) C E [Value.ref (B + (a1 + 3))] (atR (at_c (a := 3) rfl)) rfl ky_X4_dataSlotsOf kl_X7_218 ki_X4_dataSlotsOf kx_X4_dataSlotsOf ⟨Nat.le_of_ble_eq_true rfl, Nat.le_of_ble_eq_true rfl⟩ ⟨rfl, rfl⟩ m16 rfl rfl (Nat.le_of_ble_eq_true rfl) (Nat.zero_le _) (Nat.zero_le _) dX7_receiveAnswer_34 (fun z19 σ17 s18 q20 => ?_)
    obtain ⟨s17x, κ17⟩ := σ17
    simp only at s18
    subst s18
    obtain ⟨f21, C22, q20⟩ := q20
    have G23 := G14.trans f21
    have h := h z19 κ17 q20
    obtain ⟨Q24, m25, h⟩ := h
    refine r_callVV (rest := []) C E [Value.int 3, Value.int (κ11.1 a2 0), Value.int z19] (atR (C13.2.2.2.1 _ o1).2.2.2.1) rfl ky_X2_make kl_X7_221 ki_X2_make kx_X2_make ⟨Nat.le_of_ble_eq_true rfl, Nat.le_of_ble_eq_true rfl⟩ ⟨rfl, rfl⟩ m25 rfl rfl (Nat.le_of_ble_eq_true rfl) (Nat.zero_le _) (Nat.zero_le _) dX7_receiveAnswer_37 (fun σ26 s27 q29 => ?_)
    obtain ⟨s26x, κ26⟩ := σ26
    simp only at s27
    subst s27
    obtain ⟨f30, C31, q29⟩ := q29
    have G32 := G23.trans f30
    have h := h κ26 q29
    refine r_aload_n C dX7_receiveAnswer_40 rfl (j := 1) rfl ?_
    refine r_getE (e := κ26.2.2 a1 13) C (atR o1) fa_X7_191 rfl rfl (r_atN (atR (κ := κ26) (C31.2.2.2.1 _ o1).2.2.2.1)) dX7_receiveAnswer_41 ?_
    refine r_getE (e := (κ26.2.2 a1 13) + 1) C (atR (C31.2.2.2.1 _ o1).2.2.2.1) fa_X7_225 rfl (C31.2.2.1 _ (C31.2.2.2.1 _ o1).2.2.2.1).1 (r_atN (atR (κ := κ26) (at_frame hn (C31.2.2.2.1 _ o1).2.2.2.1).1)) dX7_receiveAnswer_44 ?_
    refine r_aload_n C dX7_receiveAnswer_47 rfl (j := 1) rfl ?_
    refine r_getE (e := a1 + 3) C (atR o1) fa_X7_207 rfl (C31.2.2.2.1 _ o1).2.1 (r_atN (atR (κ := κ26) (at_stat hn o1).2.2.1)) dX7_receiveAnswer_48 ?_
    obtain ⟨Q33, m34, h⟩ := h
    refine r_callVV (rest := []) C E [Value.ref (B + (a1 + 3))] (atR (at_frame hn (C31.2.2.2.1 _ o1).2.2.2.1).1) rfl ky_X5_copy kl_X7_228 ki_X5_copy kx_X5_copy ⟨Nat.le_of_ble_eq_true rfl, Nat.le_of_ble_eq_true rfl⟩ ⟨rfl, rfl⟩ m34 rfl rfl (Nat.le_of_ble_eq_true rfl) (Nat.zero_le _) (Nat.zero_le _) dX7_receiveAnswer_51 (fun σ35 s36 q38 => ?_)
    obtain ⟨s35x, κ35⟩ := σ35
    simp only at s36
    subst s36
    obtain ⟨f39, C40, q38⟩ := q38
    have G41 := G32.trans f39
    have h := h κ35 q38
    refine r_aload_n C dX7_receiveAnswer_54 rfl (j := 1) rfl ?_
    refine r_aload_n C dX7_receiveAnswer_55 rfl (j := 0) rfl ?_
    refine r_get (v := .long (κ35.2.1 1 7)) C (atR (at_c (a := 0) rfl)) fa_X7_50 rfl dX7_receiveAnswer_56 ?_
    refine r_ldc2 (v := 2) C kj_X7_303 dX7_receiveAnswer_59 ?_
    refine r_ladd C dX7_receiveAnswer_62 ?_
    refine r_putL C (atR o1) fa_X7_194 rfl dX7_receiveAnswer_63 ?_
    refine r_namK (κ := kl κ35 a1 12 ((κ35.2.1 1 7) + 2)) (fun κ42 e43 => ?_)
    have h := h κ42 e43
    have C44 : CoK n κ42 := by rw [e43]; exact C40
    have G45 : Gr n κ0 κ42 := by rw [e43]; exact G41.l (by have q := at_stat hn o1; unfold mOf at *; omega)
    exact r_vretQ C E rfl (Nat.zero_le _) (Nat.zero_le _) dX7_receiveAnswer_66 rfl ⟨G45, C44, h⟩
theorem v_X7_receiveData_0 {X : r_X} {w : r_V} {B n : Nat} {l : Launch} {Q : Ku → Prop} {κ0 : Ku} (C : r_C X w B 4 cX7_receiveData RX7) (E : r_E X l tX7_receiveData) (hn : okN n) {κ : Ku} (hC : CoK n κ) (hG : Gr n κ0 κ) {a1 a2 a3 : Nat} (o1 : atS n a1 = some (.inl 6)) (o2 : atS n a2 = some (.inl 6)) (o3 : atS n a3 = some (.inl 2))
    (h : ∃ Q1 : Ku → Prop, r_KV l w B n tX4_copyGood [Value.ref (B + 4), Value.ref (B + a3), Value.int (κ.1 a1 0), Value.ref (B + 19)] κ Q1 ∧ (∀ κ3 : Ku, Q1 κ3 → (∃ Q10 : Int32 → Ku → Prop, r_KI l w B n tX4_pairOf [Value.ref (B + 4), Value.int (κ3.1 a2 0), Value.int (κ3.1 a1 0)] κ3 Q10 ∧ (∀ (z14 : Int32) (κ12 : Ku), Q10 z14 κ12 → (∃ Q19 : Ku → Prop, r_KV l w B n tX7_takePayloads [Value.ref (B + 1), Value.int z14, Value.ref (B + (a3 + 1))] κ12 Q19 ∧ (∀ κ21 : Ku, Q19 κ21 → ((((κ21.1 1 8) &&& (κ21.1 a1 1)) = 0 → (((κ21.1 (κ21.2.2 a1 13) 0) = 0 → (∃ Q30 : Ku → Prop, r_KV l w B n tX2_make [Value.ref (B + (κ21.2.2 a1 13)), Value.int 4, Value.int (κ21.1 a2 0), Value.int 0] κ21 Q30 ∧ (∀ κ32 : Ku, Q30 κ32 → (∃ Q39 : Ku → Prop, r_KV l w B n tX5_copy [Value.ref (B + ((κ32.2.2 a1 13) + 1)), Value.ref (B + 19)] κ32 Q39 ∧ (∀ κ41 : Ku, Q39 κ41 → (∀ κ48 : Ku, κ48 = kl κ41 a1 12 ((κ41.2.1 1 7) + 2) → (Q κ48))))))) ∧ (¬ (κ21.1 (κ21.2.2 a1 13) 0) = 0 → (Q κ21)))) ∧ (¬ ((κ21.1 1 8) &&& (κ21.1 a1 1)) = 0 → (Q κ21))))))))) :
    r_W X w B 4 0 0 (r_Z X w B tX7_receiveData (ZKV n κ0 Q)) 0 [(0, Value.ref (B + 1)), (1, Value.ref (B + a1)), (2, Value.ref (B + a2)), (3, Value.ref (B + a3))] [] (shp n, κ) := by
  refine r_aload_n C dX7_receiveData_0 rfl (j := 0) rfl ?_
  refine r_getE (e := 4) C (atR (at_c (a := 0) rfl)) fa_X7_19 rfl hC.1.2.2.1 (by decide) dX7_receiveData_1 ?_
  refine r_aload_n C dX7_receiveData_4 rfl (j := 3) rfl ?_
  refine r_aload_n C dX7_receiveData_5 rfl (j := 1) rfl ?_
  refine r_get (v := .int (κ.1 a1 0)) C (atR o1) fa_X7_251 rfl dX7_receiveData_6 ?_
  refine r_aload_n C dX7_receiveData_9 rfl (j := 0) rfl ?_
  refine r_getE (e := 19) C (atR (at_c (a := 0) rfl)) fa_X7_42 rfl hC.1.2.2.2.2.2.1 (by decide) dX7_receiveData_10 ?_
  obtain ⟨Q1, m2, h⟩ := h
  refine r_callVV (rest := []) C E [Value.ref (B + a3), Value.int (κ.1 a1 0), Value.ref (B + 19)] (atR (at_c (a := 3) rfl)) rfl ky_X4_copyGood kl_X7_309 ki_X4_copyGood kx_X4_copyGood ⟨Nat.le_of_ble_eq_true rfl, Nat.le_of_ble_eq_true rfl⟩ ⟨rfl, rfl⟩ m2 rfl rfl (Nat.le_of_ble_eq_true rfl) (Nat.zero_le _) (Nat.zero_le _) dX7_receiveData_13 (fun σ3 s4 q6 => ?_)
  obtain ⟨s3x, κ3⟩ := σ3
  simp only at s4
  subst s4
  obtain ⟨f7, C8, q6⟩ := q6
  have G9 := hG.trans f7
  have h := h κ3 q6
  refine r_aload_n C dX7_receiveData_16 rfl (j := 0) rfl ?_
  refine r_aload_n C dX7_receiveData_17 rfl (j := 0) rfl ?_
  refine r_getE (e := 4) C (atR (at_c (a := 0) rfl)) fa_X7_19 rfl C8.1.2.2.1 (by decide) dX7_receiveData_18 ?_
  refine r_aload_n C dX7_receiveData_21 rfl (j := 2) rfl ?_
  refine r_get (v := .int (κ3.1 a2 0)) C (atR o2) fa_X7_251 rfl dX7_receiveData_22 ?_
  refine r_aload_n C dX7_receiveData_25 rfl (j := 1) rfl ?_
  refine r_get (v := .int (κ3.1 a1 0)) C (atR o1) fa_X7_251 rfl dX7_receiveData_26 ?_
  obtain ⟨Q10, m11, h⟩ := h
  refine r_callVI (rest := [Value.ref (B + 1)]) C E [Value.int (κ3.1 a2 0), Value.int (κ3.1 a1 0)] (atR (at_c (a := 3) rfl)) rfl ky_X4_pairOf kl_X7_313 ki_X4_pairOf kx_X4_pairOf ⟨Nat.le_of_ble_eq_true rfl, Nat.le_of_ble_eq_true rfl⟩ ⟨rfl, rfl⟩ m11 rfl rfl (Nat.le_of_ble_eq_true rfl) (Nat.zero_le _) (Nat.zero_le _) dX7_receiveData_29 (fun z14 σ12 s13 q15 => ?_)
  obtain ⟨s12x, κ12⟩ := σ12
  simp only at s13
  subst s13
  obtain ⟨f16, C17, q15⟩ := q15
  have G18 := G9.trans f16
  have h := h z14 κ12 q15
  refine r_aload_n C dX7_receiveData_32 rfl (j := 3) rfl ?_
  refine r_getE (e := a3 + 1) C (atR o3) fa_X7_225 rfl (C17.2.2.1 _ o3).1 (r_atN (atR (κ := κ12) (at_frame hn o3).1)) dX7_receiveData_33 ?_
  obtain ⟨Q19, m20, h⟩ := h
  refine r_callVV (rest := []) C E [Value.int z14, Value.ref (B + (a3 + 1))] (atR (at_c (a := 0) rfl)) rfl ky_X7_takePayloads kl_X7_316 ki_X7_takePayloads kx_X7_takePayloads ⟨Nat.le_of_ble_eq_true rfl, Nat.le_of_ble_eq_true rfl⟩ ⟨rfl, rfl⟩ m20 rfl rfl (Nat.le_of_ble_eq_true rfl) (Nat.zero_le _) (Nat.zero_le _) dX7_receiveData_36 (fun σ21 s22 q24 => ?_)
  obtain ⟨s21x, κ21⟩ := σ21
  simp only at s22
  subst s22
  obtain ⟨f25, C26, q24⟩ := q24
  have G27 := G18.trans f25
  have h := h κ21 q24
  refine r_aload_n C dX7_receiveData_39 rfl (j := 0) rfl ?_
  refine r_get (v := .int (κ21.1 1 8)) C (atR (at_c (a := 0) rfl)) fa_X7_54 rfl dX7_receiveData_40 ?_
  refine r_aload_n C dX7_receiveData_43 rfl (j := 1) rfl ?_
  refine r_get (v := .int (κ21.1 a1 1)) C (atR o1) fa_X7_79 rfl dX7_receiveData_44 ?_
  refine r_iand C dX7_receiveData_47 ?_
  refine r_if_ne (tgt := 100) C dX7_receiveData_48 (by decide) (fun c28 => ?_) (fun c28 => ?_)
  · have h := h.2 c28
    exact r_vretQ C E rfl (Nat.zero_le _) (Nat.zero_le _) dX7_receiveData_100 rfl ⟨G27, C26, h⟩
  · have h := h.1 c28
    refine r_aload_n C dX7_receiveData_51 rfl (j := 1) rfl ?_
    refine r_getE (e := κ21.2.2 a1 13) C (atR o1) fa_X7_191 rfl rfl (r_atN (atR (κ := κ21) (C26.2.2.2.1 _ o1).2.2.2.1)) dX7_receiveData_52 ?_
    refine r_get (v := .int (κ21.1 (κ21.2.2 a1 13) 0)) C (atR (C26.2.2.2.1 _ o1).2.2.2.1) fa_X7_165 rfl dX7_receiveData_55 ?_
    refine r_if_ne (tgt := 100) C dX7_receiveData_58 (by decide) (fun c29 => ?_) (fun c29 => ?_)
    · have h := h.2 c29
      exact r_vretQ C E rfl (Nat.zero_le _) (Nat.zero_le _) dX7_receiveData_100 rfl ⟨G27, C26, h⟩
    · have h := h.1 c29
      refine r_aload_n C dX7_receiveData_61 rfl (j := 1) rfl ?_
      refine r_getE (e := κ21.2.2 a1 13) C (atR o1) fa_X7_191 rfl rfl (r_atN (atR (κ := κ21) (C26.2.2.2.1 _ o1).2.2.2.1)) dX7_receiveData_62 ?_
      refine r_iconst (v := 4) C dX7_receiveData_65 (by decide) ?_
      refine r_aload_n C dX7_receiveData_66 rfl (j := 2) rfl ?_
      refine r_get (v := .int (κ21.1 a2 0)) C (atR o2) fa_X7_251 rfl dX7_receiveData_67 ?_
      refine r_iconst (v := 0) C dX7_receiveData_70 (by decide) ?_
      obtain ⟨Q30, m31, h⟩ := h
      refine r_callVV (rest := []) C E [Value.int 4, Value.int (κ21.1 a2 0), Value.int 0] (atR (C26.2.2.2.1 _ o1).2.2.2.1) rfl ky_X2_make kl_X7_221 ki_X2_make kx_X2_make ⟨Nat.le_of_ble_eq_true rfl, Nat.le_of_ble_eq_true rfl⟩ ⟨rfl, rfl⟩ m31 rfl rfl (Nat.le_of_ble_eq_true rfl) (Nat.zero_le _) (Nat.zero_le _) dX7_receiveData_71 (fun σ32 s33 q35 => ?_)
      obtain ⟨s32x, κ32⟩ := σ32
      simp only at s33
      subst s33
      obtain ⟨f36, C37, q35⟩ := q35
      have G38 := G27.trans f36
      have h := h κ32 q35
      refine r_aload_n C dX7_receiveData_74 rfl (j := 1) rfl ?_
      refine r_getE (e := κ32.2.2 a1 13) C (atR o1) fa_X7_191 rfl rfl (r_atN (atR (κ := κ32) (C37.2.2.2.1 _ o1).2.2.2.1)) dX7_receiveData_75 ?_
      refine r_getE (e := (κ32.2.2 a1 13) + 1) C (atR (C37.2.2.2.1 _ o1).2.2.2.1) fa_X7_225 rfl (C37.2.2.1 _ (C37.2.2.2.1 _ o1).2.2.2.1).1 (r_atN (atR (κ := κ32) (at_frame hn (C37.2.2.2.1 _ o1).2.2.2.1).1)) dX7_receiveData_78 ?_
      refine r_aload_n C dX7_receiveData_81 rfl (j := 0) rfl ?_
      refine r_getE (e := 19) C (atR (at_c (a := 0) rfl)) fa_X7_42 rfl C37.1.2.2.2.2.2.1 (by decide) dX7_receiveData_82 ?_
      obtain ⟨Q39, m40, h⟩ := h
      refine r_callVV (rest := []) C E [Value.ref (B + 19)] (atR (at_frame hn (C37.2.2.2.1 _ o1).2.2.2.1).1) rfl ky_X5_copy kl_X7_228 ki_X5_copy kx_X5_copy ⟨Nat.le_of_ble_eq_true rfl, Nat.le_of_ble_eq_true rfl⟩ ⟨rfl, rfl⟩ m40 rfl rfl (Nat.le_of_ble_eq_true rfl) (Nat.zero_le _) (Nat.zero_le _) dX7_receiveData_85 (fun σ41 s42 q44 => ?_)
      obtain ⟨s41x, κ41⟩ := σ41
      simp only at s42
      subst s42
      obtain ⟨f45, C46, q44⟩ := q44
      have G47 := G38.trans f45
      have h := h κ41 q44
      refine r_aload_n C dX7_receiveData_88 rfl (j := 1) rfl ?_
      refine r_aload_n C dX7_receiveData_89 rfl (j := 0) rfl ?_
      refine r_get (v := .long (κ41.2.1 1 7)) C (atR (at_c (a := 0) rfl)) fa_X7_50 rfl dX7_receiveData_90 ?_
      refine r_ldc2 (v := 2) C kj_X7_303 dX7_receiveData_93 ?_
      refine r_ladd C dX7_receiveData_96 ?_
      refine r_putL C (atR o1) fa_X7_194 rfl dX7_receiveData_97 ?_
      refine r_namK (κ := kl κ41 a1 12 ((κ41.2.1 1 7) + 2)) (fun κ48 e49 => ?_)
      have h := h κ48 e49
      have C50 : CoK n κ48 := by rw [e49]; exact C46
      have G51 : Gr n κ0 κ48 := by rw [e49]; exact G47.l (by have q := at_stat hn o1; unfold mOf at *; omega)
      exact r_vretQ C E rfl (Nat.zero_le _) (Nat.zero_le _) dX7_receiveData_100 rfl ⟨G51, C50, h⟩
theorem v_X7_receiveAcknowledge_0 {X : r_X} {w : r_V} {B n : Nat} {l : Launch} {Q : Ku → Prop} {κ0 : Ku} (C : r_C X w B 6 cX7_receiveAcknowledge RX7) (E : r_E X l tX7_receiveAcknowledge) (hn : okN n) {κ : Ku} (hC : CoK n κ) (hG : Gr n κ0 κ) {a1 a2 a3 : Nat} (o1 : atS n a1 = some (.inl 6)) (o2 : atS n a2 = some (.inl 6)) (o3 : atS n a3 = some (.inl 2))
    (h : ∃ Q1 : Int32 → Ku → Prop, r_KI l w B n tX6_waitsFor [Value.ref (B + a1), Value.int 4, Value.int (κ.1 a2 0)] κ Q1 ∧ (∀ (z5 : Int32) (κ3 : Ku), Q1 z5 κ3 → ((z5 = 0 → (Q κ3)) ∧ (¬ z5 = 0 → (∀ b11 : Nat, b11 = a3 + 1 → (((κ3.1 b11 1) = 0 → (∃ Q15 : Ku → Prop, r_KV l w B n tX7_failAttempt [Value.ref (B + 1), Value.ref (B + a1)] κ3 Q15 ∧ (∀ κ17 : Ku, Q15 κ17 → (Q κ17)))) ∧ (¬ (κ3.1 b11 1) = 0 → (∀ κ24 : Ku, κ24 = ki κ3 a1 9 0 → (∃ Q28 : Ku → Prop, r_KV l w B n tX6_startAnew [Value.ref (B + a1)] κ24 Q28 ∧ (∀ κ30 : Ku, Q28 κ30 → (r_W X w B 6 0 0 (r_Z X w B tX7_receiveAcknowledge (ZKV n κ0 Q)) 45 [(0, Value.ref (B + 1)), (1, Value.ref (B + a1)), (4, Value.ref (B + b11)), (5, Value.int 0)] [] (shp n, κ30)))))))))))) :
    r_W X w B 6 0 0 (r_Z X w B tX7_receiveAcknowledge (ZKV n κ0 Q)) 0 [(0, Value.ref (B + 1)), (1, Value.ref (B + a1)), (2, Value.ref (B + a2)), (3, Value.ref (B + a3))] [] (shp n, κ) := by
  refine r_aload_n C dX7_receiveAcknowledge_0 rfl (j := 1) rfl ?_
  refine r_iconst (v := 4) C dX7_receiveAcknowledge_1 (by decide) ?_
  refine r_aload_n C dX7_receiveAcknowledge_2 rfl (j := 2) rfl ?_
  refine r_get (v := .int (κ.1 a2 0)) C (atR o2) fa_X7_251 rfl dX7_receiveAcknowledge_3 ?_
  obtain ⟨Q1, m2, h⟩ := h
  refine r_callVI (rest := []) C E [Value.int 4, Value.int (κ.1 a2 0)] (atR o1) rfl ky_X6_waitsFor kl_X7_305 ki_X6_waitsFor kx_X6_waitsFor ⟨Nat.le_of_ble_eq_true rfl, Nat.le_of_ble_eq_true rfl⟩ ⟨rfl, rfl⟩ m2 rfl rfl (Nat.le_of_ble_eq_true rfl) (Nat.zero_le _) (Nat.zero_le _) dX7_receiveAcknowledge_6 (fun z5 σ3 s4 q6 => ?_)
  obtain ⟨s3x, κ3⟩ := σ3
  simp only at s4
  subst s4
  obtain ⟨f7, C8, q6⟩ := q6
  have G9 := hG.trans f7
  have h := h z5 κ3 q6
  refine r_if_ne (tgt := 13) C dX7_receiveAcknowledge_9 (by decide) (fun c10 => ?_) (fun c10 => ?_)
  · have h := h.2 c10
    refine r_aload_n C dX7_receiveAcknowledge_13 rfl (j := 3) rfl ?_
    refine r_getE (e := a3 + 1) C (atR o3) fa_X7_225 rfl (C8.2.2.1 _ o3).1 (r_atN (atR (κ := κ3) (at_frame hn o3).1)) dX7_receiveAcknowledge_14 ?_
    refine r_topa (fun b11 e12 => ?_)
    have h := h b11 e12
    have o13 : atS n b11 = some (.inl 5) := by rw [e12]; exact (at_frame hn o3).1
    refine r_astore (lv' := [(4, Value.ref (B + b11)), (0, Value.ref (B + 1)), (1, Value.ref (B + a1)), (2, Value.ref (B + a2)), (3, Value.ref (B + a3))]) C dX7_receiveAcknowledge_17 (by decide) rfl ?_
    refine r_aload C dX7_receiveAcknowledge_19 (j := 0) rfl ?_
    refine r_get (v := .int (κ3.1 b11 1)) C (atR o13) fa_X7_103 rfl dX7_receiveAcknowledge_21 ?_
    refine r_if_ne (tgt := 33) C dX7_receiveAcknowledge_24 (by decide) (fun c14 => ?_) (fun c14 => ?_)
    · have h := h.2 c14
      refine r_aload_n C dX7_receiveAcknowledge_33 rfl (j := 2) rfl ?_
      refine r_iconst (v := 0) C dX7_receiveAcknowledge_34 (by decide) ?_
      refine r_putI C (atR o1) fa_X7_182 rfl rfl rfl dX7_receiveAcknowledge_35 ?_
      refine r_namK (κ := ki κ3 a1 9 0) (fun κ24 e25 => ?_)
      have h := h κ24 e25
      have C26 : CoK n κ24 := by rw [e25]; exact C8
      have G27 : Gr n κ0 κ24 := by rw [e25]; exact G9.i (by have q := at_stat hn o1; unfold mOf at *; omega)
      refine r_aload_n C dX7_receiveAcknowledge_38 rfl (j := 2) rfl ?_
      obtain ⟨Q28, m29, h⟩ := h
      refine r_callVV (rest := []) C E [] (atR o1) rfl ky_X6_startAnew kl_X7_244 ki_X6_startAnew kx_X6_startAnew ⟨Nat.le_of_ble_eq_true rfl, Nat.le_of_ble_eq_true rfl⟩ ⟨rfl, rfl⟩ m29 rfl rfl (Nat.le_of_ble_eq_true rfl) (Nat.zero_le _) (Nat.zero_le _) dX7_receiveAcknowledge_39 (fun σ30 s31 q33 => ?_)
      obtain ⟨s30x, κ30⟩ := σ30
      simp only at s31
      subst s31
      obtain ⟨f34, C35, q33⟩ := q33
      have G36 := G27.trans f34
      have h := h κ30 q33
      refine r_iconst (v := 0) C dX7_receiveAcknowledge_42 (by decide) ?_
      refine r_istore (lv' := [(5, Value.int 0), (4, Value.ref (B + b11)), (0, Value.ref (B + 1)), (1, Value.ref (B + a1)), (2, Value.ref (B + a2)), (3, Value.ref (B + a3))]) C dX7_receiveAcknowledge_43 (by decide) rfl ?_
      exact r_loc (by simp) h
    · have h := h.1 c14
      refine r_aload_n C dX7_receiveAcknowledge_27 rfl (j := 1) rfl ?_
      refine r_aload_n C dX7_receiveAcknowledge_28 rfl (j := 2) rfl ?_
      obtain ⟨Q15, m16, h⟩ := h
      refine r_callVV (rest := []) C E [Value.ref (B + a1)] (atR (at_c (a := 0) rfl)) rfl ky_X7_failAttempt kl_X7_188 ki_X7_failAttempt kx_X7_failAttempt ⟨Nat.le_of_ble_eq_true rfl, Nat.le_of_ble_eq_true rfl⟩ ⟨rfl, rfl⟩ m16 rfl rfl (Nat.le_of_ble_eq_true rfl) (Nat.zero_le _) (Nat.zero_le _) dX7_receiveAcknowledge_29 (fun σ17 s18 q20 => ?_)
      obtain ⟨s17x, κ17⟩ := σ17
      simp only at s18
      subst s18
      obtain ⟨f21, C22, q20⟩ := q20
      have G23 := G9.trans f21
      have h := h κ17 q20
      exact r_vretQ C E rfl (Nat.zero_le _) (Nat.zero_le _) dX7_receiveAcknowledge_32 rfl ⟨G23, C22, h⟩
  · have h := h.1 c10
    exact r_vretQ C E rfl (Nat.zero_le _) (Nat.zero_le _) dX7_receiveAcknowledge_12 rfl ⟨G9, C8, h⟩
theorem v_X7_receiveAcknowledge_45 {X : r_X} {w : r_V} {B n : Nat} {l : Launch} {Q : Ku → Prop} {κ0 : Ku} (C : r_C X w B 6 cX7_receiveAcknowledge RX7) (E : r_E X l tX7_receiveAcknowledge) (hn : okN n) {κ : Ku} (hC : CoK n κ) (hG : Gr n κ0 κ) {a1 a4 : Nat} {x5 : Int32} (o1 : atS n a1 = some (.inl 6)) (o4 : atS n a4 = some (.inl 5))
    (h : ((κ.1 a4 1) ≤ x5 → (((κ.1 (a1 + 1) 1) ≤ 0 → (Q κ)) ∧ (¬ (κ.1 (a1 + 1) 1) ≤ 0 → (∃ Q3 : Ku → Prop, r_KV l w B n tX7_drawCount [Value.ref (B + 1), Value.ref (B + a1)] κ Q3 ∧ (∀ κ5 : Ku, Q3 κ5 → (Q κ5)))))) ∧ (¬ (κ.1 a4 1) ≤ x5 → (∃ Q12 : Int32 → Ku → Prop, r_KI l w B n tX5_get [Value.ref (B + a4), Value.int x5] κ Q12 ∧ (∀ (z16 : Int32) (κ14 : Ku), Q12 z16 κ14 → (∃ Q21 : Ku → Prop, r_KV l w B n tX5_drop [Value.ref (B + (a1 + 1)), Value.int z16] κ14 Q21 ∧ (∀ κ23 : Ku, Q21 κ23 → (∃ Q30 : Int32 → Ku → Prop, r_KI l w B n tX5_get [Value.ref (B + a4), Value.int x5] κ23 Q30 ∧ (∀ (z34 : Int32) (κ32 : Ku), Q30 z34 κ32 → (∃ Q39 : Ku → Prop, r_KV l w B n tX1_add [Value.ref (B + 15), Value.int z34, Value.int 3, Value.long (κ32.2.1 1 7)] κ32 Q39 ∧ (∀ κ41 : Ku, Q39 κ41 → (∀ z48 : Int32, z48 = x5 + 1 → (r_W X w B 6 0 0 (r_Z X w B tX7_receiveAcknowledge (ZKV n κ0 Q)) 45 [(0, Value.ref (B + 1)), (1, Value.ref (B + a1)), (4, Value.ref (B + a4)), (5, Value.int z48)] [] (shp n, κ41))))))))))))) :
    r_W X w B 6 0 0 (r_Z X w B tX7_receiveAcknowledge (ZKV n κ0 Q)) 45 [(0, Value.ref (B + 1)), (1, Value.ref (B + a1)), (4, Value.ref (B + a4)), (5, Value.int x5)] [] (shp n, κ) := by
  refine r_iload C dX7_receiveAcknowledge_45 (j := 3) rfl ?_
  refine r_aload C dX7_receiveAcknowledge_47 (j := 2) rfl ?_
  refine r_get (v := .int (κ.1 a4 1)) C (atR o4) fa_X7_103 rfl dX7_receiveAcknowledge_49 ?_
  refine r_icmp_ge (tgt := 94) C dX7_receiveAcknowledge_52 (by decide) (fun c1 => ?_) (fun c1 => ?_)
  · have h := h.1 c1
    refine r_aload_n C dX7_receiveAcknowledge_94 rfl (j := 1) rfl ?_
    refine r_getE (e := a1 + 1) C (atR o1) fa_X7_96 rfl (hC.2.2.2.1 _ o1).1 (r_atN (atR (κ := κ) (at_stat hn o1).1)) dX7_receiveAcknowledge_95 ?_
    refine r_get (v := .int (κ.1 (a1 + 1) 1)) C (atR (at_stat hn o1).1) fa_X7_103 rfl dX7_receiveAcknowledge_98 ?_
    refine r_if_le (tgt := 109) C dX7_receiveAcknowledge_101 (by decide) (fun c2 => ?_) (fun c2 => ?_)
    · have h := h.1 c2
      exact r_vretQ C E rfl (Nat.zero_le _) (Nat.zero_le _) dX7_receiveAcknowledge_109 rfl ⟨hG, hC, h⟩
    · have h := h.2 c2
      refine r_aload_n C dX7_receiveAcknowledge_104 rfl (j := 0) rfl ?_
      refine r_aload_n C dX7_receiveAcknowledge_105 rfl (j := 1) rfl ?_
      obtain ⟨Q3, m4, h⟩ := h
      refine r_callVV (rest := []) C E [Value.ref (B + a1)] (atR (at_c (a := 0) rfl)) rfl ky_X7_drawCount kl_X7_106 ki_X7_drawCount kx_X7_drawCount ⟨Nat.le_of_ble_eq_true rfl, Nat.le_of_ble_eq_true rfl⟩ ⟨rfl, rfl⟩ m4 rfl rfl (Nat.le_of_ble_eq_true rfl) (Nat.zero_le _) (Nat.zero_le _) dX7_receiveAcknowledge_106 (fun σ5 s6 q8 => ?_)
      obtain ⟨s5x, κ5⟩ := σ5
      simp only at s6
      subst s6
      obtain ⟨f9, C10, q8⟩ := q8
      have G11 := hG.trans f9
      have h := h κ5 q8
      exact r_vretQ C E rfl (Nat.zero_le _) (Nat.zero_le _) dX7_receiveAcknowledge_109 rfl ⟨G11, C10, h⟩
  · have h := h.2 c1
    refine r_aload_n C dX7_receiveAcknowledge_55 rfl (j := 1) rfl ?_
    refine r_getE (e := a1 + 1) C (atR o1) fa_X7_96 rfl (hC.2.2.2.1 _ o1).1 (r_atN (atR (κ := κ) (at_stat hn o1).1)) dX7_receiveAcknowledge_56 ?_
    refine r_aload C dX7_receiveAcknowledge_59 (j := 2) rfl ?_
    refine r_iload C dX7_receiveAcknowledge_61 (j := 3) rfl ?_
    obtain ⟨Q12, m13, h⟩ := h
    refine r_callVI (rest := [Value.ref (B + (a1 + 1))]) C E [Value.int x5] (atR o4) rfl ky_X5_get kl_X7_235 ki_X5_get kx_X5_get ⟨Nat.le_of_ble_eq_true rfl, Nat.le_of_ble_eq_true rfl⟩ ⟨rfl, rfl⟩ m13 rfl rfl (Nat.le_of_ble_eq_true rfl) (Nat.zero_le _) (Nat.zero_le _) dX7_receiveAcknowledge_63 (fun z16 σ14 s15 q17 => ?_)
    obtain ⟨s14x, κ14⟩ := σ14
    simp only at s15
    subst s15
    obtain ⟨f18, C19, q17⟩ := q17
    have G20 := hG.trans f18
    have h := h z16 κ14 q17
    obtain ⟨Q21, m22, h⟩ := h
    refine r_callVV (rest := []) C E [Value.int z16] (atR (at_stat hn o1).1) rfl ky_X5_drop kl_X7_238 ki_X5_drop kx_X5_drop ⟨Nat.le_of_ble_eq_true rfl, Nat.le_of_ble_eq_true rfl⟩ ⟨rfl, rfl⟩ m22 rfl rfl (Nat.le_of_ble_eq_true rfl) (Nat.zero_le _) (Nat.zero_le _) dX7_receiveAcknowledge_66 (fun σ23 s24 q26 => ?_)
    obtain ⟨s23x, κ23⟩ := σ23
    simp only at s24
    subst s24
    obtain ⟨f27, C28, q26⟩ := q26
    have G29 := G20.trans f27
    have h := h κ23 q26
    refine r_aload_n C dX7_receiveAcknowledge_69 rfl (j := 0) rfl ?_
    refine r_getE (e := 15) C (atR (at_c (a := 0) rfl)) fa_X7_33 rfl C28.1.2.2.2.2.1 (by decide) dX7_receiveAcknowledge_70 ?_
    refine r_aload C dX7_receiveAcknowledge_73 (j := 2) rfl ?_
    refine r_iload C dX7_receiveAcknowledge_75 (j := 3) rfl ?_
    obtain ⟨Q30, m31, h⟩ := h
    refine r_callVI (rest := [Value.ref (B + 15)]) C E [Value.int x5] (atR o4) rfl ky_X5_get kl_X7_235 ki_X5_get kx_X5_get ⟨Nat.le_of_ble_eq_true rfl, Nat.le_of_ble_eq_true rfl⟩ ⟨rfl, rfl⟩ m31 rfl rfl (Nat.le_of_ble_eq_true rfl) (Nat.zero_le _) (Nat.zero_le _) dX7_receiveAcknowledge_77 (fun z34 σ32 s33 q35 => ?_)
    obtain ⟨s32x, κ32⟩ := σ32
    simp only at s33
    subst s33
    obtain ⟨f36, C37, q35⟩ := q35
    have G38 := G29.trans f36
    have h := h z34 κ32 q35
    refine r_iconst (v := 3) C dX7_receiveAcknowledge_80 (by decide) ?_
    refine r_aload_n C dX7_receiveAcknowledge_81 rfl (j := 0) rfl ?_
    refine r_get (v := .long (κ32.2.1 1 7)) C (atR (at_c (a := 0) rfl)) fa_X7_50 rfl dX7_receiveAcknowledge_82 ?_
    obtain ⟨Q39, m40, h⟩ := h
    refine r_callVV (rest := []) C E [Value.int z34, Value.int 3, Value.long (κ32.2.1 1 7)] (atR (at_c (a := 14) rfl)) rfl ky_X1_add kl_X7_241 ki_X1_add kx_X1_add ⟨Nat.le_of_ble_eq_true rfl, Nat.le_of_ble_eq_true rfl⟩ ⟨rfl, rfl⟩ m40 rfl rfl (Nat.le_of_ble_eq_true rfl) (Nat.zero_le _) (Nat.zero_le _) dX7_receiveAcknowledge_85 (fun σ41 s42 q44 => ?_)
    obtain ⟨s41x, κ41⟩ := σ41
    simp only at s42
    subst s42
    obtain ⟨f45, C46, q44⟩ := q44
    have G47 := G38.trans f45
    have h := h κ41 q44
    obtain ⟨z48, e49⟩ : ∃ y : Int32, y = x5 + 1 := ⟨_, rfl⟩
    have h := h z48 e49
    refine r_iinc (v := z48) (lv' := [(5, Value.int z48), (0, Value.ref (B + 1)), (1, Value.ref (B + a1)), (4, Value.ref (B + a4))]) C dX7_receiveAcknowledge_88 (k := 3) rfl (by rw [e49]; rfl) (by decide) rfl ?_
    refine r_goto (tgt := 45) C dX7_receiveAcknowledge_91 (by decide) ?_
    exact r_loc (by simp) h
theorem v_X7_takePayloads_0 {X : r_X} {w : r_V} {B n : Nat} {l : Launch} {Q : Ku → Prop} {κ0 : Ku} (C : r_C X w B 4 cX7_takePayloads RX7) (E : r_E X l tX7_takePayloads) (hn : okN n) {κ : Ku} (hC : CoK n κ) (hG : Gr n κ0 κ) {a2 : Nat} {x1 : Int32} (o2 : atS n a2 = some (.inl 5))
    (h : ∃ Q1 : Int32 → Ku → Prop, r_KI l w B n tX5_get [Value.ref (B + a2), Value.int 0] κ Q1 ∧ (∀ (z5 : Int32) (κ3 : Ku), Q1 z5 κ3 → (∃ Q10 : Int32 → Ku → Prop, r_KI l w B n tX4_numberOf [Value.ref (B + 4), Value.int z5] κ3 Q10 ∧ (∀ (z14 : Int32) (κ12 : Ku), Q10 z14 κ12 → (∃ Q19 : Ku → Prop, r_KV l w B n tX4_wantAtLeast [Value.ref (B + 4), Value.int x1, Value.int z14] κ12 Q19 ∧ (∀ κ21 : Ku, Q19 κ21 → (r_W X w B 4 0 0 (r_Z X w B tX7_takePayloads (ZKV n κ0 Q)) 22 [(0, Value.ref (B + 1)), (1, Value.int x1), (3, Value.int 0)] [] (shp n, κ21)))))))) :
    r_W X w B 4 0 0 (r_Z X w B tX7_takePayloads (ZKV n κ0 Q)) 0 [(0, Value.ref (B + 1)), (1, Value.int x1), (2, Value.ref (B + a2))] [] (shp n, κ) := by
  refine r_aload_n C dX7_takePayloads_0 rfl (j := 0) rfl ?_
  refine r_getE (e := 4) C (atR (at_c (a := 0) rfl)) fa_X7_19 rfl hC.1.2.2.1 (by decide) dX7_takePayloads_1 ?_
  refine r_iload_n C dX7_takePayloads_4 rfl (j := 1) rfl ?_
  refine r_aload_n C dX7_takePayloads_5 rfl (j := 0) rfl ?_
  refine r_getE (e := 4) C (atR (at_c (a := 0) rfl)) fa_X7_19 rfl hC.1.2.2.1 (by decide) dX7_takePayloads_6 ?_
  refine r_aload_n C dX7_takePayloads_9 rfl (j := 2) rfl ?_
  refine r_iconst (v := 0) C dX7_takePayloads_10 (by decide) ?_
  obtain ⟨Q1, m2, h⟩ := h
  refine r_callVI (rest := [Value.ref (B + 4), Value.int x1, Value.ref (B + 4)]) C E [Value.int 0] (atR o2) rfl ky_X5_get kl_X7_235 ki_X5_get kx_X5_get ⟨Nat.le_of_ble_eq_true rfl, Nat.le_of_ble_eq_true rfl⟩ ⟨rfl, rfl⟩ m2 rfl rfl (Nat.le_of_ble_eq_true rfl) (Nat.zero_le _) (Nat.zero_le _) dX7_takePayloads_11 (fun z5 σ3 s4 q6 => ?_)
  obtain ⟨s3x, κ3⟩ := σ3
  simp only at s4
  subst s4
  obtain ⟨f7, C8, q6⟩ := q6
  have G9 := hG.trans f7
  have h := h z5 κ3 q6
  obtain ⟨Q10, m11, h⟩ := h
  refine r_callVI (rest := [Value.int x1, Value.ref (B + 4)]) C E [Value.int z5] (atR (at_c (a := 3) rfl)) rfl ky_X4_numberOf kl_X7_320 ki_X4_numberOf kx_X4_numberOf ⟨Nat.le_of_ble_eq_true rfl, Nat.le_of_ble_eq_true rfl⟩ ⟨rfl, rfl⟩ m11 rfl rfl (Nat.le_of_ble_eq_true rfl) (Nat.zero_le _) (Nat.zero_le _) dX7_takePayloads_14 (fun z14 σ12 s13 q15 => ?_)
  obtain ⟨s12x, κ12⟩ := σ12
  simp only at s13
  subst s13
  obtain ⟨f16, C17, q15⟩ := q15
  have G18 := G9.trans f16
  have h := h z14 κ12 q15
  obtain ⟨Q19, m20, h⟩ := h
  refine r_callVV (rest := []) C E [Value.int x1, Value.int z14] (atR (at_c (a := 3) rfl)) rfl ky_X4_wantAtLeast kl_X7_323 ki_X4_wantAtLeast kx_X4_wantAtLeast ⟨Nat.le_of_ble_eq_true rfl, Nat.le_of_ble_eq_true rfl⟩ ⟨rfl, rfl⟩ m20 rfl rfl (Nat.le_of_ble_eq_true rfl) (Nat.zero_le _) (Nat.zero_le _) dX7_takePayloads_17 (fun σ21 s22 q24 => ?_)
  obtain ⟨s21x, κ21⟩ := σ21
  simp only at s22
  subst s22
  obtain ⟨f25, C26, q24⟩ := q24
  have G27 := G18.trans f25
  have h := h κ21 q24
  refine r_iconst (v := 0) C dX7_takePayloads_20 (by decide) ?_
  refine r_istore_n (lv' := [(3, Value.int 0), (0, Value.ref (B + 1)), (1, Value.int x1), (2, Value.ref (B + a2))]) C dX7_takePayloads_21 rfl (by decide) rfl ?_
  exact r_loc (by simp) h
theorem v_X7_takePayloads_22 {X : r_X} {w : r_V} {B n : Nat} {l : Launch} {Q : Ku → Prop} {κ0 : Ku} (C : r_C X w B 4 cX7_takePayloads RX7) (E : r_E X l tX7_takePayloads) (hn : okN n) {κ : Ku} (hC : CoK n κ) (hG : Gr n κ0 κ) {x1 x3 : Int32}
    (h : ((κ.1 19 1) ≤ x3 → (r_W X w B 4 0 0 (r_Z X w B tX7_takePayloads (ZKV n κ0 Q)) 57 [(0, Value.ref (B + 1)), (1, Value.int x1), (3, Value.int 1)] [] (shp n, κ))) ∧ (¬ (κ.1 19 1) ≤ x3 → (∃ Q2 : Int32 → Ku → Prop, r_KI l w B n tX5_get [Value.ref (B + 19), Value.int x3] κ Q2 ∧ (∀ (z6 : Int32) (κ4 : Ku), Q2 z6 κ4 → (∃ Q11 : Ku → Prop, r_KV l w B n tX4_hold [Value.ref (B + 4), Value.int x1, Value.int z6] κ4 Q11 ∧ (∀ κ13 : Ku, Q11 κ13 → (∀ z20 : Int32, z20 = x3 + 1 → (r_W X w B 4 0 0 (r_Z X w B tX7_takePayloads (ZKV n κ0 Q)) 22 [(0, Value.ref (B + 1)), (1, Value.int x1), (3, Value.int z20)] [] (shp n, κ13))))))))) :
    r_W X w B 4 0 0 (r_Z X w B tX7_takePayloads (ZKV n κ0 Q)) 22 [(0, Value.ref (B + 1)), (1, Value.int x1), (3, Value.int x3)] [] (shp n, κ) := by
  refine r_iload_n C dX7_takePayloads_22 rfl (j := 2) rfl ?_
  refine r_aload_n C dX7_takePayloads_23 rfl (j := 0) rfl ?_
  refine r_getE (e := 19) C (atR (at_c (a := 0) rfl)) fa_X7_42 rfl hC.1.2.2.2.2.2.1 (by decide) dX7_takePayloads_24 ?_
  refine r_get (v := .int (κ.1 19 1)) C (atR (at_c (a := 18) rfl)) fa_X7_103 rfl dX7_takePayloads_27 ?_
  refine r_icmp_ge (tgt := 55) C dX7_takePayloads_30 (by decide) (fun c1 => ?_) (fun c1 => ?_)
  · have h := h.1 c1
    refine r_iconst (v := 1) C dX7_takePayloads_55 (by decide) ?_
    refine r_istore_n (lv' := [(3, Value.int 1), (0, Value.ref (B + 1)), (1, Value.int x1)]) C dX7_takePayloads_56 rfl (by decide) rfl ?_
    exact r_loc (by simp) h
  · have h := h.2 c1
    refine r_aload_n C dX7_takePayloads_33 rfl (j := 0) rfl ?_
    refine r_getE (e := 4) C (atR (at_c (a := 0) rfl)) fa_X7_19 rfl hC.1.2.2.1 (by decide) dX7_takePayloads_34 ?_
    refine r_iload_n C dX7_takePayloads_37 rfl (j := 1) rfl ?_
    refine r_aload_n C dX7_takePayloads_38 rfl (j := 0) rfl ?_
    refine r_getE (e := 19) C (atR (at_c (a := 0) rfl)) fa_X7_42 rfl hC.1.2.2.2.2.2.1 (by decide) dX7_takePayloads_39 ?_
    refine r_iload_n C dX7_takePayloads_42 rfl (j := 2) rfl ?_
    obtain ⟨Q2, m3, h⟩ := h
    refine r_callVI (rest := [Value.int x1, Value.ref (B + 4)]) C E [Value.int x3] (atR (at_c (a := 18) rfl)) rfl ky_X5_get kl_X7_235 ki_X5_get kx_X5_get ⟨Nat.le_of_ble_eq_true rfl, Nat.le_of_ble_eq_true rfl⟩ ⟨rfl, rfl⟩ m3 rfl rfl (Nat.le_of_ble_eq_true rfl) (Nat.zero_le _) (Nat.zero_le _) dX7_takePayloads_43 (fun z6 σ4 s5 q7 => ?_)
    obtain ⟨s4x, κ4⟩ := σ4
    simp only at s5
    subst s5
    obtain ⟨f8, C9, q7⟩ := q7
    have G10 := hG.trans f8
    have h := h z6 κ4 q7
    obtain ⟨Q11, m12, h⟩ := h
    refine r_callVV (rest := []) C E [Value.int x1, Value.int z6] (atR (at_c (a := 3) rfl)) rfl ky_X4_hold kl_X7_326 ki_X4_hold kx_X4_hold ⟨Nat.le_of_ble_eq_true rfl, Nat.le_of_ble_eq_true rfl⟩ ⟨rfl, rfl⟩ m12 rfl rfl (Nat.le_of_ble_eq_true rfl) (Nat.zero_le _) (Nat.zero_le _) dX7_takePayloads_46 (fun σ13 s14 q16 => ?_)
    obtain ⟨s13x, κ13⟩ := σ13
    simp only at s14
    subst s14
    obtain ⟨f17, C18, q16⟩ := q16
    have G19 := G10.trans f17
    have h := h κ13 q16
    obtain ⟨z20, e21⟩ : ∃ y : Int32, y = x3 + 1 := ⟨_, rfl⟩
    have h := h z20 e21
    refine r_iinc (v := z20) (lv' := [(3, Value.int z20), (0, Value.ref (B + 1)), (1, Value.int x1)]) C dX7_takePayloads_49 (k := 2) rfl (by rw [e21]; rfl) (by decide) rfl ?_
    refine r_goto (tgt := 22) C dX7_takePayloads_52 (by decide) ?_
    exact r_loc (by simp) h
theorem v_X7_takePayloads_57 {X : r_X} {w : r_V} {B n : Nat} {l : Launch} {Q : Ku → Prop} {κ0 : Ku} (C : r_C X w B 4 cX7_takePayloads RX7) (E : r_E X l tX7_takePayloads) (hn : okN n) {κ : Ku} (hC : CoK n κ) (hG : Gr n κ0 κ) {x1 x3 : Int32}
    (h : ((κ.1 4 4) < x3 → (Q κ)) ∧ (¬ (κ.1 4 4) < x3 → (∃ Q2 : Int32 → Ku → Prop, r_KI l w B n tX4_releases [Value.ref (B + 4), Value.int x1, Value.int x3] κ Q2 ∧ (∀ (z6 : Int32) (κ4 : Ku), Q2 z6 κ4 → ((z6 = 0 → (∀ z12 : Int32, z12 = x3 + 1 → (r_W X w B 4 0 0 (r_Z X w B tX7_takePayloads (ZKV n κ0 Q)) 57 [(0, Value.ref (B + 1)), (1, Value.int x1), (3, Value.int z12)] [] (shp n, κ4)))) ∧ (¬ z6 = 0 → (∃ Q14 : Ku → Prop, r_KV l w B n tX1_add [Value.ref (B + 15), Value.int x3, Value.int 1, Value.long (κ4.2.1 1 7)] κ4 Q14 ∧ (∀ κ16 : Ku, Q14 κ16 → (∀ z23 : Int32, z23 = x3 + 1 → (r_W X w B 4 0 0 (r_Z X w B tX7_takePayloads (ZKV n κ0 Q)) 57 [(0, Value.ref (B + 1)), (1, Value.int x1), (3, Value.int z23)] [] (shp n, κ16))))))))))) :
    r_W X w B 4 0 0 (r_Z X w B tX7_takePayloads (ZKV n κ0 Q)) 57 [(0, Value.ref (B + 1)), (1, Value.int x1), (3, Value.int x3)] [] (shp n, κ) := by
  refine r_iload_n C dX7_takePayloads_57 rfl (j := 2) rfl ?_
  refine r_aload_n C dX7_takePayloads_58 rfl (j := 0) rfl ?_
  refine r_getE (e := 4) C (atR (at_c (a := 0) rfl)) fa_X7_19 rfl hC.1.2.2.1 (by decide) dX7_takePayloads_59 ?_
  refine r_get (v := .int (κ.1 4 4)) C (atR (at_c (a := 3) rfl)) fa_X7_329 rfl dX7_takePayloads_62 ?_
  refine r_icmp_gt (tgt := 99) C dX7_takePayloads_65 (by decide) (fun c1 => ?_) (fun c1 => ?_)
  · have h := h.1 c1
    exact r_vretQ C E rfl (Nat.zero_le _) (Nat.zero_le _) dX7_takePayloads_99 rfl ⟨hG, hC, h⟩
  · have h := h.2 c1
    refine r_aload_n C dX7_takePayloads_68 rfl (j := 0) rfl ?_
    refine r_getE (e := 4) C (atR (at_c (a := 0) rfl)) fa_X7_19 rfl hC.1.2.2.1 (by decide) dX7_takePayloads_69 ?_
    refine r_iload_n C dX7_takePayloads_72 rfl (j := 1) rfl ?_
    refine r_iload_n C dX7_takePayloads_73 rfl (j := 2) rfl ?_
    obtain ⟨Q2, m3, h⟩ := h
    refine r_callVI (rest := []) C E [Value.int x1, Value.int x3] (atR (at_c (a := 3) rfl)) rfl ky_X4_releases kl_X7_330 ki_X4_releases kx_X4_releases ⟨Nat.le_of_ble_eq_true rfl, Nat.le_of_ble_eq_true rfl⟩ ⟨rfl, rfl⟩ m3 rfl rfl (Nat.le_of_ble_eq_true rfl) (Nat.zero_le _) (Nat.zero_le _) dX7_takePayloads_74 (fun z6 σ4 s5 q7 => ?_)
    obtain ⟨s4x, κ4⟩ := σ4
    simp only at s5
    subst s5
    obtain ⟨f8, C9, q7⟩ := q7
    have G10 := hG.trans f8
    have h := h z6 κ4 q7
    refine r_if_eq (tgt := 93) C dX7_takePayloads_77 (by decide) (fun c11 => ?_) (fun c11 => ?_)
    · have h := h.1 c11
      obtain ⟨z12, e13⟩ : ∃ y : Int32, y = x3 + 1 := ⟨_, rfl⟩
      have h := h z12 e13
      refine r_iinc (v := z12) (lv' := [(3, Value.int z12), (0, Value.ref (B + 1)), (1, Value.int x1)]) C dX7_takePayloads_93 (k := 2) rfl (by rw [e13]; rfl) (by decide) rfl ?_
      refine r_goto (tgt := 57) C dX7_takePayloads_96 (by decide) ?_
      exact r_loc (by simp) h
    · have h := h.2 c11
      refine r_aload_n C dX7_takePayloads_80 rfl (j := 0) rfl ?_
      refine r_getE (e := 15) C (atR (at_c (a := 0) rfl)) fa_X7_33 rfl C9.1.2.2.2.2.1 (by decide) dX7_takePayloads_81 ?_
      refine r_iload_n C dX7_takePayloads_84 rfl (j := 2) rfl ?_
      refine r_iconst (v := 1) C dX7_takePayloads_85 (by decide) ?_
      refine r_aload_n C dX7_takePayloads_86 rfl (j := 0) rfl ?_
      refine r_get (v := .long (κ4.2.1 1 7)) C (atR (at_c (a := 0) rfl)) fa_X7_50 rfl dX7_takePayloads_87 ?_
      obtain ⟨Q14, m15, h⟩ := h
      refine r_callVV (rest := []) C E [Value.int x3, Value.int 1, Value.long (κ4.2.1 1 7)] (atR (at_c (a := 14) rfl)) rfl ky_X1_add kl_X7_241 ki_X1_add kx_X1_add ⟨Nat.le_of_ble_eq_true rfl, Nat.le_of_ble_eq_true rfl⟩ ⟨rfl, rfl⟩ m15 rfl rfl (Nat.le_of_ble_eq_true rfl) (Nat.zero_le _) (Nat.zero_le _) dX7_takePayloads_90 (fun σ16 s17 q19 => ?_)
      obtain ⟨s16x, κ16⟩ := σ16
      simp only at s17
      subst s17
      obtain ⟨f20, C21, q19⟩ := q19
      have G22 := G10.trans f20
      have h := h κ16 q19
      obtain ⟨z23, e24⟩ : ∃ y : Int32, y = x3 + 1 := ⟨_, rfl⟩
      have h := h z23 e24
      refine r_iinc (v := z23) (lv' := [(3, Value.int z23), (0, Value.ref (B + 1)), (1, Value.int x1)]) C dX7_takePayloads_93 (k := 2) rfl (by rw [e24]; rfl) (by decide) rfl ?_
      refine r_goto (tgt := 57) C dX7_takePayloads_96 (by decide) ?_
      exact r_loc (by simp) h
theorem v_X7_countIdleSlots_0 {X : r_X} {w : r_V} {B n : Nat} {l : Launch} {Q : Ku → Prop} {κ0 : Ku} (C : r_C X w B 7 cX7_countIdleSlots RX7) (E : r_E X l tX7_countIdleSlots) (hn : okN n) {κ : Ku} (hC : CoK n κ) (hG : Gr n κ0 κ)
    (h : ∀ z1 : Int32, z1 = nI n → (r_W X w B 7 0 0 (r_Z X w B tX7_countIdleSlots (ZKV n κ0 Q)) 10 [(0, Value.ref (B + 1)), (1, Value.ref (B + 21)), (2, Value.int z1), (3, Value.int 0)] [] (shp n, κ))) :
    r_W X w B 7 0 0 (r_Z X w B tX7_countIdleSlots (ZKV n κ0 Q)) 0 [(0, Value.ref (B + 1))] [] (shp n, κ) := by
  refine r_aload_n C dX7_countIdleSlots_0 rfl (j := 0) rfl ?_
  refine r_getE (e := 21) C (atR (at_c (a := 0) rfl)) fa_X7_68 rfl hC.1.1 (by decide) dX7_countIdleSlots_1 ?_
  refine r_astore_n (lv' := [(1, Value.ref (B + 21)), (0, Value.ref (B + 1))]) C dX7_countIdleSlots_4 rfl (by decide) rfl ?_
  refine r_aload_n C dX7_countIdleSlots_5 rfl (j := 0) rfl ?_
  refine r_alen (v := nI n) C (atR at_21) ⟨rfl, fun _ => rfl⟩ rfl dX7_countIdleSlots_6 ?_
  refine r_topi (fun z1 e2 => ?_)
  have h := h z1 e2
  refine r_istore_n (lv' := [(2, Value.int z1), (1, Value.ref (B + 21)), (0, Value.ref (B + 1))]) C dX7_countIdleSlots_7 rfl (by decide) rfl ?_
  refine r_iconst (v := 0) C dX7_countIdleSlots_8 (by decide) ?_
  refine r_istore_n (lv' := [(3, Value.int 0), (2, Value.int z1), (1, Value.ref (B + 21)), (0, Value.ref (B + 1))]) C dX7_countIdleSlots_9 rfl (by decide) rfl ?_
  exact r_loc (by simp) h
theorem v_X7_countIdleSlots_10 {X : r_X} {w : r_V} {B n : Nat} {l : Launch} {Q : Ku → Prop} {κ0 : Ku} (C : r_C X w B 7 cX7_countIdleSlots RX7) (E : r_E X l tX7_countIdleSlots) (hn : okN n) {κ : Ku} (hC : CoK n κ) (hG : Gr n κ0 κ) {x2 x3 : Int32}
    (h : (x2 ≤ x3 → (Q κ)) ∧ (¬ x2 ≤ x3 → (vp_in x3 n ∧ (∀ b4 : Nat, b4 = 22 + 14 * x3.toNatClampNeg → (∀ z8 : Int32, z8 = (if ((κ.1 1 8) &&& (κ.1 b4 2)) = 0 then (0 : Int32) else (1 : Int32)) → ((z8 = 0 → (((κ.1 b4 18) = 0 → (r_W X w B 7 0 0 (r_Z X w B tX7_countIdleSlots (ZKV n κ0 Q)) 79 [(0, Value.ref (B + 1)), (1, Value.ref (B + 21)), (2, Value.int x2), (3, Value.int x3), (4, Value.ref (B + b4)), (5, Value.int z8)] [] (shp n, κ))) ∧ (¬ (κ.1 b4 18) = 0 → (∀ z14 : Int32, z14 = (if (κ.2.1 b4 19) = ((κ.2.1 1 7) - 1) then (3 : Int32) else (6 : Int32)) → (∀ κ17 : Ku, κ17 = ki κ b4 7 z14 → (r_W X w B 7 0 0 (r_Z X w B tX7_countIdleSlots (ZKV n κ0 Q)) 79 [(0, Value.ref (B + 1)), (1, Value.ref (B + 21)), (2, Value.int x2), (3, Value.int x3), (4, Value.ref (B + b4)), (5, Value.int z8)] [] (shp n, κ17))))))) ∧ (¬ z8 = 0 → (r_W X w B 7 0 0 (r_Z X w B tX7_countIdleSlots (ZKV n κ0 Q)) 79 [(0, Value.ref (B + 1)), (1, Value.ref (B + 21)), (2, Value.int x2), (3, Value.int x3), (4, Value.ref (B + b4)), (5, Value.int z8)] [] (shp n, κ))))))))) :
    r_W X w B 7 0 0 (r_Z X w B tX7_countIdleSlots (ZKV n κ0 Q)) 10 [(0, Value.ref (B + 1)), (1, Value.ref (B + 21)), (2, Value.int x2), (3, Value.int x3)] [] (shp n, κ) := by
  refine r_iload_n C dX7_countIdleSlots_10 rfl (j := 3) rfl ?_
  refine r_iload_n C dX7_countIdleSlots_11 rfl (j := 2) rfl ?_
  refine r_icmp_ge (tgt := 153) C dX7_countIdleSlots_12 (by decide) (fun c1 => ?_) (fun c1 => ?_)
  · have h := h.1 c1
    exact r_vretQ C E rfl (Nat.zero_le _) (Nat.zero_le _) dX7_countIdleSlots_153 rfl ⟨hG, hC, h⟩
  · have h := h.2 c1
    refine r_aload_n C dX7_countIdleSlots_15 rfl (j := 1) rfl ?_
    refine r_iload_n C dX7_countIdleSlots_16 rfl (j := 3) rfl ?_
    obtain ⟨g2, h⟩ := h
    have o3 : atS n (22 + 14 * x3.toNatClampNeg) = some (.inl 6) := at_st hn (vp_lt g2)
    refine r_aalE (e := 22 + 14 * x3.toNatClampNeg) C (atR at_21) ⟨rfl, fun _ => rfl⟩ g2 (hC.2.2.2.2 _ (vp_lt g2)) (by omega) dX7_countIdleSlots_17 ?_
    refine r_topa (fun b4 e5 => ?_)
    have h := h b4 e5
    have o6 : atS n b4 = some (.inl 6) := by rw [e5]; exact o3
    refine r_astore (lv' := [(4, Value.ref (B + b4)), (0, Value.ref (B + 1)), (1, Value.ref (B + 21)), (2, Value.int x2), (3, Value.int x3)]) C dX7_countIdleSlots_18 (by decide) rfl ?_
    refine r_aload_n C dX7_countIdleSlots_20 rfl (j := 1) rfl ?_
    refine r_get (v := .int (κ.1 1 8)) C (atR (at_c (a := 0) rfl)) fa_X7_54 rfl dX7_countIdleSlots_21 ?_
    refine r_aload C dX7_countIdleSlots_24 (j := 0) rfl ?_
    refine r_get (v := .int (κ.1 b4 2)) C (atR o6) fa_X7_82 rfl dX7_countIdleSlots_26 ?_
    refine r_iand C dX7_countIdleSlots_29 ?_
    have k10 : ∀ z8 : Int32, z8 = (if ((κ.1 1 8) &&& (κ.1 b4 2)) = 0 then (0 : Int32) else (1 : Int32)) → r_W X w B 7 0 0 (r_Z X w B tX7_countIdleSlots (ZKV n κ0 Q)) 38 [(4, Value.ref (B + b4)), (0, Value.ref (B + 1)), (1, Value.ref (B + 21)), (2, Value.int x2), (3, Value.int x3)] [Value.int z8] (shp n, κ) := by
      intro z8 e9
      have h := h z8 e9
      refine r_istore (lv' := [(5, Value.int z8), (4, Value.ref (B + b4)), (0, Value.ref (B + 1)), (1, Value.ref (B + 21)), (2, Value.int x2), (3, Value.int x3)]) C dX7_countIdleSlots_38 (by decide) rfl ?_
      refine r_iload C dX7_countIdleSlots_40 (j := 0) rfl ?_
      refine r_if_ne (tgt := 79) C dX7_countIdleSlots_42 (by decide) (fun c11 => ?_) (fun c11 => ?_)
      · have h := h.2 c11
        exact r_loc (by simp) h
      · have h := h.1 c11
        refine r_aload C dX7_countIdleSlots_45 (j := 1) rfl ?_
        refine r_get (v := .int (κ.1 b4 18)) C (atR o6) fa_X7_333 rfl dX7_countIdleSlots_47 ?_
        refine r_if_eq (tgt := 79) C dX7_countIdleSlots_50 (by decide) (fun c12 => ?_) (fun c12 => ?_)
        · have h := h.1 c12
          exact r_loc (by simp) h
        · have h := h.2 c12
          refine r_aload C dX7_countIdleSlots_53 (j := 1) rfl ?_
          refine r_aload C dX7_countIdleSlots_55 (j := 1) rfl ?_
          refine r_get (v := .long (κ.2.1 b4 19)) C (atR o6) fa_X7_278 rfl dX7_countIdleSlots_57 ?_
          refine r_aload_n C dX7_countIdleSlots_60 rfl (j := 2) rfl ?_
          refine r_get (v := .long (κ.2.1 1 7)) C (atR (at_c (a := 0) rfl)) fa_X7_50 rfl dX7_countIdleSlots_61 ?_
          refine r_lconst (v := 1) C dX7_countIdleSlots_64 (by decide) ?_
          refine r_lsub C dX7_countIdleSlots_65 ?_
          refine r_lcmp C dX7_countIdleSlots_66 ?_
          have k16 : ∀ z14 : Int32, z14 = (if (κ.2.1 b4 19) = ((κ.2.1 1 7) - 1) then (3 : Int32) else (6 : Int32)) → r_W X w B 7 0 0 (r_Z X w B tX7_countIdleSlots (ZKV n κ0 Q)) 76 [(5, Value.int z8), (4, Value.ref (B + b4)), (0, Value.ref (B + 1)), (1, Value.ref (B + 21)), (2, Value.int x2), (3, Value.int x3)] [Value.int z14, Value.ref (B + b4)] (shp n, κ) := by
            intro z14 e15
            have h := h z14 e15
            refine r_putI C (atR o6) fa_X7_172 rfl rfl rfl dX7_countIdleSlots_76 ?_
            refine r_namK (κ := ki κ b4 7 z14) (fun κ17 e18 => ?_)
            have h := h κ17 e18
            have C19 : CoK n κ17 := by rw [e18]; exact hC
            have G20 : Gr n κ0 κ17 := by rw [e18]; exact hG.i (by have q := at_stat hn o6; unfold mOf at *; omega)
            exact r_loc (by simp) h
          clear h
          refine r_if_ne (tgt := 74) C dX7_countIdleSlots_67 (by decide) (fun c13 => ?_) (fun c13 => ?_)
          · have c13 : ¬ (κ.2.1 b4 19) = ((κ.2.1 1 7) - 1) := (fun q => c13 (lgc_eq.mpr q))
            refine r_bipush (v := 6) C dX7_countIdleSlots_74 (by decide) ?_
            exact k16 _ (by rw [if_neg c13] <;> rfl)
          · have c13 : (κ.2.1 b4 19) = ((κ.2.1 1 7) - 1) := (lgc_eq.mp c13)
            refine r_iconst (v := 3) C dX7_countIdleSlots_70 (by decide) ?_
            refine r_goto (tgt := 76) C dX7_countIdleSlots_71 (by decide) ?_
            exact k16 _ (by rw [if_pos c13] <;> rfl)
    clear h
    refine r_if_eq (tgt := 37) C dX7_countIdleSlots_30 (by decide) (fun c7 => ?_) (fun c7 => ?_)
    · have c7 : ((κ.1 1 8) &&& (κ.1 b4 2)) = 0 := c7
      refine r_iconst (v := 0) C dX7_countIdleSlots_37 (by decide) ?_
      exact k10 _ (by rw [if_pos c7] <;> rfl)
    · have c7 : ¬ ((κ.1 1 8) &&& (κ.1 b4 2)) = 0 := c7
      refine r_iconst (v := 1) C dX7_countIdleSlots_33 (by decide) ?_
      refine r_goto (tgt := 38) C dX7_countIdleSlots_34 (by decide) ?_
      exact k10 _ (by rw [if_neg c7] <;> rfl)
theorem v_X7_countIdleSlots_79 {X : r_X} {w : r_V} {B n : Nat} {l : Launch} {Q : Ku → Prop} {κ0 : Ku} (C : r_C X w B 7 cX7_countIdleSlots RX7) (E : r_E X l tX7_countIdleSlots) (hn : okN n) {κ : Ku} (hC : CoK n κ) (hG : Gr n κ0 κ) {a4 : Nat} {x2 x3 x5 : Int32} (o4 : atS n a4 = some (.inl 6))
    (h : (x5 = 0 ∨ x5 = 1) ∧ (∀ κ2 : Ku, κ2 = ki κ a4 18 x5 → (∀ z8 : Int32, z8 = (if x5 = 0 then (if ((κ2.1 1 8) &&& (κ2.1 a4 1)) = 0 then (0 : Int32) else (1 : Int32)) else (1 : Int32)) → ((z8 = 0 → (∃ Q12 : Int32 → Ku → Prop, r_KI l w B n tX6_isFree [Value.ref (B + a4)] κ2 Q12 ∧ (∀ (z16 : Int32) (κ14 : Ku), Q12 z16 κ14 → (∀ z23 : Int32, z23 = (if z16 = 0 then (0 : Int32) else (if (κ14.2.1 1 7) < (κ14.2.1 a4 8) then (0 : Int32) else (1 : Int32))) → (∃ Q26 : Ku → Prop, r_KV l w B n tX6_countIdle [Value.ref (B + a4), Value.int z23] κ14 Q26 ∧ (∀ κ28 : Ku, Q26 κ28 → (∀ z35 : Int32, z35 = x3 + 1 → (r_W X w B 7 0 0 (r_Z X w B tX7_countIdleSlots (ZKV n κ0 Q)) 10 [(0, Value.ref (B + 1)), (1, Value.ref (B + 21)), (2, Value.int x2), (3, Value.int z35)] [] (shp n, κ28))))))))) ∧ (¬ z8 = 0 → (∃ Q37 : Ku → Prop, r_KV l w B n tX6_countIdle [Value.ref (B + a4), Value.int 0] κ2 Q37 ∧ (∀ κ39 : Ku, Q37 κ39 → (∀ z46 : Int32, z46 = x3 + 1 → (r_W X w B 7 0 0 (r_Z X w B tX7_countIdleSlots (ZKV n κ0 Q)) 10 [(0, Value.ref (B + 1)), (1, Value.ref (B + 21)), (2, Value.int x2), (3, Value.int z46)] [] (shp n, κ39)))))))))) :
    r_W X w B 7 0 0 (r_Z X w B tX7_countIdleSlots (ZKV n κ0 Q)) 79 [(0, Value.ref (B + 1)), (1, Value.ref (B + 21)), (2, Value.int x2), (3, Value.int x3), (4, Value.ref (B + a4)), (5, Value.int x5)] [] (shp n, κ) := by
  refine r_aload C dX7_countIdleSlots_79 (j := 4) rfl ?_
  refine r_iload C dX7_countIdleSlots_81 (j := 5) rfl ?_
  obtain ⟨g1, h⟩ := h
  refine r_putI C (atR o4) fa_X7_333 rfl (by rcases g1 with e | e <;> rw [e] <;> rfl) (by rcases g1 with e | e <;> rw [e] <;> rfl) dX7_countIdleSlots_83 ?_
  refine r_namK (κ := ki κ a4 18 x5) (fun κ2 e3 => ?_)
  have h := h κ2 e3
  have C4 : CoK n κ2 := by rw [e3]; exact hC
  have G5 : Gr n κ0 κ2 := by rw [e3]; exact hG.i (by have q := at_stat hn o4; unfold mOf at *; omega)
  refine r_iload C dX7_countIdleSlots_86 (j := 5) rfl ?_
  have k10 : ∀ z8 : Int32, z8 = (if x5 = 0 then (if ((κ2.1 1 8) &&& (κ2.1 a4 1)) = 0 then (0 : Int32) else (1 : Int32)) else (1 : Int32)) → r_W X w B 7 0 0 (r_Z X w B tX7_countIdleSlots (ZKV n κ0 Q)) 109 [(0, Value.ref (B + 1)), (1, Value.ref (B + 21)), (2, Value.int x2), (3, Value.int x3), (4, Value.ref (B + a4)), (5, Value.int x5)] [Value.int z8] (shp n, κ2) := by
    intro z8 e9
    have h := h z8 e9
    refine r_istore (lv' := [(6, Value.int z8), (0, Value.ref (B + 1)), (1, Value.ref (B + 21)), (2, Value.int x2), (3, Value.int x3), (4, Value.ref (B + a4)), (5, Value.int x5)]) C dX7_countIdleSlots_109 (by decide) rfl ?_
    refine r_aload C dX7_countIdleSlots_111 (j := 5) rfl ?_
    refine r_iload C dX7_countIdleSlots_113 (j := 0) rfl ?_
    refine r_if_ne (tgt := 143) C dX7_countIdleSlots_115 (by decide) (fun c11 => ?_) (fun c11 => ?_)
    · have h := h.2 c11
      refine r_iconst (v := 0) C dX7_countIdleSlots_143 (by decide) ?_
      obtain ⟨Q37, m38, h⟩ := h
      refine r_callVV (rest := []) C E [Value.int 0] (atR o4) rfl ky_X6_countIdle kl_X7_340 ki_X6_countIdle kx_X6_countIdle ⟨Nat.le_of_ble_eq_true rfl, Nat.le_of_ble_eq_true rfl⟩ ⟨rfl, rfl⟩ m38 rfl rfl (Nat.le_of_ble_eq_true rfl) (Nat.zero_le _) (Nat.zero_le _) dX7_countIdleSlots_144 (fun σ39 s40 q42 => ?_)
      obtain ⟨s39x, κ39⟩ := σ39
      simp only at s40
      subst s40
      obtain ⟨f43, C44, q42⟩ := q42
      have G45 := G5.trans f43
      have h := h κ39 q42
      obtain ⟨z46, e47⟩ : ∃ y : Int32, y = x3 + 1 := ⟨_, rfl⟩
      have h := h z46 e47
      refine r_iinc (v := z46) (lv' := [(3, Value.int z46), (6, Value.int z8), (0, Value.ref (B + 1)), (1, Value.ref (B + 21)), (2, Value.int x2), (4, Value.ref (B + a4)), (5, Value.int x5)]) C dX7_countIdleSlots_147 (k := 4) rfl (by rw [e47]; rfl) (by decide) rfl ?_
      refine r_goto (tgt := 10) C dX7_countIdleSlots_150 (by decide) ?_
      exact r_loc (by simp) h
    · have h := h.1 c11
      refine r_aload C dX7_countIdleSlots_118 (j := 5) rfl ?_
      obtain ⟨Q12, m13, h⟩ := h
      refine r_callVI (rest := [Value.ref (B + a4)]) C E [] (atR o4) rfl ky_X6_isFree kl_X7_337 ki_X6_isFree kx_X6_isFree ⟨Nat.le_of_ble_eq_true rfl, Nat.le_of_ble_eq_true rfl⟩ ⟨rfl, rfl⟩ m13 rfl rfl (Nat.le_of_ble_eq_true rfl) (Nat.zero_le _) (Nat.zero_le _) dX7_countIdleSlots_120 (fun z16 σ14 s15 q17 => ?_)
      obtain ⟨s14x, κ14⟩ := σ14
      simp only at s15
      subst s15
      obtain ⟨f18, C19, q17⟩ := q17
      have G20 := G5.trans f18
      have h := h z16 κ14 q17
      have k25 : ∀ z23 : Int32, z23 = (if z16 = 0 then (0 : Int32) else (if (κ14.2.1 1 7) < (κ14.2.1 a4 8) then (0 : Int32) else (1 : Int32))) → r_W X w B 7 0 0 (r_Z X w B tX7_countIdleSlots (ZKV n κ0 Q)) 144 [(6, Value.int z8), (0, Value.ref (B + 1)), (1, Value.ref (B + 21)), (2, Value.int x2), (3, Value.int x3), (4, Value.ref (B + a4)), (5, Value.int x5)] [Value.int z23, Value.ref (B + a4)] (shp n, κ14) := by
        intro z23 e24
        have h := h z23 e24
        obtain ⟨Q26, m27, h⟩ := h
        refine r_callVV (rest := []) C E [Value.int z23] (atR o4) rfl ky_X6_countIdle kl_X7_340 ki_X6_countIdle kx_X6_countIdle ⟨Nat.le_of_ble_eq_true rfl, Nat.le_of_ble_eq_true rfl⟩ ⟨rfl, rfl⟩ m27 rfl rfl (Nat.le_of_ble_eq_true rfl) (Nat.zero_le _) (Nat.zero_le _) dX7_countIdleSlots_144 (fun σ28 s29 q31 => ?_)
        obtain ⟨s28x, κ28⟩ := σ28
        simp only at s29
        subst s29
        obtain ⟨f32, C33, q31⟩ := q31
        have G34 := G20.trans f32
        have h := h κ28 q31
        obtain ⟨z35, e36⟩ : ∃ y : Int32, y = x3 + 1 := ⟨_, rfl⟩
        have h := h z35 e36
        refine r_iinc (v := z35) (lv' := [(3, Value.int z35), (6, Value.int z8), (0, Value.ref (B + 1)), (1, Value.ref (B + 21)), (2, Value.int x2), (4, Value.ref (B + a4)), (5, Value.int x5)]) C dX7_countIdleSlots_147 (k := 4) rfl (by rw [e36]; rfl) (by decide) rfl ?_
        refine r_goto (tgt := 10) C dX7_countIdleSlots_150 (by decide) ?_
        exact r_loc (by simp) h
      clear h
      refine r_if_eq (tgt := 143) C dX7_countIdleSlots_123 (by decide) (fun c21 => ?_) (fun c21 => ?_)
      · have c21 : z16 = 0 := c21
        refine r_iconst (v := 0) C dX7_countIdleSlots_143 (by decide) ?_
        exact k25 _ (by rw [if_pos c21] <;> rfl)
      · have c21 : ¬ z16 = 0 := c21
        refine r_aload C dX7_countIdleSlots_126 (j := 5) rfl ?_
        refine r_get (v := .long (κ14.2.1 a4 8)) C (atR o4) fa_X7_155 rfl dX7_countIdleSlots_128 ?_
        refine r_aload_n C dX7_countIdleSlots_131 rfl (j := 1) rfl ?_
        refine r_get (v := .long (κ14.2.1 1 7)) C (atR (at_c (a := 0) rfl)) fa_X7_50 rfl dX7_countIdleSlots_132 ?_
        refine r_lcmp C dX7_countIdleSlots_135 ?_
        refine r_if_gt (tgt := 143) C dX7_countIdleSlots_136 (by decide) (fun c22 => ?_) (fun c22 => ?_)
        · have c22 : (κ14.2.1 1 7) < (κ14.2.1 a4 8) := (lgc_gt.mp c22)
          refine r_iconst (v := 0) C dX7_countIdleSlots_143 (by decide) ?_
          exact k25 _ (by rw [if_neg c21, if_pos c22] <;> rfl)
        · have c22 : ¬ (κ14.2.1 1 7) < (κ14.2.1 a4 8) := (fun q => c22 (lgc_gt.mpr q))
          refine r_iconst (v := 1) C dX7_countIdleSlots_139 (by decide) ?_
          refine r_goto (tgt := 144) C dX7_countIdleSlots_140 (by decide) ?_
          exact k25 _ (by rw [if_neg c21, if_neg c22] <;> rfl)
  clear h
  refine r_if_ne (tgt := 104) C dX7_countIdleSlots_88 (by decide) (fun c6 => ?_) (fun c6 => ?_)
  · have c6 : ¬ x5 = 0 := c6
    refine r_iconst (v := 1) C dX7_countIdleSlots_104 (by decide) ?_
    refine r_goto (tgt := 109) C dX7_countIdleSlots_105 (by decide) ?_
    exact k10 _ (by rw [if_neg c6] <;> rfl)
  · have c6 : x5 = 0 := c6
    refine r_aload_n C dX7_countIdleSlots_91 rfl (j := 0) rfl ?_
    refine r_get (v := .int (κ2.1 1 8)) C (atR (at_c (a := 0) rfl)) fa_X7_54 rfl dX7_countIdleSlots_92 ?_
    refine r_aload C dX7_countIdleSlots_95 (j := 4) rfl ?_
    refine r_get (v := .int (κ2.1 a4 1)) C (atR o4) fa_X7_79 rfl dX7_countIdleSlots_97 ?_
    refine r_iand C dX7_countIdleSlots_100 ?_
    refine r_if_eq (tgt := 108) C dX7_countIdleSlots_101 (by decide) (fun c7 => ?_) (fun c7 => ?_)
    · have c7 : ((κ2.1 1 8) &&& (κ2.1 a4 1)) = 0 := c7
      refine r_iconst (v := 0) C dX7_countIdleSlots_108 (by decide) ?_
      exact k10 _ (by rw [if_pos c6, if_pos c7] <;> rfl)
    · have c7 : ¬ ((κ2.1 1 8) &&& (κ2.1 a4 1)) = 0 := c7
      refine r_iconst (v := 1) C dX7_countIdleSlots_104 (by decide) ?_
      refine r_goto (tgt := 109) C dX7_countIdleSlots_105 (by decide) ?_
      exact k10 _ (by rw [if_pos c6, if_neg c7] <;> rfl)
