theorem w_X7_hear_0 {X : r_X} {w : r_V} {B : Nat} {l : Launch} {Q : Int32 → r_S → Prop} {σ0 : r_S} (C : r_C X w B 6 cX7_hear RX7) (E : r_E X l tX7_hear) {σ : r_S} (hs : σ.1 = σ0.1) {a0 : Nat} {x1 x2 x3 : Int32}
    (h : r_at σ a0 = some (.inl 7) ∧ (∃ Q1 : Int32 → r_S → Prop, r_M l w B tX7_isStation [Value.ref (B + a0), Value.int x1] σ (r_QI σ Q1) ∧ (∀ (z5 : Int32) (σ3 : r_S), Q1 z5 σ3 → ((z5 = 0 → (Q (-11) σ3)) ∧ (¬ z5 = 0 → (∃ Q9 : Int32 → r_S → Prop, r_M l w B tX7_isStation [Value.ref (B + a0), Value.int x2] σ3 (r_QI σ3 Q9) ∧ (∀ (z13 : Int32) (σ11 : r_S), Q9 z13 σ11 → ((z13 = 0 → (Q (-11) σ11)) ∧ (¬ z13 = 0 → ((x1 = x2 → (Q (-12) σ11)) ∧ (¬ x1 = x2 → (∃ n17, r_at σ (r_gr σ11 a0 0) = some (.inr (3, n17)) ∧ (vp_in x1 n17 ∧ (r_at σ (r_gr σ11 (r_gr σ11 a0 0) x1.toNatClampNeg) = some (.inl 6) ∧ (∀ b21 : Nat, b21 = r_gr σ11 (r_gr σ11 a0 0) x1.toNatClampNeg → (vp_in x2 n17 ∧ (r_at σ (r_gr σ11 (r_gr σ11 a0 0) x2.toNatClampNeg) = some (.inl 6) ∧ (∀ z26 : Int32, z26 = r_gi σ11 (r_gr σ11 (r_gr σ11 a0 0) x2.toNatClampNeg) 1 → ((((r_gi σ11 b21 2) &&& z26) = 0 → ((0 = x3 → (Q 0 σ11)) ∧ (¬ 0 = x3 → (∀ σ30 : r_S, σ30 = r_ui σ11 b21 2 ((r_gi σ11 b21 2) ^^^ z26) → (Q 1 σ30))))) ∧ (¬ ((r_gi σ11 b21 2) &&& z26) = 0 → ((1 = x3 → (Q 0 σ11)) ∧ (¬ 1 = x3 → (∀ σ34 : r_S, σ34 = r_ui σ11 b21 2 ((r_gi σ11 b21 2) ^^^ z26) → (Q 1 σ34)))))))))))))))))))))))) :
    r_W X w B 6 0 0 (r_Z X w B tX7_hear (r_QI σ0 Q)) 0 [(0, Value.ref (B + a0)), (1, Value.int x1), (2, Value.int x2), (3, Value.int x3)] [] σ := by
  refine r_aload_n C dX7_hear_0 rfl (j := 0) rfl ?_
  refine r_iload_n C dX7_hear_1 rfl (j := 1) rfl ?_
  obtain ⟨g7, h⟩ := h
  obtain ⟨Q1, m2, h⟩ := h
  refine r_callVI (rest := []) C E [Value.int x1] (r_atT rfl g7) rfl ky_X7_isStation kl_X7_75 ki_X7_isStation kx_X7_isStation ⟨Nat.le_of_ble_eq_true rfl, Nat.le_of_ble_eq_true rfl⟩ ⟨rfl, rfl⟩ m2 rfl rfl (Nat.le_of_ble_eq_true rfl) (Nat.zero_le _) (Nat.zero_le _) dX7_hear_2 (fun z5 σ3 s4 q6 => ?_)
  have h := h z5 σ3 q6
  have s4 := s4.trans rfl
  refine r_if_eq (tgt := 16) C dX7_hear_5 (by decide) (fun c8 => ?_) (fun c8 => ?_)
  · have h := h.1 c8
    refine r_bipush (v := (-11)) C dX7_hear_16 (by decide) ?_
    exact r_iretQ C E rfl (Nat.zero_le _) (Nat.zero_le _) dX7_hear_18 (s4.trans hs) h
  · have h := h.2 c8
    refine r_aload_n C dX7_hear_8 rfl (j := 0) rfl ?_
    refine r_iload_n C dX7_hear_9 rfl (j := 2) rfl ?_
    obtain ⟨Q9, m10, h⟩ := h
    refine r_callVI (rest := []) C E [Value.int x2] (r_atT s4 g7) rfl ky_X7_isStation kl_X7_75 ki_X7_isStation kx_X7_isStation ⟨Nat.le_of_ble_eq_true rfl, Nat.le_of_ble_eq_true rfl⟩ ⟨rfl, rfl⟩ m10 rfl rfl (Nat.le_of_ble_eq_true rfl) (Nat.zero_le _) (Nat.zero_le _) dX7_hear_10 (fun z13 σ11 s12 q14 => ?_)
    have h := h z13 σ11 q14
    have s12 := s12.trans s4
    refine r_if_ne (tgt := 19) C dX7_hear_13 (by decide) (fun c15 => ?_) (fun c15 => ?_)
    · have h := h.2 c15
      refine r_iload_n C dX7_hear_19 rfl (j := 1) rfl ?_
      refine r_iload_n C dX7_hear_20 rfl (j := 2) rfl ?_
      refine r_icmp_ne (tgt := 27) C dX7_hear_21 (by decide) (fun c16 => ?_) (fun c16 => ?_)
      · have h := h.2 c16
        refine r_aload_n C dX7_hear_27 rfl (j := 0) rfl ?_
        obtain ⟨n17, g18, h⟩ := h
        refine r_getR C (r_atT s12 g7) fa_X7_68 rfl (r_atN g18) dX7_hear_28 ?_
        refine r_iload_n C dX7_hear_31 rfl (j := 1) rfl ?_
        obtain ⟨g19, h⟩ := h
        obtain ⟨g20, h⟩ := h
        refine r_aald C (r_atT s12 g18) ⟨rfl, fun _ => rfl⟩ g19 (r_atN g20) dX7_hear_32 ?_
        refine r_topa (fun b21 e22 => ?_)
        have h := h b21 e22
        have e22 : b21 = r_gr σ11 (r_gr σ11 a0 0) x1.toNatClampNeg := e22
        have g23 := g20; rw [← e22] at g23
        refine r_astore (lv' := [(4, Value.ref (B + b21)), (0, Value.ref (B + a0)), (1, Value.int x1), (2, Value.int x2), (3, Value.int x3)]) C dX7_hear_33 (by decide) rfl ?_
        refine r_aload_n C dX7_hear_35 rfl (j := 1) rfl ?_
        refine r_getR C (r_atT s12 g7) fa_X7_68 rfl (r_atN g18) dX7_hear_36 ?_
        refine r_iload_n C dX7_hear_39 rfl (j := 3) rfl ?_
        obtain ⟨g24, h⟩ := h
        obtain ⟨g25, h⟩ := h
        refine r_aald C (r_atT s12 g18) ⟨rfl, fun _ => rfl⟩ g24 (r_atN g25) dX7_hear_40 ?_
        refine r_get (v := .int (r_gi σ11 (r_gr σ11 (r_gr σ11 a0 0) x2.toNatClampNeg) 1)) C (r_atT s12 g25) fa_X7_79 rfl dX7_hear_41 ?_
        refine r_topi (fun z26 e27 => ?_)
        have h := h z26 e27
        refine r_istore (lv' := [(5, Value.int z26), (4, Value.ref (B + b21)), (0, Value.ref (B + a0)), (1, Value.int x1), (2, Value.int x2), (3, Value.int x3)]) C dX7_hear_44 (by decide) rfl ?_
        refine r_aload C dX7_hear_46 (j := 1) rfl ?_
        refine r_get (v := .int (r_gi σ11 b21 2)) C (r_atT s12 g23) fa_X7_82 rfl dX7_hear_48 ?_
        refine r_iload C dX7_hear_51 (j := 0) rfl ?_
        refine r_iand C dX7_hear_53 ?_
        refine r_if_eq (tgt := 61) C dX7_hear_54 (by decide) (fun c28 => ?_) (fun c28 => ?_)
        · have h := h.1 c28
          refine r_iconst (v := 0) C dX7_hear_61 (by decide) ?_
          refine r_iload_n C dX7_hear_62 rfl (j := 5) rfl ?_
          refine r_icmp_ne (tgt := 68) C dX7_hear_63 (by decide) (fun c29 => ?_) (fun c29 => ?_)
          · have h := h.2 c29
            refine r_aload C dX7_hear_68 (j := 1) rfl ?_
            refine r_dup C dX7_hear_70 rfl ?_
            refine r_get (v := .int (r_gi σ11 b21 2)) C (r_atT s12 g23) fa_X7_82 rfl dX7_hear_71 ?_
            refine r_iload C dX7_hear_74 (j := 0) rfl ?_
            refine r_ixor C dX7_hear_76 ?_
            refine r_putI C (r_atT s12 g23) fa_X7_82 rfl rfl rfl dX7_hear_77 ?_
            refine r_nam (fun σ30 e31 => ?_)
            have h := h σ30 e31
            have s32 : σ30.1 = σ.1 := by rw [e31]; exact s12
            refine r_iconst (v := 1) C dX7_hear_80 (by decide) ?_
            exact r_iretQ C E rfl (Nat.zero_le _) (Nat.zero_le _) dX7_hear_81 (s32.trans hs) h
          · have h := h.1 c29
            refine r_iconst (v := 0) C dX7_hear_66 (by decide) ?_
            exact r_iretQ C E rfl (Nat.zero_le _) (Nat.zero_le _) dX7_hear_67 (s12.trans hs) h
        · have h := h.2 c28
          refine r_iconst (v := 1) C dX7_hear_57 (by decide) ?_
          refine r_goto (tgt := 62) C dX7_hear_58 (by decide) ?_
          refine r_iload_n C dX7_hear_62 rfl (j := 5) rfl ?_
          refine r_icmp_ne (tgt := 68) C dX7_hear_63 (by decide) (fun c33 => ?_) (fun c33 => ?_)
          · have h := h.2 c33
            refine r_aload C dX7_hear_68 (j := 1) rfl ?_
            refine r_dup C dX7_hear_70 rfl ?_
            refine r_get (v := .int (r_gi σ11 b21 2)) C (r_atT s12 g23) fa_X7_82 rfl dX7_hear_71 ?_
            refine r_iload C dX7_hear_74 (j := 0) rfl ?_
            refine r_ixor C dX7_hear_76 ?_
            refine r_putI C (r_atT s12 g23) fa_X7_82 rfl rfl rfl dX7_hear_77 ?_
            refine r_nam (fun σ34 e35 => ?_)
            have h := h σ34 e35
            have s36 : σ34.1 = σ.1 := by rw [e35]; exact s12
            refine r_iconst (v := 1) C dX7_hear_80 (by decide) ?_
            exact r_iretQ C E rfl (Nat.zero_le _) (Nat.zero_le _) dX7_hear_81 (s36.trans hs) h
          · have h := h.1 c33
            refine r_iconst (v := 0) C dX7_hear_66 (by decide) ?_
            exact r_iretQ C E rfl (Nat.zero_le _) (Nat.zero_le _) dX7_hear_67 (s12.trans hs) h
      · have h := h.1 c16
        refine r_bipush (v := (-12)) C dX7_hear_24 (by decide) ?_
        exact r_iretQ C E rfl (Nat.zero_le _) (Nat.zero_le _) dX7_hear_26 (s12.trans hs) h
    · have h := h.1 c15
      refine r_bipush (v := (-11)) C dX7_hear_16 (by decide) ?_
      exact r_iretQ C E rfl (Nat.zero_le _) (Nat.zero_le _) dX7_hear_18 (s12.trans hs) h
theorem w_X7_coin_0 {X : r_X} {w : r_V} {B : Nat} {l : Launch} {Q : Int32 → r_S → Prop} {σ0 : r_S} (C : r_C X w B 2 cX7_coin RX7) (E : r_E X l tX7_coin) {σ : r_S} (hs : σ.1 = σ0.1) {a0 : Nat} {x1 : Int32}
    (h : (0 ≤ x1 → (r_at σ a0 = some (.inl 7) ∧ (r_at σ (r_gr σ a0 1) = some (.inl 0) ∧ (∃ Q4 : r_S → Prop, r_M l w B tX0_add [Value.ref (B + (r_gr σ a0 1)), Value.int x1] σ (r_QV σ Q4) ∧ (∀ σ6 : r_S, Q4 σ6 → (r_at σ (r_gr σ6 a0 1) = some (.inl 0) ∧ (∃ Q11 : Int32 → r_S → Prop, r_M l w B tX0_undrawn [Value.ref (B + (r_gr σ6 a0 1))] σ6 (r_QI σ6 Q11) ∧ (∀ (z15 : Int32) (σ13 : r_S), Q11 z15 σ13 → (Q z15 σ13))))))))) ∧ (¬ 0 ≤ x1 → (Q (-12) σ))) :
    r_W X w B 2 0 0 (r_Z X w B tX7_coin (r_QI σ0 Q)) 0 [(0, Value.ref (B + a0)), (1, Value.int x1)] [] σ := by
  refine r_iload_n C dX7_coin_0 rfl (j := 1) rfl ?_
  refine r_if_ge (tgt := 7) C dX7_coin_1 (by decide) (fun c1 => ?_) (fun c1 => ?_)
  · have h := h.1 c1
    refine r_aload_n C dX7_coin_7 rfl (j := 0) rfl ?_
    obtain ⟨g2, h⟩ := h
    obtain ⟨g3, h⟩ := h
    refine r_getR C (r_atT rfl g2) fa_X7_10 rfl (r_atN g3) dX7_coin_8 ?_
    refine r_iload_n C dX7_coin_11 rfl (j := 1) rfl ?_
    obtain ⟨Q4, m5, h⟩ := h
    refine r_callVV (rest := []) C E [Value.int x1] (r_atT rfl g3) rfl ky_X0_add kl_X7_85 ki_X0_add kx_X0_add ⟨Nat.le_of_ble_eq_true rfl, Nat.le_of_ble_eq_true rfl⟩ ⟨rfl, rfl⟩ m5 rfl rfl (Nat.le_of_ble_eq_true rfl) (Nat.zero_le _) (Nat.zero_le _) dX7_coin_12 (fun σ6 s7 q9 => ?_)
    have h := h σ6 q9
    have s7 := s7.trans rfl
    refine r_aload_n C dX7_coin_15 rfl (j := 0) rfl ?_
    obtain ⟨g10, h⟩ := h
    refine r_getR C (r_atT s7 g2) fa_X7_10 rfl (r_atN g10) dX7_coin_16 ?_
    obtain ⟨Q11, m12, h⟩ := h
    refine r_callVI (rest := []) C E [] (r_atT s7 g10) rfl ky_X0_undrawn kl_X7_88 ki_X0_undrawn kx_X0_undrawn ⟨Nat.le_of_ble_eq_true rfl, Nat.le_of_ble_eq_true rfl⟩ ⟨rfl, rfl⟩ m12 rfl rfl (Nat.le_of_ble_eq_true rfl) (Nat.zero_le _) (Nat.zero_le _) dX7_coin_19 (fun z15 σ13 s14 q16 => ?_)
    have h := h z15 σ13 q16
    have s14 := s14.trans s7
    exact r_iretQ C E rfl (Nat.zero_le _) (Nat.zero_le _) dX7_coin_22 (s14.trans hs) h
  · have h := h.2 c1
    refine r_bipush (v := (-12)) C dX7_coin_4 (by decide) ?_
    exact r_iretQ C E rfl (Nat.zero_le _) (Nat.zero_le _) dX7_coin_6 ((rfl : σ.1 = σ.1).trans hs) h
theorem w_X7_threshold_0 {X : r_X} {w : r_V} {B : Nat} {l : Launch} {Q : Int32 → r_S → Prop} {σ0 : r_S} (C : r_C X w B 3 cX7_threshold RX7) (E : r_E X l tX7_threshold) {σ : r_S} (hs : σ.1 = σ0.1) {a0 : Nat} {x1 : Int32}
    (h : (x1 < 0 → (Q (-12) σ)) ∧ (¬ x1 < 0 → ((x1 ≤ 100 → (r_at σ a0 = some (.inl 7) ∧ (∀ z4 : Int32, z4 = r_gi σ a0 6 → (∀ σ6 : r_S, σ6 = r_ui σ a0 6 x1 → (Q z4 σ6))))) ∧ (¬ x1 ≤ 100 → (Q (-12) σ))))) :
    r_W X w B 3 0 0 (r_Z X w B tX7_threshold (r_QI σ0 Q)) 0 [(0, Value.ref (B + a0)), (1, Value.int x1)] [] σ := by
  refine r_iload_n C dX7_threshold_0 rfl (j := 1) rfl ?_
  refine r_if_lt (tgt := 10) C dX7_threshold_1 (by decide) (fun c1 => ?_) (fun c1 => ?_)
  · have h := h.1 c1
    refine r_bipush (v := (-12)) C dX7_threshold_10 (by decide) ?_
    exact r_iretQ C E rfl (Nat.zero_le _) (Nat.zero_le _) dX7_threshold_12 ((rfl : σ.1 = σ.1).trans hs) h
  · have h := h.2 c1
    refine r_iload_n C dX7_threshold_4 rfl (j := 1) rfl ?_
    refine r_bipush (v := 100) C dX7_threshold_5 (by decide) ?_
    refine r_icmp_le (tgt := 13) C dX7_threshold_7 (by decide) (fun c2 => ?_) (fun c2 => ?_)
    · have h := h.1 c2
      refine r_aload_n C dX7_threshold_13 rfl (j := 0) rfl ?_
      obtain ⟨g3, h⟩ := h
      refine r_get (v := .int (r_gi σ a0 6)) C (r_atT rfl g3) fa_X7_46 rfl dX7_threshold_14 ?_
      refine r_topi (fun z4 e5 => ?_)
      have h := h z4 e5
      refine r_istore_n (lv' := [(2, Value.int z4), (0, Value.ref (B + a0)), (1, Value.int x1)]) C dX7_threshold_17 rfl (by decide) rfl ?_
      refine r_aload_n C dX7_threshold_18 rfl (j := 1) rfl ?_
      refine r_iload_n C dX7_threshold_19 rfl (j := 2) rfl ?_
      refine r_putI C (r_atT rfl g3) fa_X7_46 rfl rfl rfl dX7_threshold_20 ?_
      refine r_nam (fun σ6 e7 => ?_)
      have h := h σ6 e7
      have s8 : σ6.1 = σ.1 := by rw [e7]; exact rfl
      refine r_iload_n C dX7_threshold_23 rfl (j := 0) rfl ?_
      exact r_iretQ C E rfl (Nat.zero_le _) (Nat.zero_le _) dX7_threshold_24 (s8.trans hs) h
    · have h := h.2 c2
      refine r_bipush (v := (-12)) C dX7_threshold_10 (by decide) ?_
      exact r_iretQ C E rfl (Nat.zero_le _) (Nat.zero_le _) dX7_threshold_12 ((rfl : σ.1 = σ.1).trans hs) h
theorem w_X7_offer_0 {X : r_X} {w : r_V} {B : Nat} {l : Launch} {Q : Int32 → r_S → Prop} {σ0 : r_S} (C : r_C X w B 6 cX7_offer RX7) (E : r_E X l tX7_offer) {σ : r_S} (hs : σ.1 = σ0.1) {a0 : Nat} {x1 x2 x3 : Int32}
    (h : r_at σ a0 = some (.inl 7) ∧ (∃ Q1 : Int32 → r_S → Prop, r_M l w B tX7_isStation [Value.ref (B + a0), Value.int x1] σ (r_QI σ Q1) ∧ (∀ (z5 : Int32) (σ3 : r_S), Q1 z5 σ3 → ((z5 = 0 → (Q (-11) σ3)) ∧ (¬ z5 = 0 → (∃ Q9 : Int32 → r_S → Prop, r_M l w B tX7_isStation [Value.ref (B + a0), Value.int x2] σ3 (r_QI σ3 Q9) ∧ (∀ (z13 : Int32) (σ11 : r_S), Q9 z13 σ11 → ((z13 = 0 → (Q (-11) σ11)) ∧ (¬ z13 = 0 → ((x1 = x2 → (Q (-12) σ11)) ∧ (¬ x1 = x2 → ((x3 < 1 → (Q (-12) σ11)) ∧ (¬ x3 < 1 → ((x3 ≤ 8 → (∃ n19, r_at σ (r_gr σ11 a0 0) = some (.inr (3, n19)) ∧ (vp_in x1 n19 ∧ (r_at σ (r_gr σ11 (r_gr σ11 a0 0) x1.toNatClampNeg) = some (.inl 6) ∧ (∀ b23 : Nat, b23 = r_gr σ11 (r_gr σ11 a0 0) x1.toNatClampNeg → (r_at σ (r_gr σ11 a0 2) = some (.inl 4) ∧ (∃ Q27 : Int32 → r_S → Prop, r_M l w B tX4_isFull [Value.ref (B + (r_gr σ11 a0 2))] σ11 (r_QI σ11 Q27) ∧ (∀ (z31 : Int32) (σ29 : r_S), Q27 z31 σ29 → ((z31 = 0 → (r_at σ (r_gr σ29 b23 15) = some (.inl 5) ∧ (∃ Q35 : Int32 → r_S → Prop, r_M l w B tX5_isFull [Value.ref (B + (r_gr σ29 b23 15))] σ29 (r_QI σ29 Q35) ∧ (∀ (z39 : Int32) (σ37 : r_S), Q35 z39 σ37 → ((z39 = 0 → (r_at σ (r_gr σ37 a0 2) = some (.inl 4) ∧ (∃ Q43 : Int32 → r_S → Prop, r_M l w B tX4_add [Value.ref (B + (r_gr σ37 a0 2)), Value.int x1, Value.int x2, Value.int x3] σ37 (r_QI σ37 Q43) ∧ (∀ (z47 : Int32) (σ45 : r_S), Q43 z47 σ45 → (r_at σ (r_gr σ45 b23 15) = some (.inl 5) ∧ (((r_gi σ45 (r_gr σ45 b23 15) 1) = 0 → (∃ Q57 : r_S → Prop, r_M l w B tX7_drawCount [Value.ref (B + a0), Value.ref (B + b23)] σ45 (r_QV σ45 Q57) ∧ (∀ σ59 : r_S, Q57 σ59 → (r_at σ (r_gr σ59 b23 15) = some (.inl 5) ∧ (∃ Q64 : r_S → Prop, r_M l w B tX5_add [Value.ref (B + (r_gr σ59 b23 15)), Value.int z47] σ59 (r_QV σ59 Q64) ∧ (∀ σ66 : r_S, Q64 σ66 → (Q z47 σ66))))))) ∧ (¬ (r_gi σ45 (r_gr σ45 b23 15) 1) = 0 → (∃ Q51 : r_S → Prop, r_M l w B tX5_add [Value.ref (B + (r_gr σ45 b23 15)), Value.int z47] σ45 (r_QV σ45 Q51) ∧ (∀ σ53 : r_S, Q51 σ53 → (Q z47 σ53)))))))))) ∧ (¬ z39 = 0 → (Q (-14) σ37))))))) ∧ (¬ z31 = 0 → (Q (-14) σ29))))))))))) ∧ (¬ x3 ≤ 8 → (Q (-12) σ11)))))))))))))))) :
    r_W X w B 6 0 0 (r_Z X w B tX7_offer (r_QI σ0 Q)) 0 [(0, Value.ref (B + a0)), (1, Value.int x1), (2, Value.int x2), (3, Value.int x3)] [] σ := by
  refine r_aload_n C dX7_offer_0 rfl (j := 0) rfl ?_
  refine r_iload_n C dX7_offer_1 rfl (j := 1) rfl ?_
  obtain ⟨g7, h⟩ := h
  obtain ⟨Q1, m2, h⟩ := h
  refine r_callVI (rest := []) C E [Value.int x1] (r_atT rfl g7) rfl ky_X7_isStation kl_X7_75 ki_X7_isStation kx_X7_isStation ⟨Nat.le_of_ble_eq_true rfl, Nat.le_of_ble_eq_true rfl⟩ ⟨rfl, rfl⟩ m2 rfl rfl (Nat.le_of_ble_eq_true rfl) (Nat.zero_le _) (Nat.zero_le _) dX7_offer_2 (fun z5 σ3 s4 q6 => ?_)
  have h := h z5 σ3 q6
  have s4 := s4.trans rfl
  refine r_if_eq (tgt := 16) C dX7_offer_5 (by decide) (fun c8 => ?_) (fun c8 => ?_)
  · have h := h.1 c8
    refine r_bipush (v := (-11)) C dX7_offer_16 (by decide) ?_
    exact r_iretQ C E rfl (Nat.zero_le _) (Nat.zero_le _) dX7_offer_18 (s4.trans hs) h
  · have h := h.2 c8
    refine r_aload_n C dX7_offer_8 rfl (j := 0) rfl ?_
    refine r_iload_n C dX7_offer_9 rfl (j := 2) rfl ?_
    obtain ⟨Q9, m10, h⟩ := h
    refine r_callVI (rest := []) C E [Value.int x2] (r_atT s4 g7) rfl ky_X7_isStation kl_X7_75 ki_X7_isStation kx_X7_isStation ⟨Nat.le_of_ble_eq_true rfl, Nat.le_of_ble_eq_true rfl⟩ ⟨rfl, rfl⟩ m10 rfl rfl (Nat.le_of_ble_eq_true rfl) (Nat.zero_le _) (Nat.zero_le _) dX7_offer_10 (fun z13 σ11 s12 q14 => ?_)
    have h := h z13 σ11 q14
    have s12 := s12.trans s4
    refine r_if_ne (tgt := 19) C dX7_offer_13 (by decide) (fun c15 => ?_) (fun c15 => ?_)
    · have h := h.2 c15
      refine r_iload_n C dX7_offer_19 rfl (j := 1) rfl ?_
      refine r_iload_n C dX7_offer_20 rfl (j := 2) rfl ?_
      refine r_icmp_eq (tgt := 35) C dX7_offer_21 (by decide) (fun c16 => ?_) (fun c16 => ?_)
      · have h := h.1 c16
        refine r_bipush (v := (-12)) C dX7_offer_35 (by decide) ?_
        exact r_iretQ C E rfl (Nat.zero_le _) (Nat.zero_le _) dX7_offer_37 (s12.trans hs) h
      · have h := h.2 c16
        refine r_iload_n C dX7_offer_24 rfl (j := 3) rfl ?_
        refine r_iconst (v := 1) C dX7_offer_25 (by decide) ?_
        refine r_icmp_lt (tgt := 35) C dX7_offer_26 (by decide) (fun c17 => ?_) (fun c17 => ?_)
        · have h := h.1 c17
          refine r_bipush (v := (-12)) C dX7_offer_35 (by decide) ?_
          exact r_iretQ C E rfl (Nat.zero_le _) (Nat.zero_le _) dX7_offer_37 (s12.trans hs) h
        · have h := h.2 c17
          refine r_iload_n C dX7_offer_29 rfl (j := 3) rfl ?_
          refine r_bipush (v := 8) C dX7_offer_30 (by decide) ?_
          refine r_icmp_le (tgt := 38) C dX7_offer_32 (by decide) (fun c18 => ?_) (fun c18 => ?_)
          · have h := h.1 c18
            refine r_aload_n C dX7_offer_38 rfl (j := 0) rfl ?_
            obtain ⟨n19, g20, h⟩ := h
            refine r_getR C (r_atT s12 g7) fa_X7_68 rfl (r_atN g20) dX7_offer_39 ?_
            refine r_iload_n C dX7_offer_42 rfl (j := 1) rfl ?_
            obtain ⟨g21, h⟩ := h
            obtain ⟨g22, h⟩ := h
            refine r_aald C (r_atT s12 g20) ⟨rfl, fun _ => rfl⟩ g21 (r_atN g22) dX7_offer_43 ?_
            refine r_topa (fun b23 e24 => ?_)
            have h := h b23 e24
            have e24 : b23 = r_gr σ11 (r_gr σ11 a0 0) x1.toNatClampNeg := e24
            have g25 := g22; rw [← e24] at g25
            refine r_astore (lv' := [(4, Value.ref (B + b23)), (0, Value.ref (B + a0)), (1, Value.int x1), (2, Value.int x2), (3, Value.int x3)]) C dX7_offer_44 (by decide) rfl ?_
            refine r_aload_n C dX7_offer_46 rfl (j := 1) rfl ?_
            obtain ⟨g26, h⟩ := h
            refine r_getR C (r_atT s12 g7) fa_X7_19 rfl (r_atN g26) dX7_offer_47 ?_
            obtain ⟨Q27, m28, h⟩ := h
            refine r_callVI (rest := []) C E [] (r_atT s12 g26) rfl ky_X4_isFull kl_X7_92 ki_X4_isFull kx_X4_isFull ⟨Nat.le_of_ble_eq_true rfl, Nat.le_of_ble_eq_true rfl⟩ ⟨rfl, rfl⟩ m28 rfl rfl (Nat.le_of_ble_eq_true rfl) (Nat.zero_le _) (Nat.zero_le _) dX7_offer_50 (fun z31 σ29 s30 q32 => ?_)
            have h := h z31 σ29 q32
            have s30 := s30.trans s12
            refine r_if_ne (tgt := 67) C dX7_offer_53 (by decide) (fun c33 => ?_) (fun c33 => ?_)
            · have h := h.2 c33
              refine r_bipush (v := (-14)) C dX7_offer_67 (by decide) ?_
              exact r_iretQ C E rfl (Nat.zero_le _) (Nat.zero_le _) dX7_offer_69 (s30.trans hs) h
            · have h := h.1 c33
              refine r_aload C dX7_offer_56 (j := 0) rfl ?_
              obtain ⟨g34, h⟩ := h
              refine r_getR C (r_atT s30 g25) fa_X7_96 rfl (r_atN g34) dX7_offer_58 ?_
              obtain ⟨Q35, m36, h⟩ := h
              refine r_callVI (rest := []) C E [] (r_atT s30 g34) rfl ky_X5_isFull kl_X7_99 ki_X5_isFull kx_X5_isFull ⟨Nat.le_of_ble_eq_true rfl, Nat.le_of_ble_eq_true rfl⟩ ⟨rfl, rfl⟩ m36 rfl rfl (Nat.le_of_ble_eq_true rfl) (Nat.zero_le _) (Nat.zero_le _) dX7_offer_61 (fun z39 σ37 s38 q40 => ?_)
              have h := h z39 σ37 q40
              have s38 := s38.trans s30
              refine r_if_eq (tgt := 70) C dX7_offer_64 (by decide) (fun c41 => ?_) (fun c41 => ?_)
              · have h := h.1 c41
                refine r_aload_n C dX7_offer_70 rfl (j := 1) rfl ?_
                obtain ⟨g42, h⟩ := h
                refine r_getR C (r_atT s38 g7) fa_X7_19 rfl (r_atN g42) dX7_offer_71 ?_
                refine r_iload_n C dX7_offer_74 rfl (j := 2) rfl ?_
                refine r_iload_n C dX7_offer_75 rfl (j := 3) rfl ?_
                refine r_iload_n C dX7_offer_76 rfl (j := 4) rfl ?_
                obtain ⟨Q43, m44, h⟩ := h
                refine r_callVI (rest := []) C E [Value.int x1, Value.int x2, Value.int x3] (r_atT s38 g42) rfl ky_X4_add kl_X7_100 ki_X4_add kx_X4_add ⟨Nat.le_of_ble_eq_true rfl, Nat.le_of_ble_eq_true rfl⟩ ⟨rfl, rfl⟩ m44 rfl rfl (Nat.le_of_ble_eq_true rfl) (Nat.zero_le _) (Nat.zero_le _) dX7_offer_77 (fun z47 σ45 s46 q48 => ?_)
                have h := h z47 σ45 q48
                have s46 := s46.trans s38
                refine r_istore (lv' := [(5, Value.int z47), (4, Value.ref (B + b23)), (0, Value.ref (B + a0)), (1, Value.int x1), (2, Value.int x2), (3, Value.int x3)]) C dX7_offer_80 (by decide) rfl ?_
                refine r_aload C dX7_offer_82 (j := 1) rfl ?_
                obtain ⟨g49, h⟩ := h
                refine r_getR C (r_atT s46 g25) fa_X7_96 rfl (r_atN g49) dX7_offer_84 ?_
                refine r_get (v := .int (r_gi σ45 (r_gr σ45 b23 15) 1)) C (r_atT s46 g49) fa_X7_103 rfl dX7_offer_87 ?_
                refine r_if_ne (tgt := 99) C dX7_offer_90 (by decide) (fun c50 => ?_) (fun c50 => ?_)
                · have h := h.2 c50
                  refine r_aload C dX7_offer_99 (j := 1) rfl ?_
                  refine r_getR C (r_atT s46 g25) fa_X7_96 rfl (r_atN g49) dX7_offer_101 ?_
                  refine r_iload C dX7_offer_104 (j := 0) rfl ?_
                  obtain ⟨Q51, m52, h⟩ := h
                  refine r_callVV (rest := []) C E [Value.int z47] (r_atT s46 g49) rfl ky_X5_add kl_X7_110 ki_X5_add kx_X5_add ⟨Nat.le_of_ble_eq_true rfl, Nat.le_of_ble_eq_true rfl⟩ ⟨rfl, rfl⟩ m52 rfl rfl (Nat.le_of_ble_eq_true rfl) (Nat.zero_le _) (Nat.zero_le _) dX7_offer_106 (fun σ53 s54 q56 => ?_)
                  have h := h σ53 q56
                  have s54 := s54.trans s46
                  refine r_iload C dX7_offer_109 (j := 0) rfl ?_
                  exact r_iretQ C E rfl (Nat.zero_le _) (Nat.zero_le _) dX7_offer_111 (s54.trans hs) h
                · have h := h.1 c50
                  refine r_aload_n C dX7_offer_93 rfl (j := 2) rfl ?_
                  refine r_aload C dX7_offer_94 (j := 1) rfl ?_
                  obtain ⟨Q57, m58, h⟩ := h
                  refine r_callVV (rest := []) C E [Value.ref (B + b23)] (r_atT s46 g7) rfl ky_X7_drawCount kl_X7_106 ki_X7_drawCount kx_X7_drawCount ⟨Nat.le_of_ble_eq_true rfl, Nat.le_of_ble_eq_true rfl⟩ ⟨rfl, rfl⟩ m58 rfl rfl (Nat.le_of_ble_eq_true rfl) (Nat.zero_le _) (Nat.zero_le _) dX7_offer_96 (fun σ59 s60 q62 => ?_)
                  have h := h σ59 q62
                  have s60 := s60.trans s46
                  refine r_aload C dX7_offer_99 (j := 1) rfl ?_
                  obtain ⟨g63, h⟩ := h
                  refine r_getR C (r_atT s60 g25) fa_X7_96 rfl (r_atN g63) dX7_offer_101 ?_
                  refine r_iload C dX7_offer_104 (j := 0) rfl ?_
                  obtain ⟨Q64, m65, h⟩ := h
                  refine r_callVV (rest := []) C E [Value.int z47] (r_atT s60 g63) rfl ky_X5_add kl_X7_110 ki_X5_add kx_X5_add ⟨Nat.le_of_ble_eq_true rfl, Nat.le_of_ble_eq_true rfl⟩ ⟨rfl, rfl⟩ m65 rfl rfl (Nat.le_of_ble_eq_true rfl) (Nat.zero_le _) (Nat.zero_le _) dX7_offer_106 (fun σ66 s67 q69 => ?_)
                  have h := h σ66 q69
                  have s67 := s67.trans s60
                  refine r_iload C dX7_offer_109 (j := 0) rfl ?_
                  exact r_iretQ C E rfl (Nat.zero_le _) (Nat.zero_le _) dX7_offer_111 (s67.trans hs) h
              · have h := h.2 c41
                refine r_bipush (v := (-14)) C dX7_offer_67 (by decide) ?_
                exact r_iretQ C E rfl (Nat.zero_le _) (Nat.zero_le _) dX7_offer_69 (s38.trans hs) h
          · have h := h.2 c18
            refine r_bipush (v := (-12)) C dX7_offer_35 (by decide) ?_
            exact r_iretQ C E rfl (Nat.zero_le _) (Nat.zero_le _) dX7_offer_37 (s12.trans hs) h
    · have h := h.1 c15
      refine r_bipush (v := (-11)) C dX7_offer_16 (by decide) ?_
      exact r_iretQ C E rfl (Nat.zero_le _) (Nat.zero_le _) dX7_offer_18 (s12.trans hs) h
theorem w_X7_noise_0 {X : r_X} {w : r_V} {B : Nat} {l : Launch} {Q : Int32 → r_S → Prop} {σ0 : r_S} (C : r_C X w B 5 cX7_noise RX7) (E : r_E X l tX7_noise) {σ : r_S} (hs : σ.1 = σ0.1) {a0 : Nat} {x1 x4 : Int32} {y2 : Int64}
    (h : r_at σ a0 = some (.inl 7) ∧ (∃ Q1 : Int32 → r_S → Prop, r_M l w B tX7_isStation [Value.ref (B + a0), Value.int x1] σ (r_QI σ Q1) ∧ (∀ (z5 : Int32) (σ3 : r_S), Q1 z5 σ3 → ((z5 = 0 → (Q (-11) σ3)) ∧ (¬ z5 = 0 → ((y2 < (r_gl σ3 a0 7) → (Q (-12) σ3)) ∧ (¬ y2 < (r_gl σ3 a0 7) → ((1000000 < y2 → (Q (-12) σ3)) ∧ (¬ 1000000 < y2 → ((x4 < 1 → (Q (-12) σ3)) ∧ (¬ x4 < 1 → ((x4 ≤ 1000 → (r_at σ (r_gr σ3 a0 3) = some (.inl 3) ∧ (∃ Q14 : Int32 → r_S → Prop, r_M l w B tX3_isFull [Value.ref (B + (r_gr σ3 a0 3))] σ3 (r_QI σ3 Q14) ∧ (∀ (z18 : Int32) (σ16 : r_S), Q14 z18 σ16 → ((z18 = 0 → (r_at σ (r_gr σ16 a0 3) = some (.inl 3) ∧ (∃ Q22 : r_S → Prop, r_M l w B tX3_add [Value.ref (B + (r_gr σ16 a0 3)), Value.int x1, Value.long y2, Value.int x4] σ16 (r_QV σ16 Q22) ∧ (∀ σ24 : r_S, Q22 σ24 → (r_at σ (r_gr σ24 a0 3) = some (.inl 3) ∧ (Q (r_gi σ24 (r_gr σ24 a0 3) 3) σ24)))))) ∧ (¬ z18 = 0 → (Q (-14) σ16))))))) ∧ (¬ x4 ≤ 1000 → (Q (-12) σ3)))))))))))))) :
    r_W X w B 5 0 0 (r_Z X w B tX7_noise (r_QI σ0 Q)) 0 [(0, Value.ref (B + a0)), (1, Value.int x1), (2, Value.long y2), (4, Value.int x4)] [] σ := by
  refine r_aload_n C dX7_noise_0 rfl (j := 0) rfl ?_
  refine r_iload_n C dX7_noise_1 rfl (j := 1) rfl ?_
  obtain ⟨g7, h⟩ := h
  obtain ⟨Q1, m2, h⟩ := h
  refine r_callVI (rest := []) C E [Value.int x1] (r_atT rfl g7) rfl ky_X7_isStation kl_X7_75 ki_X7_isStation kx_X7_isStation ⟨Nat.le_of_ble_eq_true rfl, Nat.le_of_ble_eq_true rfl⟩ ⟨rfl, rfl⟩ m2 rfl rfl (Nat.le_of_ble_eq_true rfl) (Nat.zero_le _) (Nat.zero_le _) dX7_noise_2 (fun z5 σ3 s4 q6 => ?_)
  have h := h z5 σ3 q6
  have s4 := s4.trans rfl
  refine r_if_ne (tgt := 11) C dX7_noise_5 (by decide) (fun c8 => ?_) (fun c8 => ?_)
  · have h := h.2 c8
    refine r_lload_n C dX7_noise_11 rfl (j := 2) rfl ?_
    refine r_aload_n C dX7_noise_12 rfl (j := 0) rfl ?_
    refine r_get (v := .long (r_gl σ3 a0 7)) C (r_atT s4 g7) fa_X7_50 rfl dX7_noise_13 ?_
    refine r_lcmp C dX7_noise_16 ?_
    refine r_if_lt (tgt := 42) C dX7_noise_17 (by decide) (fun c9 => ?_) (fun c9 => ?_)
    · have h := h.1 (lgc_lt.mp c9)
      refine r_bipush (v := (-12)) C dX7_noise_42 (by decide) ?_
      exact r_iretQ C E rfl (Nat.zero_le _) (Nat.zero_le _) dX7_noise_44 (s4.trans hs) h
    · have h := h.2 (fun q => c9 (lgc_lt.mpr q))
      refine r_lload_n C dX7_noise_20 rfl (j := 2) rfl ?_
      refine r_ldc2 (v := 1000000) C kj_X7_111 dX7_noise_21 ?_
      refine r_lcmp C dX7_noise_24 ?_
      refine r_if_gt (tgt := 42) C dX7_noise_25 (by decide) (fun c10 => ?_) (fun c10 => ?_)
      · have h := h.1 (lgc_gt.mp c10)
        refine r_bipush (v := (-12)) C dX7_noise_42 (by decide) ?_
        exact r_iretQ C E rfl (Nat.zero_le _) (Nat.zero_le _) dX7_noise_44 (s4.trans hs) h
      · have h := h.2 (fun q => c10 (lgc_gt.mpr q))
        refine r_iload C dX7_noise_28 (j := 3) rfl ?_
        refine r_iconst (v := 1) C dX7_noise_30 (by decide) ?_
        refine r_icmp_lt (tgt := 42) C dX7_noise_31 (by decide) (fun c11 => ?_) (fun c11 => ?_)
        · have h := h.1 c11
          refine r_bipush (v := (-12)) C dX7_noise_42 (by decide) ?_
          exact r_iretQ C E rfl (Nat.zero_le _) (Nat.zero_le _) dX7_noise_44 (s4.trans hs) h
        · have h := h.2 c11
          refine r_iload C dX7_noise_34 (j := 3) rfl ?_
          refine r_sipush (v := 1000) C dX7_noise_36 (by decide) ?_
          refine r_icmp_le (tgt := 45) C dX7_noise_39 (by decide) (fun c12 => ?_) (fun c12 => ?_)
          · have h := h.1 c12
            refine r_aload_n C dX7_noise_45 rfl (j := 0) rfl ?_
            obtain ⟨g13, h⟩ := h
            refine r_getR C (r_atT s4 g7) fa_X7_26 rfl (r_atN g13) dX7_noise_46 ?_
            obtain ⟨Q14, m15, h⟩ := h
            refine r_callVI (rest := []) C E [] (r_atT s4 g13) rfl ky_X3_isFull kl_X7_113 ki_X3_isFull kx_X3_isFull ⟨Nat.le_of_ble_eq_true rfl, Nat.le_of_ble_eq_true rfl⟩ ⟨rfl, rfl⟩ m15 rfl rfl (Nat.le_of_ble_eq_true rfl) (Nat.zero_le _) (Nat.zero_le _) dX7_noise_49 (fun z18 σ16 s17 q19 => ?_)
            have h := h z18 σ16 q19
            have s17 := s17.trans s4
            refine r_if_eq (tgt := 58) C dX7_noise_52 (by decide) (fun c20 => ?_) (fun c20 => ?_)
            · have h := h.1 c20
              refine r_aload_n C dX7_noise_58 rfl (j := 0) rfl ?_
              obtain ⟨g21, h⟩ := h
              refine r_getR C (r_atT s17 g7) fa_X7_26 rfl (r_atN g21) dX7_noise_59 ?_
              refine r_iload_n C dX7_noise_62 rfl (j := 1) rfl ?_
              refine r_lload_n C dX7_noise_63 rfl (j := 2) rfl ?_
              refine r_iload C dX7_noise_64 (j := 3) rfl ?_
              obtain ⟨Q22, m23, h⟩ := h
              refine r_callVV (rest := []) C E [Value.int x1, Value.long y2, Value.int x4] (r_atT s17 g21) rfl ky_X3_add kl_X7_114 ki_X3_add kx_X3_add ⟨Nat.le_of_ble_eq_true rfl, Nat.le_of_ble_eq_true rfl⟩ ⟨rfl, rfl⟩ m23 rfl rfl (Nat.le_of_ble_eq_true rfl) (Nat.zero_le _) (Nat.zero_le _) dX7_noise_66 (fun σ24 s25 q27 => ?_)
              have h := h σ24 q27
              have s25 := s25.trans s17
              refine r_aload_n C dX7_noise_69 rfl (j := 0) rfl ?_
              obtain ⟨g28, h⟩ := h
              refine r_getR C (r_atT s25 g7) fa_X7_26 rfl (r_atN g28) dX7_noise_70 ?_
              refine r_get (v := .int (r_gi σ24 (r_gr σ24 a0 3) 3)) C (r_atT s25 g28) fa_X7_117 rfl dX7_noise_73 ?_
              exact r_iretQ C E rfl (Nat.zero_le _) (Nat.zero_le _) dX7_noise_76 (s25.trans hs) h
            · have h := h.2 c20
              refine r_bipush (v := (-14)) C dX7_noise_55 (by decide) ?_
              exact r_iretQ C E rfl (Nat.zero_le _) (Nat.zero_le _) dX7_noise_57 (s17.trans hs) h
          · have h := h.2 c12
            refine r_bipush (v := (-12)) C dX7_noise_42 (by decide) ?_
            exact r_iretQ C E rfl (Nat.zero_le _) (Nat.zero_le _) dX7_noise_44 (s4.trans hs) h
  · have h := h.1 c8
    refine r_bipush (v := (-11)) C dX7_noise_8 (by decide) ?_
    exact r_iretQ C E rfl (Nat.zero_le _) (Nat.zero_le _) dX7_noise_10 (s4.trans hs) h
theorem w_X7_run_0 {X : r_X} {w : r_V} {B : Nat} {l : Launch} {Q : Int32 → r_S → Prop} {σ0 : r_S} (C : r_C X w B 4 cX7_run RX7) (E : r_E X l tX7_run) {σ : r_S} (hs : σ.1 = σ0.1) {a0 : Nat} {x1 : Int32}
    (h : (x1 < 1 → (Q (-12) σ)) ∧ (¬ x1 < 1 → ((x1 ≤ 2000 → (r_at σ a0 = some (.inl 7) ∧ (r_at σ (r_gr σ a0 4) = some (.inl 1) ∧ (∀ z5 : Int32, z5 = r_gi σ (r_gr σ a0 4) 3 → (r_W X w B 4 0 0 (r_Z X w B tX7_run (r_QI σ0 Q)) 25 [(0, Value.ref (B + a0)), (1, Value.int x1), (2, Value.int z5), (3, Value.int 0)] [] σ))))) ∧ (¬ x1 ≤ 2000 → (Q (-12) σ))))) :
    r_W X w B 4 0 0 (r_Z X w B tX7_run (r_QI σ0 Q)) 0 [(0, Value.ref (B + a0)), (1, Value.int x1)] [] σ := by
  refine r_iload_n C dX7_run_0 rfl (j := 1) rfl ?_
  refine r_iconst (v := 1) C dX7_run_1 (by decide) ?_
  refine r_icmp_lt (tgt := 12) C dX7_run_2 (by decide) (fun c1 => ?_) (fun c1 => ?_)
  · have h := h.1 c1
    refine r_bipush (v := (-12)) C dX7_run_12 (by decide) ?_
    exact r_iretQ C E rfl (Nat.zero_le _) (Nat.zero_le _) dX7_run_14 ((rfl : σ.1 = σ.1).trans hs) h
  · have h := h.2 c1
    refine r_iload_n C dX7_run_5 rfl (j := 1) rfl ?_
    refine r_sipush (v := 2000) C dX7_run_6 (by decide) ?_
    refine r_icmp_le (tgt := 15) C dX7_run_9 (by decide) (fun c2 => ?_) (fun c2 => ?_)
    · have h := h.1 c2
      refine r_aload_n C dX7_run_15 rfl (j := 0) rfl ?_
      obtain ⟨g3, h⟩ := h
      obtain ⟨g4, h⟩ := h
      refine r_getR C (r_atT rfl g3) fa_X7_33 rfl (r_atN g4) dX7_run_16 ?_
      refine r_get (v := .int (r_gi σ (r_gr σ a0 4) 3)) C (r_atT rfl g4) fa_X7_118 rfl dX7_run_19 ?_
      refine r_topi (fun z5 e6 => ?_)
      have h := h z5 e6
      refine r_istore_n (lv' := [(2, Value.int z5), (0, Value.ref (B + a0)), (1, Value.int x1)]) C dX7_run_22 rfl (by decide) rfl ?_
      refine r_iconst (v := 0) C dX7_run_23 (by decide) ?_
      refine r_istore_n (lv' := [(3, Value.int 0), (2, Value.int z5), (0, Value.ref (B + a0)), (1, Value.int x1)]) C dX7_run_24 rfl (by decide) rfl ?_
      exact r_loc (by simp) h
    · have h := h.2 c2
      refine r_bipush (v := (-12)) C dX7_run_12 (by decide) ?_
      exact r_iretQ C E rfl (Nat.zero_le _) (Nat.zero_le _) dX7_run_14 ((rfl : σ.1 = σ.1).trans hs) h
theorem w_X7_run_25 {X : r_X} {w : r_V} {B : Nat} {l : Launch} {Q : Int32 → r_S → Prop} {σ0 : r_S} (C : r_C X w B 4 cX7_run RX7) (E : r_E X l tX7_run) {σ : r_S} (hs : σ.1 = σ0.1) {a0 : Nat} {x1 x2 x3 : Int32}
    (h : (x1 ≤ x3 → (r_at σ a0 = some (.inl 7) ∧ (r_at σ (r_gr σ a0 4) = some (.inl 1) ∧ (Q ((r_gi σ (r_gr σ a0 4) 3) - x2) σ)))) ∧ (¬ x1 ≤ x3 → (r_at σ a0 = some (.inl 7) ∧ (∃ Q4 : r_S → Prop, r_M l w B tX7_beginFrames [Value.ref (B + a0)] σ (r_QV σ Q4) ∧ (∀ σ6 : r_S, Q4 σ6 → (∃ Q11 : r_S → Prop, r_M l w B tX7_markGoodSlots [Value.ref (B + a0)] σ6 (r_QV σ6 Q11) ∧ (∀ σ13 : r_S, Q11 σ13 → (∃ Q17 : r_S → Prop, r_M l w B tX7_endFrames [Value.ref (B + a0)] σ13 (r_QV σ13 Q17) ∧ (∀ σ19 : r_S, Q17 σ19 → (∃ Q23 : r_S → Prop, r_M l w B tX7_countIdleSlots [Value.ref (B + a0)] σ19 (r_QV σ19 Q23) ∧ (∀ σ25 : r_S, Q23 σ25 → (∀ σ29 : r_S, σ29 = r_ul σ25 a0 7 ((r_gl σ25 a0 7) + 1) → (∀ z32 : Int32, z32 = x3 + 1 → (r_W X w B 4 0 0 (r_Z X w B tX7_run (r_QI σ0 Q)) 25 [(0, Value.ref (B + a0)), (1, Value.int x1), (2, Value.int x2), (3, Value.int z32)] [] σ29)))))))))))))) :
    r_W X w B 4 0 0 (r_Z X w B tX7_run (r_QI σ0 Q)) 25 [(0, Value.ref (B + a0)), (1, Value.int x1), (2, Value.int x2), (3, Value.int x3)] [] σ := by
  refine r_iload_n C dX7_run_25 rfl (j := 3) rfl ?_
  refine r_iload_n C dX7_run_26 rfl (j := 1) rfl ?_
  refine r_icmp_ge (tgt := 62) C dX7_run_27 (by decide) (fun c1 => ?_) (fun c1 => ?_)
  · have h := h.1 c1
    refine r_aload_n C dX7_run_62 rfl (j := 0) rfl ?_
    obtain ⟨g2, h⟩ := h
    obtain ⟨g3, h⟩ := h
    refine r_getR C (r_atT rfl g2) fa_X7_33 rfl (r_atN g3) dX7_run_63 ?_
    refine r_get (v := .int (r_gi σ (r_gr σ a0 4) 3)) C (r_atT rfl g3) fa_X7_118 rfl dX7_run_66 ?_
    refine r_iload_n C dX7_run_69 rfl (j := 2) rfl ?_
    refine r_isub C dX7_run_70 ?_
    exact r_iretQ C E rfl (Nat.zero_le _) (Nat.zero_le _) dX7_run_71 ((rfl : σ.1 = σ.1).trans hs) h
  · have h := h.2 c1
    refine r_aload_n C dX7_run_30 rfl (j := 0) rfl ?_
    obtain ⟨g10, h⟩ := h
    obtain ⟨Q4, m5, h⟩ := h
    refine r_callVV (rest := []) C E [] (r_atT rfl g10) rfl ky_X7_beginFrames kl_X7_121 ki_X7_beginFrames kx_X7_beginFrames ⟨Nat.le_of_ble_eq_true rfl, Nat.le_of_ble_eq_true rfl⟩ ⟨rfl, rfl⟩ m5 rfl rfl (Nat.le_of_ble_eq_true rfl) (Nat.zero_le _) (Nat.zero_le _) dX7_run_31 (fun σ6 s7 q9 => ?_)
    have h := h σ6 q9
    have s7 := s7.trans rfl
    refine r_aload_n C dX7_run_34 rfl (j := 0) rfl ?_
    obtain ⟨Q11, m12, h⟩ := h
    refine r_callVV (rest := []) C E [] (r_atT s7 g10) rfl ky_X7_markGoodSlots kl_X7_124 ki_X7_markGoodSlots kx_X7_markGoodSlots ⟨Nat.le_of_ble_eq_true rfl, Nat.le_of_ble_eq_true rfl⟩ ⟨rfl, rfl⟩ m12 rfl rfl (Nat.le_of_ble_eq_true rfl) (Nat.zero_le _) (Nat.zero_le _) dX7_run_35 (fun σ13 s14 q16 => ?_)
    have h := h σ13 q16
    have s14 := s14.trans s7
    refine r_aload_n C dX7_run_38 rfl (j := 0) rfl ?_
    obtain ⟨Q17, m18, h⟩ := h
    refine r_callVV (rest := []) C E [] (r_atT s14 g10) rfl ky_X7_endFrames kl_X7_127 ki_X7_endFrames kx_X7_endFrames ⟨Nat.le_of_ble_eq_true rfl, Nat.le_of_ble_eq_true rfl⟩ ⟨rfl, rfl⟩ m18 rfl rfl (Nat.le_of_ble_eq_true rfl) (Nat.zero_le _) (Nat.zero_le _) dX7_run_39 (fun σ19 s20 q22 => ?_)
    have h := h σ19 q22
    have s20 := s20.trans s14
    refine r_aload_n C dX7_run_42 rfl (j := 0) rfl ?_
    obtain ⟨Q23, m24, h⟩ := h
    refine r_callVV (rest := []) C E [] (r_atT s20 g10) rfl ky_X7_countIdleSlots kl_X7_130 ki_X7_countIdleSlots kx_X7_countIdleSlots ⟨Nat.le_of_ble_eq_true rfl, Nat.le_of_ble_eq_true rfl⟩ ⟨rfl, rfl⟩ m24 rfl rfl (Nat.le_of_ble_eq_true rfl) (Nat.zero_le _) (Nat.zero_le _) dX7_run_43 (fun σ25 s26 q28 => ?_)
    have h := h σ25 q28
    have s26 := s26.trans s20
    refine r_aload_n C dX7_run_46 rfl (j := 0) rfl ?_
    refine r_dup C dX7_run_47 rfl ?_
    refine r_get (v := .long (r_gl σ25 a0 7)) C (r_atT s26 g10) fa_X7_50 rfl dX7_run_48 ?_
    refine r_lconst (v := 1) C dX7_run_51 (by decide) ?_
    refine r_ladd C dX7_run_52 ?_
    refine r_putL C (r_atT s26 g10) fa_X7_50 rfl dX7_run_53 ?_
    refine r_nam (fun σ29 e30 => ?_)
    have h := h σ29 e30
    have s31 : σ29.1 = σ.1 := by rw [e30]; exact s26
    obtain ⟨z32, e33⟩ : ∃ y : Int32, y = x3 + 1 := ⟨_, rfl⟩
    have h := h z32 e33
    refine r_iinc (v := z32) (lv' := [(3, Value.int z32), (0, Value.ref (B + a0)), (1, Value.int x1), (2, Value.int x2)]) C dX7_run_56 (k := 3) rfl (by rw [e33]; rfl) (by decide) rfl ?_
    refine r_goto (tgt := 25) C dX7_run_59 (by decide) ?_
    exact r_loc (by simp) h
theorem w_X7_event_0 {X : r_X} {w : r_V} {B : Nat} {l : Launch} {Q : Int32 → r_S → Prop} {σ0 : r_S} (C : r_C X w B 3 cX7_event RX7) (E : r_E X l tX7_event) {σ : r_S} (hs : σ.1 = σ0.1) {a0 : Nat} {x1 x2 : Int32}
    (h : (x1 < 0 → (Q (-1) σ)) ∧ (¬ x1 < 0 → (r_at σ a0 = some (.inl 7) ∧ (r_at σ (r_gr σ a0 4) = some (.inl 1) ∧ (∃ Q4 : Int32 → r_S → Prop, r_M l w B tX1_told [Value.ref (B + (r_gr σ a0 4))] σ (r_QI σ Q4) ∧ (∀ (z8 : Int32) (σ6 : r_S), Q4 z8 σ6 → ((x1 < z8 → ((x2 = 0 → (r_at σ (r_gr σ6 a0 4) = some (.inl 1) ∧ (∃ n13, r_at σ (r_gr σ6 (r_gr σ6 a0 4) 0) = some (.inr (0, n13)) ∧ (vp_in x1 n13 ∧ (Q (r_gi σ6 (r_gr σ6 (r_gr σ6 a0 4) 0) x1.toNatClampNeg) σ6))))) ∧ (¬ x2 = 0 → ((x2 = 1 → (r_at σ (r_gr σ6 a0 4) = some (.inl 1) ∧ (∃ n18, r_at σ (r_gr σ6 (r_gr σ6 a0 4) 1) = some (.inr (0, n18)) ∧ (vp_in x1 n18 ∧ (Q (r_gi σ6 (r_gr σ6 (r_gr σ6 a0 4) 1) x1.toNatClampNeg) σ6))))) ∧ (¬ x2 = 1 → ((x2 = 2 → (r_at σ (r_gr σ6 a0 4) = some (.inl 1) ∧ (∃ n23, r_at σ (r_gr σ6 (r_gr σ6 a0 4) 2) = some (.inr (0, n23)) ∧ (vp_in x1 n23 ∧ (Q (r_gi σ6 (r_gr σ6 (r_gr σ6 a0 4) 2) x1.toNatClampNeg) σ6))))) ∧ (¬ x2 = 2 → (Q (-1) σ6)))))))) ∧ (¬ x1 < z8 → (Q (-1) σ6))))))))) :
    r_W X w B 3 0 0 (r_Z X w B tX7_event (r_QI σ0 Q)) 0 [(0, Value.ref (B + a0)), (1, Value.int x1), (2, Value.int x2)] [] σ := by
  refine r_iload_n C dX7_event_0 rfl (j := 1) rfl ?_
  refine r_if_lt (tgt := 15) C dX7_event_1 (by decide) (fun c1 => ?_) (fun c1 => ?_)
  · have h := h.1 c1
    refine r_iconst (v := (-1)) C dX7_event_15 (by decide) ?_
    exact r_iretQ C E rfl (Nat.zero_le _) (Nat.zero_le _) dX7_event_16 ((rfl : σ.1 = σ.1).trans hs) h
  · have h := h.2 c1
    refine r_iload_n C dX7_event_4 rfl (j := 1) rfl ?_
    refine r_aload_n C dX7_event_5 rfl (j := 0) rfl ?_
    obtain ⟨g2, h⟩ := h
    obtain ⟨g3, h⟩ := h
    refine r_getR C (r_atT rfl g2) fa_X7_33 rfl (r_atN g3) dX7_event_6 ?_
    obtain ⟨Q4, m5, h⟩ := h
    refine r_callVI (rest := [Value.int x1]) C E [] (r_atT rfl g3) rfl ky_X1_told kl_X7_133 ki_X1_told kx_X1_told ⟨Nat.le_of_ble_eq_true rfl, Nat.le_of_ble_eq_true rfl⟩ ⟨rfl, rfl⟩ m5 rfl rfl (Nat.le_of_ble_eq_true rfl) (Nat.zero_le _) (Nat.zero_le _) dX7_event_9 (fun z8 σ6 s7 q9 => ?_)
    have h := h z8 σ6 q9
    have s7 := s7.trans rfl
    refine r_icmp_lt (tgt := 17) C dX7_event_12 (by decide) (fun c10 => ?_) (fun c10 => ?_)
    · have h := h.1 c10
      refine r_iload_n C dX7_event_17 rfl (j := 2) rfl ?_
      by_cases c11 : x2 = 0
      · have h := h.1 c11
        refine r_tableIn (tgt := 44) (off := 26) C dX7_event_18 (by rw [c11]; decide) (by rw [c11]; decide) (by rw [c11]; rfl) (by decide) ?_
        refine r_aload_n C dX7_event_44 rfl (j := 0) rfl ?_
        obtain ⟨g12, h⟩ := h
        refine r_getR C (r_atT s7 g2) fa_X7_33 rfl (r_atN g12) dX7_event_45 ?_
        obtain ⟨n13, g14, h⟩ := h
        refine r_getR C (r_atT s7 g12) fa_X7_136 rfl (r_atN g14) dX7_event_48 ?_
        refine r_iload_n C dX7_event_51 rfl (j := 1) rfl ?_
        obtain ⟨g15, h⟩ := h
        refine r_iald C (r_atT s7 g14) ⟨rfl, fun _ => rfl⟩ g15 dX7_event_52 ?_
        exact r_iretQ C E rfl (Nat.zero_le _) (Nat.zero_le _) dX7_event_53 (s7.trans hs) h
      have h := h.2 c11
      have c11 := r_neT c11
      by_cases c16 : x2 = 1
      · have h := h.1 c16
        refine r_tableIn (tgt := 54) (off := 36) C dX7_event_18 (by rw [c16]; decide) (by rw [c16]; decide) (by rw [c16]; rfl) (by decide) ?_
        refine r_aload_n C dX7_event_54 rfl (j := 0) rfl ?_
        obtain ⟨g17, h⟩ := h
        refine r_getR C (r_atT s7 g2) fa_X7_33 rfl (r_atN g17) dX7_event_55 ?_
        obtain ⟨n18, g19, h⟩ := h
        refine r_getR C (r_atT s7 g17) fa_X7_140 rfl (r_atN g19) dX7_event_58 ?_
        refine r_iload_n C dX7_event_61 rfl (j := 1) rfl ?_
        obtain ⟨g20, h⟩ := h
        refine r_iald C (r_atT s7 g19) ⟨rfl, fun _ => rfl⟩ g20 dX7_event_62 ?_
        exact r_iretQ C E rfl (Nat.zero_le _) (Nat.zero_le _) dX7_event_63 (s7.trans hs) h
      have h := h.2 c16
      have c16 := r_neT c16
      by_cases c21 : x2 = 2
      · have h := h.1 c21
        refine r_tableIn (tgt := 64) (off := 46) C dX7_event_18 (by rw [c21]; decide) (by rw [c21]; decide) (by rw [c21]; rfl) (by decide) ?_
        refine r_aload_n C dX7_event_64 rfl (j := 0) rfl ?_
        obtain ⟨g22, h⟩ := h
        refine r_getR C (r_atT s7 g2) fa_X7_33 rfl (r_atN g22) dX7_event_65 ?_
        obtain ⟨n23, g24, h⟩ := h
        refine r_getR C (r_atT s7 g22) fa_X7_143 rfl (r_atN g24) dX7_event_68 ?_
        refine r_iload_n C dX7_event_71 rfl (j := 1) rfl ?_
        obtain ⟨g25, h⟩ := h
        refine r_iald C (r_atT s7 g24) ⟨rfl, fun _ => rfl⟩ g25 dX7_event_72 ?_
        exact r_iretQ C E rfl (Nat.zero_le _) (Nat.zero_le _) dX7_event_73 (s7.trans hs) h
      have h := h.2 c21
      have c21 := r_neT c21
      refine r_tableOut (tgt := 74) C dX7_event_18 (by simp at *; omega) (by decide) ?_
      refine r_iconst (v := (-1)) C dX7_event_74 (by decide) ?_
      exact r_iretQ C E rfl (Nat.zero_le _) (Nat.zero_le _) dX7_event_75 (s7.trans hs) h
    · have h := h.2 c10
      refine r_iconst (v := (-1)) C dX7_event_15 (by decide) ?_
      exact r_iretQ C E rfl (Nat.zero_le _) (Nat.zero_le _) dX7_event_16 (s7.trans hs) h
theorem w_X7_state_0 {X : r_X} {w : r_V} {B : Nat} {l : Launch} {Q : Int32 → r_S → Prop} {σ0 : r_S} (C : r_C X w B 4 cX7_state RX7) (E : r_E X l tX7_state) {σ : r_S} (hs : σ.1 = σ0.1) {a0 : Nat} {x1 x2 : Int32}
    (h : r_at σ a0 = some (.inl 7) ∧ (∃ Q1 : Int32 → r_S → Prop, r_M l w B tX7_isStation [Value.ref (B + a0), Value.int x1] σ (r_QI σ Q1) ∧ (∀ (z5 : Int32) (σ3 : r_S), Q1 z5 σ3 → ((z5 = 0 → (Q (-11) σ3)) ∧ (¬ z5 = 0 → (∃ n9, r_at σ (r_gr σ3 a0 0) = some (.inr (3, n9)) ∧ (vp_in x1 n9 ∧ (r_at σ (r_gr σ3 (r_gr σ3 a0 0) x1.toNatClampNeg) = some (.inl 6) ∧ (∀ b13 : Nat, b13 = r_gr σ3 (r_gr σ3 a0 0) x1.toNatClampNeg → ((x2 = 0 → (Q (r_gi σ3 b13 3) σ3)) ∧ (¬ x2 = 0 → ((x2 = 1 → (Q (r_gi σ3 b13 5) σ3)) ∧ (¬ x2 = 1 → ((x2 = 2 → (Q (r_gi σ3 b13 4) σ3)) ∧ (¬ x2 = 2 → ((x2 = 3 → (∃ Q20 : Int64 → r_S → Prop, r_M l w B tJ9_max_f86c9 [Value.long 0, Value.long ((r_gl σ3 b13 8) - (r_gl σ3 a0 7))] σ3 (r_QL σ3 Q20) ∧ (∀ (y24 : Int64) (σ22 : r_S), Q20 y24 σ22 → (Q y24.toInt32 σ22)))) ∧ (¬ x2 = 3 → ((x2 = 4 → (r_at σ (r_gr σ3 b13 14) = some (.inl 2) ∧ (Q (r_gi σ3 (r_gr σ3 b13 14) 0) σ3))) ∧ (¬ x2 = 4 → ((x2 = 5 → (Q (r_gi σ3 b13 6) σ3)) ∧ (¬ x2 = 5 → ((x2 = 6 → (Q (r_gi σ3 b13 7) σ3)) ∧ (¬ x2 = 6 → ((x2 = 7 → (r_at σ (r_gr σ3 b13 15) = some (.inl 5) ∧ (Q (r_gi σ3 (r_gr σ3 b13 15) 1) σ3))) ∧ (¬ x2 = 7 → (Q (-12) σ3)))))))))))))))))))))))))) :
    r_W X w B 4 0 0 (r_Z X w B tX7_state (r_QI σ0 Q)) 0 [(0, Value.ref (B + a0)), (1, Value.int x1), (2, Value.int x2)] [] σ := by
  refine r_aload_n C dX7_state_0 rfl (j := 0) rfl ?_
  refine r_iload_n C dX7_state_1 rfl (j := 1) rfl ?_
  obtain ⟨g7, h⟩ := h
  obtain ⟨Q1, m2, h⟩ := h
  refine r_callVI (rest := []) C E [Value.int x1] (r_atT rfl g7) rfl ky_X7_isStation kl_X7_75 ki_X7_isStation kx_X7_isStation ⟨Nat.le_of_ble_eq_true rfl, Nat.le_of_ble_eq_true rfl⟩ ⟨rfl, rfl⟩ m2 rfl rfl (Nat.le_of_ble_eq_true rfl) (Nat.zero_le _) (Nat.zero_le _) dX7_state_2 (fun z5 σ3 s4 q6 => ?_)
  have h := h z5 σ3 q6
  have s4 := s4.trans rfl
  refine r_if_ne (tgt := 11) C dX7_state_5 (by decide) (fun c8 => ?_) (fun c8 => ?_)
  · have h := h.2 c8
    refine r_aload_n C dX7_state_11 rfl (j := 0) rfl ?_
    obtain ⟨n9, g10, h⟩ := h
    refine r_getR C (r_atT s4 g7) fa_X7_68 rfl (r_atN g10) dX7_state_12 ?_
    refine r_iload_n C dX7_state_15 rfl (j := 1) rfl ?_
    obtain ⟨g11, h⟩ := h
    obtain ⟨g12, h⟩ := h
    refine r_aald C (r_atT s4 g10) ⟨rfl, fun _ => rfl⟩ g11 (r_atN g12) dX7_state_16 ?_
    refine r_topa (fun b13 e14 => ?_)
    have h := h b13 e14
    have e14 : b13 = r_gr σ3 (r_gr σ3 a0 0) x1.toNatClampNeg := e14
    have g15 := g12; rw [← e14] at g15
    refine r_astore_n (lv' := [(3, Value.ref (B + b13)), (0, Value.ref (B + a0)), (1, Value.int x1), (2, Value.int x2)]) C dX7_state_17 rfl (by decide) rfl ?_
    refine r_iload_n C dX7_state_18 rfl (j := 3) rfl ?_
    by_cases c16 : x2 = 0
    · have h := h.1 c16
      refine r_tableIn (tgt := 64) (off := 45) C dX7_state_19 (by rw [c16]; decide) (by rw [c16]; decide) (by rw [c16]; rfl) (by decide) ?_
      refine r_aload_n C dX7_state_64 rfl (j := 0) rfl ?_
      refine r_get (v := .int (r_gi σ3 b13 3)) C (r_atT s4 g15) fa_X7_146 rfl dX7_state_65 ?_
      exact r_iretQ C E rfl (Nat.zero_le _) (Nat.zero_le _) dX7_state_68 (s4.trans hs) h
    have h := h.2 c16
    have c16 := r_neT c16
    by_cases c17 : x2 = 1
    · have h := h.1 c17
      refine r_tableIn (tgt := 69) (off := 50) C dX7_state_19 (by rw [c17]; decide) (by rw [c17]; decide) (by rw [c17]; rfl) (by decide) ?_
      refine r_aload_n C dX7_state_69 rfl (j := 0) rfl ?_
      refine r_get (v := .int (r_gi σ3 b13 5)) C (r_atT s4 g15) fa_X7_149 rfl dX7_state_70 ?_
      exact r_iretQ C E rfl (Nat.zero_le _) (Nat.zero_le _) dX7_state_73 (s4.trans hs) h
    have h := h.2 c17
    have c17 := r_neT c17
    by_cases c18 : x2 = 2
    · have h := h.1 c18
      refine r_tableIn (tgt := 74) (off := 55) C dX7_state_19 (by rw [c18]; decide) (by rw [c18]; decide) (by rw [c18]; rfl) (by decide) ?_
      refine r_aload_n C dX7_state_74 rfl (j := 0) rfl ?_
      refine r_get (v := .int (r_gi σ3 b13 4)) C (r_atT s4 g15) fa_X7_152 rfl dX7_state_75 ?_
      exact r_iretQ C E rfl (Nat.zero_le _) (Nat.zero_le _) dX7_state_78 (s4.trans hs) h
    have h := h.2 c18
    have c18 := r_neT c18
    by_cases c19 : x2 = 3
    · have h := h.1 c19
      refine r_tableIn (tgt := 79) (off := 60) C dX7_state_19 (by rw [c19]; decide) (by rw [c19]; decide) (by rw [c19]; rfl) (by decide) ?_
      refine r_lconst (v := 0) C dX7_state_79 (by decide) ?_
      refine r_aload_n C dX7_state_80 rfl (j := 0) rfl ?_
      refine r_get (v := .long (r_gl σ3 b13 8)) C (r_atT s4 g15) fa_X7_155 rfl dX7_state_81 ?_
      refine r_aload_n C dX7_state_84 rfl (j := 1) rfl ?_
      refine r_get (v := .long (r_gl σ3 a0 7)) C (r_atT s4 g7) fa_X7_50 rfl dX7_state_85 ?_
      refine r_lsub C dX7_state_88 ?_
      obtain ⟨Q20, m21, h⟩ := h
      refine r_callSL (rest := []) C E [Value.long 0, Value.long ((r_gl σ3 b13 8) - (r_gl σ3 a0 7))] ky_J9_max_f86c9 kl_X7_158 ks_J9_max_f86c9 ⟨Nat.le_of_ble_eq_true rfl, Nat.le_of_ble_eq_true rfl⟩ ⟨rfl, rfl⟩ m21 rfl rfl (Nat.le_of_ble_eq_true rfl) (Nat.zero_le _) (Nat.zero_le _) dX7_state_89 (fun y24 σ22 s23 q25 => ?_)
      have h := h y24 σ22 q25
      have s23 := s23.trans s4
      refine r_l2i (v := y24.toInt32) C dX7_state_92 rfl ?_
      exact r_iretQ C E rfl (Nat.zero_le _) (Nat.zero_le _) dX7_state_93 (s23.trans hs) h
    have h := h.2 c19
    have c19 := r_neT c19
    by_cases c26 : x2 = 4
    · have h := h.1 c26
      refine r_tableIn (tgt := 94) (off := 75) C dX7_state_19 (by rw [c26]; decide) (by rw [c26]; decide) (by rw [c26]; rfl) (by decide) ?_
      refine r_aload_n C dX7_state_94 rfl (j := 0) rfl ?_
      obtain ⟨g27, h⟩ := h
      refine r_getR C (r_atT s4 g15) fa_X7_161 rfl (r_atN g27) dX7_state_95 ?_
      refine r_get (v := .int (r_gi σ3 (r_gr σ3 b13 14) 0)) C (r_atT s4 g27) fa_X7_165 rfl dX7_state_98 ?_
      exact r_iretQ C E rfl (Nat.zero_le _) (Nat.zero_le _) dX7_state_101 (s4.trans hs) h
    have h := h.2 c26
    have c26 := r_neT c26
    by_cases c28 : x2 = 5
    · have h := h.1 c28
      refine r_tableIn (tgt := 102) (off := 83) C dX7_state_19 (by rw [c28]; decide) (by rw [c28]; decide) (by rw [c28]; rfl) (by decide) ?_
      refine r_aload_n C dX7_state_102 rfl (j := 0) rfl ?_
      refine r_get (v := .int (r_gi σ3 b13 6)) C (r_atT s4 g15) fa_X7_169 rfl dX7_state_103 ?_
      exact r_iretQ C E rfl (Nat.zero_le _) (Nat.zero_le _) dX7_state_106 (s4.trans hs) h
    have h := h.2 c28
    have c28 := r_neT c28
    by_cases c29 : x2 = 6
    · have h := h.1 c29
      refine r_tableIn (tgt := 107) (off := 88) C dX7_state_19 (by rw [c29]; decide) (by rw [c29]; decide) (by rw [c29]; rfl) (by decide) ?_
      refine r_aload_n C dX7_state_107 rfl (j := 0) rfl ?_
      refine r_get (v := .int (r_gi σ3 b13 7)) C (r_atT s4 g15) fa_X7_172 rfl dX7_state_108 ?_
      exact r_iretQ C E rfl (Nat.zero_le _) (Nat.zero_le _) dX7_state_111 (s4.trans hs) h
    have h := h.2 c29
    have c29 := r_neT c29
    by_cases c30 : x2 = 7
    · have h := h.1 c30
      refine r_tableIn (tgt := 112) (off := 93) C dX7_state_19 (by rw [c30]; decide) (by rw [c30]; decide) (by rw [c30]; rfl) (by decide) ?_
      refine r_aload_n C dX7_state_112 rfl (j := 0) rfl ?_
      obtain ⟨g31, h⟩ := h
      refine r_getR C (r_atT s4 g15) fa_X7_96 rfl (r_atN g31) dX7_state_113 ?_
      refine r_get (v := .int (r_gi σ3 (r_gr σ3 b13 15) 1)) C (r_atT s4 g31) fa_X7_103 rfl dX7_state_116 ?_
      exact r_iretQ C E rfl (Nat.zero_le _) (Nat.zero_le _) dX7_state_119 (s4.trans hs) h
    have h := h.2 c30
    have c30 := r_neT c30
    refine r_tableOut (tgt := 120) C dX7_state_19 (by simp at *; omega) (by decide) ?_
    refine r_bipush (v := (-12)) C dX7_state_120 (by decide) ?_
    exact r_iretQ C E rfl (Nat.zero_le _) (Nat.zero_le _) dX7_state_122 (s4.trans hs) h
  · have h := h.1 c8
    refine r_bipush (v := (-11)) C dX7_state_8 (by decide) ?_
    exact r_iretQ C E rfl (Nat.zero_le _) (Nat.zero_le _) dX7_state_10 (s4.trans hs) h
theorem w_X7_sent_0 {X : r_X} {w : r_V} {B : Nat} {l : Launch} {Q : Int32 → r_S → Prop} {σ0 : r_S} (C : r_C X w B 3 cX7_sent RX7) (E : r_E X l tX7_sent) {σ : r_S} (hs : σ.1 = σ0.1) {a0 : Nat} {x1 x2 : Int32}
    (h : r_at σ a0 = some (.inl 7) ∧ (∃ Q1 : Int32 → r_S → Prop, r_M l w B tX7_isStation [Value.ref (B + a0), Value.int x1] σ (r_QI σ Q1) ∧ (∀ (z5 : Int32) (σ3 : r_S), Q1 z5 σ3 → ((z5 = 0 → (Q (-11) σ3)) ∧ (¬ z5 = 0 → ((x2 < 1 → (Q (-12) σ3)) ∧ (¬ x2 < 1 → ((x2 ≤ 4 → (∃ n11, r_at σ (r_gr σ3 a0 0) = some (.inr (3, n11)) ∧ (vp_in x1 n11 ∧ (r_at σ (r_gr σ3 (r_gr σ3 a0 0) x1.toNatClampNeg) = some (.inl 6) ∧ (∃ n15, r_at σ (r_gr σ3 (r_gr σ3 (r_gr σ3 a0 0) x1.toNatClampNeg) 17) = some (.inr (0, n15)) ∧ (vp_in x2 n15 ∧ (Q (r_gi σ3 (r_gr σ3 (r_gr σ3 (r_gr σ3 a0 0) x1.toNatClampNeg) 17) x2.toNatClampNeg) σ3))))))) ∧ (¬ x2 ≤ 4 → (Q (-12) σ3)))))))))) :
    r_W X w B 3 0 0 (r_Z X w B tX7_sent (r_QI σ0 Q)) 0 [(0, Value.ref (B + a0)), (1, Value.int x1), (2, Value.int x2)] [] σ := by
  refine r_aload_n C dX7_sent_0 rfl (j := 0) rfl ?_
  refine r_iload_n C dX7_sent_1 rfl (j := 1) rfl ?_
  obtain ⟨g7, h⟩ := h
  obtain ⟨Q1, m2, h⟩ := h
  refine r_callVI (rest := []) C E [Value.int x1] (r_atT rfl g7) rfl ky_X7_isStation kl_X7_75 ki_X7_isStation kx_X7_isStation ⟨Nat.le_of_ble_eq_true rfl, Nat.le_of_ble_eq_true rfl⟩ ⟨rfl, rfl⟩ m2 rfl rfl (Nat.le_of_ble_eq_true rfl) (Nat.zero_le _) (Nat.zero_le _) dX7_sent_2 (fun z5 σ3 s4 q6 => ?_)
  have h := h z5 σ3 q6
  have s4 := s4.trans rfl
  refine r_if_ne (tgt := 11) C dX7_sent_5 (by decide) (fun c8 => ?_) (fun c8 => ?_)
  · have h := h.2 c8
    refine r_iload_n C dX7_sent_11 rfl (j := 2) rfl ?_
    refine r_iconst (v := 1) C dX7_sent_12 (by decide) ?_
    refine r_icmp_lt (tgt := 21) C dX7_sent_13 (by decide) (fun c9 => ?_) (fun c9 => ?_)
    · have h := h.1 c9
      refine r_bipush (v := (-12)) C dX7_sent_21 (by decide) ?_
      exact r_iretQ C E rfl (Nat.zero_le _) (Nat.zero_le _) dX7_sent_23 (s4.trans hs) h
    · have h := h.2 c9
      refine r_iload_n C dX7_sent_16 rfl (j := 2) rfl ?_
      refine r_iconst (v := 4) C dX7_sent_17 (by decide) ?_
      refine r_icmp_le (tgt := 24) C dX7_sent_18 (by decide) (fun c10 => ?_) (fun c10 => ?_)
      · have h := h.1 c10
        refine r_aload_n C dX7_sent_24 rfl (j := 0) rfl ?_
        obtain ⟨n11, g12, h⟩ := h
        refine r_getR C (r_atT s4 g7) fa_X7_68 rfl (r_atN g12) dX7_sent_25 ?_
        refine r_iload_n C dX7_sent_28 rfl (j := 1) rfl ?_
        obtain ⟨g13, h⟩ := h
        obtain ⟨g14, h⟩ := h
        refine r_aald C (r_atT s4 g12) ⟨rfl, fun _ => rfl⟩ g13 (r_atN g14) dX7_sent_29 ?_
        obtain ⟨n15, g16, h⟩ := h
        refine r_getR C (r_atT s4 g14) fa_X7_175 rfl (r_atN g16) dX7_sent_30 ?_
        refine r_iload_n C dX7_sent_33 rfl (j := 2) rfl ?_
        obtain ⟨g17, h⟩ := h
        refine r_iald C (r_atT s4 g16) ⟨rfl, fun _ => rfl⟩ g17 dX7_sent_34 ?_
        exact r_iretQ C E rfl (Nat.zero_le _) (Nat.zero_le _) dX7_sent_35 (s4.trans hs) h
      · have h := h.2 c10
        refine r_bipush (v := (-12)) C dX7_sent_21 (by decide) ?_
        exact r_iretQ C E rfl (Nat.zero_le _) (Nat.zero_le _) dX7_sent_23 (s4.trans hs) h
  · have h := h.1 c8
    refine r_bipush (v := (-11)) C dX7_sent_8 (by decide) ?_
    exact r_iretQ C E rfl (Nat.zero_le _) (Nat.zero_le _) dX7_sent_10 (s4.trans hs) h
theorem w_X7_now_0 {X : r_X} {w : r_V} {B : Nat} {l : Launch} {Q : Int64 → r_S → Prop} {σ0 : r_S} (C : r_C X w B 1 cX7_now RX7) (E : r_E X l tX7_now) {σ : r_S} (hs : σ.1 = σ0.1) {a0 : Nat}
    (h : r_at σ a0 = some (.inl 7) ∧ (Q (r_gl σ a0 7) σ)) :
    r_W X w B 1 0 0 (r_Z X w B tX7_now (r_QL σ0 Q)) 0 [(0, Value.ref (B + a0))] [] σ := by
  refine r_aload_n C dX7_now_0 rfl (j := 0) rfl ?_
  obtain ⟨g1, h⟩ := h
  refine r_get (v := .long (r_gl σ a0 7)) C (r_atT rfl g1) fa_X7_50 rfl dX7_now_1 ?_
  exact r_lretQ C E rfl (Nat.zero_le _) (Nat.zero_le _) dX7_now_4 ((rfl : σ.1 = σ.1).trans hs) h
theorem w_X7_isStation_0 {X : r_X} {w : r_V} {B : Nat} {l : Launch} {Q : Int32 → r_S → Prop} {σ0 : r_S} (C : r_C X w B 2 cX7_isStation RX7) (E : r_E X l tX7_isStation) {σ : r_S} (hs : σ.1 = σ0.1) {a0 : Nat} {x1 : Int32}
    (h : (x1 < 0 → (Q 0 σ)) ∧ (¬ x1 < 0 → (r_at σ a0 = some (.inl 7) ∧ (∃ n3, r_at σ (r_gr σ a0 0) = some (.inr (3, n3)) ∧ (((nI n3) ≤ x1 → (Q 0 σ)) ∧ (¬ (nI n3) ≤ x1 → (Q 1 σ))))))) :
    r_W X w B 2 0 0 (r_Z X w B tX7_isStation (r_QI σ0 Q)) 0 [(0, Value.ref (B + a0)), (1, Value.int x1)] [] σ := by
  refine r_iload_n C dX7_isStation_0 rfl (j := 1) rfl ?_
  refine r_if_lt (tgt := 17) C dX7_isStation_1 (by decide) (fun c1 => ?_) (fun c1 => ?_)
  · have h := h.1 c1
    refine r_iconst (v := 0) C dX7_isStation_17 (by decide) ?_
    exact r_zretQ C E rfl (by decide) (Nat.zero_le _) (Nat.zero_le _) dX7_isStation_18 ((rfl : σ.1 = σ.1).trans hs) h
  · have h := h.2 c1
    refine r_iload_n C dX7_isStation_4 rfl (j := 1) rfl ?_
    refine r_aload_n C dX7_isStation_5 rfl (j := 0) rfl ?_
    obtain ⟨g2, h⟩ := h
    obtain ⟨n3, g4, h⟩ := h
    refine r_getR C (r_atT rfl g2) fa_X7_68 rfl (r_atN g4) dX7_isStation_6 ?_
    refine r_alen (v := nI n3) C (r_atT rfl g4) ⟨rfl, fun _ => rfl⟩ rfl dX7_isStation_9 ?_
    refine r_icmp_ge (tgt := 17) C dX7_isStation_10 (by decide) (fun c5 => ?_) (fun c5 => ?_)
    · have h := h.1 c5
      refine r_iconst (v := 0) C dX7_isStation_17 (by decide) ?_
      exact r_zretQ C E rfl (by decide) (Nat.zero_le _) (Nat.zero_le _) dX7_isStation_18 ((rfl : σ.1 = σ.1).trans hs) h
    · have h := h.2 c5
      refine r_iconst (v := 1) C dX7_isStation_13 (by decide) ?_
      refine r_goto (tgt := 18) C dX7_isStation_14 (by decide) ?_
      exact r_zretQ C E rfl (by decide) (Nat.zero_le _) (Nat.zero_le _) dX7_isStation_18 ((rfl : σ.1 = σ.1).trans hs) h
theorem w_X7_drawCount_0 {X : r_X} {w : r_V} {B : Nat} {l : Launch} {Q : r_S → Prop} {σ0 : r_S} (C : r_C X w B 2 cX7_drawCount RX7) (E : r_E X l tX7_drawCount) {σ : r_S} (hs : σ.1 = σ0.1) {a0 a1 : Nat}
    (h : r_at σ a0 = some (.inl 7) ∧ (r_at σ (r_gr σ a0 1) = some (.inl 0) ∧ (r_at σ a1 = some (.inl 6) ∧ (∃ Q4 : Int32 → r_S → Prop, r_M l w B tX0_draw [Value.ref (B + (r_gr σ a0 1)), Value.int ((r_gi σ a1 3) + 1)] σ (r_QI σ Q4) ∧ (∀ (z8 : Int32) (σ6 : r_S), Q4 z8 σ6 → (∀ σ10 : r_S, σ10 = r_ui σ6 a1 5 z8 → (Q σ10))))))) :
    r_W X w B 2 0 0 (r_Z X w B tX7_drawCount (r_QV σ0 Q)) 0 [(0, Value.ref (B + a0)), (1, Value.ref (B + a1))] [] σ := by
  refine r_aload_n C dX7_drawCount_0 rfl (j := 1) rfl ?_
  refine r_aload_n C dX7_drawCount_1 rfl (j := 0) rfl ?_
  obtain ⟨g1, h⟩ := h
  obtain ⟨g2, h⟩ := h
  refine r_getR C (r_atT rfl g1) fa_X7_10 rfl (r_atN g2) dX7_drawCount_2 ?_
  refine r_aload_n C dX7_drawCount_5 rfl (j := 1) rfl ?_
  obtain ⟨g3, h⟩ := h
  refine r_get (v := .int (r_gi σ a1 3)) C (r_atT rfl g3) fa_X7_146 rfl dX7_drawCount_6 ?_
  refine r_iconst (v := 1) C dX7_drawCount_9 (by decide) ?_
  refine r_iadd C dX7_drawCount_10 ?_
  obtain ⟨Q4, m5, h⟩ := h
  refine r_callVI (rest := [Value.ref (B + a1)]) C E [Value.int ((r_gi σ a1 3) + 1)] (r_atT rfl g2) rfl ky_X0_draw kl_X7_178 ki_X0_draw kx_X0_draw ⟨Nat.le_of_ble_eq_true rfl, Nat.le_of_ble_eq_true rfl⟩ ⟨rfl, rfl⟩ m5 rfl rfl (Nat.le_of_ble_eq_true rfl) (Nat.zero_le _) (Nat.zero_le _) dX7_drawCount_11 (fun z8 σ6 s7 q9 => ?_)
  have h := h z8 σ6 q9
  have s7 := s7.trans rfl
  refine r_putI C (r_atT s7 g3) fa_X7_149 rfl rfl rfl dX7_drawCount_14 ?_
  refine r_nam (fun σ10 e11 => ?_)
  have h := h σ10 e11
  have s12 : σ10.1 = σ.1 := by rw [e11]; exact s7
  exact r_vretQ C E rfl (Nat.zero_le _) (Nat.zero_le _) dX7_drawCount_17 (s12.trans hs) h
theorem w_X7_beginFrames_0 {X : r_X} {w : r_V} {B : Nat} {l : Launch} {Q : r_S → Prop} {σ0 : r_S} (C : r_C X w B 5 cX7_beginFrames RX7) (E : r_E X l tX7_beginFrames) {σ : r_S} (hs : σ.1 = σ0.1) {a0 : Nat}
    (h : r_at σ a0 = some (.inl 7) ∧ (∀ σ2 : r_S, σ2 = r_ui σ a0 8 0 → (∃ n5, r_at σ (r_gr σ2 a0 0) = some (.inr (3, n5)) ∧ (∀ b7 : Nat, b7 = r_gr σ2 a0 0 → (∀ z10 : Int32, z10 = nI n5 → (r_W X w B 5 0 0 (r_Z X w B tX7_beginFrames (r_QV σ0 Q)) 15 [(0, Value.ref (B + a0)), (1, Value.ref (B + b7)), (2, Value.int z10), (3, Value.int 0)] [] σ2)))))) :
    r_W X w B 5 0 0 (r_Z X w B tX7_beginFrames (r_QV σ0 Q)) 0 [(0, Value.ref (B + a0))] [] σ := by
  refine r_aload_n C dX7_beginFrames_0 rfl (j := 0) rfl ?_
  refine r_iconst (v := 0) C dX7_beginFrames_1 (by decide) ?_
  obtain ⟨g1, h⟩ := h
  refine r_putI C (r_atT rfl g1) fa_X7_54 rfl rfl rfl dX7_beginFrames_2 ?_
  refine r_nam (fun σ2 e3 => ?_)
  have h := h σ2 e3
  have s4 : σ2.1 = σ.1 := by rw [e3]; exact rfl
  refine r_aload_n C dX7_beginFrames_5 rfl (j := 0) rfl ?_
  obtain ⟨n5, g6, h⟩ := h
  refine r_getR C (r_atT s4 g1) fa_X7_68 rfl (r_atN g6) dX7_beginFrames_6 ?_
  refine r_topa (fun b7 e8 => ?_)
  have h := h b7 e8
  have e8 : b7 = r_gr σ2 a0 0 := e8
  have g9 := g6; rw [← e8] at g9
  refine r_astore_n (lv' := [(1, Value.ref (B + b7)), (0, Value.ref (B + a0))]) C dX7_beginFrames_9 rfl (by decide) rfl ?_
  refine r_aload_n C dX7_beginFrames_10 rfl (j := 0) rfl ?_
  refine r_alen (v := nI n5) C (r_atT s4 g9) ⟨rfl, fun _ => rfl⟩ rfl dX7_beginFrames_11 ?_
  refine r_topi (fun z10 e11 => ?_)
  have h := h z10 e11
  refine r_istore_n (lv' := [(2, Value.int z10), (1, Value.ref (B + b7)), (0, Value.ref (B + a0))]) C dX7_beginFrames_12 rfl (by decide) rfl ?_
  refine r_iconst (v := 0) C dX7_beginFrames_13 (by decide) ?_
  refine r_istore_n (lv' := [(3, Value.int 0), (2, Value.int z10), (1, Value.ref (B + b7)), (0, Value.ref (B + a0))]) C dX7_beginFrames_14 rfl (by decide) rfl ?_
  exact r_loc (by simp) h
theorem w_X7_beginFrames_15 {X : r_X} {w : r_V} {B : Nat} {l : Launch} {Q : r_S → Prop} {σ0 : r_S} (C : r_C X w B 5 cX7_beginFrames RX7) (E : r_E X l tX7_beginFrames) {σ : r_S} (hs : σ.1 = σ0.1) {a0 a1 : Nat} {x2 x3 : Int32}
    (h : (x2 ≤ x3 → (Q σ)) ∧ (¬ x2 ≤ x3 → (∃ n2, r_at σ a1 = some (.inr (3, n2)) ∧ (vp_in x3 n2 ∧ (r_at σ (r_gr σ a1 x3.toNatClampNeg) = some (.inl 6) ∧ (∀ b6 : Nat, b6 = r_gr σ a1 x3.toNatClampNeg → (((r_gi σ b6 9) = 0 → (r_W X w B 5 0 0 (r_Z X w B tX7_beginFrames (r_QV σ0 Q)) 52 [(0, Value.ref (B + a0)), (1, Value.ref (B + a1)), (2, Value.int x2), (3, Value.int x3), (4, Value.ref (B + b6))] [] σ)) ∧ (¬ (r_gi σ b6 9) = 0 → (r_at σ a0 = some (.inl 7) ∧ (((r_gl σ a0 7) < (r_gl σ b6 11) → (r_W X w B 5 0 0 (r_Z X w B tX7_beginFrames (r_QV σ0 Q)) 52 [(0, Value.ref (B + a0)), (1, Value.ref (B + a1)), (2, Value.int x2), (3, Value.int x3), (4, Value.ref (B + b6))] [] σ)) ∧ (¬ (r_gl σ a0 7) < (r_gl σ b6 11) → (∃ Q12 : r_S → Prop, r_M l w B tX7_failAttempt [Value.ref (B + a0), Value.ref (B + b6)] σ (r_QV σ Q12) ∧ (∀ σ14 : r_S, Q12 σ14 → (r_W X w B 5 0 0 (r_Z X w B tX7_beginFrames (r_QV σ0 Q)) 52 [(0, Value.ref (B + a0)), (1, Value.ref (B + a1)), (2, Value.int x2), (3, Value.int x3), (4, Value.ref (B + b6))] [] σ14)))))))))))))) :
    r_W X w B 5 0 0 (r_Z X w B tX7_beginFrames (r_QV σ0 Q)) 15 [(0, Value.ref (B + a0)), (1, Value.ref (B + a1)), (2, Value.int x2), (3, Value.int x3)] [] σ := by
  refine r_iload_n C dX7_beginFrames_15 rfl (j := 3) rfl ?_
  refine r_iload_n C dX7_beginFrames_16 rfl (j := 2) rfl ?_
  refine r_icmp_ge (tgt := 133) C dX7_beginFrames_17 (by decide) (fun c1 => ?_) (fun c1 => ?_)
  · have h := h.1 c1
    exact r_vretQ C E rfl (Nat.zero_le _) (Nat.zero_le _) dX7_beginFrames_133 ((rfl : σ.1 = σ.1).trans hs) h
  · have h := h.2 c1
    refine r_aload_n C dX7_beginFrames_20 rfl (j := 1) rfl ?_
    refine r_iload_n C dX7_beginFrames_21 rfl (j := 3) rfl ?_
    obtain ⟨n2, g3, h⟩ := h
    obtain ⟨g4, h⟩ := h
    obtain ⟨g5, h⟩ := h
    refine r_aald C (r_atT rfl g3) ⟨rfl, fun _ => rfl⟩ g4 (r_atN g5) dX7_beginFrames_22 ?_
    refine r_topa (fun b6 e7 => ?_)
    have h := h b6 e7
    have e7 : b6 = r_gr σ a1 x3.toNatClampNeg := e7
    have g8 := g5; rw [← e7] at g8
    refine r_astore (lv' := [(4, Value.ref (B + b6)), (0, Value.ref (B + a0)), (1, Value.ref (B + a1)), (2, Value.int x2), (3, Value.int x3)]) C dX7_beginFrames_23 (by decide) rfl ?_
    refine r_aload C dX7_beginFrames_25 (j := 0) rfl ?_
    refine r_get (v := .int (r_gi σ b6 9)) C (r_atT rfl g8) fa_X7_182 rfl dX7_beginFrames_27 ?_
    refine r_if_eq (tgt := 52) C dX7_beginFrames_30 (by decide) (fun c9 => ?_) (fun c9 => ?_)
    · have h := h.1 c9
      exact r_loc (by simp) h
    · have h := h.2 c9
      refine r_aload C dX7_beginFrames_33 (j := 0) rfl ?_
      refine r_get (v := .long (r_gl σ b6 11)) C (r_atT rfl g8) fa_X7_185 rfl dX7_beginFrames_35 ?_
      refine r_aload_n C dX7_beginFrames_38 rfl (j := 1) rfl ?_
      obtain ⟨g10, h⟩ := h
      refine r_get (v := .long (r_gl σ a0 7)) C (r_atT rfl g10) fa_X7_50 rfl dX7_beginFrames_39 ?_
      refine r_lcmp C dX7_beginFrames_42 ?_
      refine r_if_gt (tgt := 52) C dX7_beginFrames_43 (by decide) (fun c11 => ?_) (fun c11 => ?_)
      · have h := h.1 (lgc_gt.mp c11)
        exact r_loc (by simp) h
      · have h := h.2 (fun q => c11 (lgc_gt.mpr q))
        refine r_aload_n C dX7_beginFrames_46 rfl (j := 1) rfl ?_
        refine r_aload C dX7_beginFrames_47 (j := 0) rfl ?_
        obtain ⟨Q12, m13, h⟩ := h
        refine r_callVV (rest := []) C E [Value.ref (B + b6)] (r_atT rfl g10) rfl ky_X7_failAttempt kl_X7_188 ki_X7_failAttempt kx_X7_failAttempt ⟨Nat.le_of_ble_eq_true rfl, Nat.le_of_ble_eq_true rfl⟩ ⟨rfl, rfl⟩ m13 rfl rfl (Nat.le_of_ble_eq_true rfl) (Nat.zero_le _) (Nat.zero_le _) dX7_beginFrames_49 (fun σ14 s15 q17 => ?_)
        have h := h σ14 q17
        have s15 := s15.trans rfl
        exact r_loc (by simp) h
theorem w_X7_beginFrames_52 {X : r_X} {w : r_V} {B : Nat} {l : Launch} {Q : r_S → Prop} {σ0 : r_S} (C : r_C X w B 5 cX7_beginFrames RX7) (E : r_E X l tX7_beginFrames) {σ : r_S} (hs : σ.1 = σ0.1) {a0 a1 a4 : Nat} {x2 x3 : Int32}
    (h : r_at σ a4 = some (.inl 6) ∧ (r_at σ (r_gr σ a4 13) = some (.inl 2) ∧ (((r_gi σ (r_gr σ a4 13) 0) = 0 → (r_W X w B 5 0 0 (r_Z X w B tX7_beginFrames (r_QV σ0 Q)) 84 [(0, Value.ref (B + a0)), (1, Value.ref (B + a1)), (2, Value.int x2), (3, Value.int x3), (4, Value.ref (B + a4))] [] σ)) ∧ (¬ (r_gi σ (r_gr σ a4 13) 0) = 0 → (r_at σ a0 = some (.inl 7) ∧ (((r_gl σ a0 7) < (r_gl σ a4 12) → (r_W X w B 5 0 0 (r_Z X w B tX7_beginFrames (r_QV σ0 Q)) 84 [(0, Value.ref (B + a0)), (1, Value.ref (B + a1)), (2, Value.int x2), (3, Value.int x3), (4, Value.ref (B + a4))] [] σ)) ∧ (¬ (r_gl σ a0 7) < (r_gl σ a4 12) → (∃ Q6 : r_S → Prop, r_M l w B tX6_beginDue [Value.ref (B + a4)] σ (r_QV σ Q6) ∧ (∀ σ8 : r_S, Q6 σ8 → (r_W X w B 5 0 0 (r_Z X w B tX7_beginFrames (r_QV σ0 Q)) 102 [(0, Value.ref (B + a0)), (1, Value.ref (B + a1)), (2, Value.int x2), (3, Value.int x3), (4, Value.ref (B + a4))] [] σ8)))))))))) :
    r_W X w B 5 0 0 (r_Z X w B tX7_beginFrames (r_QV σ0 Q)) 52 [(0, Value.ref (B + a0)), (1, Value.ref (B + a1)), (2, Value.int x2), (3, Value.int x3), (4, Value.ref (B + a4))] [] σ := by
  refine r_aload C dX7_beginFrames_52 (j := 4) rfl ?_
  obtain ⟨g1, h⟩ := h
  obtain ⟨g2, h⟩ := h
  refine r_getR C (r_atT rfl g1) fa_X7_191 rfl (r_atN g2) dX7_beginFrames_54 ?_
  refine r_get (v := .int (r_gi σ (r_gr σ a4 13) 0)) C (r_atT rfl g2) fa_X7_165 rfl dX7_beginFrames_57 ?_
  refine r_if_eq (tgt := 84) C dX7_beginFrames_60 (by decide) (fun c3 => ?_) (fun c3 => ?_)
  · have h := h.1 c3
    exact r_loc (by simp) h
  · have h := h.2 c3
    refine r_aload C dX7_beginFrames_63 (j := 4) rfl ?_
    refine r_get (v := .long (r_gl σ a4 12)) C (r_atT rfl g1) fa_X7_194 rfl dX7_beginFrames_65 ?_
    refine r_aload_n C dX7_beginFrames_68 rfl (j := 0) rfl ?_
    obtain ⟨g4, h⟩ := h
    refine r_get (v := .long (r_gl σ a0 7)) C (r_atT rfl g4) fa_X7_50 rfl dX7_beginFrames_69 ?_
    refine r_lcmp C dX7_beginFrames_72 ?_
    refine r_if_gt (tgt := 84) C dX7_beginFrames_73 (by decide) (fun c5 => ?_) (fun c5 => ?_)
    · have h := h.1 (lgc_gt.mp c5)
      exact r_loc (by simp) h
    · have h := h.2 (fun q => c5 (lgc_gt.mpr q))
      refine r_aload C dX7_beginFrames_76 (j := 4) rfl ?_
      obtain ⟨Q6, m7, h⟩ := h
      refine r_callVV (rest := []) C E [] (r_atT rfl g1) rfl ky_X6_beginDue kl_X7_197 ki_X6_beginDue kx_X6_beginDue ⟨Nat.le_of_ble_eq_true rfl, Nat.le_of_ble_eq_true rfl⟩ ⟨rfl, rfl⟩ m7 rfl rfl (Nat.le_of_ble_eq_true rfl) (Nat.zero_le _) (Nat.zero_le _) dX7_beginFrames_78 (fun σ8 s9 q11 => ?_)
      have h := h σ8 q11
      have s9 := s9.trans rfl
      refine r_goto (tgt := 102) C dX7_beginFrames_81 (by decide) ?_
      exact r_loc (by simp) h
theorem w_X7_beginFrames_84 {X : r_X} {w : r_V} {B : Nat} {l : Launch} {Q : r_S → Prop} {σ0 : r_S} (C : r_C X w B 5 cX7_beginFrames RX7) (E : r_E X l tX7_beginFrames) {σ : r_S} (hs : σ.1 = σ0.1) {a0 a1 a4 : Nat} {x2 x3 : Int32}
    (h : r_at σ a0 = some (.inl 7) ∧ (r_at σ a4 = some (.inl 6) ∧ (∃ Q2 : Int32 → r_S → Prop, r_M l w B tX6_mayAttempt [Value.ref (B + a4), Value.long (r_gl σ a0 7)] σ (r_QI σ Q2) ∧ (∀ (z6 : Int32) (σ4 : r_S), Q2 z6 σ4 → ((z6 = 0 → (r_W X w B 5 0 0 (r_Z X w B tX7_beginFrames (r_QV σ0 Q)) 102 [(0, Value.ref (B + a0)), (1, Value.ref (B + a1)), (2, Value.int x2), (3, Value.int x3), (4, Value.ref (B + a4))] [] σ4)) ∧ (¬ z6 = 0 → (∃ Q10 : r_S → Prop, r_M l w B tX7_beginAttempt [Value.ref (B + a0), Value.ref (B + a4)] σ4 (r_QV σ4 Q10) ∧ (∀ σ12 : r_S, Q10 σ12 → (r_W X w B 5 0 0 (r_Z X w B tX7_beginFrames (r_QV σ0 Q)) 102 [(0, Value.ref (B + a0)), (1, Value.ref (B + a1)), (2, Value.int x2), (3, Value.int x3), (4, Value.ref (B + a4))] [] σ12))))))))) :
    r_W X w B 5 0 0 (r_Z X w B tX7_beginFrames (r_QV σ0 Q)) 84 [(0, Value.ref (B + a0)), (1, Value.ref (B + a1)), (2, Value.int x2), (3, Value.int x3), (4, Value.ref (B + a4))] [] σ := by
  refine r_aload C dX7_beginFrames_84 (j := 4) rfl ?_
  refine r_aload_n C dX7_beginFrames_86 rfl (j := 0) rfl ?_
  obtain ⟨g1, h⟩ := h
  refine r_get (v := .long (r_gl σ a0 7)) C (r_atT rfl g1) fa_X7_50 rfl dX7_beginFrames_87 ?_
  obtain ⟨g8, h⟩ := h
  obtain ⟨Q2, m3, h⟩ := h
  refine r_callVI (rest := []) C E [Value.long (r_gl σ a0 7)] (r_atT rfl g8) rfl ky_X6_mayAttempt kl_X7_200 ki_X6_mayAttempt kx_X6_mayAttempt ⟨Nat.le_of_ble_eq_true rfl, Nat.le_of_ble_eq_true rfl⟩ ⟨rfl, rfl⟩ m3 rfl rfl (Nat.le_of_ble_eq_true rfl) (Nat.zero_le _) (Nat.zero_le _) dX7_beginFrames_90 (fun z6 σ4 s5 q7 => ?_)
  have h := h z6 σ4 q7
  have s5 := s5.trans rfl
  refine r_if_eq (tgt := 102) C dX7_beginFrames_93 (by decide) (fun c9 => ?_) (fun c9 => ?_)
  · have h := h.1 c9
    exact r_loc (by simp) h
  · have h := h.2 c9
    refine r_aload_n C dX7_beginFrames_96 rfl (j := 0) rfl ?_
    refine r_aload C dX7_beginFrames_97 (j := 4) rfl ?_
    obtain ⟨Q10, m11, h⟩ := h
    refine r_callVV (rest := []) C E [Value.ref (B + a4)] (r_atT s5 g1) rfl ky_X7_beginAttempt kl_X7_204 ki_X7_beginAttempt kx_X7_beginAttempt ⟨Nat.le_of_ble_eq_true rfl, Nat.le_of_ble_eq_true rfl⟩ ⟨rfl, rfl⟩ m11 rfl rfl (Nat.le_of_ble_eq_true rfl) (Nat.zero_le _) (Nat.zero_le _) dX7_beginFrames_99 (fun σ12 s13 q15 => ?_)
    have h := h σ12 q15
    have s13 := s13.trans s5
    exact r_loc (by simp) h
theorem w_X7_beginFrames_102 {X : r_X} {w : r_V} {B : Nat} {l : Launch} {Q : r_S → Prop} {σ0 : r_S} (C : r_C X w B 5 cX7_beginFrames RX7) (E : r_E X l tX7_beginFrames) {σ : r_S} (hs : σ.1 = σ0.1) {a0 a1 a4 : Nat} {x2 x3 : Int32}
    (h : r_at σ a4 = some (.inl 6) ∧ (r_at σ (r_gr σ a4 14) = some (.inl 2) ∧ (((r_gi σ (r_gr σ a4 14) 0) = 0 → (∀ z4 : Int32, z4 = x3 + 1 → (r_W X w B 5 0 0 (r_Z X w B tX7_beginFrames (r_QV σ0 Q)) 15 [(0, Value.ref (B + a0)), (1, Value.ref (B + a1)), (2, Value.int x2), (3, Value.int z4)] [] σ))) ∧ (¬ (r_gi σ (r_gr σ a4 14) 0) = 0 → (r_at σ a0 = some (.inl 7) ∧ (∀ σ7 : r_S, σ7 = r_ui σ a0 8 ((r_gi σ a0 8) ||| (r_gi σ a4 1)) → (∀ z10 : Int32, z10 = x3 + 1 → (r_W X w B 5 0 0 (r_Z X w B tX7_beginFrames (r_QV σ0 Q)) 15 [(0, Value.ref (B + a0)), (1, Value.ref (B + a1)), (2, Value.int x2), (3, Value.int z10)] [] σ7)))))))) :
    r_W X w B 5 0 0 (r_Z X w B tX7_beginFrames (r_QV σ0 Q)) 102 [(0, Value.ref (B + a0)), (1, Value.ref (B + a1)), (2, Value.int x2), (3, Value.int x3), (4, Value.ref (B + a4))] [] σ := by
  refine r_aload C dX7_beginFrames_102 (j := 4) rfl ?_
  obtain ⟨g1, h⟩ := h
  obtain ⟨g2, h⟩ := h
  refine r_getR C (r_atT rfl g1) fa_X7_161 rfl (r_atN g2) dX7_beginFrames_104 ?_
  refine r_get (v := .int (r_gi σ (r_gr σ a4 14) 0)) C (r_atT rfl g2) fa_X7_165 rfl dX7_beginFrames_107 ?_
  refine r_if_eq (tgt := 127) C dX7_beginFrames_110 (by decide) (fun c3 => ?_) (fun c3 => ?_)
  · have h := h.1 c3
    obtain ⟨z4, e5⟩ : ∃ y : Int32, y = x3 + 1 := ⟨_, rfl⟩
    have h := h z4 e5
    refine r_iinc (v := z4) (lv' := [(3, Value.int z4), (0, Value.ref (B + a0)), (1, Value.ref (B + a1)), (2, Value.int x2), (4, Value.ref (B + a4))]) C dX7_beginFrames_127 (k := 3) rfl (by rw [e5]; rfl) (by decide) rfl ?_
    refine r_goto (tgt := 15) C dX7_beginFrames_130 (by decide) ?_
    exact r_loc (by simp) h
  · have h := h.2 c3
    refine r_aload_n C dX7_beginFrames_113 rfl (j := 0) rfl ?_
    refine r_dup C dX7_beginFrames_114 rfl ?_
    obtain ⟨g6, h⟩ := h
    refine r_get (v := .int (r_gi σ a0 8)) C (r_atT rfl g6) fa_X7_54 rfl dX7_beginFrames_115 ?_
    refine r_aload C dX7_beginFrames_118 (j := 4) rfl ?_
    refine r_get (v := .int (r_gi σ a4 1)) C (r_atT rfl g1) fa_X7_79 rfl dX7_beginFrames_120 ?_
    refine r_ior C dX7_beginFrames_123 ?_
    refine r_putI C (r_atT rfl g6) fa_X7_54 rfl rfl rfl dX7_beginFrames_124 ?_
    refine r_nam (fun σ7 e8 => ?_)
    have h := h σ7 e8
    have s9 : σ7.1 = σ.1 := by rw [e8]; exact rfl
    obtain ⟨z10, e11⟩ : ∃ y : Int32, y = x3 + 1 := ⟨_, rfl⟩
    have h := h z10 e11
    refine r_iinc (v := z10) (lv' := [(3, Value.int z10), (0, Value.ref (B + a0)), (1, Value.ref (B + a1)), (2, Value.int x2), (4, Value.ref (B + a4))]) C dX7_beginFrames_127 (k := 3) rfl (by rw [e11]; rfl) (by decide) rfl ?_
    refine r_goto (tgt := 15) C dX7_beginFrames_130 (by decide) ?_
    exact r_loc (by simp) h
theorem w_X7_beginAttempt_0 {X : r_X} {w : r_V} {B : Nat} {l : Launch} {Q : r_S → Prop} {σ0 : r_S} (C : r_C X w B 5 cX7_beginAttempt RX7) (E : r_E X l tX7_beginAttempt) {σ : r_S} (hs : σ.1 = σ0.1) {a0 a1 : Nat}
    (h : r_at σ a1 = some (.inl 6) ∧ (r_at σ (r_gr σ a1 16) = some (.inl 5) ∧ (∀ b3 : Nat, b3 = r_gr σ a1 16 → (r_at σ a0 = some (.inl 7) ∧ (r_at σ (r_gr σ a0 2) = some (.inl 4) ∧ (r_at σ (r_gr σ a1 15) = some (.inl 5) ∧ (∃ Q9 : r_S → Prop, r_M l w B tX4_copyFirstOfOneReceiver [Value.ref (B + (r_gr σ a0 2)), Value.ref (B + (r_gr σ a1 15)), Value.ref (B + b3)] σ (r_QV σ Q9) ∧ (∀ σ11 : r_S, Q9 σ11 → (r_at σ (r_gr σ11 a0 2) = some (.inl 4) ∧ (∃ Q16 : Int32 → r_S → Prop, r_M l w B tX4_receiverOf [Value.ref (B + (r_gr σ11 a0 2)), Value.ref (B + b3)] σ11 (r_QI σ11 Q16) ∧ (∀ (z20 : Int32) (σ18 : r_S), Q16 z20 σ18 → (r_at σ (r_gr σ18 a0 2) = some (.inl 4) ∧ (∃ Q23 : Int32 → r_S → Prop, r_M l w B tX4_dataSlotsOf [Value.ref (B + (r_gr σ18 a0 2)), Value.ref (B + b3)] σ18 (r_QI σ18 Q23) ∧ (∀ (z27 : Int32) (σ25 : r_S), Q23 z27 σ25 → ((z27 < (r_gi σ25 a0 6) → (r_at σ (r_gr σ25 a1 14) = some (.inl 2) ∧ (∃ Q31 : r_S → Prop, r_M l w B tX2_make [Value.ref (B + (r_gr σ25 a1 14)), Value.int 3, Value.int z20, Value.int z27] σ25 (r_QV σ25 Q31) ∧ (∀ σ33 : r_S, Q31 σ33 → (r_at σ (r_gr σ33 a1 14) = some (.inl 2) ∧ (r_at σ (r_gr σ33 (r_gr σ33 a1 14) 4) = some (.inl 5) ∧ (∃ Q39 : r_S → Prop, r_M l w B tX5_copy [Value.ref (B + (r_gr σ33 (r_gr σ33 a1 14) 4)), Value.ref (B + b3)] σ33 (r_QV σ33 Q39) ∧ (∀ σ41 : r_S, Q39 σ41 → (∃ Q45 : r_S → Prop, r_M l w B tX6_countBegun [Value.ref (B + a1)] σ41 (r_QV σ41 Q45) ∧ (∀ σ47 : r_S, Q45 σ47 → (Q σ47))))))))))) ∧ (¬ z27 < (r_gi σ25 a0 6) → (r_at σ (r_gr σ25 a1 14) = some (.inl 2) ∧ (∃ Q52 : r_S → Prop, r_M l w B tX2_make [Value.ref (B + (r_gr σ25 a1 14)), Value.int 1, Value.int z20, Value.int z27] σ25 (r_QV σ25 Q52) ∧ (∀ σ54 : r_S, Q52 σ54 → (∃ Q58 : r_S → Prop, r_M l w B tX6_countBegun [Value.ref (B + a1)] σ54 (r_QV σ54 Q58) ∧ (∀ σ60 : r_S, Q58 σ60 → (Q σ60)))))))))))))))))))))) :
    r_W X w B 5 0 0 (r_Z X w B tX7_beginAttempt (r_QV σ0 Q)) 0 [(0, Value.ref (B + a0)), (1, Value.ref (B + a1))] [] σ := by
  refine r_aload_n C dX7_beginAttempt_0 rfl (j := 1) rfl ?_
  obtain ⟨g1, h⟩ := h
  obtain ⟨g2, h⟩ := h
  refine r_getR C (r_atT rfl g1) fa_X7_207 rfl (r_atN g2) dX7_beginAttempt_1 ?_
  refine r_topa (fun b3 e4 => ?_)
  have h := h b3 e4
  have e4 : b3 = r_gr σ a1 16 := e4
  have g5 := g2; rw [← e4] at g5
  refine r_astore_n (lv' := [(2, Value.ref (B + b3)), (0, Value.ref (B + a0)), (1, Value.ref (B + a1))]) C dX7_beginAttempt_4 rfl (by decide) rfl ?_
  refine r_aload_n C dX7_beginAttempt_5 rfl (j := 1) rfl ?_
  obtain ⟨g6, h⟩ := h
  obtain ⟨g7, h⟩ := h
  refine r_getR C (r_atT rfl g6) fa_X7_19 rfl (r_atN g7) dX7_beginAttempt_6 ?_
  refine r_aload_n C dX7_beginAttempt_9 rfl (j := 2) rfl ?_
  obtain ⟨g8, h⟩ := h
  refine r_getR C (r_atT rfl g1) fa_X7_96 rfl (r_atN g8) dX7_beginAttempt_10 ?_
  refine r_aload_n C dX7_beginAttempt_13 rfl (j := 0) rfl ?_
  obtain ⟨Q9, m10, h⟩ := h
  refine r_callVV (rest := []) C E [Value.ref (B + (r_gr σ a1 15)), Value.ref (B + b3)] (r_atT rfl g7) rfl ky_X4_copyFirstOfOneReceiver kl_X7_210 ki_X4_copyFirstOfOneReceiver kx_X4_copyFirstOfOneReceiver ⟨Nat.le_of_ble_eq_true rfl, Nat.le_of_ble_eq_true rfl⟩ ⟨rfl, rfl⟩ m10 rfl rfl (Nat.le_of_ble_eq_true rfl) (Nat.zero_le _) (Nat.zero_le _) dX7_beginAttempt_14 (fun σ11 s12 q14 => ?_)
  have h := h σ11 q14
  have s12 := s12.trans rfl
  refine r_aload_n C dX7_beginAttempt_17 rfl (j := 1) rfl ?_
  obtain ⟨g15, h⟩ := h
  refine r_getR C (r_atT s12 g6) fa_X7_19 rfl (r_atN g15) dX7_beginAttempt_18 ?_
  refine r_aload_n C dX7_beginAttempt_21 rfl (j := 0) rfl ?_
  obtain ⟨Q16, m17, h⟩ := h
  refine r_callVI (rest := []) C E [Value.ref (B + b3)] (r_atT s12 g15) rfl ky_X4_receiverOf kl_X7_214 ki_X4_receiverOf kx_X4_receiverOf ⟨Nat.le_of_ble_eq_true rfl, Nat.le_of_ble_eq_true rfl⟩ ⟨rfl, rfl⟩ m17 rfl rfl (Nat.le_of_ble_eq_true rfl) (Nat.zero_le _) (Nat.zero_le _) dX7_beginAttempt_22 (fun z20 σ18 s19 q21 => ?_)
  have h := h z20 σ18 q21
  have s19 := s19.trans s12
  refine r_istore_n (lv' := [(3, Value.int z20), (2, Value.ref (B + b3)), (0, Value.ref (B + a0)), (1, Value.ref (B + a1))]) C dX7_beginAttempt_25 rfl (by decide) rfl ?_
  refine r_aload_n C dX7_beginAttempt_26 rfl (j := 2) rfl ?_
  obtain ⟨g22, h⟩ := h
  refine r_getR C (r_atT s19 g6) fa_X7_19 rfl (r_atN g22) dX7_beginAttempt_27 ?_
  refine r_aload_n C dX7_beginAttempt_30 rfl (j := 1) rfl ?_
  obtain ⟨Q23, m24, h⟩ := h
  refine r_callVI (rest := []) C E [Value.ref (B + b3)] (r_atT s19 g22) rfl ky_X4_dataSlotsOf kl_X7_218 ki_X4_dataSlotsOf kx_X4_dataSlotsOf ⟨Nat.le_of_ble_eq_true rfl, Nat.le_of_ble_eq_true rfl⟩ ⟨rfl, rfl⟩ m24 rfl rfl (Nat.le_of_ble_eq_true rfl) (Nat.zero_le _) (Nat.zero_le _) dX7_beginAttempt_31 (fun z27 σ25 s26 q28 => ?_)
  have h := h z27 σ25 q28
  have s26 := s26.trans s19
  refine r_istore (lv' := [(4, Value.int z27), (3, Value.int z20), (2, Value.ref (B + b3)), (0, Value.ref (B + a0)), (1, Value.ref (B + a1))]) C dX7_beginAttempt_34 (by decide) rfl ?_
  refine r_iload C dX7_beginAttempt_36 (j := 0) rfl ?_
  refine r_aload_n C dX7_beginAttempt_38 rfl (j := 3) rfl ?_
  refine r_get (v := .int (r_gi σ25 a0 6)) C (r_atT s26 g6) fa_X7_46 rfl dX7_beginAttempt_39 ?_
  refine r_icmp_lt (tgt := 59) C dX7_beginAttempt_42 (by decide) (fun c29 => ?_) (fun c29 => ?_)
  · have h := h.1 c29
    refine r_aload_n C dX7_beginAttempt_59 rfl (j := 4) rfl ?_
    obtain ⟨g30, h⟩ := h
    refine r_getR C (r_atT s26 g1) fa_X7_161 rfl (r_atN g30) dX7_beginAttempt_60 ?_
    refine r_iconst (v := 3) C dX7_beginAttempt_63 (by decide) ?_
    refine r_iload_n C dX7_beginAttempt_64 rfl (j := 1) rfl ?_
    refine r_iload C dX7_beginAttempt_65 (j := 0) rfl ?_
    obtain ⟨Q31, m32, h⟩ := h
    refine r_callVV (rest := []) C E [Value.int 3, Value.int z20, Value.int z27] (r_atT s26 g30) rfl ky_X2_make kl_X7_221 ki_X2_make kx_X2_make ⟨Nat.le_of_ble_eq_true rfl, Nat.le_of_ble_eq_true rfl⟩ ⟨rfl, rfl⟩ m32 rfl rfl (Nat.le_of_ble_eq_true rfl) (Nat.zero_le _) (Nat.zero_le _) dX7_beginAttempt_67 (fun σ33 s34 q36 => ?_)
    have h := h σ33 q36
    have s34 := s34.trans s26
    refine r_aload_n C dX7_beginAttempt_70 rfl (j := 4) rfl ?_
    obtain ⟨g37, h⟩ := h
    refine r_getR C (r_atT s34 g1) fa_X7_161 rfl (r_atN g37) dX7_beginAttempt_71 ?_
    obtain ⟨g38, h⟩ := h
    refine r_getR C (r_atT s34 g37) fa_X7_225 rfl (r_atN g38) dX7_beginAttempt_74 ?_
    refine r_aload_n C dX7_beginAttempt_77 rfl (j := 2) rfl ?_
    obtain ⟨Q39, m40, h⟩ := h
    refine r_callVV (rest := []) C E [Value.ref (B + b3)] (r_atT s34 g38) rfl ky_X5_copy kl_X7_228 ki_X5_copy kx_X5_copy ⟨Nat.le_of_ble_eq_true rfl, Nat.le_of_ble_eq_true rfl⟩ ⟨rfl, rfl⟩ m40 rfl rfl (Nat.le_of_ble_eq_true rfl) (Nat.zero_le _) (Nat.zero_le _) dX7_beginAttempt_78 (fun σ41 s42 q44 => ?_)
    have h := h σ41 q44
    have s42 := s42.trans s34
    refine r_aload_n C dX7_beginAttempt_81 rfl (j := 4) rfl ?_
    obtain ⟨Q45, m46, h⟩ := h
    refine r_callVV (rest := []) C E [] (r_atT s42 g1) rfl ky_X6_countBegun kl_X7_232 ki_X6_countBegun kx_X6_countBegun ⟨Nat.le_of_ble_eq_true rfl, Nat.le_of_ble_eq_true rfl⟩ ⟨rfl, rfl⟩ m46 rfl rfl (Nat.le_of_ble_eq_true rfl) (Nat.zero_le _) (Nat.zero_le _) dX7_beginAttempt_82 (fun σ47 s48 q50 => ?_)
    have h := h σ47 q50
    have s48 := s48.trans s42
    exact r_vretQ C E rfl (Nat.zero_le _) (Nat.zero_le _) dX7_beginAttempt_85 (s48.trans hs) h
  · have h := h.2 c29
    refine r_aload_n C dX7_beginAttempt_45 rfl (j := 4) rfl ?_
    obtain ⟨g51, h⟩ := h
    refine r_getR C (r_atT s26 g1) fa_X7_161 rfl (r_atN g51) dX7_beginAttempt_46 ?_
    refine r_iconst (v := 1) C dX7_beginAttempt_49 (by decide) ?_
    refine r_iload_n C dX7_beginAttempt_50 rfl (j := 1) rfl ?_
    refine r_iload C dX7_beginAttempt_51 (j := 0) rfl ?_
    obtain ⟨Q52, m53, h⟩ := h
    refine r_callVV (rest := []) C E [Value.int 1, Value.int z20, Value.int z27] (r_atT s26 g51) rfl ky_X2_make kl_X7_221 ki_X2_make kx_X2_make ⟨Nat.le_of_ble_eq_true rfl, Nat.le_of_ble_eq_true rfl⟩ ⟨rfl, rfl⟩ m53 rfl rfl (Nat.le_of_ble_eq_true rfl) (Nat.zero_le _) (Nat.zero_le _) dX7_beginAttempt_53 (fun σ54 s55 q57 => ?_)
    have h := h σ54 q57
    have s55 := s55.trans s26
    refine r_goto (tgt := 81) C dX7_beginAttempt_56 (by decide) ?_
    refine r_aload_n C dX7_beginAttempt_81 rfl (j := 4) rfl ?_
    obtain ⟨Q58, m59, h⟩ := h
    refine r_callVV (rest := []) C E [] (r_atT s55 g1) rfl ky_X6_countBegun kl_X7_232 ki_X6_countBegun kx_X6_countBegun ⟨Nat.le_of_ble_eq_true rfl, Nat.le_of_ble_eq_true rfl⟩ ⟨rfl, rfl⟩ m59 rfl rfl (Nat.le_of_ble_eq_true rfl) (Nat.zero_le _) (Nat.zero_le _) dX7_beginAttempt_82 (fun σ60 s61 q63 => ?_)
    have h := h σ60 q63
    have s61 := s61.trans s55
    exact r_vretQ C E rfl (Nat.zero_le _) (Nat.zero_le _) dX7_beginAttempt_85 (s61.trans hs) h
theorem w_X7_failAttempt_0 {X : r_X} {w : r_V} {B : Nat} {l : Launch} {Q : r_S → Prop} {σ0 : r_S} (C : r_C X w B 3 cX7_failAttempt RX7) (E : r_E X l tX7_failAttempt) {σ : r_S} (hs : σ.1 = σ0.1) {a0 a1 : Nat}
    (h : r_at σ a1 = some (.inl 6) ∧ (∀ σ2 : r_S, σ2 = r_ui σ a1 9 0 → (∀ σ5 : r_S, σ5 = r_ui σ2 a1 4 ((r_gi σ2 a1 4) + 1) → (((r_gi σ5 a1 4) ≤ 4 → (∃ Q9 : Int32 → r_S → Prop, r_M l w B tJ9_min_7cf53 [Value.int ((2 * (r_gi σ5 a1 3)) + 1), Value.int 63] σ5 (r_QI σ5 Q9) ∧ (∀ (z13 : Int32) (σ11 : r_S), Q9 z13 σ11 → (∀ σ15 : r_S, σ15 = r_ui σ11 a1 3 z13 → (r_W X w B 3 0 0 (r_Z X w B tX7_failAttempt (r_QV σ0 Q)) 77 [(0, Value.ref (B + a0)), (1, Value.ref (B + a1))] [] σ15))))) ∧ (¬ (r_gi σ5 a1 4) ≤ 4 → (r_at σ (r_gr σ5 a1 16) = some (.inl 5) ∧ (∃ Q19 : Int32 → r_S → Prop, r_M l w B tX5_get [Value.ref (B + (r_gr σ5 a1 16)), Value.int 0] σ5 (r_QI σ5 Q19) ∧ (∀ (z23 : Int32) (σ21 : r_S), Q19 z23 σ21 → (r_at σ (r_gr σ21 a1 15) = some (.inl 5) ∧ (∃ Q26 : r_S → Prop, r_M l w B tX5_drop [Value.ref (B + (r_gr σ21 a1 15)), Value.int z23] σ21 (r_QV σ21 Q26) ∧ (∀ σ28 : r_S, Q26 σ28 → (r_at σ a0 = some (.inl 7) ∧ (r_at σ (r_gr σ28 a0 4) = some (.inl 1) ∧ (∃ Q34 : r_S → Prop, r_M l w B tX1_add [Value.ref (B + (r_gr σ28 a0 4)), Value.int z23, Value.int 2, Value.long (r_gl σ28 a0 7)] σ28 (r_QV σ28 Q34) ∧ (∀ σ36 : r_S, Q34 σ36 → (∃ Q40 : r_S → Prop, r_M l w B tX6_startAnew [Value.ref (B + a1)] σ36 (r_QV σ36 Q40) ∧ (∀ σ42 : r_S, Q40 σ42 → (r_W X w B 3 0 0 (r_Z X w B tX7_failAttempt (r_QV σ0 Q)) 77 [(0, Value.ref (B + a0)), (1, Value.ref (B + a1))] [] σ42)))))))))))))))))) :
    r_W X w B 3 0 0 (r_Z X w B tX7_failAttempt (r_QV σ0 Q)) 0 [(0, Value.ref (B + a0)), (1, Value.ref (B + a1))] [] σ := by
  refine r_aload_n C dX7_failAttempt_0 rfl (j := 1) rfl ?_
  refine r_iconst (v := 0) C dX7_failAttempt_1 (by decide) ?_
  obtain ⟨g1, h⟩ := h
  refine r_putI C (r_atT rfl g1) fa_X7_182 rfl rfl rfl dX7_failAttempt_2 ?_
  refine r_nam (fun σ2 e3 => ?_)
  have h := h σ2 e3
  have s4 : σ2.1 = σ.1 := by rw [e3]; exact rfl
  refine r_aload_n C dX7_failAttempt_5 rfl (j := 1) rfl ?_
  refine r_dup C dX7_failAttempt_6 rfl ?_
  refine r_get (v := .int (r_gi σ2 a1 4)) C (r_atT s4 g1) fa_X7_152 rfl dX7_failAttempt_7 ?_
  refine r_iconst (v := 1) C dX7_failAttempt_10 (by decide) ?_
  refine r_iadd C dX7_failAttempt_11 ?_
  refine r_putI C (r_atT s4 g1) fa_X7_152 rfl rfl rfl dX7_failAttempt_12 ?_
  refine r_nam (fun σ5 e6 => ?_)
  have h := h σ5 e6
  have s7 : σ5.1 = σ.1 := by rw [e6]; exact s4
  refine r_aload_n C dX7_failAttempt_15 rfl (j := 1) rfl ?_
  refine r_get (v := .int (r_gi σ5 a1 4)) C (r_atT s7 g1) fa_X7_152 rfl dX7_failAttempt_16 ?_
  refine r_iconst (v := 4) C dX7_failAttempt_19 (by decide) ?_
  refine r_icmp_le (tgt := 60) C dX7_failAttempt_20 (by decide) (fun c8 => ?_) (fun c8 => ?_)
  · have h := h.1 c8
    refine r_aload_n C dX7_failAttempt_60 rfl (j := 1) rfl ?_
    refine r_iconst (v := 2) C dX7_failAttempt_61 (by decide) ?_
    refine r_aload_n C dX7_failAttempt_62 rfl (j := 1) rfl ?_
    refine r_get (v := .int (r_gi σ5 a1 3)) C (r_atT s7 g1) fa_X7_146 rfl dX7_failAttempt_63 ?_
    refine r_imul C dX7_failAttempt_66 ?_
    refine r_iconst (v := 1) C dX7_failAttempt_67 (by decide) ?_
    refine r_iadd C dX7_failAttempt_68 ?_
    refine r_bipush (v := 63) C dX7_failAttempt_69 (by decide) ?_
    obtain ⟨Q9, m10, h⟩ := h
    refine r_callSI (rest := [Value.ref (B + a1)]) C E [Value.int ((2 * (r_gi σ5 a1 3)) + 1), Value.int 63] ky_J9_min_7cf53 kl_X7_57 ks_J9_min_7cf53 ⟨Nat.le_of_ble_eq_true rfl, Nat.le_of_ble_eq_true rfl⟩ ⟨rfl, rfl⟩ m10 rfl rfl (Nat.le_of_ble_eq_true rfl) (Nat.zero_le _) (Nat.zero_le _) dX7_failAttempt_71 (fun z13 σ11 s12 q14 => ?_)
    have h := h z13 σ11 q14
    have s12 := s12.trans s7
    refine r_putI C (r_atT s12 g1) fa_X7_146 rfl rfl rfl dX7_failAttempt_74 ?_
    refine r_nam (fun σ15 e16 => ?_)
    have h := h σ15 e16
    have s17 : σ15.1 = σ.1 := by rw [e16]; exact s12
    exact r_loc (by simp) h
  · have h := h.2 c8
    refine r_aload_n C dX7_failAttempt_23 rfl (j := 1) rfl ?_
    obtain ⟨g18, h⟩ := h
    refine r_getR C (r_atT s7 g1) fa_X7_207 rfl (r_atN g18) dX7_failAttempt_24 ?_
    refine r_iconst (v := 0) C dX7_failAttempt_27 (by decide) ?_
    obtain ⟨Q19, m20, h⟩ := h
    refine r_callVI (rest := []) C E [Value.int 0] (r_atT s7 g18) rfl ky_X5_get kl_X7_235 ki_X5_get kx_X5_get ⟨Nat.le_of_ble_eq_true rfl, Nat.le_of_ble_eq_true rfl⟩ ⟨rfl, rfl⟩ m20 rfl rfl (Nat.le_of_ble_eq_true rfl) (Nat.zero_le _) (Nat.zero_le _) dX7_failAttempt_28 (fun z23 σ21 s22 q24 => ?_)
    have h := h z23 σ21 q24
    have s22 := s22.trans s7
    refine r_istore_n (lv' := [(2, Value.int z23), (0, Value.ref (B + a0)), (1, Value.ref (B + a1))]) C dX7_failAttempt_31 rfl (by decide) rfl ?_
    refine r_aload_n C dX7_failAttempt_32 rfl (j := 2) rfl ?_
    obtain ⟨g25, h⟩ := h
    refine r_getR C (r_atT s22 g1) fa_X7_96 rfl (r_atN g25) dX7_failAttempt_33 ?_
    refine r_iload_n C dX7_failAttempt_36 rfl (j := 0) rfl ?_
    obtain ⟨Q26, m27, h⟩ := h
    refine r_callVV (rest := []) C E [Value.int z23] (r_atT s22 g25) rfl ky_X5_drop kl_X7_238 ki_X5_drop kx_X5_drop ⟨Nat.le_of_ble_eq_true rfl, Nat.le_of_ble_eq_true rfl⟩ ⟨rfl, rfl⟩ m27 rfl rfl (Nat.le_of_ble_eq_true rfl) (Nat.zero_le _) (Nat.zero_le _) dX7_failAttempt_37 (fun σ28 s29 q31 => ?_)
    have h := h σ28 q31
    have s29 := s29.trans s22
    refine r_aload_n C dX7_failAttempt_40 rfl (j := 1) rfl ?_
    obtain ⟨g32, h⟩ := h
    obtain ⟨g33, h⟩ := h
    refine r_getR C (r_atT s29 g32) fa_X7_33 rfl (r_atN g33) dX7_failAttempt_41 ?_
    refine r_iload_n C dX7_failAttempt_44 rfl (j := 0) rfl ?_
    refine r_iconst (v := 2) C dX7_failAttempt_45 (by decide) ?_
    refine r_aload_n C dX7_failAttempt_46 rfl (j := 1) rfl ?_
    refine r_get (v := .long (r_gl σ28 a0 7)) C (r_atT s29 g32) fa_X7_50 rfl dX7_failAttempt_47 ?_
    obtain ⟨Q34, m35, h⟩ := h
    refine r_callVV (rest := []) C E [Value.int z23, Value.int 2, Value.long (r_gl σ28 a0 7)] (r_atT s29 g33) rfl ky_X1_add kl_X7_241 ki_X1_add kx_X1_add ⟨Nat.le_of_ble_eq_true rfl, Nat.le_of_ble_eq_true rfl⟩ ⟨rfl, rfl⟩ m35 rfl rfl (Nat.le_of_ble_eq_true rfl) (Nat.zero_le _) (Nat.zero_le _) dX7_failAttempt_50 (fun σ36 s37 q39 => ?_)
    have h := h σ36 q39
    have s37 := s37.trans s29
    refine r_aload_n C dX7_failAttempt_53 rfl (j := 2) rfl ?_
    obtain ⟨Q40, m41, h⟩ := h
    refine r_callVV (rest := []) C E [] (r_atT s37 g1) rfl ky_X6_startAnew kl_X7_244 ki_X6_startAnew kx_X6_startAnew ⟨Nat.le_of_ble_eq_true rfl, Nat.le_of_ble_eq_true rfl⟩ ⟨rfl, rfl⟩ m41 rfl rfl (Nat.le_of_ble_eq_true rfl) (Nat.zero_le _) (Nat.zero_le _) dX7_failAttempt_54 (fun σ42 s43 q45 => ?_)
    have h := h σ42 q45
    have s43 := s43.trans s37
    refine r_goto (tgt := 77) C dX7_failAttempt_57 (by decide) ?_
    exact r_loc (by simp) h
theorem w_X7_failAttempt_77 {X : r_X} {w : r_V} {B : Nat} {l : Launch} {Q : r_S → Prop} {σ0 : r_S} (C : r_C X w B 3 cX7_failAttempt RX7) (E : r_E X l tX7_failAttempt) {σ : r_S} (hs : σ.1 = σ0.1) {a0 a1 : Nat}
    (h : r_at σ a1 = some (.inl 6) ∧ (r_at σ (r_gr σ a1 15) = some (.inl 5) ∧ (((r_gi σ (r_gr σ a1 15) 1) ≤ 0 → (Q σ)) ∧ (¬ (r_gi σ (r_gr σ a1 15) 1) ≤ 0 → (r_at σ a0 = some (.inl 7) ∧ (∃ Q4 : r_S → Prop, r_M l w B tX7_drawCount [Value.ref (B + a0), Value.ref (B + a1)] σ (r_QV σ Q4) ∧ (∀ σ6 : r_S, Q4 σ6 → (Q σ6)))))))) :
    r_W X w B 3 0 0 (r_Z X w B tX7_failAttempt (r_QV σ0 Q)) 77 [(0, Value.ref (B + a0)), (1, Value.ref (B + a1))] [] σ := by
  refine r_aload_n C dX7_failAttempt_77 rfl (j := 1) rfl ?_
  obtain ⟨g1, h⟩ := h
  obtain ⟨g2, h⟩ := h
  refine r_getR C (r_atT rfl g1) fa_X7_96 rfl (r_atN g2) dX7_failAttempt_78 ?_
  refine r_get (v := .int (r_gi σ (r_gr σ a1 15) 1)) C (r_atT rfl g2) fa_X7_103 rfl dX7_failAttempt_81 ?_
  refine r_if_le (tgt := 92) C dX7_failAttempt_84 (by decide) (fun c3 => ?_) (fun c3 => ?_)
  · have h := h.1 c3
    exact r_vretQ C E rfl (Nat.zero_le _) (Nat.zero_le _) dX7_failAttempt_92 ((rfl : σ.1 = σ.1).trans hs) h
  · have h := h.2 c3
    refine r_aload_n C dX7_failAttempt_87 rfl (j := 0) rfl ?_
    refine r_aload_n C dX7_failAttempt_88 rfl (j := 1) rfl ?_
    obtain ⟨g10, h⟩ := h
    obtain ⟨Q4, m5, h⟩ := h
    refine r_callVV (rest := []) C E [Value.ref (B + a1)] (r_atT rfl g10) rfl ky_X7_drawCount kl_X7_106 ki_X7_drawCount kx_X7_drawCount ⟨Nat.le_of_ble_eq_true rfl, Nat.le_of_ble_eq_true rfl⟩ ⟨rfl, rfl⟩ m5 rfl rfl (Nat.le_of_ble_eq_true rfl) (Nat.zero_le _) (Nat.zero_le _) dX7_failAttempt_89 (fun σ6 s7 q9 => ?_)
    have h := h σ6 q9
    have s7 := s7.trans rfl
    exact r_vretQ C E rfl (Nat.zero_le _) (Nat.zero_le _) dX7_failAttempt_92 (s7.trans hs) h
theorem w_X7_markGoodSlots_0 {X : r_X} {w : r_V} {B : Nat} {l : Launch} {Q : r_S → Prop} {σ0 : r_S} (C : r_C X w B 9 cX7_markGoodSlots RX7) (E : r_E X l tX7_markGoodSlots) {σ : r_S} (hs : σ.1 = σ0.1) {a0 : Nat}
    (h : r_at σ a0 = some (.inl 7) ∧ (∃ n2, r_at σ (r_gr σ a0 0) = some (.inr (3, n2)) ∧ (∀ b4 : Nat, b4 = r_gr σ a0 0 → (∀ z7 : Int32, z7 = nI n2 → (r_W X w B 9 0 0 (r_Z X w B tX7_markGoodSlots (r_QV σ0 Q)) 10 [(0, Value.ref (B + a0)), (1, Value.ref (B + b4)), (2, Value.int z7), (3, Value.int 0)] [] σ))))) :
    r_W X w B 9 0 0 (r_Z X w B tX7_markGoodSlots (r_QV σ0 Q)) 0 [(0, Value.ref (B + a0))] [] σ := by
  refine r_aload_n C dX7_markGoodSlots_0 rfl (j := 0) rfl ?_
  obtain ⟨g1, h⟩ := h
  obtain ⟨n2, g3, h⟩ := h
  refine r_getR C (r_atT rfl g1) fa_X7_68 rfl (r_atN g3) dX7_markGoodSlots_1 ?_
  refine r_topa (fun b4 e5 => ?_)
  have h := h b4 e5
  have e5 : b4 = r_gr σ a0 0 := e5
  have g6 := g3; rw [← e5] at g6
  refine r_astore_n (lv' := [(1, Value.ref (B + b4)), (0, Value.ref (B + a0))]) C dX7_markGoodSlots_4 rfl (by decide) rfl ?_
  refine r_aload_n C dX7_markGoodSlots_5 rfl (j := 0) rfl ?_
  refine r_alen (v := nI n2) C (r_atT rfl g6) ⟨rfl, fun _ => rfl⟩ rfl dX7_markGoodSlots_6 ?_
  refine r_topi (fun z7 e8 => ?_)
  have h := h z7 e8
  refine r_istore_n (lv' := [(2, Value.int z7), (1, Value.ref (B + b4)), (0, Value.ref (B + a0))]) C dX7_markGoodSlots_7 rfl (by decide) rfl ?_
  refine r_iconst (v := 0) C dX7_markGoodSlots_8 (by decide) ?_
  refine r_istore_n (lv' := [(3, Value.int 0), (2, Value.int z7), (1, Value.ref (B + b4)), (0, Value.ref (B + a0))]) C dX7_markGoodSlots_9 rfl (by decide) rfl ?_
  exact r_loc (by simp) h
theorem w_X7_markGoodSlots_10 {X : r_X} {w : r_V} {B : Nat} {l : Launch} {Q : r_S → Prop} {σ0 : r_S} (C : r_C X w B 9 cX7_markGoodSlots RX7) (E : r_E X l tX7_markGoodSlots) {σ : r_S} (hs : σ.1 = σ0.1) {a0 a1 : Nat} {x2 x3 : Int32}
    (h : (x2 ≤ x3 → (Q σ)) ∧ (¬ x2 ≤ x3 → (∃ n2, r_at σ a1 = some (.inr (3, n2)) ∧ (vp_in x3 n2 ∧ (r_at σ (r_gr σ a1 x3.toNatClampNeg) = some (.inl 6) ∧ (∀ b6 : Nat, b6 = r_gr σ a1 x3.toNatClampNeg → (r_at σ a0 = some (.inl 7) ∧ ((((r_gi σ a0 8) &&& (r_gi σ b6 1)) = 0 → (∀ z11 : Int32, z11 = x3 + 1 → (r_W X w B 9 0 0 (r_Z X w B tX7_markGoodSlots (r_QV σ0 Q)) 10 [(0, Value.ref (B + a0)), (1, Value.ref (B + a1)), (2, Value.int x2), (3, Value.int z11)] [] σ))) ∧ (¬ ((r_gi σ a0 8) &&& (r_gi σ b6 1)) = 0 → (∃ n13, r_at σ (r_gr σ a0 0) = some (.inr (3, n13)) ∧ (∀ b15 : Nat, b15 = r_gr σ a0 0 → (∀ z18 : Int32, z18 = nI n13 → (r_W X w B 9 0 0 (r_Z X w B tX7_markGoodSlots (r_QV σ0 Q)) 47 [(0, Value.ref (B + a0)), (1, Value.ref (B + a1)), (2, Value.int x2), (3, Value.int x3), (4, Value.ref (B + b6)), (5, Value.ref (B + b15)), (6, Value.int z18), (7, Value.int 0)] [] σ))))))))))))) :
    r_W X w B 9 0 0 (r_Z X w B tX7_markGoodSlots (r_QV σ0 Q)) 10 [(0, Value.ref (B + a0)), (1, Value.ref (B + a1)), (2, Value.int x2), (3, Value.int x3)] [] σ := by
  refine r_iload_n C dX7_markGoodSlots_10 rfl (j := 3) rfl ?_
  refine r_iload_n C dX7_markGoodSlots_11 rfl (j := 2) rfl ?_
  refine r_icmp_ge (tgt := 111) C dX7_markGoodSlots_12 (by decide) (fun c1 => ?_) (fun c1 => ?_)
  · have h := h.1 c1
    exact r_vretQ C E rfl (Nat.zero_le _) (Nat.zero_le _) dX7_markGoodSlots_111 ((rfl : σ.1 = σ.1).trans hs) h
  · have h := h.2 c1
    refine r_aload_n C dX7_markGoodSlots_15 rfl (j := 1) rfl ?_
    refine r_iload_n C dX7_markGoodSlots_16 rfl (j := 3) rfl ?_
    obtain ⟨n2, g3, h⟩ := h
    obtain ⟨g4, h⟩ := h
    obtain ⟨g5, h⟩ := h
    refine r_aald C (r_atT rfl g3) ⟨rfl, fun _ => rfl⟩ g4 (r_atN g5) dX7_markGoodSlots_17 ?_
    refine r_topa (fun b6 e7 => ?_)
    have h := h b6 e7
    have e7 : b6 = r_gr σ a1 x3.toNatClampNeg := e7
    have g8 := g5; rw [← e7] at g8
    refine r_astore (lv' := [(4, Value.ref (B + b6)), (0, Value.ref (B + a0)), (1, Value.ref (B + a1)), (2, Value.int x2), (3, Value.int x3)]) C dX7_markGoodSlots_18 (by decide) rfl ?_
    refine r_aload_n C dX7_markGoodSlots_20 rfl (j := 1) rfl ?_
    obtain ⟨g9, h⟩ := h
    refine r_get (v := .int (r_gi σ a0 8)) C (r_atT rfl g9) fa_X7_54 rfl dX7_markGoodSlots_21 ?_
    refine r_aload C dX7_markGoodSlots_24 (j := 0) rfl ?_
    refine r_get (v := .int (r_gi σ b6 1)) C (r_atT rfl g8) fa_X7_79 rfl dX7_markGoodSlots_26 ?_
    refine r_iand C dX7_markGoodSlots_29 ?_
    refine r_if_eq (tgt := 105) C dX7_markGoodSlots_30 (by decide) (fun c10 => ?_) (fun c10 => ?_)
    · have h := h.1 c10
      obtain ⟨z11, e12⟩ : ∃ y : Int32, y = x3 + 1 := ⟨_, rfl⟩
      have h := h z11 e12
      refine r_iinc (v := z11) (lv' := [(3, Value.int z11), (4, Value.ref (B + b6)), (0, Value.ref (B + a0)), (1, Value.ref (B + a1)), (2, Value.int x2)]) C dX7_markGoodSlots_105 (k := 4) rfl (by rw [e12]; rfl) (by decide) rfl ?_
      refine r_goto (tgt := 10) C dX7_markGoodSlots_108 (by decide) ?_
      exact r_loc (by simp) h
    · have h := h.2 c10
      refine r_aload_n C dX7_markGoodSlots_33 rfl (j := 1) rfl ?_
      obtain ⟨n13, g14, h⟩ := h
      refine r_getR C (r_atT rfl g9) fa_X7_68 rfl (r_atN g14) dX7_markGoodSlots_34 ?_
      refine r_topa (fun b15 e16 => ?_)
      have h := h b15 e16
      have e16 : b15 = r_gr σ a0 0 := e16
      have g17 := g14; rw [← e16] at g17
      refine r_astore (lv' := [(5, Value.ref (B + b15)), (4, Value.ref (B + b6)), (0, Value.ref (B + a0)), (1, Value.ref (B + a1)), (2, Value.int x2), (3, Value.int x3)]) C dX7_markGoodSlots_37 (by decide) rfl ?_
      refine r_aload C dX7_markGoodSlots_39 (j := 0) rfl ?_
      refine r_alen (v := nI n13) C (r_atT rfl g17) ⟨rfl, fun _ => rfl⟩ rfl dX7_markGoodSlots_41 ?_
      refine r_topi (fun z18 e19 => ?_)
      have h := h z18 e19
      refine r_istore (lv' := [(6, Value.int z18), (5, Value.ref (B + b15)), (4, Value.ref (B + b6)), (0, Value.ref (B + a0)), (1, Value.ref (B + a1)), (2, Value.int x2), (3, Value.int x3)]) C dX7_markGoodSlots_42 (by decide) rfl ?_
      refine r_iconst (v := 0) C dX7_markGoodSlots_44 (by decide) ?_
      refine r_istore (lv' := [(7, Value.int 0), (6, Value.int z18), (5, Value.ref (B + b15)), (4, Value.ref (B + b6)), (0, Value.ref (B + a0)), (1, Value.ref (B + a1)), (2, Value.int x2), (3, Value.int x3)]) C dX7_markGoodSlots_45 (by decide) rfl ?_
      exact r_loc (by simp) h
theorem w_X7_markGoodSlots_47 {X : r_X} {w : r_V} {B : Nat} {l : Launch} {Q : r_S → Prop} {σ0 : r_S} (C : r_C X w B 9 cX7_markGoodSlots RX7) (E : r_E X l tX7_markGoodSlots) {σ : r_S} (hs : σ.1 = σ0.1) {a0 a1 a4 a5 : Nat} {x2 x3 x6 x7 : Int32}
    (h : (x6 ≤ x7 → (r_at σ a4 = some (.inl 6) ∧ (r_at σ (r_gr σ a4 14) = some (.inl 2) ∧ (∀ σ4 : r_S, σ4 = r_ui σ (r_gr σ a4 14) 3 ((r_gi σ (r_gr σ a4 14) 3) + 1) → (∀ z7 : Int32, z7 = x3 + 1 → (r_W X w B 9 0 0 (r_Z X w B tX7_markGoodSlots (r_QV σ0 Q)) 10 [(0, Value.ref (B + a0)), (1, Value.ref (B + a1)), (2, Value.int x2), (3, Value.int z7)] [] σ4)))))) ∧ (¬ x6 ≤ x7 → (∃ n9, r_at σ a5 = some (.inr (3, n9)) ∧ (vp_in x7 n9 ∧ (r_at σ (r_gr σ a5 x7.toNatClampNeg) = some (.inl 6) ∧ (∀ b13 : Nat, b13 = r_gr σ a5 x7.toNatClampNeg → (r_at σ a0 = some (.inl 7) ∧ (∃ Q16 : Int32 → r_S → Prop, r_M l w B tX7_isGood [Value.ref (B + a0), Value.ref (B + b13), Value.ref (B + a4)] σ (r_QI σ Q16) ∧ (∀ (z20 : Int32) (σ18 : r_S), Q16 z20 σ18 → ((z20 = 0 → (∀ z24 : Int32, z24 = x7 + 1 → (r_W X w B 9 0 0 (r_Z X w B tX7_markGoodSlots (r_QV σ0 Q)) 47 [(0, Value.ref (B + a0)), (1, Value.ref (B + a1)), (2, Value.int x2), (3, Value.int x3), (4, Value.ref (B + a4)), (5, Value.ref (B + a5)), (6, Value.int x6), (7, Value.int z24)] [] σ18))) ∧ (¬ z20 = 0 → (r_at σ a4 = some (.inl 6) ∧ (r_at σ (r_gr σ18 a4 14) = some (.inl 2) ∧ (∃ Q28 : r_S → Prop, r_M l w B tX2_markGood [Value.ref (B + (r_gr σ18 a4 14)), Value.int (r_gi σ18 b13 0)] σ18 (r_QV σ18 Q28) ∧ (∀ σ30 : r_S, Q28 σ30 → (∀ z34 : Int32, z34 = x7 + 1 → (r_W X w B 9 0 0 (r_Z X w B tX7_markGoodSlots (r_QV σ0 Q)) 47 [(0, Value.ref (B + a0)), (1, Value.ref (B + a1)), (2, Value.int x2), (3, Value.int x3), (4, Value.ref (B + a4)), (5, Value.ref (B + a5)), (6, Value.int x6), (7, Value.int z34)] [] σ30))))))))))))))))) :
    r_W X w B 9 0 0 (r_Z X w B tX7_markGoodSlots (r_QV σ0 Q)) 47 [(0, Value.ref (B + a0)), (1, Value.ref (B + a1)), (2, Value.int x2), (3, Value.int x3), (4, Value.ref (B + a4)), (5, Value.ref (B + a5)), (6, Value.int x6), (7, Value.int x7)] [] σ := by
  refine r_iload C dX7_markGoodSlots_47 (j := 7) rfl ?_
  refine r_iload C dX7_markGoodSlots_49 (j := 6) rfl ?_
  refine r_icmp_ge (tgt := 91) C dX7_markGoodSlots_51 (by decide) (fun c1 => ?_) (fun c1 => ?_)
  · have h := h.1 c1
    refine r_aload C dX7_markGoodSlots_91 (j := 4) rfl ?_
    obtain ⟨g2, h⟩ := h
    obtain ⟨g3, h⟩ := h
    refine r_getR C (r_atT rfl g2) fa_X7_161 rfl (r_atN g3) dX7_markGoodSlots_93 ?_
    refine r_dup C dX7_markGoodSlots_96 rfl ?_
    refine r_get (v := .int (r_gi σ (r_gr σ a4 14) 3)) C (r_atT rfl g3) fa_X7_257 rfl dX7_markGoodSlots_97 ?_
    refine r_iconst (v := 1) C dX7_markGoodSlots_100 (by decide) ?_
    refine r_iadd C dX7_markGoodSlots_101 ?_
    refine r_putI C (r_atT rfl g3) fa_X7_257 rfl rfl rfl dX7_markGoodSlots_102 ?_
    refine r_nam (fun σ4 e5 => ?_)
    have h := h σ4 e5
    have s6 : σ4.1 = σ.1 := by rw [e5]; exact rfl
    obtain ⟨z7, e8⟩ : ∃ y : Int32, y = x3 + 1 := ⟨_, rfl⟩
    have h := h z7 e8
    refine r_iinc (v := z7) (lv' := [(3, Value.int z7), (0, Value.ref (B + a0)), (1, Value.ref (B + a1)), (2, Value.int x2), (4, Value.ref (B + a4)), (5, Value.ref (B + a5)), (6, Value.int x6), (7, Value.int x7)]) C dX7_markGoodSlots_105 (k := 3) rfl (by rw [e8]; rfl) (by decide) rfl ?_
    refine r_goto (tgt := 10) C dX7_markGoodSlots_108 (by decide) ?_
    exact r_loc (by simp) h
  · have h := h.2 c1
    refine r_aload C dX7_markGoodSlots_54 (j := 5) rfl ?_
    refine r_iload C dX7_markGoodSlots_56 (j := 7) rfl ?_
    obtain ⟨n9, g10, h⟩ := h
    obtain ⟨g11, h⟩ := h
    obtain ⟨g12, h⟩ := h
    refine r_aald C (r_atT rfl g10) ⟨rfl, fun _ => rfl⟩ g11 (r_atN g12) dX7_markGoodSlots_58 ?_
    refine r_topa (fun b13 e14 => ?_)
    have h := h b13 e14
    have e14 : b13 = r_gr σ a5 x7.toNatClampNeg := e14
    have g15 := g12; rw [← e14] at g15
    refine r_astore (lv' := [(8, Value.ref (B + b13)), (0, Value.ref (B + a0)), (1, Value.ref (B + a1)), (2, Value.int x2), (3, Value.int x3), (4, Value.ref (B + a4)), (5, Value.ref (B + a5)), (6, Value.int x6), (7, Value.int x7)]) C dX7_markGoodSlots_59 (by decide) rfl ?_
    refine r_aload_n C dX7_markGoodSlots_61 rfl (j := 1) rfl ?_
    refine r_aload C dX7_markGoodSlots_62 (j := 0) rfl ?_
    refine r_aload C dX7_markGoodSlots_64 (j := 5) rfl ?_
    obtain ⟨g22, h⟩ := h
    obtain ⟨Q16, m17, h⟩ := h
    refine r_callVI (rest := []) C E [Value.ref (B + b13), Value.ref (B + a4)] (r_atT rfl g22) rfl ky_X7_isGood kl_X7_247 ki_X7_isGood kx_X7_isGood ⟨Nat.le_of_ble_eq_true rfl, Nat.le_of_ble_eq_true rfl⟩ ⟨rfl, rfl⟩ m17 rfl rfl (Nat.le_of_ble_eq_true rfl) (Nat.zero_le _) (Nat.zero_le _) dX7_markGoodSlots_66 (fun z20 σ18 s19 q21 => ?_)
    have h := h z20 σ18 q21
    have s19 := s19.trans rfl
    refine r_if_eq (tgt := 85) C dX7_markGoodSlots_69 (by decide) (fun c23 => ?_) (fun c23 => ?_)
    · have h := h.1 c23
      obtain ⟨z24, e25⟩ : ∃ y : Int32, y = x7 + 1 := ⟨_, rfl⟩
      have h := h z24 e25
      refine r_iinc (v := z24) (lv' := [(7, Value.int z24), (8, Value.ref (B + b13)), (0, Value.ref (B + a0)), (1, Value.ref (B + a1)), (2, Value.int x2), (3, Value.int x3), (4, Value.ref (B + a4)), (5, Value.ref (B + a5)), (6, Value.int x6)]) C dX7_markGoodSlots_85 (k := 8) rfl (by rw [e25]; rfl) (by decide) rfl ?_
      refine r_goto (tgt := 47) C dX7_markGoodSlots_88 (by decide) ?_
      exact r_loc (by simp) h
    · have h := h.2 c23
      refine r_aload C dX7_markGoodSlots_72 (j := 5) rfl ?_
      obtain ⟨g26, h⟩ := h
      obtain ⟨g27, h⟩ := h
      refine r_getR C (r_atT s19 g26) fa_X7_161 rfl (r_atN g27) dX7_markGoodSlots_74 ?_
      refine r_aload C dX7_markGoodSlots_77 (j := 0) rfl ?_
      refine r_get (v := .int (r_gi σ18 b13 0)) C (r_atT s19 g15) fa_X7_251 rfl dX7_markGoodSlots_79 ?_
      obtain ⟨Q28, m29, h⟩ := h
      refine r_callVV (rest := []) C E [Value.int (r_gi σ18 b13 0)] (r_atT s19 g27) rfl ky_X2_markGood kl_X7_254 ki_X2_markGood kx_X2_markGood ⟨Nat.le_of_ble_eq_true rfl, Nat.le_of_ble_eq_true rfl⟩ ⟨rfl, rfl⟩ m29 rfl rfl (Nat.le_of_ble_eq_true rfl) (Nat.zero_le _) (Nat.zero_le _) dX7_markGoodSlots_82 (fun σ30 s31 q33 => ?_)
      have h := h σ30 q33
      have s31 := s31.trans s19
      obtain ⟨z34, e35⟩ : ∃ y : Int32, y = x7 + 1 := ⟨_, rfl⟩
      have h := h z34 e35
      refine r_iinc (v := z34) (lv' := [(7, Value.int z34), (8, Value.ref (B + b13)), (0, Value.ref (B + a0)), (1, Value.ref (B + a1)), (2, Value.int x2), (3, Value.int x3), (4, Value.ref (B + a4)), (5, Value.ref (B + a5)), (6, Value.int x6)]) C dX7_markGoodSlots_85 (k := 8) rfl (by rw [e35]; rfl) (by decide) rfl ?_
      refine r_goto (tgt := 47) C dX7_markGoodSlots_88 (by decide) ?_
      exact r_loc (by simp) h
theorem w_X7_isGood_0 {X : r_X} {w : r_V} {B : Nat} {l : Launch} {Q : Int32 → r_S → Prop} {σ0 : r_S} (C : r_C X w B 3 cX7_isGood RX7) (E : r_E X l tX7_isGood) {σ : r_S} (hs : σ.1 = σ0.1) {a0 a1 a2 : Nat}
    (h : r_at σ a0 = some (.inl 7) ∧ (r_at σ a1 = some (.inl 6) ∧ ((((r_gi σ a0 8) &&& (r_gi σ a1 1)) = 0 → (r_at σ a2 = some (.inl 6) ∧ ((((r_gi σ a0 8) &&& (r_gi σ a1 2)) = (r_gi σ a2 1) → (r_at σ (r_gr σ a0 3) = some (.inl 3) ∧ (∃ Q7 : Int32 → r_S → Prop, r_M l w B tX3_cover [Value.ref (B + (r_gr σ a0 3)), Value.int (r_gi σ a1 0), Value.long (r_gl σ a0 7)] σ (r_QI σ Q7) ∧ (∀ (z11 : Int32) (σ9 : r_S), Q7 z11 σ9 → ((z11 = 0 → (Q 1 σ9)) ∧ (¬ z11 = 0 → (Q 0 σ9))))))) ∧ (¬ ((r_gi σ a0 8) &&& (r_gi σ a1 2)) = (r_gi σ a2 1) → (Q 0 σ))))) ∧ (¬ ((r_gi σ a0 8) &&& (r_gi σ a1 1)) = 0 → (Q 0 σ))))) :
    r_W X w B 3 0 0 (r_Z X w B tX7_isGood (r_QI σ0 Q)) 0 [(0, Value.ref (B + a0)), (1, Value.ref (B + a1)), (2, Value.ref (B + a2))] [] σ := by
  refine r_aload_n C dX7_isGood_0 rfl (j := 0) rfl ?_
  obtain ⟨g1, h⟩ := h
  refine r_get (v := .int (r_gi σ a0 8)) C (r_atT rfl g1) fa_X7_54 rfl dX7_isGood_1 ?_
  refine r_aload_n C dX7_isGood_4 rfl (j := 1) rfl ?_
  obtain ⟨g2, h⟩ := h
  refine r_get (v := .int (r_gi σ a1 1)) C (r_atT rfl g2) fa_X7_79 rfl dX7_isGood_5 ?_
  refine r_iand C dX7_isGood_8 ?_
  refine r_if_ne (tgt := 50) C dX7_isGood_9 (by decide) (fun c3 => ?_) (fun c3 => ?_)
  · have h := h.2 c3
    refine r_iconst (v := 0) C dX7_isGood_50 (by decide) ?_
    exact r_zretQ C E rfl (by decide) (Nat.zero_le _) (Nat.zero_le _) dX7_isGood_51 ((rfl : σ.1 = σ.1).trans hs) h
  · have h := h.1 c3
    refine r_aload_n C dX7_isGood_12 rfl (j := 0) rfl ?_
    refine r_get (v := .int (r_gi σ a0 8)) C (r_atT rfl g1) fa_X7_54 rfl dX7_isGood_13 ?_
    refine r_aload_n C dX7_isGood_16 rfl (j := 1) rfl ?_
    refine r_get (v := .int (r_gi σ a1 2)) C (r_atT rfl g2) fa_X7_82 rfl dX7_isGood_17 ?_
    refine r_iand C dX7_isGood_20 ?_
    refine r_aload_n C dX7_isGood_21 rfl (j := 2) rfl ?_
    obtain ⟨g4, h⟩ := h
    refine r_get (v := .int (r_gi σ a2 1)) C (r_atT rfl g4) fa_X7_79 rfl dX7_isGood_22 ?_
    refine r_icmp_ne (tgt := 50) C dX7_isGood_25 (by decide) (fun c5 => ?_) (fun c5 => ?_)
    · have h := h.2 c5
      refine r_iconst (v := 0) C dX7_isGood_50 (by decide) ?_
      exact r_zretQ C E rfl (by decide) (Nat.zero_le _) (Nat.zero_le _) dX7_isGood_51 ((rfl : σ.1 = σ.1).trans hs) h
    · have h := h.1 c5
      refine r_aload_n C dX7_isGood_28 rfl (j := 0) rfl ?_
      obtain ⟨g6, h⟩ := h
      refine r_getR C (r_atT rfl g1) fa_X7_26 rfl (r_atN g6) dX7_isGood_29 ?_
      refine r_aload_n C dX7_isGood_32 rfl (j := 1) rfl ?_
      refine r_get (v := .int (r_gi σ a1 0)) C (r_atT rfl g2) fa_X7_251 rfl dX7_isGood_33 ?_
      refine r_aload_n C dX7_isGood_36 rfl (j := 0) rfl ?_
      refine r_get (v := .long (r_gl σ a0 7)) C (r_atT rfl g1) fa_X7_50 rfl dX7_isGood_37 ?_
      obtain ⟨Q7, m8, h⟩ := h
      refine r_callVI (rest := []) C E [Value.int (r_gi σ a1 0), Value.long (r_gl σ a0 7)] (r_atT rfl g6) rfl ky_X3_cover kl_X7_260 ki_X3_cover kx_X3_cover ⟨Nat.le_of_ble_eq_true rfl, Nat.le_of_ble_eq_true rfl⟩ ⟨rfl, rfl⟩ m8 rfl rfl (Nat.le_of_ble_eq_true rfl) (Nat.zero_le _) (Nat.zero_le _) dX7_isGood_40 (fun z11 σ9 s10 q12 => ?_)
      have h := h z11 σ9 q12
      have s10 := s10.trans rfl
      refine r_if_ne (tgt := 50) C dX7_isGood_43 (by decide) (fun c13 => ?_) (fun c13 => ?_)
      · have h := h.2 c13
        refine r_iconst (v := 0) C dX7_isGood_50 (by decide) ?_
        exact r_zretQ C E rfl (by decide) (Nat.zero_le _) (Nat.zero_le _) dX7_isGood_51 (s10.trans hs) h
      · have h := h.1 c13
        refine r_iconst (v := 1) C dX7_isGood_46 (by decide) ?_
        refine r_goto (tgt := 51) C dX7_isGood_47 (by decide) ?_
        exact r_zretQ C E rfl (by decide) (Nat.zero_le _) (Nat.zero_le _) dX7_isGood_51 (s10.trans hs) h
theorem w_X7_endFrames_0 {X : r_X} {w : r_V} {B : Nat} {l : Launch} {Q : r_S → Prop} {σ0 : r_S} (C : r_C X w B 10 cX7_endFrames RX7) (E : r_E X l tX7_endFrames) {σ : r_S} (hs : σ.1 = σ0.1) {a0 : Nat}
    (h : r_at σ a0 = some (.inl 7) ∧ (∃ n2, r_at σ (r_gr σ a0 0) = some (.inr (3, n2)) ∧ (∀ b4 : Nat, b4 = r_gr σ a0 0 → (∀ z7 : Int32, z7 = nI n2 → (r_W X w B 10 0 0 (r_Z X w B tX7_endFrames (r_QV σ0 Q)) 10 [(0, Value.ref (B + a0)), (1, Value.ref (B + b4)), (2, Value.int z7), (3, Value.int 0)] [] σ))))) :
    r_W X w B 10 0 0 (r_Z X w B tX7_endFrames (r_QV σ0 Q)) 0 [(0, Value.ref (B + a0))] [] σ := by
  refine r_aload_n C dX7_endFrames_0 rfl (j := 0) rfl ?_
  obtain ⟨g1, h⟩ := h
  obtain ⟨n2, g3, h⟩ := h
  refine r_getR C (r_atT rfl g1) fa_X7_68 rfl (r_atN g3) dX7_endFrames_1 ?_
  refine r_topa (fun b4 e5 => ?_)
  have h := h b4 e5
  have e5 : b4 = r_gr σ a0 0 := e5
  have g6 := g3; rw [← e5] at g6
  refine r_astore_n (lv' := [(1, Value.ref (B + b4)), (0, Value.ref (B + a0))]) C dX7_endFrames_4 rfl (by decide) rfl ?_
  refine r_aload_n C dX7_endFrames_5 rfl (j := 0) rfl ?_
  refine r_alen (v := nI n2) C (r_atT rfl g6) ⟨rfl, fun _ => rfl⟩ rfl dX7_endFrames_6 ?_
  refine r_topi (fun z7 e8 => ?_)
  have h := h z7 e8
  refine r_istore_n (lv' := [(2, Value.int z7), (1, Value.ref (B + b4)), (0, Value.ref (B + a0))]) C dX7_endFrames_7 rfl (by decide) rfl ?_
  refine r_iconst (v := 0) C dX7_endFrames_8 (by decide) ?_
  refine r_istore_n (lv' := [(3, Value.int 0), (2, Value.int z7), (1, Value.ref (B + b4)), (0, Value.ref (B + a0))]) C dX7_endFrames_9 rfl (by decide) rfl ?_
  exact r_loc (by simp) h
theorem w_X7_endFrames_10 {X : r_X} {w : r_V} {B : Nat} {l : Launch} {Q : r_S → Prop} {σ0 : r_S} (C : r_C X w B 10 cX7_endFrames RX7) (E : r_E X l tX7_endFrames) {σ : r_S} (hs : σ.1 = σ0.1) {a0 a1 : Nat} {x2 x3 : Int32}
    (h : (x2 ≤ x3 → (Q σ)) ∧ (¬ x2 ≤ x3 → (∃ n2, r_at σ a1 = some (.inr (3, n2)) ∧ (vp_in x3 n2 ∧ (r_at σ (r_gr σ a1 x3.toNatClampNeg) = some (.inl 6) ∧ (∀ b6 : Nat, b6 = r_gr σ a1 x3.toNatClampNeg → (r_at σ (r_gr σ b6 14) = some (.inl 2) ∧ (∀ b10 : Nat, b10 = r_gr σ b6 14 → (∃ Q13 : Int32 → r_S → Prop, r_M l w B tX2_isOver [Value.ref (B + b10)] σ (r_QI σ Q13) ∧ (∀ (z17 : Int32) (σ15 : r_S), Q13 z17 σ15 → ((z17 = 0 → (∀ z20 : Int32, z20 = x3 + 1 → (r_W X w B 10 0 0 (r_Z X w B tX7_endFrames (r_QV σ0 Q)) 10 [(0, Value.ref (B + a0)), (1, Value.ref (B + a1)), (2, Value.int x2), (3, Value.int z20)] [] σ15))) ∧ (¬ z17 = 0 → (r_at σ a0 = some (.inl 7) ∧ (∃ n23, r_at σ (r_gr σ15 a0 0) = some (.inr (3, n23)) ∧ (∀ b25 : Nat, b25 = r_gr σ15 a0 0 → (∀ z28 : Int32, z28 = nI n23 → (r_W X w B 10 0 0 (r_Z X w B tX7_endFrames (r_QV σ0 Q)) 49 [(0, Value.ref (B + a0)), (1, Value.ref (B + a1)), (2, Value.int x2), (3, Value.int x3), (4, Value.ref (B + b6)), (5, Value.ref (B + b10)), (6, Value.ref (B + b25)), (7, Value.int z28), (8, Value.int 0)] [] σ15))))))))))))))))) :
    r_W X w B 10 0 0 (r_Z X w B tX7_endFrames (r_QV σ0 Q)) 10 [(0, Value.ref (B + a0)), (1, Value.ref (B + a1)), (2, Value.int x2), (3, Value.int x3)] [] σ := by
  refine r_iload_n C dX7_endFrames_10 rfl (j := 3) rfl ?_
  refine r_iload_n C dX7_endFrames_11 rfl (j := 2) rfl ?_
  refine r_icmp_ge (tgt := 121) C dX7_endFrames_12 (by decide) (fun c1 => ?_) (fun c1 => ?_)
  · have h := h.1 c1
    exact r_vretQ C E rfl (Nat.zero_le _) (Nat.zero_le _) dX7_endFrames_121 ((rfl : σ.1 = σ.1).trans hs) h
  · have h := h.2 c1
    refine r_aload_n C dX7_endFrames_15 rfl (j := 1) rfl ?_
    refine r_iload_n C dX7_endFrames_16 rfl (j := 3) rfl ?_
    obtain ⟨n2, g3, h⟩ := h
    obtain ⟨g4, h⟩ := h
    obtain ⟨g5, h⟩ := h
    refine r_aald C (r_atT rfl g3) ⟨rfl, fun _ => rfl⟩ g4 (r_atN g5) dX7_endFrames_17 ?_
    refine r_topa (fun b6 e7 => ?_)
    have h := h b6 e7
    have e7 : b6 = r_gr σ a1 x3.toNatClampNeg := e7
    have g8 := g5; rw [← e7] at g8
    refine r_astore (lv' := [(4, Value.ref (B + b6)), (0, Value.ref (B + a0)), (1, Value.ref (B + a1)), (2, Value.int x2), (3, Value.int x3)]) C dX7_endFrames_18 (by decide) rfl ?_
    refine r_aload C dX7_endFrames_20 (j := 0) rfl ?_
    obtain ⟨g9, h⟩ := h
    refine r_getR C (r_atT rfl g8) fa_X7_161 rfl (r_atN g9) dX7_endFrames_22 ?_
    refine r_topa (fun b10 e11 => ?_)
    have h := h b10 e11
    have e11 : b10 = r_gr σ b6 14 := e11
    have g12 := g9; rw [← e11] at g12
    refine r_astore (lv' := [(5, Value.ref (B + b10)), (4, Value.ref (B + b6)), (0, Value.ref (B + a0)), (1, Value.ref (B + a1)), (2, Value.int x2), (3, Value.int x3)]) C dX7_endFrames_25 (by decide) rfl ?_
    refine r_aload C dX7_endFrames_27 (j := 0) rfl ?_
    obtain ⟨Q13, m14, h⟩ := h
    refine r_callVI (rest := []) C E [] (r_atT rfl g12) rfl ky_X2_isOver kl_X7_264 ki_X2_isOver kx_X2_isOver ⟨Nat.le_of_ble_eq_true rfl, Nat.le_of_ble_eq_true rfl⟩ ⟨rfl, rfl⟩ m14 rfl rfl (Nat.le_of_ble_eq_true rfl) (Nat.zero_le _) (Nat.zero_le _) dX7_endFrames_29 (fun z17 σ15 s16 q18 => ?_)
    have h := h z17 σ15 q18
    have s16 := s16.trans rfl
    refine r_if_eq (tgt := 115) C dX7_endFrames_32 (by decide) (fun c19 => ?_) (fun c19 => ?_)
    · have h := h.1 c19
      obtain ⟨z20, e21⟩ : ∃ y : Int32, y = x3 + 1 := ⟨_, rfl⟩
      have h := h z20 e21
      refine r_iinc (v := z20) (lv' := [(3, Value.int z20), (5, Value.ref (B + b10)), (4, Value.ref (B + b6)), (0, Value.ref (B + a0)), (1, Value.ref (B + a1)), (2, Value.int x2)]) C dX7_endFrames_115 (k := 5) rfl (by rw [e21]; rfl) (by decide) rfl ?_
      refine r_goto (tgt := 10) C dX7_endFrames_118 (by decide) ?_
      exact r_loc (by simp) h
    · have h := h.2 c19
      refine r_aload_n C dX7_endFrames_35 rfl (j := 2) rfl ?_
      obtain ⟨g22, h⟩ := h
      obtain ⟨n23, g24, h⟩ := h
      refine r_getR C (r_atT s16 g22) fa_X7_68 rfl (r_atN g24) dX7_endFrames_36 ?_
      refine r_topa (fun b25 e26 => ?_)
      have h := h b25 e26
      have e26 : b25 = r_gr σ15 a0 0 := e26
      have g27 := g24; rw [← e26] at g27
      refine r_astore (lv' := [(6, Value.ref (B + b25)), (5, Value.ref (B + b10)), (4, Value.ref (B + b6)), (0, Value.ref (B + a0)), (1, Value.ref (B + a1)), (2, Value.int x2), (3, Value.int x3)]) C dX7_endFrames_39 (by decide) rfl ?_
      refine r_aload C dX7_endFrames_41 (j := 0) rfl ?_
      refine r_alen (v := nI n23) C (r_atT s16 g27) ⟨rfl, fun _ => rfl⟩ rfl dX7_endFrames_43 ?_
      refine r_topi (fun z28 e29 => ?_)
      have h := h z28 e29
      refine r_istore (lv' := [(7, Value.int z28), (6, Value.ref (B + b25)), (5, Value.ref (B + b10)), (4, Value.ref (B + b6)), (0, Value.ref (B + a0)), (1, Value.ref (B + a1)), (2, Value.int x2), (3, Value.int x3)]) C dX7_endFrames_44 (by decide) rfl ?_
      refine r_iconst (v := 0) C dX7_endFrames_46 (by decide) ?_
      refine r_istore (lv' := [(8, Value.int 0), (7, Value.int z28), (6, Value.ref (B + b25)), (5, Value.ref (B + b10)), (4, Value.ref (B + b6)), (0, Value.ref (B + a0)), (1, Value.ref (B + a1)), (2, Value.int x2), (3, Value.int x3)]) C dX7_endFrames_47 (by decide) rfl ?_
      exact r_loc (by simp) h
theorem w_X7_endFrames_49 {X : r_X} {w : r_V} {B : Nat} {l : Launch} {Q : r_S → Prop} {σ0 : r_S} (C : r_C X w B 10 cX7_endFrames RX7) (E : r_E X l tX7_endFrames) {σ : r_S} (hs : σ.1 = σ0.1) {a0 a1 a4 a5 a6 : Nat} {x2 x3 x7 x8 : Int32}
    (h : (x7 ≤ x8 → (r_at σ a0 = some (.inl 7) ∧ (r_at σ a4 = some (.inl 6) ∧ (∃ Q3 : r_S → Prop, r_M l w B tX6_endFrame [Value.ref (B + a4), Value.long (r_gl σ a0 7)] σ (r_QV σ Q3) ∧ (∀ σ5 : r_S, Q3 σ5 → (∀ z10 : Int32, z10 = x3 + 1 → (r_W X w B 10 0 0 (r_Z X w B tX7_endFrames (r_QV σ0 Q)) 10 [(0, Value.ref (B + a0)), (1, Value.ref (B + a1)), (2, Value.int x2), (3, Value.int z10)] [] σ5))))))) ∧ (¬ x7 ≤ x8 → (∃ n12, r_at σ a6 = some (.inr (3, n12)) ∧ (vp_in x8 n12 ∧ (r_at σ (r_gr σ a6 x8.toNatClampNeg) = some (.inl 6) ∧ (∀ b16 : Nat, b16 = r_gr σ a6 x8.toNatClampNeg → (r_at σ a4 = some (.inl 6) ∧ ((((r_gi σ b16 2) &&& (r_gi σ a4 1)) = 0 → (∀ z21 : Int32, z21 = x8 + 1 → (r_W X w B 10 0 0 (r_Z X w B tX7_endFrames (r_QV σ0 Q)) 49 [(0, Value.ref (B + a0)), (1, Value.ref (B + a1)), (2, Value.int x2), (3, Value.int x3), (4, Value.ref (B + a4)), (5, Value.ref (B + a5)), (6, Value.ref (B + a6)), (7, Value.int x7), (8, Value.int z21)] [] σ))) ∧ (¬ ((r_gi σ b16 2) &&& (r_gi σ a4 1)) = 0 → (r_at σ a5 = some (.inl 2) ∧ (∃ Q23 : Int32 → r_S → Prop, r_M l w B tX2_isReceivedAt [Value.ref (B + a5), Value.int (r_gi σ b16 0)] σ (r_QI σ Q23) ∧ (∀ (z27 : Int32) (σ25 : r_S), Q23 z27 σ25 → ((z27 = 0 → (∀ z31 : Int32, z31 = x8 + 1 → (r_W X w B 10 0 0 (r_Z X w B tX7_endFrames (r_QV σ0 Q)) 49 [(0, Value.ref (B + a0)), (1, Value.ref (B + a1)), (2, Value.int x2), (3, Value.int x3), (4, Value.ref (B + a4)), (5, Value.ref (B + a5)), (6, Value.ref (B + a6)), (7, Value.int x7), (8, Value.int z31)] [] σ25))) ∧ (¬ z27 = 0 → (r_at σ a0 = some (.inl 7) ∧ (∃ Q33 : r_S → Prop, r_M l w B tX7_receive [Value.ref (B + a0), Value.ref (B + b16), Value.ref (B + a4), Value.ref (B + a5)] σ25 (r_QV σ25 Q33) ∧ (∀ σ35 : r_S, Q33 σ35 → (∀ z40 : Int32, z40 = x8 + 1 → (r_W X w B 10 0 0 (r_Z X w B tX7_endFrames (r_QV σ0 Q)) 49 [(0, Value.ref (B + a0)), (1, Value.ref (B + a1)), (2, Value.int x2), (3, Value.int x3), (4, Value.ref (B + a4)), (5, Value.ref (B + a5)), (6, Value.ref (B + a6)), (7, Value.int x7), (8, Value.int z40)] [] σ35))))))))))))))))))) :
    r_W X w B 10 0 0 (r_Z X w B tX7_endFrames (r_QV σ0 Q)) 49 [(0, Value.ref (B + a0)), (1, Value.ref (B + a1)), (2, Value.int x2), (3, Value.int x3), (4, Value.ref (B + a4)), (5, Value.ref (B + a5)), (6, Value.ref (B + a6)), (7, Value.int x7), (8, Value.int x8)] [] σ := by
  refine r_iload C dX7_endFrames_49 (j := 8) rfl ?_
  refine r_iload C dX7_endFrames_51 (j := 7) rfl ?_
  refine r_icmp_ge (tgt := 106) C dX7_endFrames_53 (by decide) (fun c1 => ?_) (fun c1 => ?_)
  · have h := h.1 c1
    refine r_aload C dX7_endFrames_106 (j := 4) rfl ?_
    refine r_aload_n C dX7_endFrames_108 rfl (j := 0) rfl ?_
    obtain ⟨g2, h⟩ := h
    refine r_get (v := .long (r_gl σ a0 7)) C (r_atT rfl g2) fa_X7_50 rfl dX7_endFrames_109 ?_
    obtain ⟨g9, h⟩ := h
    obtain ⟨Q3, m4, h⟩ := h
    refine r_callVV (rest := []) C E [Value.long (r_gl σ a0 7)] (r_atT rfl g9) rfl ky_X6_endFrame kl_X7_274 ki_X6_endFrame kx_X6_endFrame ⟨Nat.le_of_ble_eq_true rfl, Nat.le_of_ble_eq_true rfl⟩ ⟨rfl, rfl⟩ m4 rfl rfl (Nat.le_of_ble_eq_true rfl) (Nat.zero_le _) (Nat.zero_le _) dX7_endFrames_112 (fun σ5 s6 q8 => ?_)
    have h := h σ5 q8
    have s6 := s6.trans rfl
    obtain ⟨z10, e11⟩ : ∃ y : Int32, y = x3 + 1 := ⟨_, rfl⟩
    have h := h z10 e11
    refine r_iinc (v := z10) (lv' := [(3, Value.int z10), (0, Value.ref (B + a0)), (1, Value.ref (B + a1)), (2, Value.int x2), (4, Value.ref (B + a4)), (5, Value.ref (B + a5)), (6, Value.ref (B + a6)), (7, Value.int x7), (8, Value.int x8)]) C dX7_endFrames_115 (k := 3) rfl (by rw [e11]; rfl) (by decide) rfl ?_
    refine r_goto (tgt := 10) C dX7_endFrames_118 (by decide) ?_
    exact r_loc (by simp) h
  · have h := h.2 c1
    refine r_aload C dX7_endFrames_56 (j := 6) rfl ?_
    refine r_iload C dX7_endFrames_58 (j := 8) rfl ?_
    obtain ⟨n12, g13, h⟩ := h
    obtain ⟨g14, h⟩ := h
    obtain ⟨g15, h⟩ := h
    refine r_aald C (r_atT rfl g13) ⟨rfl, fun _ => rfl⟩ g14 (r_atN g15) dX7_endFrames_60 ?_
    refine r_topa (fun b16 e17 => ?_)
    have h := h b16 e17
    have e17 : b16 = r_gr σ a6 x8.toNatClampNeg := e17
    have g18 := g15; rw [← e17] at g18
    refine r_astore (lv' := [(9, Value.ref (B + b16)), (0, Value.ref (B + a0)), (1, Value.ref (B + a1)), (2, Value.int x2), (3, Value.int x3), (4, Value.ref (B + a4)), (5, Value.ref (B + a5)), (6, Value.ref (B + a6)), (7, Value.int x7), (8, Value.int x8)]) C dX7_endFrames_61 (by decide) rfl ?_
    refine r_aload C dX7_endFrames_63 (j := 0) rfl ?_
    refine r_get (v := .int (r_gi σ b16 2)) C (r_atT rfl g18) fa_X7_82 rfl dX7_endFrames_65 ?_
    refine r_aload C dX7_endFrames_68 (j := 5) rfl ?_
    obtain ⟨g19, h⟩ := h
    refine r_get (v := .int (r_gi σ a4 1)) C (r_atT rfl g19) fa_X7_79 rfl dX7_endFrames_70 ?_
    refine r_iand C dX7_endFrames_73 ?_
    refine r_if_eq (tgt := 100) C dX7_endFrames_74 (by decide) (fun c20 => ?_) (fun c20 => ?_)
    · have h := h.1 c20
      obtain ⟨z21, e22⟩ : ∃ y : Int32, y = x8 + 1 := ⟨_, rfl⟩
      have h := h z21 e22
      refine r_iinc (v := z21) (lv' := [(8, Value.int z21), (9, Value.ref (B + b16)), (0, Value.ref (B + a0)), (1, Value.ref (B + a1)), (2, Value.int x2), (3, Value.int x3), (4, Value.ref (B + a4)), (5, Value.ref (B + a5)), (6, Value.ref (B + a6)), (7, Value.int x7)]) C dX7_endFrames_100 (k := 9) rfl (by rw [e22]; rfl) (by decide) rfl ?_
      refine r_goto (tgt := 49) C dX7_endFrames_103 (by decide) ?_
      exact r_loc (by simp) h
    · have h := h.2 c20
      refine r_aload C dX7_endFrames_77 (j := 6) rfl ?_
      refine r_aload C dX7_endFrames_79 (j := 0) rfl ?_
      refine r_get (v := .int (r_gi σ b16 0)) C (r_atT rfl g18) fa_X7_251 rfl dX7_endFrames_81 ?_
      obtain ⟨g29, h⟩ := h
      obtain ⟨Q23, m24, h⟩ := h
      refine r_callVI (rest := []) C E [Value.int (r_gi σ b16 0)] (r_atT rfl g29) rfl ky_X2_isReceivedAt kl_X7_267 ki_X2_isReceivedAt kx_X2_isReceivedAt ⟨Nat.le_of_ble_eq_true rfl, Nat.le_of_ble_eq_true rfl⟩ ⟨rfl, rfl⟩ m24 rfl rfl (Nat.le_of_ble_eq_true rfl) (Nat.zero_le _) (Nat.zero_le _) dX7_endFrames_84 (fun z27 σ25 s26 q28 => ?_)
      have h := h z27 σ25 q28
      have s26 := s26.trans rfl
      refine r_if_eq (tgt := 100) C dX7_endFrames_87 (by decide) (fun c30 => ?_) (fun c30 => ?_)
      · have h := h.1 c30
        obtain ⟨z31, e32⟩ : ∃ y : Int32, y = x8 + 1 := ⟨_, rfl⟩
        have h := h z31 e32
        refine r_iinc (v := z31) (lv' := [(8, Value.int z31), (9, Value.ref (B + b16)), (0, Value.ref (B + a0)), (1, Value.ref (B + a1)), (2, Value.int x2), (3, Value.int x3), (4, Value.ref (B + a4)), (5, Value.ref (B + a5)), (6, Value.ref (B + a6)), (7, Value.int x7)]) C dX7_endFrames_100 (k := 9) rfl (by rw [e32]; rfl) (by decide) rfl ?_
        refine r_goto (tgt := 49) C dX7_endFrames_103 (by decide) ?_
        exact r_loc (by simp) h
      · have h := h.2 c30
        refine r_aload_n C dX7_endFrames_90 rfl (j := 1) rfl ?_
        refine r_aload C dX7_endFrames_91 (j := 0) rfl ?_
        refine r_aload C dX7_endFrames_93 (j := 5) rfl ?_
        refine r_aload C dX7_endFrames_95 (j := 6) rfl ?_
        obtain ⟨g39, h⟩ := h
        obtain ⟨Q33, m34, h⟩ := h
        refine r_callVV (rest := []) C E [Value.ref (B + b16), Value.ref (B + a4), Value.ref (B + a5)] (r_atT s26 g39) rfl ky_X7_receive kl_X7_270 ki_X7_receive kx_X7_receive ⟨Nat.le_of_ble_eq_true rfl, Nat.le_of_ble_eq_true rfl⟩ ⟨rfl, rfl⟩ m34 rfl rfl (Nat.le_of_ble_eq_true rfl) (Nat.zero_le _) (Nat.zero_le _) dX7_endFrames_97 (fun σ35 s36 q38 => ?_)
        have h := h σ35 q38
        have s36 := s36.trans s26
        obtain ⟨z40, e41⟩ : ∃ y : Int32, y = x8 + 1 := ⟨_, rfl⟩
        have h := h z40 e41
        refine r_iinc (v := z40) (lv' := [(8, Value.int z40), (9, Value.ref (B + b16)), (0, Value.ref (B + a0)), (1, Value.ref (B + a1)), (2, Value.int x2), (3, Value.int x3), (4, Value.ref (B + a4)), (5, Value.ref (B + a5)), (6, Value.ref (B + a6)), (7, Value.int x7)]) C dX7_endFrames_100 (k := 9) rfl (by rw [e41]; rfl) (by decide) rfl ?_
        refine r_goto (tgt := 49) C dX7_endFrames_103 (by decide) ?_
        exact r_loc (by simp) h
theorem w_X7_receive_0 {X : r_X} {w : r_V} {B : Nat} {l : Launch} {Q : r_S → Prop} {σ0 : r_S} (C : r_C X w B 4 cX7_receive RX7) (E : r_E X l tX7_receive) {σ : r_S} (hs : σ.1 = σ0.1) {a0 a1 a2 a3 : Nat}
    (h : r_at σ a0 = some (.inl 7) ∧ (r_at σ a1 = some (.inl 6) ∧ (∀ σ3 : r_S, σ3 = r_ul σ a1 19 (r_gl σ a0 7) → (r_at σ a3 = some (.inl 2) ∧ (((r_gi σ3 a3 1) = (r_gi σ3 a1 0) → (∀ z8 : Int32, z8 = r_gi σ3 a3 0 → ((z8 = 1 → (∃ Q11 : r_S → Prop, r_M l w B tX7_receiveAsk [Value.ref (B + a0), Value.ref (B + a1), Value.ref (B + a2), Value.ref (B + a3)] σ3 (r_QV σ3 Q11) ∧ (∀ σ13 : r_S, Q11 σ13 → (Q σ13)))) ∧ (¬ z8 = 1 → ((z8 = 2 → (∃ Q18 : r_S → Prop, r_M l w B tX7_receiveAnswer [Value.ref (B + a0), Value.ref (B + a1), Value.ref (B + a2)] σ3 (r_QV σ3 Q18) ∧ (∀ σ20 : r_S, Q18 σ20 → (Q σ20)))) ∧ (¬ z8 = 2 → ((z8 = 3 → (∃ Q25 : r_S → Prop, r_M l w B tX7_receiveData [Value.ref (B + a0), Value.ref (B + a1), Value.ref (B + a2), Value.ref (B + a3)] σ3 (r_QV σ3 Q25) ∧ (∀ σ27 : r_S, Q25 σ27 → (Q σ27)))) ∧ (¬ z8 = 3 → ((z8 = 4 → (∃ Q32 : r_S → Prop, r_M l w B tX7_receiveAcknowledge [Value.ref (B + a0), Value.ref (B + a1), Value.ref (B + a2), Value.ref (B + a3)] σ3 (r_QV σ3 Q32) ∧ (∀ σ34 : r_S, Q32 σ34 → (Q σ34)))) ∧ (¬ z8 = 4 → (Q σ3))))))))))) ∧ (¬ (r_gi σ3 a3 1) = (r_gi σ3 a1 0) → (∃ Q38 : Int32 → r_S → Prop, r_M l w B tX2_left [Value.ref (B + a3)] σ3 (r_QI σ3 Q38) ∧ (∀ (z42 : Int32) (σ40 : r_S), Q38 z42 σ40 → (∃ Q44 : Int64 → r_S → Prop, r_M l w B tJ9_max_f86c9 [Value.long (r_gl σ3 a1 8), Value.long (((r_gl σ3 a0 7) + 1) + z42.toInt64)] σ40 (r_QL σ40 Q44) ∧ (∀ (y48 : Int64) (σ46 : r_S), Q44 y48 σ46 → (∀ σ50 : r_S, σ50 = r_ul σ46 a1 8 y48 → (Q σ50)))))))))))) :
    r_W X w B 4 0 0 (r_Z X w B tX7_receive (r_QV σ0 Q)) 0 [(0, Value.ref (B + a0)), (1, Value.ref (B + a1)), (2, Value.ref (B + a2)), (3, Value.ref (B + a3))] [] σ := by
  refine r_aload_n C dX7_receive_0 rfl (j := 1) rfl ?_
  refine r_aload_n C dX7_receive_1 rfl (j := 0) rfl ?_
  obtain ⟨g1, h⟩ := h
  refine r_get (v := .long (r_gl σ a0 7)) C (r_atT rfl g1) fa_X7_50 rfl dX7_receive_2 ?_
  obtain ⟨g2, h⟩ := h
  refine r_putL C (r_atT rfl g2) fa_X7_278 rfl dX7_receive_5 ?_
  refine r_nam (fun σ3 e4 => ?_)
  have h := h σ3 e4
  have s5 : σ3.1 = σ.1 := by rw [e4]; exact rfl
  refine r_aload_n C dX7_receive_8 rfl (j := 3) rfl ?_
  obtain ⟨g6, h⟩ := h
  refine r_get (v := .int (r_gi σ3 a3 1)) C (r_atT s5 g6) fa_X7_281 rfl dX7_receive_9 ?_
  refine r_aload_n C dX7_receive_12 rfl (j := 1) rfl ?_
  refine r_get (v := .int (r_gi σ3 a1 0)) C (r_atT s5 g2) fa_X7_251 rfl dX7_receive_13 ?_
  refine r_icmp_eq (tgt := 43) C dX7_receive_16 (by decide) (fun c7 => ?_) (fun c7 => ?_)
  · have h := h.1 c7
    refine r_aload_n C dX7_receive_43 rfl (j := 3) rfl ?_
    refine r_get (v := .int (r_gi σ3 a3 0)) C (r_atT s5 g6) fa_X7_165 rfl dX7_receive_44 ?_
    refine r_topi (fun z8 e9 => ?_)
    have h := h z8 e9
    by_cases c10 : z8 = 1
    · have h := h.1 c10
      refine r_tableIn (tgt := 76) (off := 29) C dX7_receive_47 (by rw [c10]; decide) (by rw [c10]; decide) (by rw [c10]; rfl) (by decide) ?_
      refine r_aload_n C dX7_receive_76 rfl (j := 0) rfl ?_
      refine r_aload_n C dX7_receive_77 rfl (j := 1) rfl ?_
      refine r_aload_n C dX7_receive_78 rfl (j := 2) rfl ?_
      refine r_aload_n C dX7_receive_79 rfl (j := 3) rfl ?_
      obtain ⟨Q11, m12, h⟩ := h
      refine r_callVV (rest := []) C E [Value.ref (B + a1), Value.ref (B + a2), Value.ref (B + a3)] (r_atT s5 g1) rfl ky_X7_receiveAsk kl_X7_287 ki_X7_receiveAsk kx_X7_receiveAsk ⟨Nat.le_of_ble_eq_true rfl, Nat.le_of_ble_eq_true rfl⟩ ⟨rfl, rfl⟩ m12 rfl rfl (Nat.le_of_ble_eq_true rfl) (Nat.zero_le _) (Nat.zero_le _) dX7_receive_80 (fun σ13 s14 q16 => ?_)
      have h := h σ13 q16
      have s14 := s14.trans s5
      refine r_goto (tgt := 115) C dX7_receive_83 (by decide) ?_
      exact r_vretQ C E rfl (Nat.zero_le _) (Nat.zero_le _) dX7_receive_115 (s14.trans hs) h
    have h := h.2 c10
    have c10 := r_neT c10
    by_cases c17 : z8 = 2
    · have h := h.1 c17
      refine r_tableIn (tgt := 86) (off := 39) C dX7_receive_47 (by rw [c17]; decide) (by rw [c17]; decide) (by rw [c17]; rfl) (by decide) ?_
      refine r_aload_n C dX7_receive_86 rfl (j := 0) rfl ?_
      refine r_aload_n C dX7_receive_87 rfl (j := 1) rfl ?_
      refine r_aload_n C dX7_receive_88 rfl (j := 2) rfl ?_
      obtain ⟨Q18, m19, h⟩ := h
      refine r_callVV (rest := []) C E [Value.ref (B + a1), Value.ref (B + a2)] (r_atT s5 g1) rfl ky_X7_receiveAnswer kl_X7_290 ki_X7_receiveAnswer kx_X7_receiveAnswer ⟨Nat.le_of_ble_eq_true rfl, Nat.le_of_ble_eq_true rfl⟩ ⟨rfl, rfl⟩ m19 rfl rfl (Nat.le_of_ble_eq_true rfl) (Nat.zero_le _) (Nat.zero_le _) dX7_receive_89 (fun σ20 s21 q23 => ?_)
      have h := h σ20 q23
      have s21 := s21.trans s5
      refine r_goto (tgt := 115) C dX7_receive_92 (by decide) ?_
      exact r_vretQ C E rfl (Nat.zero_le _) (Nat.zero_le _) dX7_receive_115 (s21.trans hs) h
    have h := h.2 c17
    have c17 := r_neT c17
    by_cases c24 : z8 = 3
    · have h := h.1 c24
      refine r_tableIn (tgt := 95) (off := 48) C dX7_receive_47 (by rw [c24]; decide) (by rw [c24]; decide) (by rw [c24]; rfl) (by decide) ?_
      refine r_aload_n C dX7_receive_95 rfl (j := 0) rfl ?_
      refine r_aload_n C dX7_receive_96 rfl (j := 1) rfl ?_
      refine r_aload_n C dX7_receive_97 rfl (j := 2) rfl ?_
      refine r_aload_n C dX7_receive_98 rfl (j := 3) rfl ?_
      obtain ⟨Q25, m26, h⟩ := h
      refine r_callVV (rest := []) C E [Value.ref (B + a1), Value.ref (B + a2), Value.ref (B + a3)] (r_atT s5 g1) rfl ky_X7_receiveData kl_X7_294 ki_X7_receiveData kx_X7_receiveData ⟨Nat.le_of_ble_eq_true rfl, Nat.le_of_ble_eq_true rfl⟩ ⟨rfl, rfl⟩ m26 rfl rfl (Nat.le_of_ble_eq_true rfl) (Nat.zero_le _) (Nat.zero_le _) dX7_receive_99 (fun σ27 s28 q30 => ?_)
      have h := h σ27 q30
      have s28 := s28.trans s5
      refine r_goto (tgt := 115) C dX7_receive_102 (by decide) ?_
      exact r_vretQ C E rfl (Nat.zero_le _) (Nat.zero_le _) dX7_receive_115 (s28.trans hs) h
    have h := h.2 c24
    have c24 := r_neT c24
    by_cases c31 : z8 = 4
    · have h := h.1 c31
      refine r_tableIn (tgt := 105) (off := 58) C dX7_receive_47 (by rw [c31]; decide) (by rw [c31]; decide) (by rw [c31]; rfl) (by decide) ?_
      refine r_aload_n C dX7_receive_105 rfl (j := 0) rfl ?_
      refine r_aload_n C dX7_receive_106 rfl (j := 1) rfl ?_
      refine r_aload_n C dX7_receive_107 rfl (j := 2) rfl ?_
      refine r_aload_n C dX7_receive_108 rfl (j := 3) rfl ?_
      obtain ⟨Q32, m33, h⟩ := h
      refine r_callVV (rest := []) C E [Value.ref (B + a1), Value.ref (B + a2), Value.ref (B + a3)] (r_atT s5 g1) rfl ky_X7_receiveAcknowledge kl_X7_297 ki_X7_receiveAcknowledge kx_X7_receiveAcknowledge ⟨Nat.le_of_ble_eq_true rfl, Nat.le_of_ble_eq_true rfl⟩ ⟨rfl, rfl⟩ m33 rfl rfl (Nat.le_of_ble_eq_true rfl) (Nat.zero_le _) (Nat.zero_le _) dX7_receive_109 (fun σ34 s35 q37 => ?_)
      have h := h σ34 q37
      have s35 := s35.trans s5
      refine r_goto (tgt := 115) C dX7_receive_112 (by decide) ?_
      exact r_vretQ C E rfl (Nat.zero_le _) (Nat.zero_le _) dX7_receive_115 (s35.trans hs) h
    have h := h.2 c31
    have c31 := r_neT c31
    refine r_tableOut (tgt := 115) C dX7_receive_47 (by simp at *; omega) (by decide) ?_
    exact r_vretQ C E rfl (Nat.zero_le _) (Nat.zero_le _) dX7_receive_115 (s5.trans hs) h
  · have h := h.2 c7
    refine r_aload_n C dX7_receive_19 rfl (j := 1) rfl ?_
    refine r_aload_n C dX7_receive_20 rfl (j := 1) rfl ?_
    refine r_get (v := .long (r_gl σ3 a1 8)) C (r_atT s5 g2) fa_X7_155 rfl dX7_receive_21 ?_
    refine r_aload_n C dX7_receive_24 rfl (j := 0) rfl ?_
    refine r_get (v := .long (r_gl σ3 a0 7)) C (r_atT s5 g1) fa_X7_50 rfl dX7_receive_25 ?_
    refine r_lconst (v := 1) C dX7_receive_28 (by decide) ?_
    refine r_ladd C dX7_receive_29 ?_
    refine r_aload_n C dX7_receive_30 rfl (j := 3) rfl ?_
    obtain ⟨Q38, m39, h⟩ := h
    refine r_callVI (rest := [Value.long ((r_gl σ3 a0 7) + 1), Value.long (r_gl σ3 a1 8), Value.ref (B + a1)]) C E [] (r_atT s5 g6) rfl ky_X2_left kl_X7_284 ki_X2_left kx_X2_left ⟨Nat.le_of_ble_eq_true rfl, Nat.le_of_ble_eq_true rfl⟩ ⟨rfl, rfl⟩ m39 rfl rfl (Nat.le_of_ble_eq_true rfl) (Nat.zero_le _) (Nat.zero_le _) dX7_receive_31 (fun z42 σ40 s41 q43 => ?_)
    have h := h z42 σ40 q43
    have s41 := s41.trans s5
    refine r_i2l (v := z42.toInt64) C dX7_receive_34 rfl ?_
    refine r_ladd C dX7_receive_35 ?_
    obtain ⟨Q44, m45, h⟩ := h
    refine r_callSL (rest := [Value.ref (B + a1)]) C E [Value.long (r_gl σ3 a1 8), Value.long (((r_gl σ3 a0 7) + 1) + z42.toInt64)] ky_J9_max_f86c9 kl_X7_158 ks_J9_max_f86c9 ⟨Nat.le_of_ble_eq_true rfl, Nat.le_of_ble_eq_true rfl⟩ ⟨rfl, rfl⟩ m45 rfl rfl (Nat.le_of_ble_eq_true rfl) (Nat.zero_le _) (Nat.zero_le _) dX7_receive_36 (fun y48 σ46 s47 q49 => ?_)
    have h := h y48 σ46 q49
    have s47 := s47.trans s41
    refine r_putL C (r_atT s47 g2) fa_X7_155 rfl dX7_receive_39 ?_
    refine r_nam (fun σ50 e51 => ?_)
    have h := h σ50 e51
    have s52 : σ50.1 = σ.1 := by rw [e51]; exact s47
    exact r_vretQ C E rfl (Nat.zero_le _) (Nat.zero_le _) dX7_receive_42 (s52.trans hs) h
theorem w_X7_receiveAsk_0 {X : r_X} {w : r_V} {B : Nat} {l : Launch} {Q : r_S → Prop} {σ0 : r_S} (C : r_C X w B 4 cX7_receiveAsk RX7) (E : r_E X l tX7_receiveAsk) {σ : r_S} (hs : σ.1 = σ0.1) {a0 a1 a2 a3 : Nat}
    (h : r_at σ a1 = some (.inl 6) ∧ (r_at σ a0 = some (.inl 7) ∧ ((((r_gl σ a0 7) + 1) < (r_gl σ a1 8) → (Q σ)) ∧ (¬ ((r_gl σ a0 7) + 1) < (r_gl σ a1 8) → (((r_gi σ a1 9) = 0 → (r_at σ (r_gr σ a1 13) = some (.inl 2) ∧ (((r_gi σ (r_gr σ a1 13) 0) = 0 → (r_at σ a2 = some (.inl 6) ∧ (r_at σ a3 = some (.inl 2) ∧ (∃ Q9 : r_S → Prop, r_M l w B tX2_make [Value.ref (B + (r_gr σ a1 13)), Value.int 2, Value.int (r_gi σ a2 0), Value.int (r_gi σ a3 2)] σ (r_QV σ Q9) ∧ (∀ σ11 : r_S, Q9 σ11 → (∀ σ15 : r_S, σ15 = r_ul σ11 a1 12 ((r_gl σ11 a0 7) + 2) → (Q σ15))))))) ∧ (¬ (r_gi σ (r_gr σ a1 13) 0) = 0 → (Q σ))))) ∧ (¬ (r_gi σ a1 9) = 0 → (Q σ))))))) :
    r_W X w B 4 0 0 (r_Z X w B tX7_receiveAsk (r_QV σ0 Q)) 0 [(0, Value.ref (B + a0)), (1, Value.ref (B + a1)), (2, Value.ref (B + a2)), (3, Value.ref (B + a3))] [] σ := by
  refine r_aload_n C dX7_receiveAsk_0 rfl (j := 1) rfl ?_
  obtain ⟨g1, h⟩ := h
  refine r_get (v := .long (r_gl σ a1 8)) C (r_atT rfl g1) fa_X7_155 rfl dX7_receiveAsk_1 ?_
  refine r_aload_n C dX7_receiveAsk_4 rfl (j := 0) rfl ?_
  obtain ⟨g2, h⟩ := h
  refine r_get (v := .long (r_gl σ a0 7)) C (r_atT rfl g2) fa_X7_50 rfl dX7_receiveAsk_5 ?_
  refine r_lconst (v := 1) C dX7_receiveAsk_8 (by decide) ?_
  refine r_ladd C dX7_receiveAsk_9 ?_
  refine r_lcmp C dX7_receiveAsk_10 ?_
  refine r_if_gt (tgt := 59) C dX7_receiveAsk_11 (by decide) (fun c3 => ?_) (fun c3 => ?_)
  · have h := h.1 (lgc_gt.mp c3)
    exact r_vretQ C E rfl (Nat.zero_le _) (Nat.zero_le _) dX7_receiveAsk_59 ((rfl : σ.1 = σ.1).trans hs) h
  · have h := h.2 (fun q => c3 (lgc_gt.mpr q))
    refine r_aload_n C dX7_receiveAsk_14 rfl (j := 1) rfl ?_
    refine r_get (v := .int (r_gi σ a1 9)) C (r_atT rfl g1) fa_X7_182 rfl dX7_receiveAsk_15 ?_
    refine r_if_ne (tgt := 59) C dX7_receiveAsk_18 (by decide) (fun c4 => ?_) (fun c4 => ?_)
    · have h := h.2 c4
      exact r_vretQ C E rfl (Nat.zero_le _) (Nat.zero_le _) dX7_receiveAsk_59 ((rfl : σ.1 = σ.1).trans hs) h
    · have h := h.1 c4
      refine r_aload_n C dX7_receiveAsk_21 rfl (j := 1) rfl ?_
      obtain ⟨g5, h⟩ := h
      refine r_getR C (r_atT rfl g1) fa_X7_191 rfl (r_atN g5) dX7_receiveAsk_22 ?_
      refine r_get (v := .int (r_gi σ (r_gr σ a1 13) 0)) C (r_atT rfl g5) fa_X7_165 rfl dX7_receiveAsk_25 ?_
      refine r_if_ne (tgt := 59) C dX7_receiveAsk_28 (by decide) (fun c6 => ?_) (fun c6 => ?_)
      · have h := h.2 c6
        exact r_vretQ C E rfl (Nat.zero_le _) (Nat.zero_le _) dX7_receiveAsk_59 ((rfl : σ.1 = σ.1).trans hs) h
      · have h := h.1 c6
        refine r_aload_n C dX7_receiveAsk_31 rfl (j := 1) rfl ?_
        refine r_getR C (r_atT rfl g1) fa_X7_191 rfl (r_atN g5) dX7_receiveAsk_32 ?_
        refine r_iconst (v := 2) C dX7_receiveAsk_35 (by decide) ?_
        refine r_aload_n C dX7_receiveAsk_36 rfl (j := 2) rfl ?_
        obtain ⟨g7, h⟩ := h
        refine r_get (v := .int (r_gi σ a2 0)) C (r_atT rfl g7) fa_X7_251 rfl dX7_receiveAsk_37 ?_
        refine r_aload_n C dX7_receiveAsk_40 rfl (j := 3) rfl ?_
        obtain ⟨g8, h⟩ := h
        refine r_get (v := .int (r_gi σ a3 2)) C (r_atT rfl g8) fa_X7_300 rfl dX7_receiveAsk_41 ?_
        obtain ⟨Q9, m10, h⟩ := h
        refine r_callVV (rest := []) C E [Value.int 2, Value.int (r_gi σ a2 0), Value.int (r_gi σ a3 2)] (r_atT rfl g5) rfl ky_X2_make kl_X7_221 ki_X2_make kx_X2_make ⟨Nat.le_of_ble_eq_true rfl, Nat.le_of_ble_eq_true rfl⟩ ⟨rfl, rfl⟩ m10 rfl rfl (Nat.le_of_ble_eq_true rfl) (Nat.zero_le _) (Nat.zero_le _) dX7_receiveAsk_44 (fun σ11 s12 q14 => ?_)
        have h := h σ11 q14
        have s12 := s12.trans rfl
        refine r_aload_n C dX7_receiveAsk_47 rfl (j := 1) rfl ?_
        refine r_aload_n C dX7_receiveAsk_48 rfl (j := 0) rfl ?_
        refine r_get (v := .long (r_gl σ11 a0 7)) C (r_atT s12 g2) fa_X7_50 rfl dX7_receiveAsk_49 ?_
        refine r_ldc2 (v := 2) C kj_X7_303 dX7_receiveAsk_52 ?_
        refine r_ladd C dX7_receiveAsk_55 ?_
        refine r_putL C (r_atT s12 g1) fa_X7_194 rfl dX7_receiveAsk_56 ?_
        refine r_nam (fun σ15 e16 => ?_)
        have h := h σ15 e16
        have s17 : σ15.1 = σ.1 := by rw [e16]; exact s12
        exact r_vretQ C E rfl (Nat.zero_le _) (Nat.zero_le _) dX7_receiveAsk_59 (s17.trans hs) h
theorem w_X7_receiveAnswer_0 {X : r_X} {w : r_V} {B : Nat} {l : Launch} {Q : r_S → Prop} {σ0 : r_S} (C : r_C X w B 3 cX7_receiveAnswer RX7) (E : r_E X l tX7_receiveAnswer) {σ : r_S} (hs : σ.1 = σ0.1) {a0 a1 a2 : Nat}
    (h : r_at σ a2 = some (.inl 6) ∧ (r_at σ a1 = some (.inl 6) ∧ (∃ Q2 : Int32 → r_S → Prop, r_M l w B tX6_waitsFor [Value.ref (B + a1), Value.int 2, Value.int (r_gi σ a2 0)] σ (r_QI σ Q2) ∧ (∀ (z6 : Int32) (σ4 : r_S), Q2 z6 σ4 → ((z6 = 0 → (Q σ4)) ∧ (¬ z6 = 0 → (∀ σ10 : r_S, σ10 = r_ui σ4 a1 9 0 → (r_at σ (r_gr σ10 a1 13) = some (.inl 2) ∧ (r_at σ a0 = some (.inl 7) ∧ (r_at σ (r_gr σ10 a0 2) = some (.inl 4) ∧ (r_at σ (r_gr σ10 a1 16) = some (.inl 5) ∧ (∃ Q17 : Int32 → r_S → Prop, r_M l w B tX4_dataSlotsOf [Value.ref (B + (r_gr σ10 a0 2)), Value.ref (B + (r_gr σ10 a1 16))] σ10 (r_QI σ10 Q17) ∧ (∀ (z21 : Int32) (σ19 : r_S), Q17 z21 σ19 → (∃ Q23 : r_S → Prop, r_M l w B tX2_make [Value.ref (B + (r_gr σ10 a1 13)), Value.int 3, Value.int (r_gi σ10 a2 0), Value.int z21] σ19 (r_QV σ19 Q23) ∧ (∀ σ25 : r_S, Q23 σ25 → (r_at σ (r_gr σ25 a1 13) = some (.inl 2) ∧ (r_at σ (r_gr σ25 (r_gr σ25 a1 13) 4) = some (.inl 5) ∧ (r_at σ (r_gr σ25 a1 16) = some (.inl 5) ∧ (∃ Q32 : r_S → Prop, r_M l w B tX5_copy [Value.ref (B + (r_gr σ25 (r_gr σ25 a1 13) 4)), Value.ref (B + (r_gr σ25 a1 16))] σ25 (r_QV σ25 Q32) ∧ (∀ σ34 : r_S, Q32 σ34 → (∀ σ38 : r_S, σ38 = r_ul σ34 a1 12 ((r_gl σ34 a0 7) + 2) → (Q σ38)))))))))))))))))))))) :
    r_W X w B 3 0 0 (r_Z X w B tX7_receiveAnswer (r_QV σ0 Q)) 0 [(0, Value.ref (B + a0)), (1, Value.ref (B + a1)), (2, Value.ref (B + a2))] [] σ := by
  refine r_aload_n C dX7_receiveAnswer_0 rfl (j := 1) rfl ?_
  refine r_iconst (v := 2) C dX7_receiveAnswer_1 (by decide) ?_
  refine r_aload_n C dX7_receiveAnswer_2 rfl (j := 2) rfl ?_
  obtain ⟨g1, h⟩ := h
  refine r_get (v := .int (r_gi σ a2 0)) C (r_atT rfl g1) fa_X7_251 rfl dX7_receiveAnswer_3 ?_
  obtain ⟨g8, h⟩ := h
  obtain ⟨Q2, m3, h⟩ := h
  refine r_callVI (rest := []) C E [Value.int 2, Value.int (r_gi σ a2 0)] (r_atT rfl g8) rfl ky_X6_waitsFor kl_X7_305 ki_X6_waitsFor kx_X6_waitsFor ⟨Nat.le_of_ble_eq_true rfl, Nat.le_of_ble_eq_true rfl⟩ ⟨rfl, rfl⟩ m3 rfl rfl (Nat.le_of_ble_eq_true rfl) (Nat.zero_le _) (Nat.zero_le _) dX7_receiveAnswer_6 (fun z6 σ4 s5 q7 => ?_)
  have h := h z6 σ4 q7
  have s5 := s5.trans rfl
  refine r_if_eq (tgt := 66) C dX7_receiveAnswer_9 (by decide) (fun c9 => ?_) (fun c9 => ?_)
  · have h := h.1 c9
    exact r_vretQ C E rfl (Nat.zero_le _) (Nat.zero_le _) dX7_receiveAnswer_66 (s5.trans hs) h
  · have h := h.2 c9
    refine r_aload_n C dX7_receiveAnswer_12 rfl (j := 1) rfl ?_
    refine r_iconst (v := 0) C dX7_receiveAnswer_13 (by decide) ?_
    refine r_putI C (r_atT s5 g8) fa_X7_182 rfl rfl rfl dX7_receiveAnswer_14 ?_
    refine r_nam (fun σ10 e11 => ?_)
    have h := h σ10 e11
    have s12 : σ10.1 = σ.1 := by rw [e11]; exact s5
    refine r_aload_n C dX7_receiveAnswer_17 rfl (j := 1) rfl ?_
    obtain ⟨g13, h⟩ := h
    refine r_getR C (r_atT s12 g8) fa_X7_191 rfl (r_atN g13) dX7_receiveAnswer_18 ?_
    refine r_iconst (v := 3) C dX7_receiveAnswer_21 (by decide) ?_
    refine r_aload_n C dX7_receiveAnswer_22 rfl (j := 2) rfl ?_
    refine r_get (v := .int (r_gi σ10 a2 0)) C (r_atT s12 g1) fa_X7_251 rfl dX7_receiveAnswer_23 ?_
    refine r_aload_n C dX7_receiveAnswer_26 rfl (j := 0) rfl ?_
    obtain ⟨g14, h⟩ := h
    obtain ⟨g15, h⟩ := h
    refine r_getR C (r_atT s12 g14) fa_X7_19 rfl (r_atN g15) dX7_receiveAnswer_27 ?_
    refine r_aload_n C dX7_receiveAnswer_30 rfl (j := 1) rfl ?_
    obtain ⟨g16, h⟩ := h
    refine r_getR C (r_atT s12 g8) fa_X7_207 rfl (r_atN g16) dX7_receiveAnswer_31 ?_
    obtain ⟨Q17, m18, h⟩ := h
    refine r_callVI (rest := [Value.int (r_gi σ10 a2 0), Value.int 3, Value.ref (B + (r_gr σ10 a1 13))]) C E [Value.ref (B + (r_gr σ10 a1 16))] (r_atT s12 g15) rfl ky_X4_dataSlotsOf kl_X7_218 ki_X4_dataSlotsOf kx_X4_dataSlotsOf ⟨Nat.le_of_ble_eq_true rfl, Nat.le_of_ble_eq_true rfl⟩ ⟨rfl, rfl⟩ m18 rfl rfl (Nat.le_of_ble_eq_true rfl) (Nat.zero_le _) (Nat.zero_le _) dX7_receiveAnswer_34 (fun z21 σ19 s20 q22 => ?_)
    have h := h z21 σ19 q22
    have s20 := s20.trans s12
    obtain ⟨Q23, m24, h⟩ := h
    refine r_callVV (rest := []) C E [Value.int 3, Value.int (r_gi σ10 a2 0), Value.int z21] (r_atT s20 g13) rfl ky_X2_make kl_X7_221 ki_X2_make kx_X2_make ⟨Nat.le_of_ble_eq_true rfl, Nat.le_of_ble_eq_true rfl⟩ ⟨rfl, rfl⟩ m24 rfl rfl (Nat.le_of_ble_eq_true rfl) (Nat.zero_le _) (Nat.zero_le _) dX7_receiveAnswer_37 (fun σ25 s26 q28 => ?_)
    have h := h σ25 q28
    have s26 := s26.trans s20
    refine r_aload_n C dX7_receiveAnswer_40 rfl (j := 1) rfl ?_
    obtain ⟨g29, h⟩ := h
    refine r_getR C (r_atT s26 g8) fa_X7_191 rfl (r_atN g29) dX7_receiveAnswer_41 ?_
    obtain ⟨g30, h⟩ := h
    refine r_getR C (r_atT s26 g29) fa_X7_225 rfl (r_atN g30) dX7_receiveAnswer_44 ?_
    refine r_aload_n C dX7_receiveAnswer_47 rfl (j := 1) rfl ?_
    obtain ⟨g31, h⟩ := h
    refine r_getR C (r_atT s26 g8) fa_X7_207 rfl (r_atN g31) dX7_receiveAnswer_48 ?_
    obtain ⟨Q32, m33, h⟩ := h
    refine r_callVV (rest := []) C E [Value.ref (B + (r_gr σ25 a1 16))] (r_atT s26 g30) rfl ky_X5_copy kl_X7_228 ki_X5_copy kx_X5_copy ⟨Nat.le_of_ble_eq_true rfl, Nat.le_of_ble_eq_true rfl⟩ ⟨rfl, rfl⟩ m33 rfl rfl (Nat.le_of_ble_eq_true rfl) (Nat.zero_le _) (Nat.zero_le _) dX7_receiveAnswer_51 (fun σ34 s35 q37 => ?_)
    have h := h σ34 q37
    have s35 := s35.trans s26
    refine r_aload_n C dX7_receiveAnswer_54 rfl (j := 1) rfl ?_
    refine r_aload_n C dX7_receiveAnswer_55 rfl (j := 0) rfl ?_
    refine r_get (v := .long (r_gl σ34 a0 7)) C (r_atT s35 g14) fa_X7_50 rfl dX7_receiveAnswer_56 ?_
    refine r_ldc2 (v := 2) C kj_X7_303 dX7_receiveAnswer_59 ?_
    refine r_ladd C dX7_receiveAnswer_62 ?_
    refine r_putL C (r_atT s35 g8) fa_X7_194 rfl dX7_receiveAnswer_63 ?_
    refine r_nam (fun σ38 e39 => ?_)
    have h := h σ38 e39
    have s40 : σ38.1 = σ.1 := by rw [e39]; exact s35
    exact r_vretQ C E rfl (Nat.zero_le _) (Nat.zero_le _) dX7_receiveAnswer_66 (s40.trans hs) h
theorem w_X7_receiveData_0 {X : r_X} {w : r_V} {B : Nat} {l : Launch} {Q : r_S → Prop} {σ0 : r_S} (C : r_C X w B 4 cX7_receiveData RX7) (E : r_E X l tX7_receiveData) {σ : r_S} (hs : σ.1 = σ0.1) {a0 a1 a2 a3 : Nat}
    (h : r_at σ a0 = some (.inl 7) ∧ (r_at σ (r_gr σ a0 2) = some (.inl 4) ∧ (r_at σ a1 = some (.inl 6) ∧ (r_at σ (r_gr σ a0 5) = some (.inl 5) ∧ (∃ Q5 : r_S → Prop, r_M l w B tX4_copyGood [Value.ref (B + (r_gr σ a0 2)), Value.ref (B + a3), Value.int (r_gi σ a1 0), Value.ref (B + (r_gr σ a0 5))] σ (r_QV σ Q5) ∧ (∀ σ7 : r_S, Q5 σ7 → (r_at σ (r_gr σ7 a0 2) = some (.inl 4) ∧ (r_at σ a2 = some (.inl 6) ∧ (∃ Q13 : Int32 → r_S → Prop, r_M l w B tX4_pairOf [Value.ref (B + (r_gr σ7 a0 2)), Value.int (r_gi σ7 a2 0), Value.int (r_gi σ7 a1 0)] σ7 (r_QI σ7 Q13) ∧ (∀ (z17 : Int32) (σ15 : r_S), Q13 z17 σ15 → (r_at σ a3 = some (.inl 2) ∧ (r_at σ (r_gr σ15 a3 4) = some (.inl 5) ∧ (∃ Q21 : r_S → Prop, r_M l w B tX7_takePayloads [Value.ref (B + a0), Value.int z17, Value.ref (B + (r_gr σ15 a3 4))] σ15 (r_QV σ15 Q21) ∧ (∀ σ23 : r_S, Q21 σ23 → ((((r_gi σ23 a0 8) &&& (r_gi σ23 a1 1)) = 0 → (r_at σ (r_gr σ23 a1 13) = some (.inl 2) ∧ (((r_gi σ23 (r_gr σ23 a1 13) 0) = 0 → (∃ Q30 : r_S → Prop, r_M l w B tX2_make [Value.ref (B + (r_gr σ23 a1 13)), Value.int 4, Value.int (r_gi σ23 a2 0), Value.int 0] σ23 (r_QV σ23 Q30) ∧ (∀ σ32 : r_S, Q30 σ32 → (r_at σ (r_gr σ32 a1 13) = some (.inl 2) ∧ (r_at σ (r_gr σ32 (r_gr σ32 a1 13) 4) = some (.inl 5) ∧ (r_at σ (r_gr σ32 a0 5) = some (.inl 5) ∧ (∃ Q39 : r_S → Prop, r_M l w B tX5_copy [Value.ref (B + (r_gr σ32 (r_gr σ32 a1 13) 4)), Value.ref (B + (r_gr σ32 a0 5))] σ32 (r_QV σ32 Q39) ∧ (∀ σ41 : r_S, Q39 σ41 → (∀ σ45 : r_S, σ45 = r_ul σ41 a1 12 ((r_gl σ41 a0 7) + 2) → (Q σ45)))))))))) ∧ (¬ (r_gi σ23 (r_gr σ23 a1 13) 0) = 0 → (Q σ23))))) ∧ (¬ ((r_gi σ23 a0 8) &&& (r_gi σ23 a1 1)) = 0 → (Q σ23))))))))))))))))) :
    r_W X w B 4 0 0 (r_Z X w B tX7_receiveData (r_QV σ0 Q)) 0 [(0, Value.ref (B + a0)), (1, Value.ref (B + a1)), (2, Value.ref (B + a2)), (3, Value.ref (B + a3))] [] σ := by
  refine r_aload_n C dX7_receiveData_0 rfl (j := 0) rfl ?_
  obtain ⟨g1, h⟩ := h
  obtain ⟨g2, h⟩ := h
  refine r_getR C (r_atT rfl g1) fa_X7_19 rfl (r_atN g2) dX7_receiveData_1 ?_
  refine r_aload_n C dX7_receiveData_4 rfl (j := 3) rfl ?_
  refine r_aload_n C dX7_receiveData_5 rfl (j := 1) rfl ?_
  obtain ⟨g3, h⟩ := h
  refine r_get (v := .int (r_gi σ a1 0)) C (r_atT rfl g3) fa_X7_251 rfl dX7_receiveData_6 ?_
  refine r_aload_n C dX7_receiveData_9 rfl (j := 0) rfl ?_
  obtain ⟨g4, h⟩ := h
  refine r_getR C (r_atT rfl g1) fa_X7_42 rfl (r_atN g4) dX7_receiveData_10 ?_
  obtain ⟨Q5, m6, h⟩ := h
  refine r_callVV (rest := []) C E [Value.ref (B + a3), Value.int (r_gi σ a1 0), Value.ref (B + (r_gr σ a0 5))] (r_atT rfl g2) rfl ky_X4_copyGood kl_X7_309 ki_X4_copyGood kx_X4_copyGood ⟨Nat.le_of_ble_eq_true rfl, Nat.le_of_ble_eq_true rfl⟩ ⟨rfl, rfl⟩ m6 rfl rfl (Nat.le_of_ble_eq_true rfl) (Nat.zero_le _) (Nat.zero_le _) dX7_receiveData_13 (fun σ7 s8 q10 => ?_)
  have h := h σ7 q10
  have s8 := s8.trans rfl
  refine r_aload_n C dX7_receiveData_16 rfl (j := 0) rfl ?_
  refine r_aload_n C dX7_receiveData_17 rfl (j := 0) rfl ?_
  obtain ⟨g11, h⟩ := h
  refine r_getR C (r_atT s8 g1) fa_X7_19 rfl (r_atN g11) dX7_receiveData_18 ?_
  refine r_aload_n C dX7_receiveData_21 rfl (j := 2) rfl ?_
  obtain ⟨g12, h⟩ := h
  refine r_get (v := .int (r_gi σ7 a2 0)) C (r_atT s8 g12) fa_X7_251 rfl dX7_receiveData_22 ?_
  refine r_aload_n C dX7_receiveData_25 rfl (j := 1) rfl ?_
  refine r_get (v := .int (r_gi σ7 a1 0)) C (r_atT s8 g3) fa_X7_251 rfl dX7_receiveData_26 ?_
  obtain ⟨Q13, m14, h⟩ := h
  refine r_callVI (rest := [Value.ref (B + a0)]) C E [Value.int (r_gi σ7 a2 0), Value.int (r_gi σ7 a1 0)] (r_atT s8 g11) rfl ky_X4_pairOf kl_X7_313 ki_X4_pairOf kx_X4_pairOf ⟨Nat.le_of_ble_eq_true rfl, Nat.le_of_ble_eq_true rfl⟩ ⟨rfl, rfl⟩ m14 rfl rfl (Nat.le_of_ble_eq_true rfl) (Nat.zero_le _) (Nat.zero_le _) dX7_receiveData_29 (fun z17 σ15 s16 q18 => ?_)
  have h := h z17 σ15 q18
  have s16 := s16.trans s8
  refine r_aload_n C dX7_receiveData_32 rfl (j := 3) rfl ?_
  obtain ⟨g19, h⟩ := h
  obtain ⟨g20, h⟩ := h
  refine r_getR C (r_atT s16 g19) fa_X7_225 rfl (r_atN g20) dX7_receiveData_33 ?_
  obtain ⟨Q21, m22, h⟩ := h
  refine r_callVV (rest := []) C E [Value.int z17, Value.ref (B + (r_gr σ15 a3 4))] (r_atT s16 g1) rfl ky_X7_takePayloads kl_X7_316 ki_X7_takePayloads kx_X7_takePayloads ⟨Nat.le_of_ble_eq_true rfl, Nat.le_of_ble_eq_true rfl⟩ ⟨rfl, rfl⟩ m22 rfl rfl (Nat.le_of_ble_eq_true rfl) (Nat.zero_le _) (Nat.zero_le _) dX7_receiveData_36 (fun σ23 s24 q26 => ?_)
  have h := h σ23 q26
  have s24 := s24.trans s16
  refine r_aload_n C dX7_receiveData_39 rfl (j := 0) rfl ?_
  refine r_get (v := .int (r_gi σ23 a0 8)) C (r_atT s24 g1) fa_X7_54 rfl dX7_receiveData_40 ?_
  refine r_aload_n C dX7_receiveData_43 rfl (j := 1) rfl ?_
  refine r_get (v := .int (r_gi σ23 a1 1)) C (r_atT s24 g3) fa_X7_79 rfl dX7_receiveData_44 ?_
  refine r_iand C dX7_receiveData_47 ?_
  refine r_if_ne (tgt := 100) C dX7_receiveData_48 (by decide) (fun c27 => ?_) (fun c27 => ?_)
  · have h := h.2 c27
    exact r_vretQ C E rfl (Nat.zero_le _) (Nat.zero_le _) dX7_receiveData_100 (s24.trans hs) h
  · have h := h.1 c27
    refine r_aload_n C dX7_receiveData_51 rfl (j := 1) rfl ?_
    obtain ⟨g28, h⟩ := h
    refine r_getR C (r_atT s24 g3) fa_X7_191 rfl (r_atN g28) dX7_receiveData_52 ?_
    refine r_get (v := .int (r_gi σ23 (r_gr σ23 a1 13) 0)) C (r_atT s24 g28) fa_X7_165 rfl dX7_receiveData_55 ?_
    refine r_if_ne (tgt := 100) C dX7_receiveData_58 (by decide) (fun c29 => ?_) (fun c29 => ?_)
    · have h := h.2 c29
      exact r_vretQ C E rfl (Nat.zero_le _) (Nat.zero_le _) dX7_receiveData_100 (s24.trans hs) h
    · have h := h.1 c29
      refine r_aload_n C dX7_receiveData_61 rfl (j := 1) rfl ?_
      refine r_getR C (r_atT s24 g3) fa_X7_191 rfl (r_atN g28) dX7_receiveData_62 ?_
      refine r_iconst (v := 4) C dX7_receiveData_65 (by decide) ?_
      refine r_aload_n C dX7_receiveData_66 rfl (j := 2) rfl ?_
      refine r_get (v := .int (r_gi σ23 a2 0)) C (r_atT s24 g12) fa_X7_251 rfl dX7_receiveData_67 ?_
      refine r_iconst (v := 0) C dX7_receiveData_70 (by decide) ?_
      obtain ⟨Q30, m31, h⟩ := h
      refine r_callVV (rest := []) C E [Value.int 4, Value.int (r_gi σ23 a2 0), Value.int 0] (r_atT s24 g28) rfl ky_X2_make kl_X7_221 ki_X2_make kx_X2_make ⟨Nat.le_of_ble_eq_true rfl, Nat.le_of_ble_eq_true rfl⟩ ⟨rfl, rfl⟩ m31 rfl rfl (Nat.le_of_ble_eq_true rfl) (Nat.zero_le _) (Nat.zero_le _) dX7_receiveData_71 (fun σ32 s33 q35 => ?_)
      have h := h σ32 q35
      have s33 := s33.trans s24
      refine r_aload_n C dX7_receiveData_74 rfl (j := 1) rfl ?_
      obtain ⟨g36, h⟩ := h
      refine r_getR C (r_atT s33 g3) fa_X7_191 rfl (r_atN g36) dX7_receiveData_75 ?_
      obtain ⟨g37, h⟩ := h
      refine r_getR C (r_atT s33 g36) fa_X7_225 rfl (r_atN g37) dX7_receiveData_78 ?_
      refine r_aload_n C dX7_receiveData_81 rfl (j := 0) rfl ?_
      obtain ⟨g38, h⟩ := h
      refine r_getR C (r_atT s33 g1) fa_X7_42 rfl (r_atN g38) dX7_receiveData_82 ?_
      obtain ⟨Q39, m40, h⟩ := h
      refine r_callVV (rest := []) C E [Value.ref (B + (r_gr σ32 a0 5))] (r_atT s33 g37) rfl ky_X5_copy kl_X7_228 ki_X5_copy kx_X5_copy ⟨Nat.le_of_ble_eq_true rfl, Nat.le_of_ble_eq_true rfl⟩ ⟨rfl, rfl⟩ m40 rfl rfl (Nat.le_of_ble_eq_true rfl) (Nat.zero_le _) (Nat.zero_le _) dX7_receiveData_85 (fun σ41 s42 q44 => ?_)
      have h := h σ41 q44
      have s42 := s42.trans s33
      refine r_aload_n C dX7_receiveData_88 rfl (j := 1) rfl ?_
      refine r_aload_n C dX7_receiveData_89 rfl (j := 0) rfl ?_
      refine r_get (v := .long (r_gl σ41 a0 7)) C (r_atT s42 g1) fa_X7_50 rfl dX7_receiveData_90 ?_
      refine r_ldc2 (v := 2) C kj_X7_303 dX7_receiveData_93 ?_
      refine r_ladd C dX7_receiveData_96 ?_
      refine r_putL C (r_atT s42 g3) fa_X7_194 rfl dX7_receiveData_97 ?_
      refine r_nam (fun σ45 e46 => ?_)
      have h := h σ45 e46
      have s47 : σ45.1 = σ.1 := by rw [e46]; exact s42
      exact r_vretQ C E rfl (Nat.zero_le _) (Nat.zero_le _) dX7_receiveData_100 (s47.trans hs) h
theorem w_X7_receiveAcknowledge_0 {X : r_X} {w : r_V} {B : Nat} {l : Launch} {Q : r_S → Prop} {σ0 : r_S} (C : r_C X w B 6 cX7_receiveAcknowledge RX7) (E : r_E X l tX7_receiveAcknowledge) {σ : r_S} (hs : σ.1 = σ0.1) {a0 a1 a2 a3 : Nat}
    (h : r_at σ a2 = some (.inl 6) ∧ (r_at σ a1 = some (.inl 6) ∧ (∃ Q2 : Int32 → r_S → Prop, r_M l w B tX6_waitsFor [Value.ref (B + a1), Value.int 4, Value.int (r_gi σ a2 0)] σ (r_QI σ Q2) ∧ (∀ (z6 : Int32) (σ4 : r_S), Q2 z6 σ4 → ((z6 = 0 → (Q σ4)) ∧ (¬ z6 = 0 → (r_at σ a3 = some (.inl 2) ∧ (r_at σ (r_gr σ4 a3 4) = some (.inl 5) ∧ (∀ b12 : Nat, b12 = r_gr σ4 a3 4 → (((r_gi σ4 b12 1) = 0 → (r_at σ a0 = some (.inl 7) ∧ (∃ Q25 : r_S → Prop, r_M l w B tX7_failAttempt [Value.ref (B + a0), Value.ref (B + a1)] σ4 (r_QV σ4 Q25) ∧ (∀ σ27 : r_S, Q25 σ27 → (Q σ27))))) ∧ (¬ (r_gi σ4 b12 1) = 0 → (∀ σ16 : r_S, σ16 = r_ui σ4 a1 9 0 → (∃ Q19 : r_S → Prop, r_M l w B tX6_startAnew [Value.ref (B + a1)] σ16 (r_QV σ16 Q19) ∧ (∀ σ21 : r_S, Q19 σ21 → (r_W X w B 6 0 0 (r_Z X w B tX7_receiveAcknowledge (r_QV σ0 Q)) 45 [(0, Value.ref (B + a0)), (1, Value.ref (B + a1)), (4, Value.ref (B + b12)), (5, Value.int 0)] [] σ21))))))))))))))) :
    r_W X w B 6 0 0 (r_Z X w B tX7_receiveAcknowledge (r_QV σ0 Q)) 0 [(0, Value.ref (B + a0)), (1, Value.ref (B + a1)), (2, Value.ref (B + a2)), (3, Value.ref (B + a3))] [] σ := by
  refine r_aload_n C dX7_receiveAcknowledge_0 rfl (j := 1) rfl ?_
  refine r_iconst (v := 4) C dX7_receiveAcknowledge_1 (by decide) ?_
  refine r_aload_n C dX7_receiveAcknowledge_2 rfl (j := 2) rfl ?_
  obtain ⟨g1, h⟩ := h
  refine r_get (v := .int (r_gi σ a2 0)) C (r_atT rfl g1) fa_X7_251 rfl dX7_receiveAcknowledge_3 ?_
  obtain ⟨g8, h⟩ := h
  obtain ⟨Q2, m3, h⟩ := h
  refine r_callVI (rest := []) C E [Value.int 4, Value.int (r_gi σ a2 0)] (r_atT rfl g8) rfl ky_X6_waitsFor kl_X7_305 ki_X6_waitsFor kx_X6_waitsFor ⟨Nat.le_of_ble_eq_true rfl, Nat.le_of_ble_eq_true rfl⟩ ⟨rfl, rfl⟩ m3 rfl rfl (Nat.le_of_ble_eq_true rfl) (Nat.zero_le _) (Nat.zero_le _) dX7_receiveAcknowledge_6 (fun z6 σ4 s5 q7 => ?_)
  have h := h z6 σ4 q7
  have s5 := s5.trans rfl
  refine r_if_ne (tgt := 13) C dX7_receiveAcknowledge_9 (by decide) (fun c9 => ?_) (fun c9 => ?_)
  · have h := h.2 c9
    refine r_aload_n C dX7_receiveAcknowledge_13 rfl (j := 3) rfl ?_
    obtain ⟨g10, h⟩ := h
    obtain ⟨g11, h⟩ := h
    refine r_getR C (r_atT s5 g10) fa_X7_225 rfl (r_atN g11) dX7_receiveAcknowledge_14 ?_
    refine r_topa (fun b12 e13 => ?_)
    have h := h b12 e13
    have e13 : b12 = r_gr σ4 a3 4 := e13
    have g14 := g11; rw [← e13] at g14
    refine r_astore (lv' := [(4, Value.ref (B + b12)), (0, Value.ref (B + a0)), (1, Value.ref (B + a1)), (2, Value.ref (B + a2)), (3, Value.ref (B + a3))]) C dX7_receiveAcknowledge_17 (by decide) rfl ?_
    refine r_aload C dX7_receiveAcknowledge_19 (j := 0) rfl ?_
    refine r_get (v := .int (r_gi σ4 b12 1)) C (r_atT s5 g14) fa_X7_103 rfl dX7_receiveAcknowledge_21 ?_
    refine r_if_ne (tgt := 33) C dX7_receiveAcknowledge_24 (by decide) (fun c15 => ?_) (fun c15 => ?_)
    · have h := h.2 c15
      refine r_aload_n C dX7_receiveAcknowledge_33 rfl (j := 2) rfl ?_
      refine r_iconst (v := 0) C dX7_receiveAcknowledge_34 (by decide) ?_
      refine r_putI C (r_atT s5 g8) fa_X7_182 rfl rfl rfl dX7_receiveAcknowledge_35 ?_
      refine r_nam (fun σ16 e17 => ?_)
      have h := h σ16 e17
      have s18 : σ16.1 = σ.1 := by rw [e17]; exact s5
      refine r_aload_n C dX7_receiveAcknowledge_38 rfl (j := 2) rfl ?_
      obtain ⟨Q19, m20, h⟩ := h
      refine r_callVV (rest := []) C E [] (r_atT s18 g8) rfl ky_X6_startAnew kl_X7_244 ki_X6_startAnew kx_X6_startAnew ⟨Nat.le_of_ble_eq_true rfl, Nat.le_of_ble_eq_true rfl⟩ ⟨rfl, rfl⟩ m20 rfl rfl (Nat.le_of_ble_eq_true rfl) (Nat.zero_le _) (Nat.zero_le _) dX7_receiveAcknowledge_39 (fun σ21 s22 q24 => ?_)
      have h := h σ21 q24
      have s22 := s22.trans s18
      refine r_iconst (v := 0) C dX7_receiveAcknowledge_42 (by decide) ?_
      refine r_istore (lv' := [(5, Value.int 0), (4, Value.ref (B + b12)), (0, Value.ref (B + a0)), (1, Value.ref (B + a1)), (2, Value.ref (B + a2)), (3, Value.ref (B + a3))]) C dX7_receiveAcknowledge_43 (by decide) rfl ?_
      exact r_loc (by simp) h
    · have h := h.1 c15
      refine r_aload_n C dX7_receiveAcknowledge_27 rfl (j := 1) rfl ?_
      refine r_aload_n C dX7_receiveAcknowledge_28 rfl (j := 2) rfl ?_
      obtain ⟨g31, h⟩ := h
      obtain ⟨Q25, m26, h⟩ := h
      refine r_callVV (rest := []) C E [Value.ref (B + a1)] (r_atT s5 g31) rfl ky_X7_failAttempt kl_X7_188 ki_X7_failAttempt kx_X7_failAttempt ⟨Nat.le_of_ble_eq_true rfl, Nat.le_of_ble_eq_true rfl⟩ ⟨rfl, rfl⟩ m26 rfl rfl (Nat.le_of_ble_eq_true rfl) (Nat.zero_le _) (Nat.zero_le _) dX7_receiveAcknowledge_29 (fun σ27 s28 q30 => ?_)
      have h := h σ27 q30
      have s28 := s28.trans s5
      exact r_vretQ C E rfl (Nat.zero_le _) (Nat.zero_le _) dX7_receiveAcknowledge_32 (s28.trans hs) h
  · have h := h.1 c9
    exact r_vretQ C E rfl (Nat.zero_le _) (Nat.zero_le _) dX7_receiveAcknowledge_12 (s5.trans hs) h
theorem w_X7_receiveAcknowledge_45 {X : r_X} {w : r_V} {B : Nat} {l : Launch} {Q : r_S → Prop} {σ0 : r_S} (C : r_C X w B 6 cX7_receiveAcknowledge RX7) (E : r_E X l tX7_receiveAcknowledge) {σ : r_S} (hs : σ.1 = σ0.1) {a0 a1 a4 : Nat} {x5 : Int32}
    (h : r_at σ a4 = some (.inl 5) ∧ (((r_gi σ a4 1) ≤ x5 → (r_at σ a1 = some (.inl 6) ∧ (r_at σ (r_gr σ a1 15) = some (.inl 5) ∧ (((r_gi σ (r_gr σ a1 15) 1) ≤ 0 → (Q σ)) ∧ (¬ (r_gi σ (r_gr σ a1 15) 1) ≤ 0 → (r_at σ a0 = some (.inl 7) ∧ (∃ Q6 : r_S → Prop, r_M l w B tX7_drawCount [Value.ref (B + a0), Value.ref (B + a1)] σ (r_QV σ Q6) ∧ (∀ σ8 : r_S, Q6 σ8 → (Q σ8))))))))) ∧ (¬ (r_gi σ a4 1) ≤ x5 → (r_at σ a1 = some (.inl 6) ∧ (r_at σ (r_gr σ a1 15) = some (.inl 5) ∧ (∃ Q15 : Int32 → r_S → Prop, r_M l w B tX5_get [Value.ref (B + a4), Value.int x5] σ (r_QI σ Q15) ∧ (∀ (z19 : Int32) (σ17 : r_S), Q15 z19 σ17 → (∃ Q21 : r_S → Prop, r_M l w B tX5_drop [Value.ref (B + (r_gr σ a1 15)), Value.int z19] σ17 (r_QV σ17 Q21) ∧ (∀ σ23 : r_S, Q21 σ23 → (r_at σ a0 = some (.inl 7) ∧ (r_at σ (r_gr σ23 a0 4) = some (.inl 1) ∧ (∃ Q29 : Int32 → r_S → Prop, r_M l w B tX5_get [Value.ref (B + a4), Value.int x5] σ23 (r_QI σ23 Q29) ∧ (∀ (z33 : Int32) (σ31 : r_S), Q29 z33 σ31 → (∃ Q35 : r_S → Prop, r_M l w B tX1_add [Value.ref (B + (r_gr σ23 a0 4)), Value.int z33, Value.int 3, Value.long (r_gl σ31 a0 7)] σ31 (r_QV σ31 Q35) ∧ (∀ σ37 : r_S, Q35 σ37 → (∀ z41 : Int32, z41 = x5 + 1 → (r_W X w B 6 0 0 (r_Z X w B tX7_receiveAcknowledge (r_QV σ0 Q)) 45 [(0, Value.ref (B + a0)), (1, Value.ref (B + a1)), (4, Value.ref (B + a4)), (5, Value.int z41)] [] σ37))))))))))))))))) :
    r_W X w B 6 0 0 (r_Z X w B tX7_receiveAcknowledge (r_QV σ0 Q)) 45 [(0, Value.ref (B + a0)), (1, Value.ref (B + a1)), (4, Value.ref (B + a4)), (5, Value.int x5)] [] σ := by
  refine r_iload C dX7_receiveAcknowledge_45 (j := 3) rfl ?_
  refine r_aload C dX7_receiveAcknowledge_47 (j := 2) rfl ?_
  obtain ⟨g1, h⟩ := h
  refine r_get (v := .int (r_gi σ a4 1)) C (r_atT rfl g1) fa_X7_103 rfl dX7_receiveAcknowledge_49 ?_
  refine r_icmp_ge (tgt := 94) C dX7_receiveAcknowledge_52 (by decide) (fun c2 => ?_) (fun c2 => ?_)
  · have h := h.1 c2
    refine r_aload_n C dX7_receiveAcknowledge_94 rfl (j := 1) rfl ?_
    obtain ⟨g3, h⟩ := h
    obtain ⟨g4, h⟩ := h
    refine r_getR C (r_atT rfl g3) fa_X7_96 rfl (r_atN g4) dX7_receiveAcknowledge_95 ?_
    refine r_get (v := .int (r_gi σ (r_gr σ a1 15) 1)) C (r_atT rfl g4) fa_X7_103 rfl dX7_receiveAcknowledge_98 ?_
    refine r_if_le (tgt := 109) C dX7_receiveAcknowledge_101 (by decide) (fun c5 => ?_) (fun c5 => ?_)
    · have h := h.1 c5
      exact r_vretQ C E rfl (Nat.zero_le _) (Nat.zero_le _) dX7_receiveAcknowledge_109 ((rfl : σ.1 = σ.1).trans hs) h
    · have h := h.2 c5
      refine r_aload_n C dX7_receiveAcknowledge_104 rfl (j := 0) rfl ?_
      refine r_aload_n C dX7_receiveAcknowledge_105 rfl (j := 1) rfl ?_
      obtain ⟨g12, h⟩ := h
      obtain ⟨Q6, m7, h⟩ := h
      refine r_callVV (rest := []) C E [Value.ref (B + a1)] (r_atT rfl g12) rfl ky_X7_drawCount kl_X7_106 ki_X7_drawCount kx_X7_drawCount ⟨Nat.le_of_ble_eq_true rfl, Nat.le_of_ble_eq_true rfl⟩ ⟨rfl, rfl⟩ m7 rfl rfl (Nat.le_of_ble_eq_true rfl) (Nat.zero_le _) (Nat.zero_le _) dX7_receiveAcknowledge_106 (fun σ8 s9 q11 => ?_)
      have h := h σ8 q11
      have s9 := s9.trans rfl
      exact r_vretQ C E rfl (Nat.zero_le _) (Nat.zero_le _) dX7_receiveAcknowledge_109 (s9.trans hs) h
  · have h := h.2 c2
    refine r_aload_n C dX7_receiveAcknowledge_55 rfl (j := 1) rfl ?_
    obtain ⟨g13, h⟩ := h
    obtain ⟨g14, h⟩ := h
    refine r_getR C (r_atT rfl g13) fa_X7_96 rfl (r_atN g14) dX7_receiveAcknowledge_56 ?_
    refine r_aload C dX7_receiveAcknowledge_59 (j := 2) rfl ?_
    refine r_iload C dX7_receiveAcknowledge_61 (j := 3) rfl ?_
    obtain ⟨Q15, m16, h⟩ := h
    refine r_callVI (rest := [Value.ref (B + (r_gr σ a1 15))]) C E [Value.int x5] (r_atT rfl g1) rfl ky_X5_get kl_X7_235 ki_X5_get kx_X5_get ⟨Nat.le_of_ble_eq_true rfl, Nat.le_of_ble_eq_true rfl⟩ ⟨rfl, rfl⟩ m16 rfl rfl (Nat.le_of_ble_eq_true rfl) (Nat.zero_le _) (Nat.zero_le _) dX7_receiveAcknowledge_63 (fun z19 σ17 s18 q20 => ?_)
    have h := h z19 σ17 q20
    have s18 := s18.trans rfl
    obtain ⟨Q21, m22, h⟩ := h
    refine r_callVV (rest := []) C E [Value.int z19] (r_atT s18 g14) rfl ky_X5_drop kl_X7_238 ki_X5_drop kx_X5_drop ⟨Nat.le_of_ble_eq_true rfl, Nat.le_of_ble_eq_true rfl⟩ ⟨rfl, rfl⟩ m22 rfl rfl (Nat.le_of_ble_eq_true rfl) (Nat.zero_le _) (Nat.zero_le _) dX7_receiveAcknowledge_66 (fun σ23 s24 q26 => ?_)
    have h := h σ23 q26
    have s24 := s24.trans s18
    refine r_aload_n C dX7_receiveAcknowledge_69 rfl (j := 0) rfl ?_
    obtain ⟨g27, h⟩ := h
    obtain ⟨g28, h⟩ := h
    refine r_getR C (r_atT s24 g27) fa_X7_33 rfl (r_atN g28) dX7_receiveAcknowledge_70 ?_
    refine r_aload C dX7_receiveAcknowledge_73 (j := 2) rfl ?_
    refine r_iload C dX7_receiveAcknowledge_75 (j := 3) rfl ?_
    obtain ⟨Q29, m30, h⟩ := h
    refine r_callVI (rest := [Value.ref (B + (r_gr σ23 a0 4))]) C E [Value.int x5] (r_atT s24 g1) rfl ky_X5_get kl_X7_235 ki_X5_get kx_X5_get ⟨Nat.le_of_ble_eq_true rfl, Nat.le_of_ble_eq_true rfl⟩ ⟨rfl, rfl⟩ m30 rfl rfl (Nat.le_of_ble_eq_true rfl) (Nat.zero_le _) (Nat.zero_le _) dX7_receiveAcknowledge_77 (fun z33 σ31 s32 q34 => ?_)
    have h := h z33 σ31 q34
    have s32 := s32.trans s24
    refine r_iconst (v := 3) C dX7_receiveAcknowledge_80 (by decide) ?_
    refine r_aload_n C dX7_receiveAcknowledge_81 rfl (j := 0) rfl ?_
    refine r_get (v := .long (r_gl σ31 a0 7)) C (r_atT s32 g27) fa_X7_50 rfl dX7_receiveAcknowledge_82 ?_
    obtain ⟨Q35, m36, h⟩ := h
    refine r_callVV (rest := []) C E [Value.int z33, Value.int 3, Value.long (r_gl σ31 a0 7)] (r_atT s32 g28) rfl ky_X1_add kl_X7_241 ki_X1_add kx_X1_add ⟨Nat.le_of_ble_eq_true rfl, Nat.le_of_ble_eq_true rfl⟩ ⟨rfl, rfl⟩ m36 rfl rfl (Nat.le_of_ble_eq_true rfl) (Nat.zero_le _) (Nat.zero_le _) dX7_receiveAcknowledge_85 (fun σ37 s38 q40 => ?_)
    have h := h σ37 q40
    have s38 := s38.trans s32
    obtain ⟨z41, e42⟩ : ∃ y : Int32, y = x5 + 1 := ⟨_, rfl⟩
    have h := h z41 e42
    refine r_iinc (v := z41) (lv' := [(5, Value.int z41), (0, Value.ref (B + a0)), (1, Value.ref (B + a1)), (4, Value.ref (B + a4))]) C dX7_receiveAcknowledge_88 (k := 3) rfl (by rw [e42]; rfl) (by decide) rfl ?_
    refine r_goto (tgt := 45) C dX7_receiveAcknowledge_91 (by decide) ?_
    exact r_loc (by simp) h
theorem w_X7_takePayloads_0 {X : r_X} {w : r_V} {B : Nat} {l : Launch} {Q : r_S → Prop} {σ0 : r_S} (C : r_C X w B 4 cX7_takePayloads RX7) (E : r_E X l tX7_takePayloads) {σ : r_S} (hs : σ.1 = σ0.1) {a0 a2 : Nat} {x1 : Int32}
    (h : r_at σ a0 = some (.inl 7) ∧ (r_at σ (r_gr σ a0 2) = some (.inl 4) ∧ (r_at σ a2 = some (.inl 5) ∧ (∃ Q3 : Int32 → r_S → Prop, r_M l w B tX5_get [Value.ref (B + a2), Value.int 0] σ (r_QI σ Q3) ∧ (∀ (z7 : Int32) (σ5 : r_S), Q3 z7 σ5 → (∃ Q10 : Int32 → r_S → Prop, r_M l w B tX4_numberOf [Value.ref (B + (r_gr σ a0 2)), Value.int z7] σ5 (r_QI σ5 Q10) ∧ (∀ (z14 : Int32) (σ12 : r_S), Q10 z14 σ12 → (∃ Q16 : r_S → Prop, r_M l w B tX4_wantAtLeast [Value.ref (B + (r_gr σ a0 2)), Value.int x1, Value.int z14] σ12 (r_QV σ12 Q16) ∧ (∀ σ18 : r_S, Q16 σ18 → (r_W X w B 4 0 0 (r_Z X w B tX7_takePayloads (r_QV σ0 Q)) 22 [(0, Value.ref (B + a0)), (1, Value.int x1), (3, Value.int 0)] [] σ18)))))))))) :
    r_W X w B 4 0 0 (r_Z X w B tX7_takePayloads (r_QV σ0 Q)) 0 [(0, Value.ref (B + a0)), (1, Value.int x1), (2, Value.ref (B + a2))] [] σ := by
  refine r_aload_n C dX7_takePayloads_0 rfl (j := 0) rfl ?_
  obtain ⟨g1, h⟩ := h
  obtain ⟨g2, h⟩ := h
  refine r_getR C (r_atT rfl g1) fa_X7_19 rfl (r_atN g2) dX7_takePayloads_1 ?_
  refine r_iload_n C dX7_takePayloads_4 rfl (j := 1) rfl ?_
  refine r_aload_n C dX7_takePayloads_5 rfl (j := 0) rfl ?_
  refine r_getR C (r_atT rfl g1) fa_X7_19 rfl (r_atN g2) dX7_takePayloads_6 ?_
  refine r_aload_n C dX7_takePayloads_9 rfl (j := 2) rfl ?_
  refine r_iconst (v := 0) C dX7_takePayloads_10 (by decide) ?_
  obtain ⟨g9, h⟩ := h
  obtain ⟨Q3, m4, h⟩ := h
  refine r_callVI (rest := [Value.ref (B + (r_gr σ a0 2)), Value.int x1, Value.ref (B + (r_gr σ a0 2))]) C E [Value.int 0] (r_atT rfl g9) rfl ky_X5_get kl_X7_235 ki_X5_get kx_X5_get ⟨Nat.le_of_ble_eq_true rfl, Nat.le_of_ble_eq_true rfl⟩ ⟨rfl, rfl⟩ m4 rfl rfl (Nat.le_of_ble_eq_true rfl) (Nat.zero_le _) (Nat.zero_le _) dX7_takePayloads_11 (fun z7 σ5 s6 q8 => ?_)
  have h := h z7 σ5 q8
  have s6 := s6.trans rfl
  obtain ⟨Q10, m11, h⟩ := h
  refine r_callVI (rest := [Value.int x1, Value.ref (B + (r_gr σ a0 2))]) C E [Value.int z7] (r_atT s6 g2) rfl ky_X4_numberOf kl_X7_320 ki_X4_numberOf kx_X4_numberOf ⟨Nat.le_of_ble_eq_true rfl, Nat.le_of_ble_eq_true rfl⟩ ⟨rfl, rfl⟩ m11 rfl rfl (Nat.le_of_ble_eq_true rfl) (Nat.zero_le _) (Nat.zero_le _) dX7_takePayloads_14 (fun z14 σ12 s13 q15 => ?_)
  have h := h z14 σ12 q15
  have s13 := s13.trans s6
  obtain ⟨Q16, m17, h⟩ := h
  refine r_callVV (rest := []) C E [Value.int x1, Value.int z14] (r_atT s13 g2) rfl ky_X4_wantAtLeast kl_X7_323 ki_X4_wantAtLeast kx_X4_wantAtLeast ⟨Nat.le_of_ble_eq_true rfl, Nat.le_of_ble_eq_true rfl⟩ ⟨rfl, rfl⟩ m17 rfl rfl (Nat.le_of_ble_eq_true rfl) (Nat.zero_le _) (Nat.zero_le _) dX7_takePayloads_17 (fun σ18 s19 q21 => ?_)
  have h := h σ18 q21
  have s19 := s19.trans s13
  refine r_iconst (v := 0) C dX7_takePayloads_20 (by decide) ?_
  refine r_istore_n (lv' := [(3, Value.int 0), (0, Value.ref (B + a0)), (1, Value.int x1), (2, Value.ref (B + a2))]) C dX7_takePayloads_21 rfl (by decide) rfl ?_
  exact r_loc (by simp) h
theorem w_X7_takePayloads_22 {X : r_X} {w : r_V} {B : Nat} {l : Launch} {Q : r_S → Prop} {σ0 : r_S} (C : r_C X w B 4 cX7_takePayloads RX7) (E : r_E X l tX7_takePayloads) {σ : r_S} (hs : σ.1 = σ0.1) {a0 : Nat} {x1 x3 : Int32}
    (h : r_at σ a0 = some (.inl 7) ∧ (r_at σ (r_gr σ a0 5) = some (.inl 5) ∧ (((r_gi σ (r_gr σ a0 5) 1) ≤ x3 → (r_W X w B 4 0 0 (r_Z X w B tX7_takePayloads (r_QV σ0 Q)) 57 [(0, Value.ref (B + a0)), (1, Value.int x1), (3, Value.int 1)] [] σ)) ∧ (¬ (r_gi σ (r_gr σ a0 5) 1) ≤ x3 → (r_at σ (r_gr σ a0 2) = some (.inl 4) ∧ (∃ Q5 : Int32 → r_S → Prop, r_M l w B tX5_get [Value.ref (B + (r_gr σ a0 5)), Value.int x3] σ (r_QI σ Q5) ∧ (∀ (z9 : Int32) (σ7 : r_S), Q5 z9 σ7 → (∃ Q11 : r_S → Prop, r_M l w B tX4_hold [Value.ref (B + (r_gr σ a0 2)), Value.int x1, Value.int z9] σ7 (r_QV σ7 Q11) ∧ (∀ σ13 : r_S, Q11 σ13 → (∀ z17 : Int32, z17 = x3 + 1 → (r_W X w B 4 0 0 (r_Z X w B tX7_takePayloads (r_QV σ0 Q)) 22 [(0, Value.ref (B + a0)), (1, Value.int x1), (3, Value.int z17)] [] σ13))))))))))) :
    r_W X w B 4 0 0 (r_Z X w B tX7_takePayloads (r_QV σ0 Q)) 22 [(0, Value.ref (B + a0)), (1, Value.int x1), (3, Value.int x3)] [] σ := by
  refine r_iload_n C dX7_takePayloads_22 rfl (j := 2) rfl ?_
  refine r_aload_n C dX7_takePayloads_23 rfl (j := 0) rfl ?_
  obtain ⟨g1, h⟩ := h
  obtain ⟨g2, h⟩ := h
  refine r_getR C (r_atT rfl g1) fa_X7_42 rfl (r_atN g2) dX7_takePayloads_24 ?_
  refine r_get (v := .int (r_gi σ (r_gr σ a0 5) 1)) C (r_atT rfl g2) fa_X7_103 rfl dX7_takePayloads_27 ?_
  refine r_icmp_ge (tgt := 55) C dX7_takePayloads_30 (by decide) (fun c3 => ?_) (fun c3 => ?_)
  · have h := h.1 c3
    refine r_iconst (v := 1) C dX7_takePayloads_55 (by decide) ?_
    refine r_istore_n (lv' := [(3, Value.int 1), (0, Value.ref (B + a0)), (1, Value.int x1)]) C dX7_takePayloads_56 rfl (by decide) rfl ?_
    exact r_loc (by simp) h
  · have h := h.2 c3
    refine r_aload_n C dX7_takePayloads_33 rfl (j := 0) rfl ?_
    obtain ⟨g4, h⟩ := h
    refine r_getR C (r_atT rfl g1) fa_X7_19 rfl (r_atN g4) dX7_takePayloads_34 ?_
    refine r_iload_n C dX7_takePayloads_37 rfl (j := 1) rfl ?_
    refine r_aload_n C dX7_takePayloads_38 rfl (j := 0) rfl ?_
    refine r_getR C (r_atT rfl g1) fa_X7_42 rfl (r_atN g2) dX7_takePayloads_39 ?_
    refine r_iload_n C dX7_takePayloads_42 rfl (j := 2) rfl ?_
    obtain ⟨Q5, m6, h⟩ := h
    refine r_callVI (rest := [Value.int x1, Value.ref (B + (r_gr σ a0 2))]) C E [Value.int x3] (r_atT rfl g2) rfl ky_X5_get kl_X7_235 ki_X5_get kx_X5_get ⟨Nat.le_of_ble_eq_true rfl, Nat.le_of_ble_eq_true rfl⟩ ⟨rfl, rfl⟩ m6 rfl rfl (Nat.le_of_ble_eq_true rfl) (Nat.zero_le _) (Nat.zero_le _) dX7_takePayloads_43 (fun z9 σ7 s8 q10 => ?_)
    have h := h z9 σ7 q10
    have s8 := s8.trans rfl
    obtain ⟨Q11, m12, h⟩ := h
    refine r_callVV (rest := []) C E [Value.int x1, Value.int z9] (r_atT s8 g4) rfl ky_X4_hold kl_X7_326 ki_X4_hold kx_X4_hold ⟨Nat.le_of_ble_eq_true rfl, Nat.le_of_ble_eq_true rfl⟩ ⟨rfl, rfl⟩ m12 rfl rfl (Nat.le_of_ble_eq_true rfl) (Nat.zero_le _) (Nat.zero_le _) dX7_takePayloads_46 (fun σ13 s14 q16 => ?_)
    have h := h σ13 q16
    have s14 := s14.trans s8
    obtain ⟨z17, e18⟩ : ∃ y : Int32, y = x3 + 1 := ⟨_, rfl⟩
    have h := h z17 e18
    refine r_iinc (v := z17) (lv' := [(3, Value.int z17), (0, Value.ref (B + a0)), (1, Value.int x1)]) C dX7_takePayloads_49 (k := 2) rfl (by rw [e18]; rfl) (by decide) rfl ?_
    refine r_goto (tgt := 22) C dX7_takePayloads_52 (by decide) ?_
    exact r_loc (by simp) h
theorem w_X7_takePayloads_57 {X : r_X} {w : r_V} {B : Nat} {l : Launch} {Q : r_S → Prop} {σ0 : r_S} (C : r_C X w B 4 cX7_takePayloads RX7) (E : r_E X l tX7_takePayloads) {σ : r_S} (hs : σ.1 = σ0.1) {a0 : Nat} {x1 x3 : Int32}
    (h : r_at σ a0 = some (.inl 7) ∧ (r_at σ (r_gr σ a0 2) = some (.inl 4) ∧ (((r_gi σ (r_gr σ a0 2) 4) < x3 → (Q σ)) ∧ (¬ (r_gi σ (r_gr σ a0 2) 4) < x3 → (∃ Q4 : Int32 → r_S → Prop, r_M l w B tX4_releases [Value.ref (B + (r_gr σ a0 2)), Value.int x1, Value.int x3] σ (r_QI σ Q4) ∧ (∀ (z8 : Int32) (σ6 : r_S), Q4 z8 σ6 → ((z8 = 0 → (∀ z11 : Int32, z11 = x3 + 1 → (r_W X w B 4 0 0 (r_Z X w B tX7_takePayloads (r_QV σ0 Q)) 57 [(0, Value.ref (B + a0)), (1, Value.int x1), (3, Value.int z11)] [] σ6))) ∧ (¬ z8 = 0 → (r_at σ (r_gr σ6 a0 4) = some (.inl 1) ∧ (∃ Q14 : r_S → Prop, r_M l w B tX1_add [Value.ref (B + (r_gr σ6 a0 4)), Value.int x3, Value.int 1, Value.long (r_gl σ6 a0 7)] σ6 (r_QV σ6 Q14) ∧ (∀ σ16 : r_S, Q14 σ16 → (∀ z20 : Int32, z20 = x3 + 1 → (r_W X w B 4 0 0 (r_Z X w B tX7_takePayloads (r_QV σ0 Q)) 57 [(0, Value.ref (B + a0)), (1, Value.int x1), (3, Value.int z20)] [] σ16))))))))))))) :
    r_W X w B 4 0 0 (r_Z X w B tX7_takePayloads (r_QV σ0 Q)) 57 [(0, Value.ref (B + a0)), (1, Value.int x1), (3, Value.int x3)] [] σ := by
  refine r_iload_n C dX7_takePayloads_57 rfl (j := 2) rfl ?_
  refine r_aload_n C dX7_takePayloads_58 rfl (j := 0) rfl ?_
  obtain ⟨g1, h⟩ := h
  obtain ⟨g2, h⟩ := h
  refine r_getR C (r_atT rfl g1) fa_X7_19 rfl (r_atN g2) dX7_takePayloads_59 ?_
  refine r_get (v := .int (r_gi σ (r_gr σ a0 2) 4)) C (r_atT rfl g2) fa_X7_329 rfl dX7_takePayloads_62 ?_
  refine r_icmp_gt (tgt := 99) C dX7_takePayloads_65 (by decide) (fun c3 => ?_) (fun c3 => ?_)
  · have h := h.1 c3
    exact r_vretQ C E rfl (Nat.zero_le _) (Nat.zero_le _) dX7_takePayloads_99 ((rfl : σ.1 = σ.1).trans hs) h
  · have h := h.2 c3
    refine r_aload_n C dX7_takePayloads_68 rfl (j := 0) rfl ?_
    refine r_getR C (r_atT rfl g1) fa_X7_19 rfl (r_atN g2) dX7_takePayloads_69 ?_
    refine r_iload_n C dX7_takePayloads_72 rfl (j := 1) rfl ?_
    refine r_iload_n C dX7_takePayloads_73 rfl (j := 2) rfl ?_
    obtain ⟨Q4, m5, h⟩ := h
    refine r_callVI (rest := []) C E [Value.int x1, Value.int x3] (r_atT rfl g2) rfl ky_X4_releases kl_X7_330 ki_X4_releases kx_X4_releases ⟨Nat.le_of_ble_eq_true rfl, Nat.le_of_ble_eq_true rfl⟩ ⟨rfl, rfl⟩ m5 rfl rfl (Nat.le_of_ble_eq_true rfl) (Nat.zero_le _) (Nat.zero_le _) dX7_takePayloads_74 (fun z8 σ6 s7 q9 => ?_)
    have h := h z8 σ6 q9
    have s7 := s7.trans rfl
    refine r_if_eq (tgt := 93) C dX7_takePayloads_77 (by decide) (fun c10 => ?_) (fun c10 => ?_)
    · have h := h.1 c10
      obtain ⟨z11, e12⟩ : ∃ y : Int32, y = x3 + 1 := ⟨_, rfl⟩
      have h := h z11 e12
      refine r_iinc (v := z11) (lv' := [(3, Value.int z11), (0, Value.ref (B + a0)), (1, Value.int x1)]) C dX7_takePayloads_93 (k := 2) rfl (by rw [e12]; rfl) (by decide) rfl ?_
      refine r_goto (tgt := 57) C dX7_takePayloads_96 (by decide) ?_
      exact r_loc (by simp) h
    · have h := h.2 c10
      refine r_aload_n C dX7_takePayloads_80 rfl (j := 0) rfl ?_
      obtain ⟨g13, h⟩ := h
      refine r_getR C (r_atT s7 g1) fa_X7_33 rfl (r_atN g13) dX7_takePayloads_81 ?_
      refine r_iload_n C dX7_takePayloads_84 rfl (j := 2) rfl ?_
      refine r_iconst (v := 1) C dX7_takePayloads_85 (by decide) ?_
      refine r_aload_n C dX7_takePayloads_86 rfl (j := 0) rfl ?_
      refine r_get (v := .long (r_gl σ6 a0 7)) C (r_atT s7 g1) fa_X7_50 rfl dX7_takePayloads_87 ?_
      obtain ⟨Q14, m15, h⟩ := h
      refine r_callVV (rest := []) C E [Value.int x3, Value.int 1, Value.long (r_gl σ6 a0 7)] (r_atT s7 g13) rfl ky_X1_add kl_X7_241 ki_X1_add kx_X1_add ⟨Nat.le_of_ble_eq_true rfl, Nat.le_of_ble_eq_true rfl⟩ ⟨rfl, rfl⟩ m15 rfl rfl (Nat.le_of_ble_eq_true rfl) (Nat.zero_le _) (Nat.zero_le _) dX7_takePayloads_90 (fun σ16 s17 q19 => ?_)
      have h := h σ16 q19
      have s17 := s17.trans s7
      obtain ⟨z20, e21⟩ : ∃ y : Int32, y = x3 + 1 := ⟨_, rfl⟩
      have h := h z20 e21
      refine r_iinc (v := z20) (lv' := [(3, Value.int z20), (0, Value.ref (B + a0)), (1, Value.int x1)]) C dX7_takePayloads_93 (k := 2) rfl (by rw [e21]; rfl) (by decide) rfl ?_
      refine r_goto (tgt := 57) C dX7_takePayloads_96 (by decide) ?_
      exact r_loc (by simp) h
theorem w_X7_countIdleSlots_0 {X : r_X} {w : r_V} {B : Nat} {l : Launch} {Q : r_S → Prop} {σ0 : r_S} (C : r_C X w B 7 cX7_countIdleSlots RX7) (E : r_E X l tX7_countIdleSlots) {σ : r_S} (hs : σ.1 = σ0.1) {a0 : Nat}
    (h : r_at σ a0 = some (.inl 7) ∧ (∃ n2, r_at σ (r_gr σ a0 0) = some (.inr (3, n2)) ∧ (∀ b4 : Nat, b4 = r_gr σ a0 0 → (∀ z7 : Int32, z7 = nI n2 → (r_W X w B 7 0 0 (r_Z X w B tX7_countIdleSlots (r_QV σ0 Q)) 10 [(0, Value.ref (B + a0)), (1, Value.ref (B + b4)), (2, Value.int z7), (3, Value.int 0)] [] σ))))) :
    r_W X w B 7 0 0 (r_Z X w B tX7_countIdleSlots (r_QV σ0 Q)) 0 [(0, Value.ref (B + a0))] [] σ := by
  refine r_aload_n C dX7_countIdleSlots_0 rfl (j := 0) rfl ?_
  obtain ⟨g1, h⟩ := h
  obtain ⟨n2, g3, h⟩ := h
  refine r_getR C (r_atT rfl g1) fa_X7_68 rfl (r_atN g3) dX7_countIdleSlots_1 ?_
  refine r_topa (fun b4 e5 => ?_)
  have h := h b4 e5
  have e5 : b4 = r_gr σ a0 0 := e5
  have g6 := g3; rw [← e5] at g6
  refine r_astore_n (lv' := [(1, Value.ref (B + b4)), (0, Value.ref (B + a0))]) C dX7_countIdleSlots_4 rfl (by decide) rfl ?_
  refine r_aload_n C dX7_countIdleSlots_5 rfl (j := 0) rfl ?_
  refine r_alen (v := nI n2) C (r_atT rfl g6) ⟨rfl, fun _ => rfl⟩ rfl dX7_countIdleSlots_6 ?_
  refine r_topi (fun z7 e8 => ?_)
  have h := h z7 e8
  refine r_istore_n (lv' := [(2, Value.int z7), (1, Value.ref (B + b4)), (0, Value.ref (B + a0))]) C dX7_countIdleSlots_7 rfl (by decide) rfl ?_
  refine r_iconst (v := 0) C dX7_countIdleSlots_8 (by decide) ?_
  refine r_istore_n (lv' := [(3, Value.int 0), (2, Value.int z7), (1, Value.ref (B + b4)), (0, Value.ref (B + a0))]) C dX7_countIdleSlots_9 rfl (by decide) rfl ?_
  exact r_loc (by simp) h
theorem w_X7_countIdleSlots_10 {X : r_X} {w : r_V} {B : Nat} {l : Launch} {Q : r_S → Prop} {σ0 : r_S} (C : r_C X w B 7 cX7_countIdleSlots RX7) (E : r_E X l tX7_countIdleSlots) {σ : r_S} (hs : σ.1 = σ0.1) {a0 a1 : Nat} {x2 x3 : Int32}
    (h : (x2 ≤ x3 → (Q σ)) ∧ (¬ x2 ≤ x3 → (∃ n2, r_at σ a1 = some (.inr (3, n2)) ∧ (vp_in x3 n2 ∧ (r_at σ (r_gr σ a1 x3.toNatClampNeg) = some (.inl 6) ∧ (∀ b6 : Nat, b6 = r_gr σ a1 x3.toNatClampNeg → (r_at σ a0 = some (.inl 7) ∧ ((((r_gi σ a0 8) &&& (r_gi σ b6 2)) = 0 → (((r_gi σ b6 18) = 0 → (r_W X w B 7 0 0 (r_Z X w B tX7_countIdleSlots (r_QV σ0 Q)) 79 [(0, Value.ref (B + a0)), (1, Value.ref (B + a1)), (2, Value.int x2), (3, Value.int x3), (4, Value.ref (B + b6)), (5, Value.int 0)] [] σ)) ∧ (¬ (r_gi σ b6 18) = 0 → (((r_gl σ b6 19) = ((r_gl σ a0 7) - 1) → (∀ σ17 : r_S, σ17 = r_ui σ b6 7 3 → (r_W X w B 7 0 0 (r_Z X w B tX7_countIdleSlots (r_QV σ0 Q)) 79 [(0, Value.ref (B + a0)), (1, Value.ref (B + a1)), (2, Value.int x2), (3, Value.int x3), (4, Value.ref (B + b6)), (5, Value.int 0)] [] σ17))) ∧ (¬ (r_gl σ b6 19) = ((r_gl σ a0 7) - 1) → (∀ σ14 : r_S, σ14 = r_ui σ b6 7 6 → (r_W X w B 7 0 0 (r_Z X w B tX7_countIdleSlots (r_QV σ0 Q)) 79 [(0, Value.ref (B + a0)), (1, Value.ref (B + a1)), (2, Value.int x2), (3, Value.int x3), (4, Value.ref (B + b6)), (5, Value.int 0)] [] σ14))))))) ∧ (¬ ((r_gi σ a0 8) &&& (r_gi σ b6 2)) = 0 → (r_W X w B 7 0 0 (r_Z X w B tX7_countIdleSlots (r_QV σ0 Q)) 79 [(0, Value.ref (B + a0)), (1, Value.ref (B + a1)), (2, Value.int x2), (3, Value.int x3), (4, Value.ref (B + b6)), (5, Value.int 1)] [] σ)))))))))) :
    r_W X w B 7 0 0 (r_Z X w B tX7_countIdleSlots (r_QV σ0 Q)) 10 [(0, Value.ref (B + a0)), (1, Value.ref (B + a1)), (2, Value.int x2), (3, Value.int x3)] [] σ := by
  refine r_iload_n C dX7_countIdleSlots_10 rfl (j := 3) rfl ?_
  refine r_iload_n C dX7_countIdleSlots_11 rfl (j := 2) rfl ?_
  refine r_icmp_ge (tgt := 153) C dX7_countIdleSlots_12 (by decide) (fun c1 => ?_) (fun c1 => ?_)
  · have h := h.1 c1
    exact r_vretQ C E rfl (Nat.zero_le _) (Nat.zero_le _) dX7_countIdleSlots_153 ((rfl : σ.1 = σ.1).trans hs) h
  · have h := h.2 c1
    refine r_aload_n C dX7_countIdleSlots_15 rfl (j := 1) rfl ?_
    refine r_iload_n C dX7_countIdleSlots_16 rfl (j := 3) rfl ?_
    obtain ⟨n2, g3, h⟩ := h
    obtain ⟨g4, h⟩ := h
    obtain ⟨g5, h⟩ := h
    refine r_aald C (r_atT rfl g3) ⟨rfl, fun _ => rfl⟩ g4 (r_atN g5) dX7_countIdleSlots_17 ?_
    refine r_topa (fun b6 e7 => ?_)
    have h := h b6 e7
    have e7 : b6 = r_gr σ a1 x3.toNatClampNeg := e7
    have g8 := g5; rw [← e7] at g8
    refine r_astore (lv' := [(4, Value.ref (B + b6)), (0, Value.ref (B + a0)), (1, Value.ref (B + a1)), (2, Value.int x2), (3, Value.int x3)]) C dX7_countIdleSlots_18 (by decide) rfl ?_
    refine r_aload_n C dX7_countIdleSlots_20 rfl (j := 1) rfl ?_
    obtain ⟨g9, h⟩ := h
    refine r_get (v := .int (r_gi σ a0 8)) C (r_atT rfl g9) fa_X7_54 rfl dX7_countIdleSlots_21 ?_
    refine r_aload C dX7_countIdleSlots_24 (j := 0) rfl ?_
    refine r_get (v := .int (r_gi σ b6 2)) C (r_atT rfl g8) fa_X7_82 rfl dX7_countIdleSlots_26 ?_
    refine r_iand C dX7_countIdleSlots_29 ?_
    refine r_if_eq (tgt := 37) C dX7_countIdleSlots_30 (by decide) (fun c10 => ?_) (fun c10 => ?_)
    · have h := h.1 c10
      refine r_iconst (v := 0) C dX7_countIdleSlots_37 (by decide) ?_
      refine r_istore (lv' := [(5, Value.int 0), (4, Value.ref (B + b6)), (0, Value.ref (B + a0)), (1, Value.ref (B + a1)), (2, Value.int x2), (3, Value.int x3)]) C dX7_countIdleSlots_38 (by decide) rfl ?_
      refine r_iload C dX7_countIdleSlots_40 (j := 0) rfl ?_
      refine r_if_ne (tgt := 79) C dX7_countIdleSlots_42 (by decide) (fun c11 => ?_) (fun c11 => ?_)
      · exact absurd (by decide) c11
      · skip
        refine r_aload C dX7_countIdleSlots_45 (j := 1) rfl ?_
        refine r_get (v := .int (r_gi σ b6 18)) C (r_atT rfl g8) fa_X7_333 rfl dX7_countIdleSlots_47 ?_
        refine r_if_eq (tgt := 79) C dX7_countIdleSlots_50 (by decide) (fun c12 => ?_) (fun c12 => ?_)
        · have h := h.1 c12
          exact r_loc (by simp) h
        · have h := h.2 c12
          refine r_aload C dX7_countIdleSlots_53 (j := 1) rfl ?_
          refine r_aload C dX7_countIdleSlots_55 (j := 1) rfl ?_
          refine r_get (v := .long (r_gl σ b6 19)) C (r_atT rfl g8) fa_X7_278 rfl dX7_countIdleSlots_57 ?_
          refine r_aload_n C dX7_countIdleSlots_60 rfl (j := 2) rfl ?_
          refine r_get (v := .long (r_gl σ a0 7)) C (r_atT rfl g9) fa_X7_50 rfl dX7_countIdleSlots_61 ?_
          refine r_lconst (v := 1) C dX7_countIdleSlots_64 (by decide) ?_
          refine r_lsub C dX7_countIdleSlots_65 ?_
          refine r_lcmp C dX7_countIdleSlots_66 ?_
          refine r_if_ne (tgt := 74) C dX7_countIdleSlots_67 (by decide) (fun c13 => ?_) (fun c13 => ?_)
          · have h := h.2 (fun q => c13 (lgc_eq.mpr q))
            refine r_bipush (v := 6) C dX7_countIdleSlots_74 (by decide) ?_
            refine r_putI C (r_atT rfl g8) fa_X7_172 rfl rfl rfl dX7_countIdleSlots_76 ?_
            refine r_nam (fun σ14 e15 => ?_)
            have h := h σ14 e15
            have s16 : σ14.1 = σ.1 := by rw [e15]; exact rfl
            exact r_loc (by simp) h
          · have h := h.1 (lgc_eq.mp c13)
            refine r_iconst (v := 3) C dX7_countIdleSlots_70 (by decide) ?_
            refine r_goto (tgt := 76) C dX7_countIdleSlots_71 (by decide) ?_
            refine r_putI C (r_atT rfl g8) fa_X7_172 rfl rfl rfl dX7_countIdleSlots_76 ?_
            refine r_nam (fun σ17 e18 => ?_)
            have h := h σ17 e18
            have s19 : σ17.1 = σ.1 := by rw [e18]; exact rfl
            exact r_loc (by simp) h
    · have h := h.2 c10
      refine r_iconst (v := 1) C dX7_countIdleSlots_33 (by decide) ?_
      refine r_goto (tgt := 38) C dX7_countIdleSlots_34 (by decide) ?_
      refine r_istore (lv' := [(5, Value.int 1), (4, Value.ref (B + b6)), (0, Value.ref (B + a0)), (1, Value.ref (B + a1)), (2, Value.int x2), (3, Value.int x3)]) C dX7_countIdleSlots_38 (by decide) rfl ?_
      refine r_iload C dX7_countIdleSlots_40 (j := 0) rfl ?_
      refine r_if_ne (tgt := 79) C dX7_countIdleSlots_42 (by decide) (fun c20 => ?_) (fun c20 => ?_)
      · skip
        exact r_loc (by simp) h
      · exact absurd c20 (by decide)
theorem w_X7_countIdleSlots_79 {X : r_X} {w : r_V} {B : Nat} {l : Launch} {Q : r_S → Prop} {σ0 : r_S} (C : r_C X w B 7 cX7_countIdleSlots RX7) (E : r_E X l tX7_countIdleSlots) {σ : r_S} (hs : σ.1 = σ0.1) {a0 a1 a4 : Nat} {x2 x3 x5 : Int32}
    (h : r_at σ a4 = some (.inl 6) ∧ ((x5 = 0 ∨ x5 = 1) ∧ (∀ σ3 : r_S, σ3 = r_ui σ a4 18 x5 → ((x5 = 0 → (r_at σ a0 = some (.inl 7) ∧ ((((r_gi σ3 a0 8) &&& (r_gi σ3 a4 1)) = 0 → (∃ Q10 : Int32 → r_S → Prop, r_M l w B tX6_isFree [Value.ref (B + a4)] σ3 (r_QI σ3 Q10) ∧ (∀ (z14 : Int32) (σ12 : r_S), Q10 z14 σ12 → ((z14 = 0 → (∃ Q17 : r_S → Prop, r_M l w B tX6_countIdle [Value.ref (B + a4), Value.int 0] σ12 (r_QV σ12 Q17) ∧ (∀ σ19 : r_S, Q17 σ19 → (∀ z23 : Int32, z23 = x3 + 1 → (r_W X w B 7 0 0 (r_Z X w B tX7_countIdleSlots (r_QV σ0 Q)) 10 [(0, Value.ref (B + a0)), (1, Value.ref (B + a1)), (2, Value.int x2), (3, Value.int z23)] [] σ19))))) ∧ (¬ z14 = 0 → (((r_gl σ12 a0 7) < (r_gl σ12 a4 8) → (∃ Q26 : r_S → Prop, r_M l w B tX6_countIdle [Value.ref (B + a4), Value.int 0] σ12 (r_QV σ12 Q26) ∧ (∀ σ28 : r_S, Q26 σ28 → (∀ z32 : Int32, z32 = x3 + 1 → (r_W X w B 7 0 0 (r_Z X w B tX7_countIdleSlots (r_QV σ0 Q)) 10 [(0, Value.ref (B + a0)), (1, Value.ref (B + a1)), (2, Value.int x2), (3, Value.int z32)] [] σ28))))) ∧ (¬ (r_gl σ12 a0 7) < (r_gl σ12 a4 8) → (∃ Q34 : r_S → Prop, r_M l w B tX6_countIdle [Value.ref (B + a4), Value.int 1] σ12 (r_QV σ12 Q34) ∧ (∀ σ36 : r_S, Q34 σ36 → (∀ z40 : Int32, z40 = x3 + 1 → (r_W X w B 7 0 0 (r_Z X w B tX7_countIdleSlots (r_QV σ0 Q)) 10 [(0, Value.ref (B + a0)), (1, Value.ref (B + a1)), (2, Value.int x2), (3, Value.int z40)] [] σ36))))))))))) ∧ (¬ ((r_gi σ3 a0 8) &&& (r_gi σ3 a4 1)) = 0 → (r_W X w B 7 0 0 (r_Z X w B tX7_countIdleSlots (r_QV σ0 Q)) 104 [(0, Value.ref (B + a0)), (1, Value.ref (B + a1)), (2, Value.int x2), (3, Value.int x3), (4, Value.ref (B + a4))] [] σ3))))) ∧ (¬ x5 = 0 → (r_W X w B 7 0 0 (r_Z X w B tX7_countIdleSlots (r_QV σ0 Q)) 104 [(0, Value.ref (B + a0)), (1, Value.ref (B + a1)), (2, Value.int x2), (3, Value.int x3), (4, Value.ref (B + a4))] [] σ3)))))) :
    r_W X w B 7 0 0 (r_Z X w B tX7_countIdleSlots (r_QV σ0 Q)) 79 [(0, Value.ref (B + a0)), (1, Value.ref (B + a1)), (2, Value.int x2), (3, Value.int x3), (4, Value.ref (B + a4)), (5, Value.int x5)] [] σ := by
  refine r_aload C dX7_countIdleSlots_79 (j := 4) rfl ?_
  refine r_iload C dX7_countIdleSlots_81 (j := 5) rfl ?_
  obtain ⟨g1, h⟩ := h
  obtain ⟨g2, h⟩ := h
  refine r_putI C (r_atT rfl g1) fa_X7_333 rfl (by rcases g2 with e | e <;> rw [e] <;> rfl) (by rcases g2 with e | e <;> rw [e] <;> rfl) dX7_countIdleSlots_83 ?_
  refine r_nam (fun σ3 e4 => ?_)
  have h := h σ3 e4
  have s5 : σ3.1 = σ.1 := by rw [e4]; exact rfl
  refine r_iload C dX7_countIdleSlots_86 (j := 5) rfl ?_
  refine r_if_ne (tgt := 104) C dX7_countIdleSlots_88 (by decide) (fun c6 => ?_) (fun c6 => ?_)
  · have h := h.2 c6
    exact r_loc (by simp) h
  · have h := h.1 c6
    refine r_aload_n C dX7_countIdleSlots_91 rfl (j := 0) rfl ?_
    obtain ⟨g7, h⟩ := h
    refine r_get (v := .int (r_gi σ3 a0 8)) C (r_atT s5 g7) fa_X7_54 rfl dX7_countIdleSlots_92 ?_
    refine r_aload C dX7_countIdleSlots_95 (j := 4) rfl ?_
    refine r_get (v := .int (r_gi σ3 a4 1)) C (r_atT s5 g1) fa_X7_79 rfl dX7_countIdleSlots_97 ?_
    refine r_iand C dX7_countIdleSlots_100 ?_
    refine r_if_eq (tgt := 108) C dX7_countIdleSlots_101 (by decide) (fun c8 => ?_) (fun c8 => ?_)
    · have h := h.1 c8
      refine r_iconst (v := 0) C dX7_countIdleSlots_108 (by decide) ?_
      refine r_istore (lv' := [(6, Value.int 0), (0, Value.ref (B + a0)), (1, Value.ref (B + a1)), (2, Value.int x2), (3, Value.int x3), (4, Value.ref (B + a4)), (5, Value.int x5)]) C dX7_countIdleSlots_109 (by decide) rfl ?_
      refine r_aload C dX7_countIdleSlots_111 (j := 5) rfl ?_
      refine r_iload C dX7_countIdleSlots_113 (j := 0) rfl ?_
      refine r_if_ne (tgt := 143) C dX7_countIdleSlots_115 (by decide) (fun c9 => ?_) (fun c9 => ?_)
      · exact absurd (by decide) c9
      · skip
        refine r_aload C dX7_countIdleSlots_118 (j := 5) rfl ?_
        obtain ⟨Q10, m11, h⟩ := h
        refine r_callVI (rest := [Value.ref (B + a4)]) C E [] (r_atT s5 g1) rfl ky_X6_isFree kl_X7_337 ki_X6_isFree kx_X6_isFree ⟨Nat.le_of_ble_eq_true rfl, Nat.le_of_ble_eq_true rfl⟩ ⟨rfl, rfl⟩ m11 rfl rfl (Nat.le_of_ble_eq_true rfl) (Nat.zero_le _) (Nat.zero_le _) dX7_countIdleSlots_120 (fun z14 σ12 s13 q15 => ?_)
        have h := h z14 σ12 q15
        have s13 := s13.trans s5
        refine r_if_eq (tgt := 143) C dX7_countIdleSlots_123 (by decide) (fun c16 => ?_) (fun c16 => ?_)
        · have h := h.1 c16
          refine r_iconst (v := 0) C dX7_countIdleSlots_143 (by decide) ?_
          obtain ⟨Q17, m18, h⟩ := h
          refine r_callVV (rest := []) C E [Value.int 0] (r_atT s13 g1) rfl ky_X6_countIdle kl_X7_340 ki_X6_countIdle kx_X6_countIdle ⟨Nat.le_of_ble_eq_true rfl, Nat.le_of_ble_eq_true rfl⟩ ⟨rfl, rfl⟩ m18 rfl rfl (Nat.le_of_ble_eq_true rfl) (Nat.zero_le _) (Nat.zero_le _) dX7_countIdleSlots_144 (fun σ19 s20 q22 => ?_)
          have h := h σ19 q22
          have s20 := s20.trans s13
          obtain ⟨z23, e24⟩ : ∃ y : Int32, y = x3 + 1 := ⟨_, rfl⟩
          have h := h z23 e24
          refine r_iinc (v := z23) (lv' := [(3, Value.int z23), (6, Value.int 0), (0, Value.ref (B + a0)), (1, Value.ref (B + a1)), (2, Value.int x2), (4, Value.ref (B + a4)), (5, Value.int x5)]) C dX7_countIdleSlots_147 (k := 4) rfl (by rw [e24]; rfl) (by decide) rfl ?_
          refine r_goto (tgt := 10) C dX7_countIdleSlots_150 (by decide) ?_
          exact r_loc (by simp) h
        · have h := h.2 c16
          refine r_aload C dX7_countIdleSlots_126 (j := 5) rfl ?_
          refine r_get (v := .long (r_gl σ12 a4 8)) C (r_atT s13 g1) fa_X7_155 rfl dX7_countIdleSlots_128 ?_
          refine r_aload_n C dX7_countIdleSlots_131 rfl (j := 1) rfl ?_
          refine r_get (v := .long (r_gl σ12 a0 7)) C (r_atT s13 g7) fa_X7_50 rfl dX7_countIdleSlots_132 ?_
          refine r_lcmp C dX7_countIdleSlots_135 ?_
          refine r_if_gt (tgt := 143) C dX7_countIdleSlots_136 (by decide) (fun c25 => ?_) (fun c25 => ?_)
          · have h := h.1 (lgc_gt.mp c25)
            refine r_iconst (v := 0) C dX7_countIdleSlots_143 (by decide) ?_
            obtain ⟨Q26, m27, h⟩ := h
            refine r_callVV (rest := []) C E [Value.int 0] (r_atT s13 g1) rfl ky_X6_countIdle kl_X7_340 ki_X6_countIdle kx_X6_countIdle ⟨Nat.le_of_ble_eq_true rfl, Nat.le_of_ble_eq_true rfl⟩ ⟨rfl, rfl⟩ m27 rfl rfl (Nat.le_of_ble_eq_true rfl) (Nat.zero_le _) (Nat.zero_le _) dX7_countIdleSlots_144 (fun σ28 s29 q31 => ?_)
            have h := h σ28 q31
            have s29 := s29.trans s13
            obtain ⟨z32, e33⟩ : ∃ y : Int32, y = x3 + 1 := ⟨_, rfl⟩
            have h := h z32 e33
            refine r_iinc (v := z32) (lv' := [(3, Value.int z32), (6, Value.int 0), (0, Value.ref (B + a0)), (1, Value.ref (B + a1)), (2, Value.int x2), (4, Value.ref (B + a4)), (5, Value.int x5)]) C dX7_countIdleSlots_147 (k := 4) rfl (by rw [e33]; rfl) (by decide) rfl ?_
            refine r_goto (tgt := 10) C dX7_countIdleSlots_150 (by decide) ?_
            exact r_loc (by simp) h
          · have h := h.2 (fun q => c25 (lgc_gt.mpr q))
            refine r_iconst (v := 1) C dX7_countIdleSlots_139 (by decide) ?_
            refine r_goto (tgt := 144) C dX7_countIdleSlots_140 (by decide) ?_
            obtain ⟨Q34, m35, h⟩ := h
            refine r_callVV (rest := []) C E [Value.int 1] (r_atT s13 g1) rfl ky_X6_countIdle kl_X7_340 ki_X6_countIdle kx_X6_countIdle ⟨Nat.le_of_ble_eq_true rfl, Nat.le_of_ble_eq_true rfl⟩ ⟨rfl, rfl⟩ m35 rfl rfl (Nat.le_of_ble_eq_true rfl) (Nat.zero_le _) (Nat.zero_le _) dX7_countIdleSlots_144 (fun σ36 s37 q39 => ?_)
            have h := h σ36 q39
            have s37 := s37.trans s13
            obtain ⟨z40, e41⟩ : ∃ y : Int32, y = x3 + 1 := ⟨_, rfl⟩
            have h := h z40 e41
            refine r_iinc (v := z40) (lv' := [(3, Value.int z40), (6, Value.int 0), (0, Value.ref (B + a0)), (1, Value.ref (B + a1)), (2, Value.int x2), (4, Value.ref (B + a4)), (5, Value.int x5)]) C dX7_countIdleSlots_147 (k := 4) rfl (by rw [e41]; rfl) (by decide) rfl ?_
            refine r_goto (tgt := 10) C dX7_countIdleSlots_150 (by decide) ?_
            exact r_loc (by simp) h
    · have h := h.2 c8
      exact r_loc (by simp) h
theorem w_X7_countIdleSlots_104 {X : r_X} {w : r_V} {B : Nat} {l : Launch} {Q : r_S → Prop} {σ0 : r_S} (C : r_C X w B 7 cX7_countIdleSlots RX7) (E : r_E X l tX7_countIdleSlots) {σ : r_S} (hs : σ.1 = σ0.1) {a0 a1 a4 : Nat} {x2 x3 : Int32}
    (h : r_at σ a4 = some (.inl 6) ∧ (∃ Q2 : r_S → Prop, r_M l w B tX6_countIdle [Value.ref (B + a4), Value.int 0] σ (r_QV σ Q2) ∧ (∀ σ4 : r_S, Q2 σ4 → (∀ z9 : Int32, z9 = x3 + 1 → (r_W X w B 7 0 0 (r_Z X w B tX7_countIdleSlots (r_QV σ0 Q)) 10 [(0, Value.ref (B + a0)), (1, Value.ref (B + a1)), (2, Value.int x2), (3, Value.int z9)] [] σ4))))) :
    r_W X w B 7 0 0 (r_Z X w B tX7_countIdleSlots (r_QV σ0 Q)) 104 [(0, Value.ref (B + a0)), (1, Value.ref (B + a1)), (2, Value.int x2), (3, Value.int x3), (4, Value.ref (B + a4))] [] σ := by
  refine r_iconst (v := 1) C dX7_countIdleSlots_104 (by decide) ?_
  refine r_goto (tgt := 109) C dX7_countIdleSlots_105 (by decide) ?_
  refine r_istore (lv' := [(6, Value.int 1), (0, Value.ref (B + a0)), (1, Value.ref (B + a1)), (2, Value.int x2), (3, Value.int x3), (4, Value.ref (B + a4))]) C dX7_countIdleSlots_109 (by decide) rfl ?_
  refine r_aload C dX7_countIdleSlots_111 (j := 5) rfl ?_
  refine r_iload C dX7_countIdleSlots_113 (j := 0) rfl ?_
  refine r_if_ne (tgt := 143) C dX7_countIdleSlots_115 (by decide) (fun c1 => ?_) (fun c1 => ?_)
  · skip
    refine r_iconst (v := 0) C dX7_countIdleSlots_143 (by decide) ?_
    obtain ⟨g8, h⟩ := h
    obtain ⟨Q2, m3, h⟩ := h
    refine r_callVV (rest := []) C E [Value.int 0] (r_atT rfl g8) rfl ky_X6_countIdle kl_X7_340 ki_X6_countIdle kx_X6_countIdle ⟨Nat.le_of_ble_eq_true rfl, Nat.le_of_ble_eq_true rfl⟩ ⟨rfl, rfl⟩ m3 rfl rfl (Nat.le_of_ble_eq_true rfl) (Nat.zero_le _) (Nat.zero_le _) dX7_countIdleSlots_144 (fun σ4 s5 q7 => ?_)
    have h := h σ4 q7
    have s5 := s5.trans rfl
    obtain ⟨z9, e10⟩ : ∃ y : Int32, y = x3 + 1 := ⟨_, rfl⟩
    have h := h z9 e10
    refine r_iinc (v := z9) (lv' := [(3, Value.int z9), (6, Value.int 1), (0, Value.ref (B + a0)), (1, Value.ref (B + a1)), (2, Value.int x2), (4, Value.ref (B + a4))]) C dX7_countIdleSlots_147 (k := 4) rfl (by rw [e10]; rfl) (by decide) rfl ?_
    refine r_goto (tgt := 10) C dX7_countIdleSlots_150 (by decide) ?_
    exact r_loc (by simp) h
  · exact absurd c1 (by decide)
