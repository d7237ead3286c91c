theorem w_X8_isStation_0 {X : r_X} {w : r_V} {B : Nat} {l : Launch} {Q : Int32 → r_S → Prop} {σ0 : r_S} (C : r_C X w B 2 cX8_isStation RX8) (E : r_E X l tX8_isStation) {σ : r_S} (hs : σ.1 = σ0.1) {a0 : Nat} {x1 : Int32}
    (h : (x1 < 0 → (Q 0 σ)) ∧ (¬ x1 < 0 → (r_at σ a0 = some (.inl 8) ∧ (((r_gi σ a0 1) ≤ x1 → (Q 0 σ)) ∧ (¬ (r_gi σ a0 1) ≤ x1 → (Q 1 σ)))))) :
    r_W X w B 2 0 0 (r_Z X w B tX8_isStation (r_QI σ0 Q)) 0 [(0, Value.ref (B + a0)), (1, Value.int x1)] [] σ := by
  refine r_iload_n C dX8_isStation_0 rfl (j := 1) rfl ?_
  refine r_if_lt (tgt := 16) C dX8_isStation_1 (by decide) (fun c1 => ?_) (fun c1 => ?_)
  · have h := h.1 c1
    refine r_iconst (v := 0) C dX8_isStation_16 (by decide) ?_
    exact r_zretQ C E rfl (by decide) (Nat.zero_le _) (Nat.zero_le _) dX8_isStation_17 ((rfl : σ.1 = σ.1).trans hs) h
  · have h := h.2 c1
    refine r_iload_n C dX8_isStation_4 rfl (j := 1) rfl ?_
    refine r_aload_n C dX8_isStation_5 rfl (j := 0) rfl ?_
    obtain ⟨g2, h⟩ := h
    refine r_get (v := .int (r_gi σ a0 1)) C (r_atT rfl g2) fa_X8_145 rfl dX8_isStation_6 ?_
    refine r_icmp_ge (tgt := 16) C dX8_isStation_9 (by decide) (fun c3 => ?_) (fun c3 => ?_)
    · have h := h.1 c3
      refine r_iconst (v := 0) C dX8_isStation_16 (by decide) ?_
      exact r_zretQ C E rfl (by decide) (Nat.zero_le _) (Nat.zero_le _) dX8_isStation_17 ((rfl : σ.1 = σ.1).trans hs) h
    · have h := h.2 c3
      refine r_iconst (v := 1) C dX8_isStation_12 (by decide) ?_
      refine r_goto (tgt := 17) C dX8_isStation_13 (by decide) ?_
      exact r_zretQ C E rfl (by decide) (Nat.zero_le _) (Nat.zero_le _) dX8_isStation_17 ((rfl : σ.1 = σ.1).trans hs) h
theorem w_X8_hears_0 {X : r_X} {w : r_V} {B : Nat} {l : Launch} {Q : Int32 → r_S → Prop} {σ0 : r_S} (C : r_C X w B 3 cX8_hears RX8) (E : r_E X l tX8_hears) {σ : r_S} (hs : σ.1 = σ0.1) {a0 : Nat} {x1 x2 : Int32}
    (h : (x1 = x2 → (Q 0 σ)) ∧ (¬ x1 = x2 → (r_at σ a0 = some (.inl 8) ∧ (∃ n3, r_at σ (r_gr σ a0 4) = some (.inr (2, n3)) ∧ (vp_in ((6 * x1) + x2) n3 ∧ (((r_gi σ (r_gr σ a0 4) ((6 * x1) + x2).toNatClampNeg) = 0 → (Q 1 σ)) ∧ (¬ (r_gi σ (r_gr σ a0 4) ((6 * x1) + x2).toNatClampNeg) = 0 → (Q 0 σ)))))))) :
    r_W X w B 3 0 0 (r_Z X w B tX8_hears (r_QI σ0 Q)) 0 [(0, Value.ref (B + a0)), (1, Value.int x1), (2, Value.int x2)] [] σ := by
  refine r_iload_n C dX8_hears_0 rfl (j := 1) rfl ?_
  refine r_iload_n C dX8_hears_1 rfl (j := 2) rfl ?_
  refine r_icmp_eq (tgt := 23) C dX8_hears_2 (by decide) (fun c1 => ?_) (fun c1 => ?_)
  · have h := h.1 c1
    refine r_iconst (v := 0) C dX8_hears_23 (by decide) ?_
    exact r_zretQ C E rfl (by decide) (Nat.zero_le _) (Nat.zero_le _) dX8_hears_24 ((rfl : σ.1 = σ.1).trans hs) h
  · have h := h.2 c1
    refine r_aload_n C dX8_hears_5 rfl (j := 0) rfl ?_
    obtain ⟨g2, h⟩ := h
    obtain ⟨n3, g4, h⟩ := h
    refine r_getR C (r_atT rfl g2) fa_X8_13 rfl (r_atN g4) dX8_hears_6 ?_
    refine r_bipush (v := 6) C dX8_hears_9 (by decide) ?_
    refine r_iload_n C dX8_hears_11 rfl (j := 1) rfl ?_
    refine r_imul C dX8_hears_12 ?_
    refine r_iload_n C dX8_hears_13 rfl (j := 2) rfl ?_
    refine r_iadd C dX8_hears_14 ?_
    obtain ⟨g5, h⟩ := h
    refine r_zald C (r_atT rfl g4) ⟨rfl, fun _ => rfl⟩ g5 dX8_hears_15 ?_
    refine r_if_ne (tgt := 23) C dX8_hears_16 (by decide) (fun c6 => ?_) (fun c6 => ?_)
    · have h := h.2 c6
      refine r_iconst (v := 0) C dX8_hears_23 (by decide) ?_
      exact r_zretQ C E rfl (by decide) (Nat.zero_le _) (Nat.zero_le _) dX8_hears_24 ((rfl : σ.1 = σ.1).trans hs) h
    · have h := h.1 c6
      refine r_iconst (v := 1) C dX8_hears_19 (by decide) ?_
      refine r_goto (tgt := 24) C dX8_hears_20 (by decide) ?_
      exact r_zretQ C E rfl (by decide) (Nat.zero_le _) (Nat.zero_le _) dX8_hears_24 ((rfl : σ.1 = σ.1).trans hs) h
theorem w_X8_hear_0 {X : r_X} {w : r_V} {B : Nat} {l : Launch} {Q : Int32 → r_S → Prop} {σ0 : r_S} (C : r_C X w B 5 cX8_hear RX8) (E : r_E X l tX8_hear) {σ : r_S} (hs : σ.1 = σ0.1) {a0 : Nat} {x1 x2 x3 : Int32}
    (h : r_at σ a0 = some (.inl 8) ∧ (∀ σ2 : r_S, σ2 = r_ui σ a0 0 0 → (∃ Q5 : Int32 → r_S → Prop, r_M l w B tX8_isStation [Value.ref (B + a0), Value.int x1] σ2 (r_QI σ2 Q5) ∧ (∀ (z9 : Int32) (σ7 : r_S), Q5 z9 σ7 → ((z9 = 0 → (Q (-11) σ7)) ∧ (¬ z9 = 0 → (∃ Q12 : Int32 → r_S → Prop, r_M l w B tX8_isStation [Value.ref (B + a0), Value.int x2] σ7 (r_QI σ7 Q12) ∧ (∀ (z16 : Int32) (σ14 : r_S), Q12 z16 σ14 → ((z16 = 0 → (Q (-11) σ14)) ∧ (¬ z16 = 0 → ((x1 = x2 → (Q (-12) σ14)) ∧ (¬ x1 = x2 → (∃ n20, r_at σ (r_gr σ14 a0 4) = some (.inr (2, n20)) ∧ (vp_in ((6 * x1) + x2) n20 ∧ (((r_gi σ14 (r_gr σ14 a0 4) ((6 * x1) + x2).toNatClampNeg) = x3 → ((x3 = 0 → (∀ σ35 : r_S, σ35 = r_ui σ14 (r_gr σ14 a0 4) (((6 * x1) + x2).toNatClampNeg) 1 → (Q 1 σ35))) ∧ (¬ x3 = 0 → (∀ σ32 : r_S, σ32 = r_ui σ14 (r_gr σ14 a0 4) (((6 * x1) + x2).toNatClampNeg) 0 → (Q 1 σ32))))) ∧ (¬ (r_gi σ14 (r_gr σ14 a0 4) ((6 * x1) + x2).toNatClampNeg) = x3 → ((x3 = 0 → (∀ σ28 : r_S, σ28 = r_ui σ14 (r_gr σ14 a0 4) (((6 * x1) + x2).toNatClampNeg) 1 → (Q 0 σ28))) ∧ (¬ x3 = 0 → (∀ σ25 : r_S, σ25 = r_ui σ14 (r_gr σ14 a0 4) (((6 * x1) + x2).toNatClampNeg) 0 → (Q 0 σ25)))))))))))))))))))) :
    r_W X w B 5 0 0 (r_Z X w B tX8_hear (r_QI σ0 Q)) 0 [(0, Value.ref (B + a0)), (1, Value.int x1), (2, Value.int x2), (3, Value.int x3)] [] σ := by
  refine r_aload_n C dX8_hear_0 rfl (j := 0) rfl ?_
  refine r_iconst (v := 0) C dX8_hear_1 (by decide) ?_
  obtain ⟨g1, h⟩ := h
  refine r_putI C (r_atT rfl g1) fa_X8_150 rfl rfl rfl dX8_hear_2 ?_
  refine r_nam (fun σ2 e3 => ?_)
  have h := h σ2 e3
  have s4 : σ2.1 = σ.1 := by rw [e3]; exact rfl
  refine r_aload_n C dX8_hear_5 rfl (j := 0) rfl ?_
  refine r_iload_n C dX8_hear_6 rfl (j := 1) rfl ?_
  obtain ⟨Q5, m6, h⟩ := h
  refine r_callVI (rest := []) C E [Value.int x1] (r_atT s4 g1) rfl ky_X8_isStation kl_X8_153 ki_X8_isStation kx_X8_isStation ⟨Nat.le_of_ble_eq_true rfl, Nat.le_of_ble_eq_true rfl⟩ ⟨rfl, rfl⟩ m6 rfl rfl (Nat.le_of_ble_eq_true rfl) (Nat.zero_le _) (Nat.zero_le _) dX8_hear_7 (fun z9 σ7 s8 q10 => ?_)
  have h := h z9 σ7 q10
  have s8 := s8.trans s4
  refine r_if_eq (tgt := 21) C dX8_hear_10 (by decide) (fun c11 => ?_) (fun c11 => ?_)
  · have h := h.1 c11
    refine r_bipush (v := (-11)) C dX8_hear_21 (by decide) ?_
    exact r_iretQ C E rfl (Nat.zero_le _) (Nat.zero_le _) dX8_hear_23 (s8.trans hs) h
  · have h := h.2 c11
    refine r_aload_n C dX8_hear_13 rfl (j := 0) rfl ?_
    refine r_iload_n C dX8_hear_14 rfl (j := 2) rfl ?_
    obtain ⟨Q12, m13, h⟩ := h
    refine r_callVI (rest := []) C E [Value.int x2] (r_atT s8 g1) rfl ky_X8_isStation kl_X8_153 ki_X8_isStation kx_X8_isStation ⟨Nat.le_of_ble_eq_true rfl, Nat.le_of_ble_eq_true rfl⟩ ⟨rfl, rfl⟩ m13 rfl rfl (Nat.le_of_ble_eq_true rfl) (Nat.zero_le _) (Nat.zero_le _) dX8_hear_15 (fun z16 σ14 s15 q17 => ?_)
    have h := h z16 σ14 q17
    have s15 := s15.trans s8
    refine r_if_ne (tgt := 24) C dX8_hear_18 (by decide) (fun c18 => ?_) (fun c18 => ?_)
    · have h := h.2 c18
      refine r_iload_n C dX8_hear_24 rfl (j := 1) rfl ?_
      refine r_iload_n C dX8_hear_25 rfl (j := 2) rfl ?_
      refine r_icmp_ne (tgt := 32) C dX8_hear_26 (by decide) (fun c19 => ?_) (fun c19 => ?_)
      · have h := h.2 c19
        refine r_aload_n C dX8_hear_32 rfl (j := 0) rfl ?_
        obtain ⟨n20, g21, h⟩ := h
        refine r_getR C (r_atT s15 g1) fa_X8_13 rfl (r_atN g21) dX8_hear_33 ?_
        refine r_bipush (v := 6) C dX8_hear_36 (by decide) ?_
        refine r_iload_n C dX8_hear_38 rfl (j := 1) rfl ?_
        refine r_imul C dX8_hear_39 ?_
        refine r_iload_n C dX8_hear_40 rfl (j := 2) rfl ?_
        refine r_iadd C dX8_hear_41 ?_
        obtain ⟨g22, h⟩ := h
        refine r_zald C (r_atT s15 g21) ⟨rfl, fun _ => rfl⟩ g22 dX8_hear_42 ?_
        refine r_iload_n C dX8_hear_43 rfl (j := 3) rfl ?_
        refine r_icmp_ne (tgt := 51) C dX8_hear_44 (by decide) (fun c23 => ?_) (fun c23 => ?_)
        · have h := h.2 c23
          refine r_iconst (v := 0) C dX8_hear_51 (by decide) ?_
          refine r_istore (lv' := [(4, Value.int 0), (0, Value.ref (B + a0)), (1, Value.int x1), (2, Value.int x2), (3, Value.int x3)]) C dX8_hear_52 (by decide) rfl ?_
          refine r_aload_n C dX8_hear_54 rfl (j := 1) rfl ?_
          refine r_getR C (r_atT s15 g1) fa_X8_13 rfl (r_atN g21) dX8_hear_55 ?_
          refine r_bipush (v := 6) C dX8_hear_58 (by decide) ?_
          refine r_iload_n C dX8_hear_60 rfl (j := 2) rfl ?_
          refine r_imul C dX8_hear_61 ?_
          refine r_iload_n C dX8_hear_62 rfl (j := 3) rfl ?_
          refine r_iadd C dX8_hear_63 ?_
          refine r_iload_n C dX8_hear_64 rfl (j := 4) rfl ?_
          refine r_if_ne (tgt := 72) C dX8_hear_65 (by decide) (fun c24 => ?_) (fun c24 => ?_)
          · have h := h.2 c24
            refine r_iconst (v := 0) C dX8_hear_72 (by decide) ?_
            refine r_zast C (r_atT s15 g21) ⟨rfl, fun _ => rfl⟩ g22 (by decide) dX8_hear_73 ?_
            refine r_nam (fun σ25 e26 => ?_)
            have h := h σ25 e26
            have s27 : σ25.1 = σ.1 := by rw [e26]; exact s15
            refine r_iload C dX8_hear_74 (j := 0) rfl ?_
            exact r_iretQ C E rfl (Nat.zero_le _) (Nat.zero_le _) dX8_hear_76 (s27.trans hs) h
          · have h := h.1 c24
            refine r_iconst (v := 1) C dX8_hear_68 (by decide) ?_
            refine r_goto (tgt := 73) C dX8_hear_69 (by decide) ?_
            refine r_zast C (r_atT s15 g21) ⟨rfl, fun _ => rfl⟩ g22 (by decide) dX8_hear_73 ?_
            refine r_nam (fun σ28 e29 => ?_)
            have h := h σ28 e29
            have s30 : σ28.1 = σ.1 := by rw [e29]; exact s15
            refine r_iload C dX8_hear_74 (j := 0) rfl ?_
            exact r_iretQ C E rfl (Nat.zero_le _) (Nat.zero_le _) dX8_hear_76 (s30.trans hs) h
        · have h := h.1 c23
          refine r_iconst (v := 1) C dX8_hear_47 (by decide) ?_
          refine r_goto (tgt := 52) C dX8_hear_48 (by decide) ?_
          refine r_istore (lv' := [(4, Value.int 1), (0, Value.ref (B + a0)), (1, Value.int x1), (2, Value.int x2), (3, Value.int x3)]) C dX8_hear_52 (by decide) rfl ?_
          refine r_aload_n C dX8_hear_54 rfl (j := 1) rfl ?_
          refine r_getR C (r_atT s15 g1) fa_X8_13 rfl (r_atN g21) dX8_hear_55 ?_
          refine r_bipush (v := 6) C dX8_hear_58 (by decide) ?_
          refine r_iload_n C dX8_hear_60 rfl (j := 2) rfl ?_
          refine r_imul C dX8_hear_61 ?_
          refine r_iload_n C dX8_hear_62 rfl (j := 3) rfl ?_
          refine r_iadd C dX8_hear_63 ?_
          refine r_iload_n C dX8_hear_64 rfl (j := 4) rfl ?_
          refine r_if_ne (tgt := 72) C dX8_hear_65 (by decide) (fun c31 => ?_) (fun c31 => ?_)
          · have h := h.2 c31
            refine r_iconst (v := 0) C dX8_hear_72 (by decide) ?_
            refine r_zast C (r_atT s15 g21) ⟨rfl, fun _ => rfl⟩ g22 (by decide) dX8_hear_73 ?_
            refine r_nam (fun σ32 e33 => ?_)
            have h := h σ32 e33
            have s34 : σ32.1 = σ.1 := by rw [e33]; exact s15
            refine r_iload C dX8_hear_74 (j := 0) rfl ?_
            exact r_iretQ C E rfl (Nat.zero_le _) (Nat.zero_le _) dX8_hear_76 (s34.trans hs) h
          · have h := h.1 c31
            refine r_iconst (v := 1) C dX8_hear_68 (by decide) ?_
            refine r_goto (tgt := 73) C dX8_hear_69 (by decide) ?_
            refine r_zast C (r_atT s15 g21) ⟨rfl, fun _ => rfl⟩ g22 (by decide) dX8_hear_73 ?_
            refine r_nam (fun σ35 e36 => ?_)
            have h := h σ35 e36
            have s37 : σ35.1 = σ.1 := by rw [e36]; exact s15
            refine r_iload C dX8_hear_74 (j := 0) rfl ?_
            exact r_iretQ C E rfl (Nat.zero_le _) (Nat.zero_le _) dX8_hear_76 (s37.trans hs) h
      · have h := h.1 c19
        refine r_bipush (v := (-12)) C dX8_hear_29 (by decide) ?_
        exact r_iretQ C E rfl (Nat.zero_le _) (Nat.zero_le _) dX8_hear_31 (s15.trans hs) h
    · have h := h.1 c18
      refine r_bipush (v := (-11)) C dX8_hear_21 (by decide) ?_
      exact r_iretQ C E rfl (Nat.zero_le _) (Nat.zero_le _) dX8_hear_23 (s15.trans hs) h
theorem w_X8_coin_0 {X : r_X} {w : r_V} {B : Nat} {l : Launch} {Q : Int32 → r_S → Prop} {σ0 : r_S} (C : r_C X w B 2 cX8_coin RX8) (E : r_E X l tX8_coin) {σ : r_S} (hs : σ.1 = σ0.1) {a0 : Nat} {x1 : Int32}
    (h : r_at σ a0 = some (.inl 8) ∧ (∀ σ2 : r_S, σ2 = r_ui σ a0 0 0 → ((0 ≤ x1 → ((400 ≤ (r_gi σ2 a0 14) → (Q ((r_gi σ2 a0 14) - (r_gi σ2 a0 15)) σ2)) ∧ (¬ 400 ≤ (r_gi σ2 a0 14) → (∃ n7, r_at σ (r_gr σ2 a0 16) = some (.inr (0, n7)) ∧ (vp_in (r_gi σ2 a0 14) n7 ∧ (∀ σ10 : r_S, σ10 = r_ui σ2 (r_gr σ2 a0 16) ((r_gi σ2 a0 14).toNatClampNeg) x1 → (∀ σ13 : r_S, σ13 = r_ui σ10 a0 14 ((r_gi σ10 a0 14) + 1) → (Q ((r_gi σ13 a0 14) - (r_gi σ13 a0 15)) σ13)))))))) ∧ (¬ 0 ≤ x1 → (Q (-12) σ2))))) :
    r_W X w B 2 0 0 (r_Z X w B tX8_coin (r_QI σ0 Q)) 0 [(0, Value.ref (B + a0)), (1, Value.int x1)] [] σ := by
  refine r_aload_n C dX8_coin_0 rfl (j := 0) rfl ?_
  refine r_iconst (v := 0) C dX8_coin_1 (by decide) ?_
  obtain ⟨g1, h⟩ := h
  refine r_putI C (r_atT rfl g1) fa_X8_150 rfl rfl rfl dX8_coin_2 ?_
  refine r_nam (fun σ2 e3 => ?_)
  have h := h σ2 e3
  have s4 : σ2.1 = σ.1 := by rw [e3]; exact rfl
  refine r_iload_n C dX8_coin_5 rfl (j := 1) rfl ?_
  refine r_if_ge (tgt := 12) C dX8_coin_6 (by decide) (fun c5 => ?_) (fun c5 => ?_)
  · have h := h.1 c5
    refine r_aload_n C dX8_coin_12 rfl (j := 0) rfl ?_
    refine r_get (v := .int (r_gi σ2 a0 14)) C (r_atT s4 g1) fa_X8_157 rfl dX8_coin_13 ?_
    refine r_sipush (v := 400) C dX8_coin_16 (by decide) ?_
    refine r_icmp_ge (tgt := 42) C dX8_coin_19 (by decide) (fun c6 => ?_) (fun c6 => ?_)
    · have h := h.1 c6
      refine r_aload_n C dX8_coin_42 rfl (j := 0) rfl ?_
      refine r_get (v := .int (r_gi σ2 a0 14)) C (r_atT s4 g1) fa_X8_157 rfl dX8_coin_43 ?_
      refine r_aload_n C dX8_coin_46 rfl (j := 0) rfl ?_
      refine r_get (v := .int (r_gi σ2 a0 15)) C (r_atT s4 g1) fa_X8_160 rfl dX8_coin_47 ?_
      refine r_isub C dX8_coin_50 ?_
      exact r_iretQ C E rfl (Nat.zero_le _) (Nat.zero_le _) dX8_coin_51 (s4.trans hs) h
    · have h := h.2 c6
      refine r_aload_n C dX8_coin_22 rfl (j := 0) rfl ?_
      obtain ⟨n7, g8, h⟩ := h
      refine r_getR C (r_atT s4 g1) fa_X8_42 rfl (r_atN g8) dX8_coin_23 ?_
      refine r_aload_n C dX8_coin_26 rfl (j := 0) rfl ?_
      refine r_get (v := .int (r_gi σ2 a0 14)) C (r_atT s4 g1) fa_X8_157 rfl dX8_coin_27 ?_
      refine r_iload_n C dX8_coin_30 rfl (j := 1) rfl ?_
      obtain ⟨g9, h⟩ := h
      refine r_iast C (r_atT s4 g8) ⟨rfl, fun _ => rfl⟩ g9 dX8_coin_31 ?_
      refine r_nam (fun σ10 e11 => ?_)
      have h := h σ10 e11
      have s12 : σ10.1 = σ.1 := by rw [e11]; exact s4
      refine r_aload_n C dX8_coin_32 rfl (j := 0) rfl ?_
      refine r_dup C dX8_coin_33 rfl ?_
      refine r_get (v := .int (r_gi σ10 a0 14)) C (r_atT s12 g1) fa_X8_157 rfl dX8_coin_34 ?_
      refine r_iconst (v := 1) C dX8_coin_37 (by decide) ?_
      refine r_iadd C dX8_coin_38 ?_
      refine r_putI C (r_atT s12 g1) fa_X8_157 rfl rfl rfl dX8_coin_39 ?_
      refine r_nam (fun σ13 e14 => ?_)
      have h := h σ13 e14
      have s15 : σ13.1 = σ.1 := by rw [e14]; exact s12
      refine r_aload_n C dX8_coin_42 rfl (j := 0) rfl ?_
      refine r_get (v := .int (r_gi σ13 a0 14)) C (r_atT s15 g1) fa_X8_157 rfl dX8_coin_43 ?_
      refine r_aload_n C dX8_coin_46 rfl (j := 0) rfl ?_
      refine r_get (v := .int (r_gi σ13 a0 15)) C (r_atT s15 g1) fa_X8_160 rfl dX8_coin_47 ?_
      refine r_isub C dX8_coin_50 ?_
      exact r_iretQ C E rfl (Nat.zero_le _) (Nat.zero_le _) dX8_coin_51 (s15.trans hs) h
  · have h := h.2 c5
    refine r_bipush (v := (-12)) C dX8_coin_9 (by decide) ?_
    exact r_iretQ C E rfl (Nat.zero_le _) (Nat.zero_le _) dX8_coin_11 (s4.trans hs) h
theorem w_X8_draw_0 {X : r_X} {w : r_V} {B : Nat} {l : Launch} {Q : r_S → Prop} {σ0 : r_S} (C : r_C X w B 3 cX8_draw RX8) (E : r_E X l tX8_draw) {σ : r_S} (hs : σ.1 = σ0.1) {a0 : Nat} {x1 : Int32}
    (h : r_at σ a0 = some (.inl 8) ∧ (((r_gi σ a0 14) ≤ (r_gi σ a0 15) → (((r_gi σ a0 14) ≤ (r_gi σ a0 15) → (∀ σ4 : r_S, σ4 = r_ui σ a0 15 (r_gi σ a0 15) → (∃ n7, r_at σ (r_gr σ4 a0 27) = some (.inr (0, n7)) ∧ (∃ n9, r_at σ (r_gr σ4 a0 25) = some (.inr (0, n9)) ∧ (vp_in x1 n9 ∧ (¬ ((r_gi σ4 (r_gr σ4 a0 25) x1.toNatClampNeg) + 1) = 0 ∧ (vp_in x1 n7 ∧ (∀ σ14 : r_S, σ14 = r_ui σ4 (r_gr σ4 a0 27) (x1.toNatClampNeg) (0 - 0 / ((r_gi σ4 (r_gr σ4 a0 25) x1.toNatClampNeg) + 1) * ((r_gi σ4 (r_gr σ4 a0 25) x1.toNatClampNeg) + 1)) → (Q σ14))))))))) ∧ (¬ (r_gi σ a0 14) ≤ (r_gi σ a0 15) → (∀ σ17 : r_S, σ17 = r_ui σ a0 15 ((r_gi σ a0 15) + 1) → (∃ n20, r_at σ (r_gr σ17 a0 27) = some (.inr (0, n20)) ∧ (∃ n22, r_at σ (r_gr σ17 a0 25) = some (.inr (0, n22)) ∧ (vp_in x1 n22 ∧ (¬ ((r_gi σ17 (r_gr σ17 a0 25) x1.toNatClampNeg) + 1) = 0 ∧ (vp_in x1 n20 ∧ (∀ σ27 : r_S, σ27 = r_ui σ17 (r_gr σ17 a0 27) (x1.toNatClampNeg) (0 - 0 / ((r_gi σ17 (r_gr σ17 a0 25) x1.toNatClampNeg) + 1) * ((r_gi σ17 (r_gr σ17 a0 25) x1.toNatClampNeg) + 1)) → (Q σ27))))))))))) ∧ (¬ (r_gi σ a0 14) ≤ (r_gi σ a0 15) → (∃ n30, r_at σ (r_gr σ a0 16) = some (.inr (0, n30)) ∧ (vp_in (r_gi σ a0 15) n30 ∧ (∀ z33 : Int32, z33 = r_gi σ (r_gr σ a0 16) (r_gi σ a0 15).toNatClampNeg → (((r_gi σ a0 14) ≤ (r_gi σ a0 15) → (∀ σ36 : r_S, σ36 = r_ui σ a0 15 (r_gi σ a0 15) → (∃ n39, r_at σ (r_gr σ36 a0 27) = some (.inr (0, n39)) ∧ (∃ n41, r_at σ (r_gr σ36 a0 25) = some (.inr (0, n41)) ∧ (vp_in x1 n41 ∧ (¬ ((r_gi σ36 (r_gr σ36 a0 25) x1.toNatClampNeg) + 1) = 0 ∧ (vp_in x1 n39 ∧ (∀ σ46 : r_S, σ46 = r_ui σ36 (r_gr σ36 a0 27) (x1.toNatClampNeg) (z33 - z33 / ((r_gi σ36 (r_gr σ36 a0 25) x1.toNatClampNeg) + 1) * ((r_gi σ36 (r_gr σ36 a0 25) x1.toNatClampNeg) + 1)) → (Q σ46))))))))) ∧ (¬ (r_gi σ a0 14) ≤ (r_gi σ a0 15) → (∀ σ49 : r_S, σ49 = r_ui σ a0 15 ((r_gi σ a0 15) + 1) → (∃ n52, r_at σ (r_gr σ49 a0 27) = some (.inr (0, n52)) ∧ (∃ n54, r_at σ (r_gr σ49 a0 25) = some (.inr (0, n54)) ∧ (vp_in x1 n54 ∧ (¬ ((r_gi σ49 (r_gr σ49 a0 25) x1.toNatClampNeg) + 1) = 0 ∧ (vp_in x1 n52 ∧ (∀ σ59 : r_S, σ59 = r_ui σ49 (r_gr σ49 a0 27) (x1.toNatClampNeg) (z33 - z33 / ((r_gi σ49 (r_gr σ49 a0 25) x1.toNatClampNeg) + 1) * ((r_gi σ49 (r_gr σ49 a0 25) x1.toNatClampNeg) + 1)) → (Q σ59)))))))))))))))) :
    r_W X w B 3 0 0 (r_Z X w B tX8_draw (r_QV σ0 Q)) 0 [(0, Value.ref (B + a0)), (1, Value.int x1)] [] σ := by
  refine r_aload_n C dX8_draw_0 rfl (j := 0) rfl ?_
  obtain ⟨g1, h⟩ := h
  refine r_get (v := .int (r_gi σ a0 15)) C (r_atT rfl g1) fa_X8_160 rfl dX8_draw_1 ?_
  refine r_aload_n C dX8_draw_4 rfl (j := 0) rfl ?_
  refine r_get (v := .int (r_gi σ a0 14)) C (r_atT rfl g1) fa_X8_157 rfl dX8_draw_5 ?_
  refine r_icmp_ge (tgt := 23) C dX8_draw_8 (by decide) (fun c2 => ?_) (fun c2 => ?_)
  · have h := h.1 c2
    refine r_iconst (v := 0) C dX8_draw_23 (by decide) ?_
    refine r_istore_n (lv' := [(2, Value.int 0), (0, Value.ref (B + a0)), (1, Value.int x1)]) C dX8_draw_24 rfl (by decide) rfl ?_
    refine r_aload_n C dX8_draw_25 rfl (j := 1) rfl ?_
    refine r_aload_n C dX8_draw_26 rfl (j := 1) rfl ?_
    refine r_get (v := .int (r_gi σ a0 15)) C (r_atT rfl g1) fa_X8_160 rfl dX8_draw_27 ?_
    refine r_aload_n C dX8_draw_30 rfl (j := 1) rfl ?_
    refine r_get (v := .int (r_gi σ a0 14)) C (r_atT rfl g1) fa_X8_157 rfl dX8_draw_31 ?_
    refine r_icmp_ge (tgt := 46) C dX8_draw_34 (by decide) (fun c3 => ?_) (fun c3 => ?_)
    · have h := h.1 c3
      refine r_aload_n C dX8_draw_46 rfl (j := 1) rfl ?_
      refine r_get (v := .int (r_gi σ a0 15)) C (r_atT rfl g1) fa_X8_160 rfl dX8_draw_47 ?_
      refine r_putI C (r_atT rfl g1) fa_X8_160 rfl rfl rfl dX8_draw_50 ?_
      refine r_nam (fun σ4 e5 => ?_)
      have h := h σ4 e5
      have s6 : σ4.1 = σ.1 := by rw [e5]; exact rfl
      refine r_aload_n C dX8_draw_53 rfl (j := 1) rfl ?_
      obtain ⟨n7, g8, h⟩ := h
      refine r_getR C (r_atT s6 g1) fa_X8_70 rfl (r_atN g8) dX8_draw_54 ?_
      refine r_iload_n C dX8_draw_57 rfl (j := 2) rfl ?_
      refine r_iload_n C dX8_draw_58 rfl (j := 0) rfl ?_
      refine r_aload_n C dX8_draw_59 rfl (j := 1) rfl ?_
      obtain ⟨n9, g10, h⟩ := h
      refine r_getR C (r_atT s6 g1) fa_X8_64 rfl (r_atN g10) dX8_draw_60 ?_
      refine r_iload_n C dX8_draw_63 rfl (j := 2) rfl ?_
      obtain ⟨g11, h⟩ := h
      refine r_iald C (r_atT s6 g10) ⟨rfl, fun _ => rfl⟩ g11 dX8_draw_64 ?_
      refine r_iconst (v := 1) C dX8_draw_65 (by decide) ?_
      refine r_iadd C dX8_draw_66 ?_
      obtain ⟨g12, h⟩ := h
      refine r_irem C dX8_draw_67 g12 ?_
      obtain ⟨g13, h⟩ := h
      refine r_iast C (r_atT s6 g8) ⟨rfl, fun _ => rfl⟩ g13 dX8_draw_68 ?_
      refine r_nam (fun σ14 e15 => ?_)
      have h := h σ14 e15
      have s16 : σ14.1 = σ.1 := by rw [e15]; exact s6
      exact r_vretQ C E rfl (Nat.zero_le _) (Nat.zero_le _) dX8_draw_69 (s16.trans hs) h
    · have h := h.2 c3
      refine r_aload_n C dX8_draw_37 rfl (j := 1) rfl ?_
      refine r_get (v := .int (r_gi σ a0 15)) C (r_atT rfl g1) fa_X8_160 rfl dX8_draw_38 ?_
      refine r_iconst (v := 1) C dX8_draw_41 (by decide) ?_
      refine r_iadd C dX8_draw_42 ?_
      refine r_goto (tgt := 50) C dX8_draw_43 (by decide) ?_
      refine r_putI C (r_atT rfl g1) fa_X8_160 rfl rfl rfl dX8_draw_50 ?_
      refine r_nam (fun σ17 e18 => ?_)
      have h := h σ17 e18
      have s19 : σ17.1 = σ.1 := by rw [e18]; exact rfl
      refine r_aload_n C dX8_draw_53 rfl (j := 1) rfl ?_
      obtain ⟨n20, g21, h⟩ := h
      refine r_getR C (r_atT s19 g1) fa_X8_70 rfl (r_atN g21) dX8_draw_54 ?_
      refine r_iload_n C dX8_draw_57 rfl (j := 2) rfl ?_
      refine r_iload_n C dX8_draw_58 rfl (j := 0) rfl ?_
      refine r_aload_n C dX8_draw_59 rfl (j := 1) rfl ?_
      obtain ⟨n22, g23, h⟩ := h
      refine r_getR C (r_atT s19 g1) fa_X8_64 rfl (r_atN g23) dX8_draw_60 ?_
      refine r_iload_n C dX8_draw_63 rfl (j := 2) rfl ?_
      obtain ⟨g24, h⟩ := h
      refine r_iald C (r_atT s19 g23) ⟨rfl, fun _ => rfl⟩ g24 dX8_draw_64 ?_
      refine r_iconst (v := 1) C dX8_draw_65 (by decide) ?_
      refine r_iadd C dX8_draw_66 ?_
      obtain ⟨g25, h⟩ := h
      refine r_irem C dX8_draw_67 g25 ?_
      obtain ⟨g26, h⟩ := h
      refine r_iast C (r_atT s19 g21) ⟨rfl, fun _ => rfl⟩ g26 dX8_draw_68 ?_
      refine r_nam (fun σ27 e28 => ?_)
      have h := h σ27 e28
      have s29 : σ27.1 = σ.1 := by rw [e28]; exact s19
      exact r_vretQ C E rfl (Nat.zero_le _) (Nat.zero_le _) dX8_draw_69 (s29.trans hs) h
  · have h := h.2 c2
    refine r_aload_n C dX8_draw_11 rfl (j := 0) rfl ?_
    obtain ⟨n30, g31, h⟩ := h
    refine r_getR C (r_atT rfl g1) fa_X8_42 rfl (r_atN g31) dX8_draw_12 ?_
    refine r_aload_n C dX8_draw_15 rfl (j := 0) rfl ?_
    refine r_get (v := .int (r_gi σ a0 15)) C (r_atT rfl g1) fa_X8_160 rfl dX8_draw_16 ?_
    obtain ⟨g32, h⟩ := h
    refine r_iald C (r_atT rfl g31) ⟨rfl, fun _ => rfl⟩ g32 dX8_draw_19 ?_
    refine r_goto (tgt := 24) C dX8_draw_20 (by decide) ?_
    refine r_topi (fun z33 e34 => ?_)
    have h := h z33 e34
    refine r_istore_n (lv' := [(2, Value.int z33), (0, Value.ref (B + a0)), (1, Value.int x1)]) C dX8_draw_24 rfl (by decide) rfl ?_
    refine r_aload_n C dX8_draw_25 rfl (j := 1) rfl ?_
    refine r_aload_n C dX8_draw_26 rfl (j := 1) rfl ?_
    refine r_get (v := .int (r_gi σ a0 15)) C (r_atT rfl g1) fa_X8_160 rfl dX8_draw_27 ?_
    refine r_aload_n C dX8_draw_30 rfl (j := 1) rfl ?_
    refine r_get (v := .int (r_gi σ a0 14)) C (r_atT rfl g1) fa_X8_157 rfl dX8_draw_31 ?_
    refine r_icmp_ge (tgt := 46) C dX8_draw_34 (by decide) (fun c35 => ?_) (fun c35 => ?_)
    · have h := h.1 c35
      refine r_aload_n C dX8_draw_46 rfl (j := 1) rfl ?_
      refine r_get (v := .int (r_gi σ a0 15)) C (r_atT rfl g1) fa_X8_160 rfl dX8_draw_47 ?_
      refine r_putI C (r_atT rfl g1) fa_X8_160 rfl rfl rfl dX8_draw_50 ?_
      refine r_nam (fun σ36 e37 => ?_)
      have h := h σ36 e37
      have s38 : σ36.1 = σ.1 := by rw [e37]; exact rfl
      refine r_aload_n C dX8_draw_53 rfl (j := 1) rfl ?_
      obtain ⟨n39, g40, h⟩ := h
      refine r_getR C (r_atT s38 g1) fa_X8_70 rfl (r_atN g40) dX8_draw_54 ?_
      refine r_iload_n C dX8_draw_57 rfl (j := 2) rfl ?_
      refine r_iload_n C dX8_draw_58 rfl (j := 0) rfl ?_
      refine r_aload_n C dX8_draw_59 rfl (j := 1) rfl ?_
      obtain ⟨n41, g42, h⟩ := h
      refine r_getR C (r_atT s38 g1) fa_X8_64 rfl (r_atN g42) dX8_draw_60 ?_
      refine r_iload_n C dX8_draw_63 rfl (j := 2) rfl ?_
      obtain ⟨g43, h⟩ := h
      refine r_iald C (r_atT s38 g42) ⟨rfl, fun _ => rfl⟩ g43 dX8_draw_64 ?_
      refine r_iconst (v := 1) C dX8_draw_65 (by decide) ?_
      refine r_iadd C dX8_draw_66 ?_
      obtain ⟨g44, h⟩ := h
      refine r_irem C dX8_draw_67 g44 ?_
      obtain ⟨g45, h⟩ := h
      refine r_iast C (r_atT s38 g40) ⟨rfl, fun _ => rfl⟩ g45 dX8_draw_68 ?_
      refine r_nam (fun σ46 e47 => ?_)
      have h := h σ46 e47
      have s48 : σ46.1 = σ.1 := by rw [e47]; exact s38
      exact r_vretQ C E rfl (Nat.zero_le _) (Nat.zero_le _) dX8_draw_69 (s48.trans hs) h
    · have h := h.2 c35
      refine r_aload_n C dX8_draw_37 rfl (j := 1) rfl ?_
      refine r_get (v := .int (r_gi σ a0 15)) C (r_atT rfl g1) fa_X8_160 rfl dX8_draw_38 ?_
      refine r_iconst (v := 1) C dX8_draw_41 (by decide) ?_
      refine r_iadd C dX8_draw_42 ?_
      refine r_goto (tgt := 50) C dX8_draw_43 (by decide) ?_
      refine r_putI C (r_atT rfl g1) fa_X8_160 rfl rfl rfl dX8_draw_50 ?_
      refine r_nam (fun σ49 e50 => ?_)
      have h := h σ49 e50
      have s51 : σ49.1 = σ.1 := by rw [e50]; exact rfl
      refine r_aload_n C dX8_draw_53 rfl (j := 1) rfl ?_
      obtain ⟨n52, g53, h⟩ := h
      refine r_getR C (r_atT s51 g1) fa_X8_70 rfl (r_atN g53) dX8_draw_54 ?_
      refine r_iload_n C dX8_draw_57 rfl (j := 2) rfl ?_
      refine r_iload_n C dX8_draw_58 rfl (j := 0) rfl ?_
      refine r_aload_n C dX8_draw_59 rfl (j := 1) rfl ?_
      obtain ⟨n54, g55, h⟩ := h
      refine r_getR C (r_atT s51 g1) fa_X8_64 rfl (r_atN g55) dX8_draw_60 ?_
      refine r_iload_n C dX8_draw_63 rfl (j := 2) rfl ?_
      obtain ⟨g56, h⟩ := h
      refine r_iald C (r_atT s51 g55) ⟨rfl, fun _ => rfl⟩ g56 dX8_draw_64 ?_
      refine r_iconst (v := 1) C dX8_draw_65 (by decide) ?_
      refine r_iadd C dX8_draw_66 ?_
      obtain ⟨g57, h⟩ := h
      refine r_irem C dX8_draw_67 g57 ?_
      obtain ⟨g58, h⟩ := h
      refine r_iast C (r_atT s51 g53) ⟨rfl, fun _ => rfl⟩ g58 dX8_draw_68 ?_
      refine r_nam (fun σ59 e60 => ?_)
      have h := h σ59 e60
      have s61 : σ59.1 = σ.1 := by rw [e60]; exact s51
      exact r_vretQ C E rfl (Nat.zero_le _) (Nat.zero_le _) dX8_draw_69 (s61.trans hs) h
theorem w_X8_threshold_0 {X : r_X} {w : r_V} {B : Nat} {l : Launch} {Q : Int32 → r_S → Prop} {σ0 : r_S} (C : r_C X w B 3 cX8_threshold RX8) (E : r_E X l tX8_threshold) {σ : r_S} (hs : σ.1 = σ0.1) {a0 : Nat} {x1 : Int32}
    (h : r_at σ a0 = some (.inl 8) ∧ (∀ σ2 : r_S, σ2 = r_ui σ a0 0 0 → ((x1 < 0 → (Q (-12) σ2)) ∧ (¬ x1 < 0 → ((x1 ≤ 100 → (∀ z7 : Int32, z7 = r_gi σ2 a0 3 → (∀ σ9 : r_S, σ9 = r_ui σ2 a0 3 x1 → (Q z7 σ9)))) ∧ (¬ x1 ≤ 100 → (Q (-12) σ2))))))) :
    r_W X w B 3 0 0 (r_Z X w B tX8_threshold (r_QI σ0 Q)) 0 [(0, Value.ref (B + a0)), (1, Value.int x1)] [] σ := by
  refine r_aload_n C dX8_threshold_0 rfl (j := 0) rfl ?_
  refine r_iconst (v := 0) C dX8_threshold_1 (by decide) ?_
  obtain ⟨g1, h⟩ := h
  refine r_putI C (r_atT rfl g1) fa_X8_150 rfl rfl rfl dX8_threshold_2 ?_
  refine r_nam (fun σ2 e3 => ?_)
  have h := h σ2 e3
  have s4 : σ2.1 = σ.1 := by rw [e3]; exact rfl
  refine r_iload_n C dX8_threshold_5 rfl (j := 1) rfl ?_
  refine r_if_lt (tgt := 15) C dX8_threshold_6 (by decide) (fun c5 => ?_) (fun c5 => ?_)
  · have h := h.1 c5
    refine r_bipush (v := (-12)) C dX8_threshold_15 (by decide) ?_
    exact r_iretQ C E rfl (Nat.zero_le _) (Nat.zero_le _) dX8_threshold_17 (s4.trans hs) h
  · have h := h.2 c5
    refine r_iload_n C dX8_threshold_9 rfl (j := 1) rfl ?_
    refine r_bipush (v := 100) C dX8_threshold_10 (by decide) ?_
    refine r_icmp_le (tgt := 18) C dX8_threshold_12 (by decide) (fun c6 => ?_) (fun c6 => ?_)
    · have h := h.1 c6
      refine r_aload_n C dX8_threshold_18 rfl (j := 0) rfl ?_
      refine r_get (v := .int (r_gi σ2 a0 3)) C (r_atT s4 g1) fa_X8_7 rfl dX8_threshold_19 ?_
      refine r_topi (fun z7 e8 => ?_)
      have h := h z7 e8
      refine r_istore_n (lv' := [(2, Value.int z7), (0, Value.ref (B + a0)), (1, Value.int x1)]) C dX8_threshold_22 rfl (by decide) rfl ?_
      refine r_aload_n C dX8_threshold_23 rfl (j := 1) rfl ?_
      refine r_iload_n C dX8_threshold_24 rfl (j := 2) rfl ?_
      refine r_putI C (r_atT s4 g1) fa_X8_7 rfl rfl rfl dX8_threshold_25 ?_
      refine r_nam (fun σ9 e10 => ?_)
      have h := h σ9 e10
      have s11 : σ9.1 = σ.1 := by rw [e10]; exact s4
      refine r_iload_n C dX8_threshold_28 rfl (j := 0) rfl ?_
      exact r_iretQ C E rfl (Nat.zero_le _) (Nat.zero_le _) dX8_threshold_29 (s11.trans hs) h
    · have h := h.2 c6
      refine r_bipush (v := (-12)) C dX8_threshold_15 (by decide) ?_
      exact r_iretQ C E rfl (Nat.zero_le _) (Nat.zero_le _) dX8_threshold_17 (s4.trans hs) h
theorem w_X8_keeps_0 {X : r_X} {w : r_V} {B : Nat} {l : Launch} {Q : Int32 → r_S → Prop} {σ0 : r_S} (C : r_C X w B 4 cX8_keeps RX8) (E : r_E X l tX8_keeps) {σ : r_S} (hs : σ.1 = σ0.1) {a0 : Nat} {x1 : Int32}
    (h : r_W X w B 4 0 0 (r_Z X w B tX8_keeps (r_QI σ0 Q)) 4 [(0, Value.ref (B + a0)), (1, Value.int x1), (2, Value.int 0), (3, Value.int 1)] [] σ) :
    r_W X w B 4 0 0 (r_Z X w B tX8_keeps (r_QI σ0 Q)) 0 [(0, Value.ref (B + a0)), (1, Value.int x1)] [] σ := by
  refine r_iconst (v := 0) C dX8_keeps_0 (by decide) ?_
  refine r_istore_n (lv' := [(2, Value.int 0), (0, Value.ref (B + a0)), (1, Value.int x1)]) C dX8_keeps_1 rfl (by decide) rfl ?_
  refine r_iconst (v := 1) C dX8_keeps_2 (by decide) ?_
  refine r_istore_n (lv' := [(3, Value.int 1), (2, Value.int 0), (0, Value.ref (B + a0)), (1, Value.int x1)]) C dX8_keeps_3 rfl (by decide) rfl ?_
  exact r_loc (by simp) h
theorem w_X8_keeps_4 {X : r_X} {w : r_V} {B : Nat} {l : Launch} {Q : Int32 → r_S → Prop} {σ0 : r_S} (C : r_C X w B 4 cX8_keeps RX8) (E : r_E X l tX8_keeps) {σ : r_S} (hs : σ.1 = σ0.1) {a0 : Nat} {x1 x2 x3 : Int32}
    (h : r_at σ a0 = some (.inl 8) ∧ (((r_gi σ a0 5) < x3 → (Q x2 σ)) ∧ (¬ (r_gi σ a0 5) < x3 → (∃ n3, r_at σ (r_gr σ a0 6) = some (.inr (0, n3)) ∧ (vp_in x3 n3 ∧ (((r_gi σ (r_gr σ a0 6) x3.toNatClampNeg) = x1 → (∃ n9, r_at σ (r_gr σ a0 10) = some (.inr (2, n9)) ∧ (vp_in x3 n9 ∧ (((r_gi σ (r_gr σ a0 10) x3.toNatClampNeg) = 0 → (∀ z13 : Int32, z13 = x3 + 1 → (r_W X w B 4 0 0 (r_Z X w B tX8_keeps (r_QI σ0 Q)) 4 [(0, Value.ref (B + a0)), (1, Value.int x1), (2, Value.int x2), (3, Value.int z13)] [] σ))) ∧ (¬ (r_gi σ (r_gr σ a0 10) x3.toNatClampNeg) = 0 → (∀ z15 : Int32, z15 = x2 + 1 → (∀ z17 : Int32, z17 = x3 + 1 → (r_W X w B 4 0 0 (r_Z X w B tX8_keeps (r_QI σ0 Q)) 4 [(0, Value.ref (B + a0)), (1, Value.int x1), (2, Value.int z15), (3, Value.int z17)] [] σ)))))))) ∧ (¬ (r_gi σ (r_gr σ a0 6) x3.toNatClampNeg) = x1 → (∀ z7 : Int32, z7 = x3 + 1 → (r_W X w B 4 0 0 (r_Z X w B tX8_keeps (r_QI σ0 Q)) 4 [(0, Value.ref (B + a0)), (1, Value.int x1), (2, Value.int x2), (3, Value.int z7)] [] σ))))))))) :
    r_W X w B 4 0 0 (r_Z X w B tX8_keeps (r_QI σ0 Q)) 4 [(0, Value.ref (B + a0)), (1, Value.int x1), (2, Value.int x2), (3, Value.int x3)] [] σ := by
  refine r_iload_n C dX8_keeps_4 rfl (j := 3) rfl ?_
  refine r_aload_n C dX8_keeps_5 rfl (j := 0) rfl ?_
  obtain ⟨g1, h⟩ := h
  refine r_get (v := .int (r_gi σ a0 5)) C (r_atT rfl g1) fa_X8_163 rfl dX8_keeps_6 ?_
  refine r_icmp_gt (tgt := 45) C dX8_keeps_9 (by decide) (fun c2 => ?_) (fun c2 => ?_)
  · have h := h.1 c2
    refine r_iload_n C dX8_keeps_45 rfl (j := 2) rfl ?_
    exact r_iretQ C E rfl (Nat.zero_le _) (Nat.zero_le _) dX8_keeps_46 ((rfl : σ.1 = σ.1).trans hs) h
  · have h := h.2 c2
    refine r_aload_n C dX8_keeps_12 rfl (j := 0) rfl ?_
    obtain ⟨n3, g4, h⟩ := h
    refine r_getR C (r_atT rfl g1) fa_X8_17 rfl (r_atN g4) dX8_keeps_13 ?_
    refine r_iload_n C dX8_keeps_16 rfl (j := 3) rfl ?_
    obtain ⟨g5, h⟩ := h
    refine r_iald C (r_atT rfl g4) ⟨rfl, fun _ => rfl⟩ g5 dX8_keeps_17 ?_
    refine r_iload_n C dX8_keeps_18 rfl (j := 1) rfl ?_
    refine r_icmp_ne (tgt := 37) C dX8_keeps_19 (by decide) (fun c6 => ?_) (fun c6 => ?_)
    · have h := h.2 c6
      refine r_iload_n C dX8_keeps_37 rfl (j := 2) rfl ?_
      refine r_istore_n (lv' := [(2, Value.int x2), (0, Value.ref (B + a0)), (1, Value.int x1), (3, Value.int x3)]) C dX8_keeps_38 rfl (by decide) rfl ?_
      obtain ⟨z7, e8⟩ : ∃ y : Int32, y = x3 + 1 := ⟨_, rfl⟩
      have h := h z7 e8
      refine r_iinc (v := z7) (lv' := [(3, Value.int z7), (2, Value.int x2), (0, Value.ref (B + a0)), (1, Value.int x1)]) C dX8_keeps_39 (k := 3) rfl (by rw [e8]; rfl) (by decide) rfl ?_
      refine r_goto (tgt := 4) C dX8_keeps_42 (by decide) ?_
      exact r_loc (by simp) h
    · have h := h.1 c6
      refine r_aload_n C dX8_keeps_22 rfl (j := 0) rfl ?_
      obtain ⟨n9, g10, h⟩ := h
      refine r_getR C (r_atT rfl g1) fa_X8_30 rfl (r_atN g10) dX8_keeps_23 ?_
      refine r_iload_n C dX8_keeps_26 rfl (j := 3) rfl ?_
      obtain ⟨g11, h⟩ := h
      refine r_zald C (r_atT rfl g10) ⟨rfl, fun _ => rfl⟩ g11 dX8_keeps_27 ?_
      refine r_if_eq (tgt := 37) C dX8_keeps_28 (by decide) (fun c12 => ?_) (fun c12 => ?_)
      · have h := h.1 c12
        refine r_iload_n C dX8_keeps_37 rfl (j := 2) rfl ?_
        refine r_istore_n (lv' := [(2, Value.int x2), (0, Value.ref (B + a0)), (1, Value.int x1), (3, Value.int x3)]) C dX8_keeps_38 rfl (by decide) rfl ?_
        obtain ⟨z13, e14⟩ : ∃ y : Int32, y = x3 + 1 := ⟨_, rfl⟩
        have h := h z13 e14
        refine r_iinc (v := z13) (lv' := [(3, Value.int z13), (2, Value.int x2), (0, Value.ref (B + a0)), (1, Value.int x1)]) C dX8_keeps_39 (k := 3) rfl (by rw [e14]; rfl) (by decide) rfl ?_
        refine r_goto (tgt := 4) C dX8_keeps_42 (by decide) ?_
        exact r_loc (by simp) h
      · have h := h.2 c12
        refine r_iload_n C dX8_keeps_31 rfl (j := 2) rfl ?_
        refine r_iconst (v := 1) C dX8_keeps_32 (by decide) ?_
        refine r_iadd C dX8_keeps_33 ?_
        refine r_goto (tgt := 38) C dX8_keeps_34 (by decide) ?_
        refine r_topi (fun z15 e16 => ?_)
        have h := h z15 e16
        refine r_istore_n (lv' := [(2, Value.int z15), (0, Value.ref (B + a0)), (1, Value.int x1), (3, Value.int x3)]) C dX8_keeps_38 rfl (by decide) rfl ?_
        obtain ⟨z17, e18⟩ : ∃ y : Int32, y = x3 + 1 := ⟨_, rfl⟩
        have h := h z17 e18
        refine r_iinc (v := z17) (lv' := [(3, Value.int z17), (2, Value.int z15), (0, Value.ref (B + a0)), (1, Value.int x1)]) C dX8_keeps_39 (k := 3) rfl (by rw [e18]; rfl) (by decide) rfl ?_
        refine r_goto (tgt := 4) C dX8_keeps_42 (by decide) ?_
        exact r_loc (by simp) h
theorem w_X8_offer_0 {X : r_X} {w : r_V} {B : Nat} {l : Launch} {Q : Int32 → r_S → Prop} {σ0 : r_S} (C : r_C X w B 5 cX8_offer RX8) (E : r_E X l tX8_offer) {σ : r_S} (hs : σ.1 = σ0.1) {a0 : Nat} {x1 x2 x3 : Int32}
    (h : r_at σ a0 = some (.inl 8) ∧ (∀ σ2 : r_S, σ2 = r_ui σ a0 0 0 → (∃ Q5 : Int32 → r_S → Prop, r_M l w B tX8_isStation [Value.ref (B + a0), Value.int x1] σ2 (r_QI σ2 Q5) ∧ (∀ (z9 : Int32) (σ7 : r_S), Q5 z9 σ7 → ((z9 = 0 → (Q (-11) σ7)) ∧ (¬ z9 = 0 → (∃ Q12 : Int32 → r_S → Prop, r_M l w B tX8_isStation [Value.ref (B + a0), Value.int x2] σ7 (r_QI σ7 Q12) ∧ (∀ (z16 : Int32) (σ14 : r_S), Q12 z16 σ14 → ((z16 = 0 → (Q (-11) σ14)) ∧ (¬ z16 = 0 → ((x1 = x2 → (Q (-12) σ14)) ∧ (¬ x1 = x2 → ((x3 < 1 → (Q (-12) σ14)) ∧ (¬ x3 < 1 → ((x3 ≤ 8 → (∃ Q22 : Int32 → r_S → Prop, r_M l w B tX8_keeps [Value.ref (B + a0), Value.int x1] σ14 (r_QI σ14 Q22) ∧ (∀ (z26 : Int32) (σ24 : r_S), Q22 z26 σ24 → (((r_gi σ24 a0 5) = 300 → (Q (-14) σ24)) ∧ (¬ (r_gi σ24 a0 5) = 300 → ((z26 = 10 → (Q (-14) σ24)) ∧ (¬ z26 = 10 → (∀ σ30 : r_S, σ30 = r_ui σ24 a0 5 ((r_gi σ24 a0 5) + 1) → (∃ n33, r_at σ (r_gr σ30 a0 6) = some (.inr (0, n33)) ∧ (vp_in (r_gi σ30 a0 5) n33 ∧ (∀ σ36 : r_S, σ36 = r_ui σ30 (r_gr σ30 a0 6) ((r_gi σ30 a0 5).toNatClampNeg) x1 → (∃ n39, r_at σ (r_gr σ36 a0 7) = some (.inr (0, n39)) ∧ (vp_in (r_gi σ36 a0 5) n39 ∧ (∀ σ42 : r_S, σ42 = r_ui σ36 (r_gr σ36 a0 7) ((r_gi σ36 a0 5).toNatClampNeg) x2 → (∃ n45, r_at σ (r_gr σ42 a0 8) = some (.inr (0, n45)) ∧ (vp_in (r_gi σ42 a0 5) n45 ∧ (∀ σ48 : r_S, σ48 = r_ui σ42 (r_gr σ42 a0 8) ((r_gi σ42 a0 5).toNatClampNeg) x3 → (∃ n51, r_at σ (r_gr σ48 a0 9) = some (.inr (0, n51)) ∧ (∃ n53, r_at σ (r_gr σ48 a0 12) = some (.inr (0, n53)) ∧ (vp_in ((6 * x1) + x2) n53 ∧ (vp_in (r_gi σ48 a0 5) n51 ∧ (∀ σ57 : r_S, σ57 = r_ui σ48 (r_gr σ48 a0 9) ((r_gi σ48 a0 5).toNatClampNeg) (r_gi σ48 (r_gr σ48 a0 12) ((6 * x1) + x2).toNatClampNeg) → (∃ n60, r_at σ (r_gr σ57 a0 12) = some (.inr (0, n60)) ∧ (vp_in ((6 * x1) + x2) n60 ∧ (∀ σ63 : r_S, σ63 = r_ui σ57 (r_gr σ57 a0 12) (((6 * x1) + x2).toNatClampNeg) ((r_gi σ57 (r_gr σ57 a0 12) ((6 * x1) + x2).toNatClampNeg) + 1) → (∃ n66, r_at σ (r_gr σ63 a0 10) = some (.inr (2, n66)) ∧ (vp_in (r_gi σ63 a0 5) n66 ∧ (∀ σ69 : r_S, σ69 = r_ui σ63 (r_gr σ63 a0 10) ((r_gi σ63 a0 5).toNatClampNeg) 1 → ((z26 = 0 → (∃ Q73 : r_S → Prop, r_M l w B tX8_draw [Value.ref (B + a0), Value.int x1] σ69 (r_QV σ69 Q73) ∧ (∀ σ75 : r_S, Q73 σ75 → (Q (r_gi σ75 a0 5) σ75)))) ∧ (¬ z26 = 0 → (Q (r_gi σ69 a0 5) σ69))))))))))))))))))))))))))))))) ∧ (¬ x3 ≤ 8 → (Q (-12) σ14))))))))))))))))) :
    r_W X w B 5 0 0 (r_Z X w B tX8_offer (r_QI σ0 Q)) 0 [(0, Value.ref (B + a0)), (1, Value.int x1), (2, Value.int x2), (3, Value.int x3)] [] σ := by
  refine r_aload_n C dX8_offer_0 rfl (j := 0) rfl ?_
  refine r_iconst (v := 0) C dX8_offer_1 (by decide) ?_
  obtain ⟨g1, h⟩ := h
  refine r_putI C (r_atT rfl g1) fa_X8_150 rfl rfl rfl dX8_offer_2 ?_
  refine r_nam (fun σ2 e3 => ?_)
  have h := h σ2 e3
  have s4 : σ2.1 = σ.1 := by rw [e3]; exact rfl
  refine r_aload_n C dX8_offer_5 rfl (j := 0) rfl ?_
  refine r_iload_n C dX8_offer_6 rfl (j := 1) rfl ?_
  obtain ⟨Q5, m6, h⟩ := h
  refine r_callVI (rest := []) C E [Value.int x1] (r_atT s4 g1) rfl ky_X8_isStation kl_X8_153 ki_X8_isStation kx_X8_isStation ⟨Nat.le_of_ble_eq_true rfl, Nat.le_of_ble_eq_true rfl⟩ ⟨rfl, rfl⟩ m6 rfl rfl (Nat.le_of_ble_eq_true rfl) (Nat.zero_le _) (Nat.zero_le _) dX8_offer_7 (fun z9 σ7 s8 q10 => ?_)
  have h := h z9 σ7 q10
  have s8 := s8.trans s4
  refine r_if_eq (tgt := 21) C dX8_offer_10 (by decide) (fun c11 => ?_) (fun c11 => ?_)
  · have h := h.1 c11
    refine r_bipush (v := (-11)) C dX8_offer_21 (by decide) ?_
    exact r_iretQ C E rfl (Nat.zero_le _) (Nat.zero_le _) dX8_offer_23 (s8.trans hs) h
  · have h := h.2 c11
    refine r_aload_n C dX8_offer_13 rfl (j := 0) rfl ?_
    refine r_iload_n C dX8_offer_14 rfl (j := 2) rfl ?_
    obtain ⟨Q12, m13, h⟩ := h
    refine r_callVI (rest := []) C E [Value.int x2] (r_atT s8 g1) rfl ky_X8_isStation kl_X8_153 ki_X8_isStation kx_X8_isStation ⟨Nat.le_of_ble_eq_true rfl, Nat.le_of_ble_eq_true rfl⟩ ⟨rfl, rfl⟩ m13 rfl rfl (Nat.le_of_ble_eq_true rfl) (Nat.zero_le _) (Nat.zero_le _) dX8_offer_15 (fun z16 σ14 s15 q17 => ?_)
    have h := h z16 σ14 q17
    have s15 := s15.trans s8
    refine r_if_ne (tgt := 24) C dX8_offer_18 (by decide) (fun c18 => ?_) (fun c18 => ?_)
    · have h := h.2 c18
      refine r_iload_n C dX8_offer_24 rfl (j := 1) rfl ?_
      refine r_iload_n C dX8_offer_25 rfl (j := 2) rfl ?_
      refine r_icmp_eq (tgt := 40) C dX8_offer_26 (by decide) (fun c19 => ?_) (fun c19 => ?_)
      · have h := h.1 c19
        refine r_bipush (v := (-12)) C dX8_offer_40 (by decide) ?_
        exact r_iretQ C E rfl (Nat.zero_le _) (Nat.zero_le _) dX8_offer_42 (s15.trans hs) h
      · have h := h.2 c19
        refine r_iload_n C dX8_offer_29 rfl (j := 3) rfl ?_
        refine r_iconst (v := 1) C dX8_offer_30 (by decide) ?_
        refine r_icmp_lt (tgt := 40) C dX8_offer_31 (by decide) (fun c20 => ?_) (fun c20 => ?_)
        · have h := h.1 c20
          refine r_bipush (v := (-12)) C dX8_offer_40 (by decide) ?_
          exact r_iretQ C E rfl (Nat.zero_le _) (Nat.zero_le _) dX8_offer_42 (s15.trans hs) h
        · have h := h.2 c20
          refine r_iload_n C dX8_offer_34 rfl (j := 3) rfl ?_
          refine r_bipush (v := 8) C dX8_offer_35 (by decide) ?_
          refine r_icmp_le (tgt := 43) C dX8_offer_37 (by decide) (fun c21 => ?_) (fun c21 => ?_)
          · have h := h.1 c21
            refine r_aload_n C dX8_offer_43 rfl (j := 0) rfl ?_
            refine r_iload_n C dX8_offer_44 rfl (j := 1) rfl ?_
            obtain ⟨Q22, m23, h⟩ := h
            refine r_callVI (rest := []) C E [Value.int x1] (r_atT s15 g1) rfl ky_X8_keeps kl_X8_166 ki_X8_keeps kx_X8_keeps ⟨Nat.le_of_ble_eq_true rfl, Nat.le_of_ble_eq_true rfl⟩ ⟨rfl, rfl⟩ m23 rfl rfl (Nat.le_of_ble_eq_true rfl) (Nat.zero_le _) (Nat.zero_le _) dX8_offer_45 (fun z26 σ24 s25 q27 => ?_)
            have h := h z26 σ24 q27
            have s25 := s25.trans s15
            refine r_istore (lv' := [(4, Value.int z26), (0, Value.ref (B + a0)), (1, Value.int x1), (2, Value.int x2), (3, Value.int x3)]) C dX8_offer_48 (by decide) rfl ?_
            refine r_aload_n C dX8_offer_50 rfl (j := 1) rfl ?_
            refine r_get (v := .int (r_gi σ24 a0 5)) C (r_atT s25 g1) fa_X8_163 rfl dX8_offer_51 ?_
            refine r_sipush (v := 300) C dX8_offer_54 (by decide) ?_
            refine r_icmp_eq (tgt := 67) C dX8_offer_57 (by decide) (fun c28 => ?_) (fun c28 => ?_)
            · have h := h.1 c28
              refine r_bipush (v := (-14)) C dX8_offer_67 (by decide) ?_
              exact r_iretQ C E rfl (Nat.zero_le _) (Nat.zero_le _) dX8_offer_69 (s25.trans hs) h
            · have h := h.2 c28
              refine r_iload C dX8_offer_60 (j := 0) rfl ?_
              refine r_bipush (v := 10) C dX8_offer_62 (by decide) ?_
              refine r_icmp_ne (tgt := 70) C dX8_offer_64 (by decide) (fun c29 => ?_) (fun c29 => ?_)
              · have h := h.2 c29
                refine r_aload_n C dX8_offer_70 rfl (j := 1) rfl ?_
                refine r_dup C dX8_offer_71 rfl ?_
                refine r_get (v := .int (r_gi σ24 a0 5)) C (r_atT s25 g1) fa_X8_163 rfl dX8_offer_72 ?_
                refine r_iconst (v := 1) C dX8_offer_75 (by decide) ?_
                refine r_iadd C dX8_offer_76 ?_
                refine r_putI C (r_atT s25 g1) fa_X8_163 rfl rfl rfl dX8_offer_77 ?_
                refine r_nam (fun σ30 e31 => ?_)
                have h := h σ30 e31
                have s32 : σ30.1 = σ.1 := by rw [e31]; exact s25
                refine r_aload_n C dX8_offer_80 rfl (j := 1) rfl ?_
                obtain ⟨n33, g34, h⟩ := h
                refine r_getR C (r_atT s32 g1) fa_X8_17 rfl (r_atN g34) dX8_offer_81 ?_
                refine r_aload_n C dX8_offer_84 rfl (j := 1) rfl ?_
                refine r_get (v := .int (r_gi σ30 a0 5)) C (r_atT s32 g1) fa_X8_163 rfl dX8_offer_85 ?_
                refine r_iload_n C dX8_offer_88 rfl (j := 2) rfl ?_
                obtain ⟨g35, h⟩ := h
                refine r_iast C (r_atT s32 g34) ⟨rfl, fun _ => rfl⟩ g35 dX8_offer_89 ?_
                refine r_nam (fun σ36 e37 => ?_)
                have h := h σ36 e37
                have s38 : σ36.1 = σ.1 := by rw [e37]; exact s32
                refine r_aload_n C dX8_offer_90 rfl (j := 1) rfl ?_
                obtain ⟨n39, g40, h⟩ := h
                refine r_getR C (r_atT s38 g1) fa_X8_21 rfl (r_atN g40) dX8_offer_91 ?_
                refine r_aload_n C dX8_offer_94 rfl (j := 1) rfl ?_
                refine r_get (v := .int (r_gi σ36 a0 5)) C (r_atT s38 g1) fa_X8_163 rfl dX8_offer_95 ?_
                refine r_iload_n C dX8_offer_98 rfl (j := 3) rfl ?_
                obtain ⟨g41, h⟩ := h
                refine r_iast C (r_atT s38 g40) ⟨rfl, fun _ => rfl⟩ g41 dX8_offer_99 ?_
                refine r_nam (fun σ42 e43 => ?_)
                have h := h σ42 e43
                have s44 : σ42.1 = σ.1 := by rw [e43]; exact s38
                refine r_aload_n C dX8_offer_100 rfl (j := 1) rfl ?_
                obtain ⟨n45, g46, h⟩ := h
                refine r_getR C (r_atT s44 g1) fa_X8_24 rfl (r_atN g46) dX8_offer_101 ?_
                refine r_aload_n C dX8_offer_104 rfl (j := 1) rfl ?_
                refine r_get (v := .int (r_gi σ42 a0 5)) C (r_atT s44 g1) fa_X8_163 rfl dX8_offer_105 ?_
                refine r_iload_n C dX8_offer_108 rfl (j := 4) rfl ?_
                obtain ⟨g47, h⟩ := h
                refine r_iast C (r_atT s44 g46) ⟨rfl, fun _ => rfl⟩ g47 dX8_offer_109 ?_
                refine r_nam (fun σ48 e49 => ?_)
                have h := h σ48 e49
                have s50 : σ48.1 = σ.1 := by rw [e49]; exact s44
                refine r_aload_n C dX8_offer_110 rfl (j := 1) rfl ?_
                obtain ⟨n51, g52, h⟩ := h
                refine r_getR C (r_atT s50 g1) fa_X8_27 rfl (r_atN g52) dX8_offer_111 ?_
                refine r_aload_n C dX8_offer_114 rfl (j := 1) rfl ?_
                refine r_get (v := .int (r_gi σ48 a0 5)) C (r_atT s50 g1) fa_X8_163 rfl dX8_offer_115 ?_
                refine r_aload_n C dX8_offer_118 rfl (j := 1) rfl ?_
                obtain ⟨n53, g54, h⟩ := h
                refine r_getR C (r_atT s50 g1) fa_X8_36 rfl (r_atN g54) dX8_offer_119 ?_
                refine r_bipush (v := 6) C dX8_offer_122 (by decide) ?_
                refine r_iload_n C dX8_offer_124 rfl (j := 2) rfl ?_
                refine r_imul C dX8_offer_125 ?_
                refine r_iload_n C dX8_offer_126 rfl (j := 3) rfl ?_
                refine r_iadd C dX8_offer_127 ?_
                obtain ⟨g55, h⟩ := h
                refine r_iald C (r_atT s50 g54) ⟨rfl, fun _ => rfl⟩ g55 dX8_offer_128 ?_
                obtain ⟨g56, h⟩ := h
                refine r_iast C (r_atT s50 g52) ⟨rfl, fun _ => rfl⟩ g56 dX8_offer_129 ?_
                refine r_nam (fun σ57 e58 => ?_)
                have h := h σ57 e58
                have s59 : σ57.1 = σ.1 := by rw [e58]; exact s50
                refine r_aload_n C dX8_offer_130 rfl (j := 1) rfl ?_
                obtain ⟨n60, g61, h⟩ := h
                refine r_getR C (r_atT s59 g1) fa_X8_36 rfl (r_atN g61) dX8_offer_131 ?_
                refine r_bipush (v := 6) C dX8_offer_134 (by decide) ?_
                refine r_iload_n C dX8_offer_136 rfl (j := 2) rfl ?_
                refine r_imul C dX8_offer_137 ?_
                refine r_iload_n C dX8_offer_138 rfl (j := 3) rfl ?_
                refine r_iadd C dX8_offer_139 ?_
                refine r_dup2_11 C dX8_offer_140 rfl rfl ?_
                obtain ⟨g62, h⟩ := h
                refine r_iald C (r_atT s59 g61) ⟨rfl, fun _ => rfl⟩ g62 dX8_offer_141 ?_
                refine r_iconst (v := 1) C dX8_offer_142 (by decide) ?_
                refine r_iadd C dX8_offer_143 ?_
                refine r_iast C (r_atT s59 g61) ⟨rfl, fun _ => rfl⟩ g62 dX8_offer_144 ?_
                refine r_nam (fun σ63 e64 => ?_)
                have h := h σ63 e64
                have s65 : σ63.1 = σ.1 := by rw [e64]; exact s59
                refine r_aload_n C dX8_offer_145 rfl (j := 1) rfl ?_
                obtain ⟨n66, g67, h⟩ := h
                refine r_getR C (r_atT s65 g1) fa_X8_30 rfl (r_atN g67) dX8_offer_146 ?_
                refine r_aload_n C dX8_offer_149 rfl (j := 1) rfl ?_
                refine r_get (v := .int (r_gi σ63 a0 5)) C (r_atT s65 g1) fa_X8_163 rfl dX8_offer_150 ?_
                refine r_iconst (v := 1) C dX8_offer_153 (by decide) ?_
                obtain ⟨g68, h⟩ := h
                refine r_zast C (r_atT s65 g67) ⟨rfl, fun _ => rfl⟩ g68 (by decide) dX8_offer_154 ?_
                refine r_nam (fun σ69 e70 => ?_)
                have h := h σ69 e70
                have s71 : σ69.1 = σ.1 := by rw [e70]; exact s65
                refine r_iload C dX8_offer_155 (j := 0) rfl ?_
                refine r_if_ne (tgt := 165) C dX8_offer_157 (by decide) (fun c72 => ?_) (fun c72 => ?_)
                · have h := h.2 c72
                  refine r_aload_n C dX8_offer_165 rfl (j := 1) rfl ?_
                  refine r_get (v := .int (r_gi σ69 a0 5)) C (r_atT s71 g1) fa_X8_163 rfl dX8_offer_166 ?_
                  exact r_iretQ C E rfl (Nat.zero_le _) (Nat.zero_le _) dX8_offer_169 (s71.trans hs) h
                · have h := h.1 c72
                  refine r_aload_n C dX8_offer_160 rfl (j := 1) rfl ?_
                  refine r_iload_n C dX8_offer_161 rfl (j := 2) rfl ?_
                  obtain ⟨Q73, m74, h⟩ := h
                  refine r_callVV (rest := []) C E [Value.int x1] (r_atT s71 g1) rfl ky_X8_draw kl_X8_170 ki_X8_draw kx_X8_draw ⟨Nat.le_of_ble_eq_true rfl, Nat.le_of_ble_eq_true rfl⟩ ⟨rfl, rfl⟩ m74 rfl rfl (Nat.le_of_ble_eq_true rfl) (Nat.zero_le _) (Nat.zero_le _) dX8_offer_162 (fun σ75 s76 q78 => ?_)
                  have h := h σ75 q78
                  have s76 := s76.trans s71
                  refine r_aload_n C dX8_offer_165 rfl (j := 1) rfl ?_
                  refine r_get (v := .int (r_gi σ75 a0 5)) C (r_atT s76 g1) fa_X8_163 rfl dX8_offer_166 ?_
                  exact r_iretQ C E rfl (Nat.zero_le _) (Nat.zero_le _) dX8_offer_169 (s76.trans hs) h
              · have h := h.1 c29
                refine r_bipush (v := (-14)) C dX8_offer_67 (by decide) ?_
                exact r_iretQ C E rfl (Nat.zero_le _) (Nat.zero_le _) dX8_offer_69 (s25.trans hs) h
          · have h := h.2 c21
            refine r_bipush (v := (-12)) C dX8_offer_40 (by decide) ?_
            exact r_iretQ C E rfl (Nat.zero_le _) (Nat.zero_le _) dX8_offer_42 (s15.trans hs) h
    · have h := h.1 c18
      refine r_bipush (v := (-11)) C dX8_offer_21 (by decide) ?_
      exact r_iretQ C E rfl (Nat.zero_le _) (Nat.zero_le _) dX8_offer_23 (s15.trans hs) h
theorem w_X8_noise_0 {X : r_X} {w : r_V} {B : Nat} {l : Launch} {Q : Int32 → r_S → Prop} {σ0 : r_S} (C : r_C X w B 5 cX8_noise RX8) (E : r_E X l tX8_noise) {σ : r_S} (hs : σ.1 = σ0.1) {a0 : Nat} {x1 x4 : Int32} {y2 : Int64}
    (h : r_at σ a0 = some (.inl 8) ∧ (∀ σ2 : r_S, σ2 = r_ui σ a0 0 0 → (∃ Q5 : Int32 → r_S → Prop, r_M l w B tX8_isStation [Value.ref (B + a0), Value.int x1] σ2 (r_QI σ2 Q5) ∧ (∀ (z9 : Int32) (σ7 : r_S), Q5 z9 σ7 → ((z9 = 0 → (Q (-11) σ7)) ∧ (¬ z9 = 0 → ((y2 < (r_gl σ7 a0 2) → (Q (-12) σ7)) ∧ (¬ y2 < (r_gl σ7 a0 2) → ((1000000 < y2 → (Q (-12) σ7)) ∧ (¬ 1000000 < y2 → ((x4 < 1 → (Q (-12) σ7)) ∧ (¬ x4 < 1 → ((x4 ≤ 1000 → (((r_gi σ7 a0 17) = 40 → (Q (-14) σ7)) ∧ (¬ (r_gi σ7 a0 17) = 40 → (∃ n17, r_at σ (r_gr σ7 a0 18) = some (.inr (0, n17)) ∧ (vp_in (r_gi σ7 a0 17) n17 ∧ (∀ σ20 : r_S, σ20 = r_ui σ7 (r_gr σ7 a0 18) ((r_gi σ7 a0 17).toNatClampNeg) x1 → (∃ n23, r_at σ (r_gr σ20 a0 19) = some (.inr (1, n23)) ∧ (vp_in (r_gi σ20 a0 17) n23 ∧ (∀ σ26 : r_S, σ26 = r_ul σ20 (r_gr σ20 a0 19) ((r_gi σ20 a0 17).toNatClampNeg) y2 → (∃ n29, r_at σ (r_gr σ26 a0 20) = some (.inr (0, n29)) ∧ (vp_in (r_gi σ26 a0 17) n29 ∧ (∀ σ32 : r_S, σ32 = r_ui σ26 (r_gr σ26 a0 20) ((r_gi σ26 a0 17).toNatClampNeg) x4 → (∀ σ35 : r_S, σ35 = r_ui σ32 a0 17 ((r_gi σ32 a0 17) + 1) → (Q (r_gi σ35 a0 17) σ35)))))))))))))) ∧ (¬ x4 ≤ 1000 → (Q (-12) σ7))))))))))))))) :
    r_W X w B 5 0 0 (r_Z X w B tX8_noise (r_QI σ0 Q)) 0 [(0, Value.ref (B + a0)), (1, Value.int x1), (2, Value.long y2), (4, Value.int x4)] [] σ := by
  refine r_aload_n C dX8_noise_0 rfl (j := 0) rfl ?_
  refine r_iconst (v := 0) C dX8_noise_1 (by decide) ?_
  obtain ⟨g1, h⟩ := h
  refine r_putI C (r_atT rfl g1) fa_X8_150 rfl rfl rfl dX8_noise_2 ?_
  refine r_nam (fun σ2 e3 => ?_)
  have h := h σ2 e3
  have s4 : σ2.1 = σ.1 := by rw [e3]; exact rfl
  refine r_aload_n C dX8_noise_5 rfl (j := 0) rfl ?_
  refine r_iload_n C dX8_noise_6 rfl (j := 1) rfl ?_
  obtain ⟨Q5, m6, h⟩ := h
  refine r_callVI (rest := []) C E [Value.int x1] (r_atT s4 g1) rfl ky_X8_isStation kl_X8_153 ki_X8_isStation kx_X8_isStation ⟨Nat.le_of_ble_eq_true rfl, Nat.le_of_ble_eq_true rfl⟩ ⟨rfl, rfl⟩ m6 rfl rfl (Nat.le_of_ble_eq_true rfl) (Nat.zero_le _) (Nat.zero_le _) dX8_noise_7 (fun z9 σ7 s8 q10 => ?_)
  have h := h z9 σ7 q10
  have s8 := s8.trans s4
  refine r_if_ne (tgt := 16) C dX8_noise_10 (by decide) (fun c11 => ?_) (fun c11 => ?_)
  · have h := h.2 c11
    refine r_lload_n C dX8_noise_16 rfl (j := 2) rfl ?_
    refine r_aload_n C dX8_noise_17 rfl (j := 0) rfl ?_
    refine r_get (v := .long (r_gl σ7 a0 2)) C (r_atT s8 g1) fa_X8_174 rfl dX8_noise_18 ?_
    refine r_lcmp C dX8_noise_21 ?_
    refine r_if_lt (tgt := 47) C dX8_noise_22 (by decide) (fun c12 => ?_) (fun c12 => ?_)
    · have h := h.1 (lgc_lt.mp c12)
      refine r_bipush (v := (-12)) C dX8_noise_47 (by decide) ?_
      exact r_iretQ C E rfl (Nat.zero_le _) (Nat.zero_le _) dX8_noise_49 (s8.trans hs) h
    · have h := h.2 (fun q => c12 (lgc_lt.mpr q))
      refine r_lload_n C dX8_noise_25 rfl (j := 2) rfl ?_
      refine r_ldc2 (v := 1000000) C kj_X8_178 dX8_noise_26 ?_
      refine r_lcmp C dX8_noise_29 ?_
      refine r_if_gt (tgt := 47) C dX8_noise_30 (by decide) (fun c13 => ?_) (fun c13 => ?_)
      · have h := h.1 (lgc_gt.mp c13)
        refine r_bipush (v := (-12)) C dX8_noise_47 (by decide) ?_
        exact r_iretQ C E rfl (Nat.zero_le _) (Nat.zero_le _) dX8_noise_49 (s8.trans hs) h
      · have h := h.2 (fun q => c13 (lgc_gt.mpr q))
        refine r_iload C dX8_noise_33 (j := 3) rfl ?_
        refine r_iconst (v := 1) C dX8_noise_35 (by decide) ?_
        refine r_icmp_lt (tgt := 47) C dX8_noise_36 (by decide) (fun c14 => ?_) (fun c14 => ?_)
        · have h := h.1 c14
          refine r_bipush (v := (-12)) C dX8_noise_47 (by decide) ?_
          exact r_iretQ C E rfl (Nat.zero_le _) (Nat.zero_le _) dX8_noise_49 (s8.trans hs) h
        · have h := h.2 c14
          refine r_iload C dX8_noise_39 (j := 3) rfl ?_
          refine r_sipush (v := 1000) C dX8_noise_41 (by decide) ?_
          refine r_icmp_le (tgt := 50) C dX8_noise_44 (by decide) (fun c15 => ?_) (fun c15 => ?_)
          · have h := h.1 c15
            refine r_aload_n C dX8_noise_50 rfl (j := 0) rfl ?_
            refine r_get (v := .int (r_gi σ7 a0 17)) C (r_atT s8 g1) fa_X8_180 rfl dX8_noise_51 ?_
            refine r_bipush (v := 40) C dX8_noise_54 (by decide) ?_
            refine r_icmp_ne (tgt := 62) C dX8_noise_56 (by decide) (fun c16 => ?_) (fun c16 => ?_)
            · have h := h.2 c16
              refine r_aload_n C dX8_noise_62 rfl (j := 0) rfl ?_
              obtain ⟨n17, g18, h⟩ := h
              refine r_getR C (r_atT s8 g1) fa_X8_45 rfl (r_atN g18) dX8_noise_63 ?_
              refine r_aload_n C dX8_noise_66 rfl (j := 0) rfl ?_
              refine r_get (v := .int (r_gi σ7 a0 17)) C (r_atT s8 g1) fa_X8_180 rfl dX8_noise_67 ?_
              refine r_iload_n C dX8_noise_70 rfl (j := 1) rfl ?_
              obtain ⟨g19, h⟩ := h
              refine r_iast C (r_atT s8 g18) ⟨rfl, fun _ => rfl⟩ g19 dX8_noise_71 ?_
              refine r_nam (fun σ20 e21 => ?_)
              have h := h σ20 e21
              have s22 : σ20.1 = σ.1 := by rw [e21]; exact s8
              refine r_aload_n C dX8_noise_72 rfl (j := 0) rfl ?_
              obtain ⟨n23, g24, h⟩ := h
              refine r_getR C (r_atT s22 g1) fa_X8_48 rfl (r_atN g24) dX8_noise_73 ?_
              refine r_aload_n C dX8_noise_76 rfl (j := 0) rfl ?_
              refine r_get (v := .int (r_gi σ20 a0 17)) C (r_atT s22 g1) fa_X8_180 rfl dX8_noise_77 ?_
              refine r_lload_n C dX8_noise_80 rfl (j := 2) rfl ?_
              obtain ⟨g25, h⟩ := h
              refine r_last C (r_atT s22 g24) ⟨rfl, fun _ => rfl⟩ g25 dX8_noise_81 ?_
              refine r_nam (fun σ26 e27 => ?_)
              have h := h σ26 e27
              have s28 : σ26.1 = σ.1 := by rw [e27]; exact s22
              refine r_aload_n C dX8_noise_82 rfl (j := 0) rfl ?_
              obtain ⟨n29, g30, h⟩ := h
              refine r_getR C (r_atT s28 g1) fa_X8_52 rfl (r_atN g30) dX8_noise_83 ?_
              refine r_aload_n C dX8_noise_86 rfl (j := 0) rfl ?_
              refine r_get (v := .int (r_gi σ26 a0 17)) C (r_atT s28 g1) fa_X8_180 rfl dX8_noise_87 ?_
              refine r_iload C dX8_noise_90 (j := 3) rfl ?_
              obtain ⟨g31, h⟩ := h
              refine r_iast C (r_atT s28 g30) ⟨rfl, fun _ => rfl⟩ g31 dX8_noise_92 ?_
              refine r_nam (fun σ32 e33 => ?_)
              have h := h σ32 e33
              have s34 : σ32.1 = σ.1 := by rw [e33]; exact s28
              refine r_aload_n C dX8_noise_93 rfl (j := 0) rfl ?_
              refine r_dup C dX8_noise_94 rfl ?_
              refine r_get (v := .int (r_gi σ32 a0 17)) C (r_atT s34 g1) fa_X8_180 rfl dX8_noise_95 ?_
              refine r_iconst (v := 1) C dX8_noise_98 (by decide) ?_
              refine r_iadd C dX8_noise_99 ?_
              refine r_putI C (r_atT s34 g1) fa_X8_180 rfl rfl rfl dX8_noise_100 ?_
              refine r_nam (fun σ35 e36 => ?_)
              have h := h σ35 e36
              have s37 : σ35.1 = σ.1 := by rw [e36]; exact s34
              refine r_aload_n C dX8_noise_103 rfl (j := 0) rfl ?_
              refine r_get (v := .int (r_gi σ35 a0 17)) C (r_atT s37 g1) fa_X8_180 rfl dX8_noise_104 ?_
              exact r_iretQ C E rfl (Nat.zero_le _) (Nat.zero_le _) dX8_noise_107 (s37.trans hs) h
            · have h := h.1 c16
              refine r_bipush (v := (-14)) C dX8_noise_59 (by decide) ?_
              exact r_iretQ C E rfl (Nat.zero_le _) (Nat.zero_le _) dX8_noise_61 (s8.trans hs) h
          · have h := h.2 c15
            refine r_bipush (v := (-12)) C dX8_noise_47 (by decide) ?_
            exact r_iretQ C E rfl (Nat.zero_le _) (Nat.zero_le _) dX8_noise_49 (s8.trans hs) h
  · have h := h.1 c11
    refine r_bipush (v := (-11)) C dX8_noise_13 (by decide) ?_
    exact r_iretQ C E rfl (Nat.zero_le _) (Nat.zero_le _) dX8_noise_15 (s8.trans hs) h
theorem w_X8_hasNoise_0 {X : r_X} {w : r_V} {B : Nat} {l : Launch} {Q : Int32 → r_S → Prop} {σ0 : r_S} (C : r_C X w B 6 cX8_hasNoise RX8) (E : r_E X l tX8_hasNoise) {σ : r_S} (hs : σ.1 = σ0.1) {a0 : Nat} {x1 : Int32} {y2 : Int64}
    (h : r_W X w B 6 0 0 (r_Z X w B tX8_hasNoise (r_QI σ0 Q)) 6 [(0, Value.ref (B + a0)), (1, Value.int x1), (2, Value.long y2), (4, Value.int 0), (5, Value.int 0)] [] σ) :
    r_W X w B 6 0 0 (r_Z X w B tX8_hasNoise (r_QI σ0 Q)) 0 [(0, Value.ref (B + a0)), (1, Value.int x1), (2, Value.long y2)] [] σ := by
  refine r_iconst (v := 0) C dX8_hasNoise_0 (by decide) ?_
  refine r_istore (lv' := [(4, Value.int 0), (0, Value.ref (B + a0)), (1, Value.int x1), (2, Value.long y2)]) C dX8_hasNoise_1 (by decide) rfl ?_
  refine r_iconst (v := 0) C dX8_hasNoise_3 (by decide) ?_
  refine r_istore (lv' := [(5, Value.int 0), (4, Value.int 0), (0, Value.ref (B + a0)), (1, Value.int x1), (2, Value.long y2)]) C dX8_hasNoise_4 (by decide) rfl ?_
  exact r_loc (by simp) h
theorem w_X8_hasNoise_6 {X : r_X} {w : r_V} {B : Nat} {l : Launch} {Q : Int32 → r_S → Prop} {σ0 : r_S} (C : r_C X w B 6 cX8_hasNoise RX8) (E : r_E X l tX8_hasNoise) {σ : r_S} (hs : σ.1 = σ0.1) {a0 : Nat} {x1 x4 x5 : Int32} {y2 : Int64}
    (h : r_at σ a0 = some (.inl 8) ∧ (((r_gi σ a0 17) ≤ x5 → ((x4 = 0 ∨ x4 = 1) ∧ (Q x4 σ))) ∧ (¬ (r_gi σ a0 17) ≤ x5 → ((x4 = 0 → (∃ n7, r_at σ (r_gr σ a0 18) = some (.inr (0, n7)) ∧ (vp_in x5 n7 ∧ (((r_gi σ (r_gr σ a0 18) x5.toNatClampNeg) = x1 → (∃ n13, r_at σ (r_gr σ a0 19) = some (.inr (1, n13)) ∧ (vp_in x5 n13 ∧ ((y2 < (r_gl σ (r_gr σ a0 19) x5.toNatClampNeg) → (∀ z17 : Int32, z17 = x5 + 1 → (r_W X w B 6 0 0 (r_Z X w B tX8_hasNoise (r_QI σ0 Q)) 6 [(0, Value.ref (B + a0)), (1, Value.int x1), (2, Value.long y2), (4, Value.int 0), (5, Value.int z17)] [] σ))) ∧ (¬ y2 < (r_gl σ (r_gr σ a0 19) x5.toNatClampNeg) → (∃ n19, r_at σ (r_gr σ a0 20) = some (.inr (0, n19)) ∧ (vp_in x5 n19 ∧ ((((r_gl σ (r_gr σ a0 19) x5.toNatClampNeg) + ((r_gi σ (r_gr σ a0 20) x5.toNatClampNeg).toInt64)) ≤ y2 → (∀ z23 : Int32, z23 = x5 + 1 → (r_W X w B 6 0 0 (r_Z X w B tX8_hasNoise (r_QI σ0 Q)) 6 [(0, Value.ref (B + a0)), (1, Value.int x1), (2, Value.long y2), (4, Value.int 0), (5, Value.int z23)] [] σ))) ∧ (¬ ((r_gl σ (r_gr σ a0 19) x5.toNatClampNeg) + ((r_gi σ (r_gr σ a0 20) x5.toNatClampNeg).toInt64)) ≤ y2 → (∀ z25 : Int32, z25 = x5 + 1 → (r_W X w B 6 0 0 (r_Z X w B tX8_hasNoise (r_QI σ0 Q)) 6 [(0, Value.ref (B + a0)), (1, Value.int x1), (2, Value.long y2), (4, Value.int 1), (5, Value.int z25)] [] σ))))))))))) ∧ (¬ (r_gi σ (r_gr σ a0 18) x5.toNatClampNeg) = x1 → (∀ z11 : Int32, z11 = x5 + 1 → (r_W X w B 6 0 0 (r_Z X w B tX8_hasNoise (r_QI σ0 Q)) 6 [(0, Value.ref (B + a0)), (1, Value.int x1), (2, Value.long y2), (4, Value.int 0), (5, Value.int z11)] [] σ))))))) ∧ (¬ x4 = 0 → (∀ z5 : Int32, z5 = x5 + 1 → (r_W X w B 6 0 0 (r_Z X w B tX8_hasNoise (r_QI σ0 Q)) 6 [(0, Value.ref (B + a0)), (1, Value.int x1), (2, Value.long y2), (4, Value.int 1), (5, Value.int z5)] [] σ))))))) :
    r_W X w B 6 0 0 (r_Z X w B tX8_hasNoise (r_QI σ0 Q)) 6 [(0, Value.ref (B + a0)), (1, Value.int x1), (2, Value.long y2), (4, Value.int x4), (5, Value.int x5)] [] σ := by
  refine r_iload C dX8_hasNoise_6 (j := 4) rfl ?_
  refine r_aload_n C dX8_hasNoise_8 rfl (j := 0) rfl ?_
  obtain ⟨g1, h⟩ := h
  refine r_get (v := .int (r_gi σ a0 17)) C (r_atT rfl g1) fa_X8_180 rfl dX8_hasNoise_9 ?_
  refine r_icmp_ge (tgt := 77) C dX8_hasNoise_12 (by decide) (fun c2 => ?_) (fun c2 => ?_)
  · have h := h.1 c2
    refine r_iload C dX8_hasNoise_77 (j := 3) rfl ?_
    obtain ⟨g3, h⟩ := h
    exact r_zretQ C E rfl g3 (Nat.zero_le _) (Nat.zero_le _) dX8_hasNoise_79 ((rfl : σ.1 = σ.1).trans hs) h
  · have h := h.2 c2
    refine r_iload C dX8_hasNoise_15 (j := 3) rfl ?_
    refine r_if_ne (tgt := 64) C dX8_hasNoise_17 (by decide) (fun c4 => ?_) (fun c4 => ?_)
    · have h := h.2 c4
      refine r_iconst (v := 1) C dX8_hasNoise_64 (by decide) ?_
      refine r_goto (tgt := 69) C dX8_hasNoise_65 (by decide) ?_
      refine r_istore (lv' := [(4, Value.int 1), (0, Value.ref (B + a0)), (1, Value.int x1), (2, Value.long y2), (5, Value.int x5)]) C dX8_hasNoise_69 (by decide) rfl ?_
      obtain ⟨z5, e6⟩ : ∃ y : Int32, y = x5 + 1 := ⟨_, rfl⟩
      have h := h z5 e6
      refine r_iinc (v := z5) (lv' := [(5, Value.int z5), (4, Value.int 1), (0, Value.ref (B + a0)), (1, Value.int x1), (2, Value.long y2)]) C dX8_hasNoise_71 (k := 4) rfl (by rw [e6]; rfl) (by decide) rfl ?_
      refine r_goto (tgt := 6) C dX8_hasNoise_74 (by decide) ?_
      exact r_loc (by simp) h
    · have h := h.1 c4
      refine r_aload_n C dX8_hasNoise_20 rfl (j := 0) rfl ?_
      obtain ⟨n7, g8, h⟩ := h
      refine r_getR C (r_atT rfl g1) fa_X8_45 rfl (r_atN g8) dX8_hasNoise_21 ?_
      refine r_iload C dX8_hasNoise_24 (j := 4) rfl ?_
      obtain ⟨g9, h⟩ := h
      refine r_iald C (r_atT rfl g8) ⟨rfl, fun _ => rfl⟩ g9 dX8_hasNoise_26 ?_
      refine r_iload_n C dX8_hasNoise_27 rfl (j := 1) rfl ?_
      refine r_icmp_ne (tgt := 68) C dX8_hasNoise_28 (by decide) (fun c10 => ?_) (fun c10 => ?_)
      · have h := h.2 c10
        refine r_iconst (v := 0) C dX8_hasNoise_68 (by decide) ?_
        refine r_istore (lv' := [(4, Value.int 0), (0, Value.ref (B + a0)), (1, Value.int x1), (2, Value.long y2), (5, Value.int x5)]) C dX8_hasNoise_69 (by decide) rfl ?_
        obtain ⟨z11, e12⟩ : ∃ y : Int32, y = x5 + 1 := ⟨_, rfl⟩
        have h := h z11 e12
        refine r_iinc (v := z11) (lv' := [(5, Value.int z11), (4, Value.int 0), (0, Value.ref (B + a0)), (1, Value.int x1), (2, Value.long y2)]) C dX8_hasNoise_71 (k := 4) rfl (by rw [e12]; rfl) (by decide) rfl ?_
        refine r_goto (tgt := 6) C dX8_hasNoise_74 (by decide) ?_
        exact r_loc (by simp) h
      · have h := h.1 c10
        refine r_lload_n C dX8_hasNoise_31 rfl (j := 2) rfl ?_
        refine r_aload_n C dX8_hasNoise_32 rfl (j := 0) rfl ?_
        obtain ⟨n13, g14, h⟩ := h
        refine r_getR C (r_atT rfl g1) fa_X8_48 rfl (r_atN g14) dX8_hasNoise_33 ?_
        refine r_iload C dX8_hasNoise_36 (j := 4) rfl ?_
        obtain ⟨g15, h⟩ := h
        refine r_lald C (r_atT rfl g14) ⟨rfl, fun _ => rfl⟩ g15 dX8_hasNoise_38 ?_
        refine r_lcmp C dX8_hasNoise_39 ?_
        refine r_if_lt (tgt := 68) C dX8_hasNoise_40 (by decide) (fun c16 => ?_) (fun c16 => ?_)
        · have h := h.1 (lgc_lt.mp c16)
          refine r_iconst (v := 0) C dX8_hasNoise_68 (by decide) ?_
          refine r_istore (lv' := [(4, Value.int 0), (0, Value.ref (B + a0)), (1, Value.int x1), (2, Value.long y2), (5, Value.int x5)]) C dX8_hasNoise_69 (by decide) rfl ?_
          obtain ⟨z17, e18⟩ : ∃ y : Int32, y = x5 + 1 := ⟨_, rfl⟩
          have h := h z17 e18
          refine r_iinc (v := z17) (lv' := [(5, Value.int z17), (4, Value.int 0), (0, Value.ref (B + a0)), (1, Value.int x1), (2, Value.long y2)]) C dX8_hasNoise_71 (k := 4) rfl (by rw [e18]; rfl) (by decide) rfl ?_
          refine r_goto (tgt := 6) C dX8_hasNoise_74 (by decide) ?_
          exact r_loc (by simp) h
        · have h := h.2 (fun q => c16 (lgc_lt.mpr q))
          refine r_lload_n C dX8_hasNoise_43 rfl (j := 2) rfl ?_
          refine r_aload_n C dX8_hasNoise_44 rfl (j := 0) rfl ?_
          refine r_getR C (r_atT rfl g1) fa_X8_48 rfl (r_atN g14) dX8_hasNoise_45 ?_
          refine r_iload C dX8_hasNoise_48 (j := 4) rfl ?_
          refine r_lald C (r_atT rfl g14) ⟨rfl, fun _ => rfl⟩ g15 dX8_hasNoise_50 ?_
          refine r_aload_n C dX8_hasNoise_51 rfl (j := 0) rfl ?_
          obtain ⟨n19, g20, h⟩ := h
          refine r_getR C (r_atT rfl g1) fa_X8_52 rfl (r_atN g20) dX8_hasNoise_52 ?_
          refine r_iload C dX8_hasNoise_55 (j := 4) rfl ?_
          obtain ⟨g21, h⟩ := h
          refine r_iald C (r_atT rfl g20) ⟨rfl, fun _ => rfl⟩ g21 dX8_hasNoise_57 ?_
          refine r_i2l (v := (r_gi σ (r_gr σ a0 20) x5.toNatClampNeg).toInt64) C dX8_hasNoise_58 rfl ?_
          refine r_ladd C dX8_hasNoise_59 ?_
          refine r_lcmp C dX8_hasNoise_60 ?_
          refine r_if_ge (tgt := 68) C dX8_hasNoise_61 (by decide) (fun c22 => ?_) (fun c22 => ?_)
          · have h := h.1 (lgc_ge.mp c22)
            refine r_iconst (v := 0) C dX8_hasNoise_68 (by decide) ?_
            refine r_istore (lv' := [(4, Value.int 0), (0, Value.ref (B + a0)), (1, Value.int x1), (2, Value.long y2), (5, Value.int x5)]) C dX8_hasNoise_69 (by decide) rfl ?_
            obtain ⟨z23, e24⟩ : ∃ y : Int32, y = x5 + 1 := ⟨_, rfl⟩
            have h := h z23 e24
            refine r_iinc (v := z23) (lv' := [(5, Value.int z23), (4, Value.int 0), (0, Value.ref (B + a0)), (1, Value.int x1), (2, Value.long y2)]) C dX8_hasNoise_71 (k := 4) rfl (by rw [e24]; rfl) (by decide) rfl ?_
            refine r_goto (tgt := 6) C dX8_hasNoise_74 (by decide) ?_
            exact r_loc (by simp) h
          · have h := h.2 (fun q => c22 (lgc_ge.mpr q))
            refine r_iconst (v := 1) C dX8_hasNoise_64 (by decide) ?_
            refine r_goto (tgt := 69) C dX8_hasNoise_65 (by decide) ?_
            refine r_istore (lv' := [(4, Value.int 1), (0, Value.ref (B + a0)), (1, Value.int x1), (2, Value.long y2), (5, Value.int x5)]) C dX8_hasNoise_69 (by decide) rfl ?_
            obtain ⟨z25, e26⟩ : ∃ y : Int32, y = x5 + 1 := ⟨_, rfl⟩
            have h := h z25 e26
            refine r_iinc (v := z25) (lv' := [(5, Value.int z25), (4, Value.int 1), (0, Value.ref (B + a0)), (1, Value.int x1), (2, Value.long y2)]) C dX8_hasNoise_71 (k := 4) rfl (by rw [e26]; rfl) (by decide) rfl ?_
            refine r_goto (tgt := 6) C dX8_hasNoise_74 (by decide) ?_
            exact r_loc (by simp) h
theorem w_X8_tell_0 {X : r_X} {w : r_V} {B : Nat} {l : Launch} {Q : r_S → Prop} {σ0 : r_S} (C : r_C X w B 5 cX8_tell RX8) (E : r_E X l tX8_tell) {σ : r_S} (hs : σ.1 = σ0.1) {a0 : Nat} {x1 x2 : Int32} {y3 : Int64}
    (h : r_at σ a0 = some (.inl 8) ∧ ((700 ≤ (r_gi σ a0 21) → (∀ σ3 : r_S, σ3 = r_ui σ a0 21 ((r_gi σ a0 21) + 1) → (Q σ3))) ∧ (¬ 700 ≤ (r_gi σ a0 21) → (∃ n6, r_at σ (r_gr σ a0 22) = some (.inr (0, n6)) ∧ (vp_in (r_gi σ a0 21) n6 ∧ (∀ σ9 : r_S, σ9 = r_ui σ (r_gr σ a0 22) ((r_gi σ a0 21).toNatClampNeg) x1 → (∃ n12, r_at σ (r_gr σ9 a0 23) = some (.inr (0, n12)) ∧ (vp_in (r_gi σ9 a0 21) n12 ∧ (∀ σ15 : r_S, σ15 = r_ui σ9 (r_gr σ9 a0 23) ((r_gi σ9 a0 21).toNatClampNeg) x2 → (∃ n18, r_at σ (r_gr σ15 a0 24) = some (.inr (1, n18)) ∧ (vp_in (r_gi σ15 a0 21) n18 ∧ (∀ σ21 : r_S, σ21 = r_ul σ15 (r_gr σ15 a0 24) ((r_gi σ15 a0 21).toNatClampNeg) y3 → (∀ σ24 : r_S, σ24 = r_ui σ21 a0 21 ((r_gi σ21 a0 21) + 1) → (Q σ24)))))))))))))) :
    r_W X w B 5 0 0 (r_Z X w B tX8_tell (r_QV σ0 Q)) 0 [(0, Value.ref (B + a0)), (1, Value.int x1), (2, Value.int x2), (3, Value.long y3)] [] σ := by
  refine r_aload_n C dX8_tell_0 rfl (j := 0) rfl ?_
  obtain ⟨g1, h⟩ := h
  refine r_get (v := .int (r_gi σ a0 21)) C (r_atT rfl g1) fa_X8_183 rfl dX8_tell_1 ?_
  refine r_sipush (v := 700) C dX8_tell_4 (by decide) ?_
  refine r_icmp_ge (tgt := 40) C dX8_tell_7 (by decide) (fun c2 => ?_) (fun c2 => ?_)
  · have h := h.1 c2
    refine r_aload_n C dX8_tell_40 rfl (j := 0) rfl ?_
    refine r_dup C dX8_tell_41 rfl ?_
    refine r_get (v := .int (r_gi σ a0 21)) C (r_atT rfl g1) fa_X8_183 rfl dX8_tell_42 ?_
    refine r_iconst (v := 1) C dX8_tell_45 (by decide) ?_
    refine r_iadd C dX8_tell_46 ?_
    refine r_putI C (r_atT rfl g1) fa_X8_183 rfl rfl rfl dX8_tell_47 ?_
    refine r_nam (fun σ3 e4 => ?_)
    have h := h σ3 e4
    have s5 : σ3.1 = σ.1 := by rw [e4]; exact rfl
    exact r_vretQ C E rfl (Nat.zero_le _) (Nat.zero_le _) dX8_tell_50 (s5.trans hs) h
  · have h := h.2 c2
    refine r_aload_n C dX8_tell_10 rfl (j := 0) rfl ?_
    obtain ⟨n6, g7, h⟩ := h
    refine r_getR C (r_atT rfl g1) fa_X8_55 rfl (r_atN g7) dX8_tell_11 ?_
    refine r_aload_n C dX8_tell_14 rfl (j := 0) rfl ?_
    refine r_get (v := .int (r_gi σ a0 21)) C (r_atT rfl g1) fa_X8_183 rfl dX8_tell_15 ?_
    refine r_iload_n C dX8_tell_18 rfl (j := 1) rfl ?_
    obtain ⟨g8, h⟩ := h
    refine r_iast C (r_atT rfl g7) ⟨rfl, fun _ => rfl⟩ g8 dX8_tell_19 ?_
    refine r_nam (fun σ9 e10 => ?_)
    have h := h σ9 e10
    have s11 : σ9.1 = σ.1 := by rw [e10]; exact rfl
    refine r_aload_n C dX8_tell_20 rfl (j := 0) rfl ?_
    obtain ⟨n12, g13, h⟩ := h
    refine r_getR C (r_atT s11 g1) fa_X8_58 rfl (r_atN g13) dX8_tell_21 ?_
    refine r_aload_n C dX8_tell_24 rfl (j := 0) rfl ?_
    refine r_get (v := .int (r_gi σ9 a0 21)) C (r_atT s11 g1) fa_X8_183 rfl dX8_tell_25 ?_
    refine r_iload_n C dX8_tell_28 rfl (j := 2) rfl ?_
    obtain ⟨g14, h⟩ := h
    refine r_iast C (r_atT s11 g13) ⟨rfl, fun _ => rfl⟩ g14 dX8_tell_29 ?_
    refine r_nam (fun σ15 e16 => ?_)
    have h := h σ15 e16
    have s17 : σ15.1 = σ.1 := by rw [e16]; exact s11
    refine r_aload_n C dX8_tell_30 rfl (j := 0) rfl ?_
    obtain ⟨n18, g19, h⟩ := h
    refine r_getR C (r_atT s17 g1) fa_X8_61 rfl (r_atN g19) dX8_tell_31 ?_
    refine r_aload_n C dX8_tell_34 rfl (j := 0) rfl ?_
    refine r_get (v := .int (r_gi σ15 a0 21)) C (r_atT s17 g1) fa_X8_183 rfl dX8_tell_35 ?_
    refine r_lload_n C dX8_tell_38 rfl (j := 3) rfl ?_
    obtain ⟨g20, h⟩ := h
    refine r_last C (r_atT s17 g19) ⟨rfl, fun _ => rfl⟩ g20 dX8_tell_39 ?_
    refine r_nam (fun σ21 e22 => ?_)
    have h := h σ21 e22
    have s23 : σ21.1 = σ.1 := by rw [e22]; exact s17
    refine r_aload_n C dX8_tell_40 rfl (j := 0) rfl ?_
    refine r_dup C dX8_tell_41 rfl ?_
    refine r_get (v := .int (r_gi σ21 a0 21)) C (r_atT s23 g1) fa_X8_183 rfl dX8_tell_42 ?_
    refine r_iconst (v := 1) C dX8_tell_45 (by decide) ?_
    refine r_iadd C dX8_tell_46 ?_
    refine r_putI C (r_atT s23 g1) fa_X8_183 rfl rfl rfl dX8_tell_47 ?_
    refine r_nam (fun σ24 e25 => ?_)
    have h := h σ24 e25
    have s26 : σ24.1 = σ.1 := by rw [e25]; exact s23
    exact r_vretQ C E rfl (Nat.zero_le _) (Nat.zero_le _) dX8_tell_50 (s26.trans hs) h
theorem w_X8_sends_0 {X : r_X} {w : r_V} {B : Nat} {l : Launch} {Q : Int32 → r_S → Prop} {σ0 : r_S} (C : r_C X w B 4 cX8_sends RX8) (E : r_E X l tX8_sends) {σ : r_S} (hs : σ.1 = σ0.1) {a0 : Nat} {x1 : Int32} {y2 : Int64}
    (h : r_at σ a0 = some (.inl 8) ∧ (∃ n2, r_at σ (r_gr σ a0 45) = some (.inr (0, n2)) ∧ (vp_in x1 n2 ∧ (((r_gi σ (r_gr σ a0 45) x1.toNatClampNeg) ≤ 0 → (Q 0 σ)) ∧ (¬ (r_gi σ (r_gr σ a0 45) x1.toNatClampNeg) ≤ 0 → (∃ n6, r_at σ (r_gr σ a0 47) = some (.inr (1, n6)) ∧ (vp_in x1 n6 ∧ ((y2 < (r_gl σ (r_gr σ a0 47) x1.toNatClampNeg) → (Q 0 σ)) ∧ (¬ y2 < (r_gl σ (r_gr σ a0 47) x1.toNatClampNeg) → (∃ n10, r_at σ (r_gr σ a0 48) = some (.inr (1, n10)) ∧ (vp_in x1 n10 ∧ (((r_gl σ (r_gr σ a0 48) x1.toNatClampNeg) < y2 → (Q 0 σ)) ∧ (¬ (r_gl σ (r_gr σ a0 48) x1.toNatClampNeg) < y2 → (Q 1 σ)))))))))))))) :
    r_W X w B 4 0 0 (r_Z X w B tX8_sends (r_QI σ0 Q)) 0 [(0, Value.ref (B + a0)), (1, Value.int x1), (2, Value.long y2)] [] σ := by
  refine r_aload_n C dX8_sends_0 rfl (j := 0) rfl ?_
  obtain ⟨g1, h⟩ := h
  obtain ⟨n2, g3, h⟩ := h
  refine r_getR C (r_atT rfl g1) fa_X8_124 rfl (r_atN g3) dX8_sends_1 ?_
  refine r_iload_n C dX8_sends_4 rfl (j := 1) rfl ?_
  obtain ⟨g4, h⟩ := h
  refine r_iald C (r_atT rfl g3) ⟨rfl, fun _ => rfl⟩ g4 dX8_sends_5 ?_
  refine r_if_le (tgt := 35) C dX8_sends_6 (by decide) (fun c5 => ?_) (fun c5 => ?_)
  · have h := h.1 c5
    refine r_iconst (v := 0) C dX8_sends_35 (by decide) ?_
    exact r_zretQ C E rfl (by decide) (Nat.zero_le _) (Nat.zero_le _) dX8_sends_36 ((rfl : σ.1 = σ.1).trans hs) h
  · have h := h.2 c5
    refine r_aload_n C dX8_sends_9 rfl (j := 0) rfl ?_
    obtain ⟨n6, g7, h⟩ := h
    refine r_getR C (r_atT rfl g1) fa_X8_130 rfl (r_atN g7) dX8_sends_10 ?_
    refine r_iload_n C dX8_sends_13 rfl (j := 1) rfl ?_
    obtain ⟨g8, h⟩ := h
    refine r_lald C (r_atT rfl g7) ⟨rfl, fun _ => rfl⟩ g8 dX8_sends_14 ?_
    refine r_lload_n C dX8_sends_15 rfl (j := 2) rfl ?_
    refine r_lcmp C dX8_sends_16 ?_
    refine r_if_gt (tgt := 35) C dX8_sends_17 (by decide) (fun c9 => ?_) (fun c9 => ?_)
    · have h := h.1 (lgc_gt.mp c9)
      refine r_iconst (v := 0) C dX8_sends_35 (by decide) ?_
      exact r_zretQ C E rfl (by decide) (Nat.zero_le _) (Nat.zero_le _) dX8_sends_36 ((rfl : σ.1 = σ.1).trans hs) h
    · have h := h.2 (fun q => c9 (lgc_gt.mpr q))
      refine r_lload_n C dX8_sends_20 rfl (j := 2) rfl ?_
      refine r_aload_n C dX8_sends_21 rfl (j := 0) rfl ?_
      obtain ⟨n10, g11, h⟩ := h
      refine r_getR C (r_atT rfl g1) fa_X8_133 rfl (r_atN g11) dX8_sends_22 ?_
      refine r_iload_n C dX8_sends_25 rfl (j := 1) rfl ?_
      obtain ⟨g12, h⟩ := h
      refine r_lald C (r_atT rfl g11) ⟨rfl, fun _ => rfl⟩ g12 dX8_sends_26 ?_
      refine r_lcmp C dX8_sends_27 ?_
      refine r_if_gt (tgt := 35) C dX8_sends_28 (by decide) (fun c13 => ?_) (fun c13 => ?_)
      · have h := h.1 (lgc_gt.mp c13)
        refine r_iconst (v := 0) C dX8_sends_35 (by decide) ?_
        exact r_zretQ C E rfl (by decide) (Nat.zero_le _) (Nat.zero_le _) dX8_sends_36 ((rfl : σ.1 = σ.1).trans hs) h
      · have h := h.2 (fun q => c13 (lgc_gt.mpr q))
        refine r_iconst (v := 1) C dX8_sends_31 (by decide) ?_
        refine r_goto (tgt := 36) C dX8_sends_32 (by decide) ?_
        exact r_zretQ C E rfl (by decide) (Nat.zero_le _) (Nat.zero_le _) dX8_sends_36 ((rfl : σ.1 = σ.1).trans hs) h
theorem w_X8_fail_0 {X : r_X} {w : r_V} {B : Nat} {l : Launch} {Q : r_S → Prop} {σ0 : r_S} (C : r_C X w B 5 cX8_fail RX8) (E : r_E X l tX8_fail) {σ : r_S} (hs : σ.1 = σ0.1) {a0 : Nat} {x1 : Int32} {y2 : Int64}
    (h : r_at σ a0 = some (.inl 8) ∧ (∃ n2, r_at σ (r_gr σ a0 31) = some (.inr (1, n2)) ∧ (vp_in x1 n2 ∧ (∀ σ5 : r_S, σ5 = r_ul σ (r_gr σ a0 31) (x1.toNatClampNeg) (-1) → (∃ n8, r_at σ (r_gr σ5 a0 26) = some (.inr (0, n8)) ∧ (vp_in x1 n8 ∧ (∀ σ11 : r_S, σ11 = r_ui σ5 (r_gr σ5 a0 26) (x1.toNatClampNeg) ((r_gi σ5 (r_gr σ5 a0 26) x1.toNatClampNeg) + 1) → (∃ n14, r_at σ (r_gr σ11 a0 26) = some (.inr (0, n14)) ∧ (vp_in x1 n14 ∧ (((r_gi σ11 (r_gr σ11 a0 26) x1.toNatClampNeg) ≤ 4 → (∃ n18, r_at σ (r_gr σ11 a0 25) = some (.inr (0, n18)) ∧ (vp_in x1 n18 ∧ ((((2 * (r_gi σ11 (r_gr σ11 a0 25) x1.toNatClampNeg)) + 1) ≤ 63 → (∀ σ22 : r_S, σ22 = r_ui σ11 (r_gr σ11 a0 25) (x1.toNatClampNeg) ((2 * (r_gi σ11 (r_gr σ11 a0 25) x1.toNatClampNeg)) + 1) → (r_W X w B 5 0 0 (r_Z X w B tX8_fail (r_QV σ0 Q)) 108 [(0, Value.ref (B + a0)), (1, Value.int x1)] [] σ22))) ∧ (¬ ((2 * (r_gi σ11 (r_gr σ11 a0 25) x1.toNatClampNeg)) + 1) ≤ 63 → (∀ σ25 : r_S, σ25 = r_ui σ11 (r_gr σ11 a0 25) (x1.toNatClampNeg) 63 → (r_W X w B 5 0 0 (r_Z X w B tX8_fail (r_QV σ0 Q)) 108 [(0, Value.ref (B + a0)), (1, Value.int x1)] [] σ25))))))) ∧ (¬ (r_gi σ11 (r_gr σ11 a0 26) x1.toNatClampNeg) ≤ 4 → (∃ n28, r_at σ (r_gr σ11 a0 42) = some (.inr (0, n28)) ∧ (vp_in (4 * x1) n28 ∧ (∀ z31 : Int32, z31 = r_gi σ11 (r_gr σ11 a0 42) (4 * x1).toNatClampNeg → (∃ n33, r_at σ (r_gr σ11 a0 10) = some (.inr (2, n33)) ∧ (vp_in z31 n33 ∧ (∀ σ36 : r_S, σ36 = r_ui σ11 (r_gr σ11 a0 10) (z31.toNatClampNeg) 0 → (∃ Q39 : r_S → Prop, r_M l w B tX8_tell [Value.ref (B + a0), Value.int z31, Value.int 2, Value.long y2] σ36 (r_QV σ36 Q39) ∧ (∀ σ41 : r_S, Q39 σ41 → (∃ n45, r_at σ (r_gr σ41 a0 26) = some (.inr (0, n45)) ∧ (vp_in x1 n45 ∧ (∀ σ48 : r_S, σ48 = r_ui σ41 (r_gr σ41 a0 26) (x1.toNatClampNeg) 0 → (∃ n51, r_at σ (r_gr σ48 a0 25) = some (.inr (0, n51)) ∧ (vp_in x1 n51 ∧ (∀ σ54 : r_S, σ54 = r_ui σ48 (r_gr σ48 a0 25) (x1.toNatClampNeg) 3 → (r_W X w B 5 0 0 (r_Z X w B tX8_fail (r_QV σ0 Q)) 108 [(0, Value.ref (B + a0)), (1, Value.int x1)] [] σ54)))))))))))))))))))))))))) :
    r_W X w B 5 0 0 (r_Z X w B tX8_fail (r_QV σ0 Q)) 0 [(0, Value.ref (B + a0)), (1, Value.int x1), (2, Value.long y2)] [] σ := by
  refine r_aload_n C dX8_fail_0 rfl (j := 0) rfl ?_
  obtain ⟨g1, h⟩ := h
  obtain ⟨n2, g3, h⟩ := h
  refine r_getR C (r_atT rfl g1) fa_X8_82 rfl (r_atN g3) dX8_fail_1 ?_
  refine r_iload_n C dX8_fail_4 rfl (j := 1) rfl ?_
  refine r_ldc2 (v := (-1)) C kj_X8_148 dX8_fail_5 ?_
  obtain ⟨g4, h⟩ := h
  refine r_last C (r_atT rfl g3) ⟨rfl, fun _ => rfl⟩ g4 dX8_fail_8 ?_
  refine r_nam (fun σ5 e6 => ?_)
  have h := h σ5 e6
  have s7 : σ5.1 = σ.1 := by rw [e6]; exact rfl
  refine r_aload_n C dX8_fail_9 rfl (j := 0) rfl ?_
  obtain ⟨n8, g9, h⟩ := h
  refine r_getR C (r_atT s7 g1) fa_X8_67 rfl (r_atN g9) dX8_fail_10 ?_
  refine r_iload_n C dX8_fail_13 rfl (j := 1) rfl ?_
  refine r_dup2_11 C dX8_fail_14 rfl rfl ?_
  obtain ⟨g10, h⟩ := h
  refine r_iald C (r_atT s7 g9) ⟨rfl, fun _ => rfl⟩ g10 dX8_fail_15 ?_
  refine r_iconst (v := 1) C dX8_fail_16 (by decide) ?_
  refine r_iadd C dX8_fail_17 ?_
  refine r_iast C (r_atT s7 g9) ⟨rfl, fun _ => rfl⟩ g10 dX8_fail_18 ?_
  refine r_nam (fun σ11 e12 => ?_)
  have h := h σ11 e12
  have s13 : σ11.1 = σ.1 := by rw [e12]; exact s7
  refine r_aload_n C dX8_fail_19 rfl (j := 0) rfl ?_
  obtain ⟨n14, g15, h⟩ := h
  refine r_getR C (r_atT s13 g1) fa_X8_67 rfl (r_atN g15) dX8_fail_20 ?_
  refine r_iload_n C dX8_fail_23 rfl (j := 1) rfl ?_
  obtain ⟨g16, h⟩ := h
  refine r_iald C (r_atT s13 g15) ⟨rfl, fun _ => rfl⟩ g16 dX8_fail_24 ?_
  refine r_iconst (v := 4) C dX8_fail_25 (by decide) ?_
  refine r_icmp_le (tgt := 72) C dX8_fail_26 (by decide) (fun c17 => ?_) (fun c17 => ?_)
  · have h := h.1 c17
    refine r_aload_n C dX8_fail_72 rfl (j := 0) rfl ?_
    obtain ⟨n18, g19, h⟩ := h
    refine r_getR C (r_atT s13 g1) fa_X8_64 rfl (r_atN g19) dX8_fail_73 ?_
    refine r_iload_n C dX8_fail_76 rfl (j := 1) rfl ?_
    refine r_iconst (v := 2) C dX8_fail_77 (by decide) ?_
    refine r_aload_n C dX8_fail_78 rfl (j := 0) rfl ?_
    refine r_getR C (r_atT s13 g1) fa_X8_64 rfl (r_atN g19) dX8_fail_79 ?_
    refine r_iload_n C dX8_fail_82 rfl (j := 1) rfl ?_
    obtain ⟨g20, h⟩ := h
    refine r_iald C (r_atT s13 g19) ⟨rfl, fun _ => rfl⟩ g20 dX8_fail_83 ?_
    refine r_imul C dX8_fail_84 ?_
    refine r_iconst (v := 1) C dX8_fail_85 (by decide) ?_
    refine r_iadd C dX8_fail_86 ?_
    refine r_bipush (v := 63) C dX8_fail_87 (by decide) ?_
    refine r_icmp_le (tgt := 97) C dX8_fail_89 (by decide) (fun c21 => ?_) (fun c21 => ?_)
    · have h := h.1 c21
      refine r_iconst (v := 2) C dX8_fail_97 (by decide) ?_
      refine r_aload_n C dX8_fail_98 rfl (j := 0) rfl ?_
      refine r_getR C (r_atT s13 g1) fa_X8_64 rfl (r_atN g19) dX8_fail_99 ?_
      refine r_iload_n C dX8_fail_102 rfl (j := 1) rfl ?_
      refine r_iald C (r_atT s13 g19) ⟨rfl, fun _ => rfl⟩ g20 dX8_fail_103 ?_
      refine r_imul C dX8_fail_104 ?_
      refine r_iconst (v := 1) C dX8_fail_105 (by decide) ?_
      refine r_iadd C dX8_fail_106 ?_
      refine r_iast C (r_atT s13 g19) ⟨rfl, fun _ => rfl⟩ g20 dX8_fail_107 ?_
      refine r_nam (fun σ22 e23 => ?_)
      have h := h σ22 e23
      have s24 : σ22.1 = σ.1 := by rw [e23]; exact s13
      exact r_loc (by simp) h
    · have h := h.2 c21
      refine r_bipush (v := 63) C dX8_fail_92 (by decide) ?_
      refine r_goto (tgt := 107) C dX8_fail_94 (by decide) ?_
      refine r_iast C (r_atT s13 g19) ⟨rfl, fun _ => rfl⟩ g20 dX8_fail_107 ?_
      refine r_nam (fun σ25 e26 => ?_)
      have h := h σ25 e26
      have s27 : σ25.1 = σ.1 := by rw [e26]; exact s13
      exact r_loc (by simp) h
  · have h := h.2 c17
    refine r_aload_n C dX8_fail_29 rfl (j := 0) rfl ?_
    obtain ⟨n28, g29, h⟩ := h
    refine r_getR C (r_atT s13 g1) fa_X8_115 rfl (r_atN g29) dX8_fail_30 ?_
    refine r_iconst (v := 4) C dX8_fail_33 (by decide) ?_
    refine r_iload_n C dX8_fail_34 rfl (j := 1) rfl ?_
    refine r_imul C dX8_fail_35 ?_
    obtain ⟨g30, h⟩ := h
    refine r_iald C (r_atT s13 g29) ⟨rfl, fun _ => rfl⟩ g30 dX8_fail_36 ?_
    refine r_topi (fun z31 e32 => ?_)
    have h := h z31 e32
    refine r_istore (lv' := [(4, Value.int z31), (0, Value.ref (B + a0)), (1, Value.int x1), (2, Value.long y2)]) C dX8_fail_37 (by decide) rfl ?_
    refine r_aload_n C dX8_fail_39 rfl (j := 1) rfl ?_
    obtain ⟨n33, g34, h⟩ := h
    refine r_getR C (r_atT s13 g1) fa_X8_30 rfl (r_atN g34) dX8_fail_40 ?_
    refine r_iload C dX8_fail_43 (j := 0) rfl ?_
    refine r_iconst (v := 0) C dX8_fail_45 (by decide) ?_
    obtain ⟨g35, h⟩ := h
    refine r_zast C (r_atT s13 g34) ⟨rfl, fun _ => rfl⟩ g35 (by decide) dX8_fail_46 ?_
    refine r_nam (fun σ36 e37 => ?_)
    have h := h σ36 e37
    have s38 : σ36.1 = σ.1 := by rw [e37]; exact s13
    refine r_aload_n C dX8_fail_47 rfl (j := 1) rfl ?_
    refine r_iload C dX8_fail_48 (j := 0) rfl ?_
    refine r_iconst (v := 2) C dX8_fail_50 (by decide) ?_
    refine r_lload_n C dX8_fail_51 rfl (j := 3) rfl ?_
    obtain ⟨Q39, m40, h⟩ := h
    refine r_callVV (rest := []) C E [Value.int z31, Value.int 2, Value.long y2] (r_atT s38 g1) rfl ky_X8_tell kl_X8_186 ki_X8_tell kx_X8_tell ⟨Nat.le_of_ble_eq_true rfl, Nat.le_of_ble_eq_true rfl⟩ ⟨rfl, rfl⟩ m40 rfl rfl (Nat.le_of_ble_eq_true rfl) (Nat.zero_le _) (Nat.zero_le _) dX8_fail_52 (fun σ41 s42 q44 => ?_)
    have h := h σ41 q44
    have s42 := s42.trans s38
    refine r_aload_n C dX8_fail_55 rfl (j := 1) rfl ?_
    obtain ⟨n45, g46, h⟩ := h
    refine r_getR C (r_atT s42 g1) fa_X8_67 rfl (r_atN g46) dX8_fail_56 ?_
    refine r_iload_n C dX8_fail_59 rfl (j := 2) rfl ?_
    refine r_iconst (v := 0) C dX8_fail_60 (by decide) ?_
    obtain ⟨g47, h⟩ := h
    refine r_iast C (r_atT s42 g46) ⟨rfl, fun _ => rfl⟩ g47 dX8_fail_61 ?_
    refine r_nam (fun σ48 e49 => ?_)
    have h := h σ48 e49
    have s50 : σ48.1 = σ.1 := by rw [e49]; exact s42
    refine r_aload_n C dX8_fail_62 rfl (j := 1) rfl ?_
    obtain ⟨n51, g52, h⟩ := h
    refine r_getR C (r_atT s50 g1) fa_X8_64 rfl (r_atN g52) dX8_fail_63 ?_
    refine r_iload_n C dX8_fail_66 rfl (j := 2) rfl ?_
    refine r_iconst (v := 3) C dX8_fail_67 (by decide) ?_
    obtain ⟨g53, h⟩ := h
    refine r_iast C (r_atT s50 g52) ⟨rfl, fun _ => rfl⟩ g53 dX8_fail_68 ?_
    refine r_nam (fun σ54 e55 => ?_)
    have h := h σ54 e55
    have s56 : σ54.1 = σ.1 := by rw [e55]; exact s50
    refine r_goto (tgt := 108) C dX8_fail_69 (by decide) ?_
    exact r_loc (by simp) h
theorem w_X8_fail_108 {X : r_X} {w : r_V} {B : Nat} {l : Launch} {Q : r_S → Prop} {σ0 : r_S} (C : r_C X w B 5 cX8_fail RX8) (E : r_E X l tX8_fail) {σ : r_S} (hs : σ.1 = σ0.1) {a0 : Nat} {x1 : Int32}
    (h : r_at σ a0 = some (.inl 8) ∧ (∃ Q1 : Int32 → r_S → Prop, r_M l w B tX8_keeps [Value.ref (B + a0), Value.int x1] σ (r_QI σ Q1) ∧ (∀ (z5 : Int32) (σ3 : r_S), Q1 z5 σ3 → ((z5 ≤ 0 → (Q σ3)) ∧ (¬ z5 ≤ 0 → (∃ Q9 : r_S → Prop, r_M l w B tX8_draw [Value.ref (B + a0), Value.int x1] σ3 (r_QV σ3 Q9) ∧ (∀ σ11 : r_S, Q9 σ11 → (Q σ11)))))))) :
    r_W X w B 5 0 0 (r_Z X w B tX8_fail (r_QV σ0 Q)) 108 [(0, Value.ref (B + a0)), (1, Value.int x1)] [] σ := by
  refine r_aload_n C dX8_fail_108 rfl (j := 0) rfl ?_
  refine r_iload_n C dX8_fail_109 rfl (j := 1) rfl ?_
  obtain ⟨g7, h⟩ := h
  obtain ⟨Q1, m2, h⟩ := h
  refine r_callVI (rest := []) C E [Value.int x1] (r_atT rfl g7) rfl ky_X8_keeps kl_X8_166 ki_X8_keeps kx_X8_keeps ⟨Nat.le_of_ble_eq_true rfl, Nat.le_of_ble_eq_true rfl⟩ ⟨rfl, rfl⟩ m2 rfl rfl (Nat.le_of_ble_eq_true rfl) (Nat.zero_le _) (Nat.zero_le _) dX8_fail_110 (fun z5 σ3 s4 q6 => ?_)
  have h := h z5 σ3 q6
  have s4 := s4.trans rfl
  refine r_if_le (tgt := 121) C dX8_fail_113 (by decide) (fun c8 => ?_) (fun c8 => ?_)
  · have h := h.1 c8
    exact r_vretQ C E rfl (Nat.zero_le _) (Nat.zero_le _) dX8_fail_121 (s4.trans hs) h
  · have h := h.2 c8
    refine r_aload_n C dX8_fail_116 rfl (j := 0) rfl ?_
    refine r_iload_n C dX8_fail_117 rfl (j := 1) rfl ?_
    obtain ⟨Q9, m10, h⟩ := h
    refine r_callVV (rest := []) C E [Value.int x1] (r_atT s4 g7) rfl ky_X8_draw kl_X8_170 ki_X8_draw kx_X8_draw ⟨Nat.le_of_ble_eq_true rfl, Nat.le_of_ble_eq_true rfl⟩ ⟨rfl, rfl⟩ m10 rfl rfl (Nat.le_of_ble_eq_true rfl) (Nat.zero_le _) (Nat.zero_le _) dX8_fail_118 (fun σ11 s12 q14 => ?_)
    have h := h σ11 q14
    have s12 := s12.trans s4
    exact r_vretQ C E rfl (Nat.zero_le _) (Nat.zero_le _) dX8_fail_121 (s12.trans hs) h
theorem w_X8_begin_0 {X : r_X} {w : r_V} {B : Nat} {l : Launch} {Q : r_S → Prop} {σ0 : r_S} (C : r_C X w B 9 cX8_begin RX8) (E : r_E X l tX8_begin) {σ : r_S} (hs : σ.1 = σ0.1) {a0 : Nat} {x1 x2 x3 x4 x5 : Int32} {y6 : Int64}
    (h : r_at σ a0 = some (.inl 8) ∧ (∃ n2, r_at σ (r_gr σ a0 45) = some (.inr (0, n2)) ∧ (vp_in x1 n2 ∧ (∀ σ5 : r_S, σ5 = r_ui σ (r_gr σ a0 45) (x1.toNatClampNeg) x2 → (∃ n8, r_at σ (r_gr σ5 a0 46) = some (.inr (0, n8)) ∧ (vp_in x1 n8 ∧ (∀ σ11 : r_S, σ11 = r_ui σ5 (r_gr σ5 a0 46) (x1.toNatClampNeg) x3 → (∃ n14, r_at σ (r_gr σ11 a0 47) = some (.inr (1, n14)) ∧ (vp_in x1 n14 ∧ (∀ σ17 : r_S, σ17 = r_ul σ11 (r_gr σ11 a0 47) (x1.toNatClampNeg) y6 → (∃ n20, r_at σ (r_gr σ17 a0 48) = some (.inr (1, n20)) ∧ ((x2 = 3 → (vp_in x1 n20 ∧ (∀ σ46 : r_S, σ46 = r_ul σ17 (r_gr σ17 a0 48) (x1.toNatClampNeg) ((y6 + x4.toInt64) - 1) → (∃ n49, r_at σ (r_gr σ46 a0 49) = some (.inr (0, n49)) ∧ (vp_in x1 n49 ∧ (∀ σ52 : r_S, σ52 = r_ui σ46 (r_gr σ46 a0 49) (x1.toNatClampNeg) x4 → (∃ n55, r_at σ (r_gr σ52 a0 50) = some (.inr (0, n55)) ∧ (vp_in x1 n55 ∧ (∀ σ58 : r_S, σ58 = r_ui σ52 (r_gr σ52 a0 50) (x1.toNatClampNeg) x5 → (∃ n61, r_at σ (r_gr σ58 a0 41) = some (.inr (0, n61)) ∧ (vp_in (((4 * x1) + x2) - 1) n61 ∧ (∀ σ64 : r_S, σ64 = r_ui σ58 (r_gr σ58 a0 41) ((((4 * x1) + x2) - 1).toNatClampNeg) ((r_gi σ58 (r_gr σ58 a0 41) (((4 * x1) + x2) - 1).toNatClampNeg) + 1) → (r_W X w B 9 0 0 (r_Z X w B tX8_begin (r_QV σ0 Q)) 80 [(0, Value.ref (B + a0)), (1, Value.int x1), (8, Value.int 0)] [] σ64))))))))))))) ∧ (¬ x2 = 3 → (vp_in x1 n20 ∧ (∀ σ24 : r_S, σ24 = r_ul σ17 (r_gr σ17 a0 48) (x1.toNatClampNeg) ((y6 + ((2 : Int32).toInt64)) - 1) → (∃ n27, r_at σ (r_gr σ24 a0 49) = some (.inr (0, n27)) ∧ (vp_in x1 n27 ∧ (∀ σ30 : r_S, σ30 = r_ui σ24 (r_gr σ24 a0 49) (x1.toNatClampNeg) x4 → (∃ n33, r_at σ (r_gr σ30 a0 50) = some (.inr (0, n33)) ∧ (vp_in x1 n33 ∧ (∀ σ36 : r_S, σ36 = r_ui σ30 (r_gr σ30 a0 50) (x1.toNatClampNeg) x5 → (∃ n39, r_at σ (r_gr σ36 a0 41) = some (.inr (0, n39)) ∧ (vp_in (((4 * x1) + x2) - 1) n39 ∧ (∀ σ42 : r_S, σ42 = r_ui σ36 (r_gr σ36 a0 41) ((((4 * x1) + x2) - 1).toNatClampNeg) ((r_gi σ36 (r_gr σ36 a0 41) (((4 * x1) + x2) - 1).toNatClampNeg) + 1) → (r_W X w B 9 0 0 (r_Z X w B tX8_begin (r_QV σ0 Q)) 80 [(0, Value.ref (B + a0)), (1, Value.int x1), (8, Value.int 0)] [] σ42))))))))))))))))))))))))) :
    r_W X w B 9 0 0 (r_Z X w B tX8_begin (r_QV σ0 Q)) 0 [(0, Value.ref (B + a0)), (1, Value.int x1), (2, Value.int x2), (3, Value.int x3), (4, Value.int x4), (5, Value.int x5), (6, Value.long y6)] [] σ := by
  refine r_aload_n C dX8_begin_0 rfl (j := 0) rfl ?_
  obtain ⟨g1, h⟩ := h
  obtain ⟨n2, g3, h⟩ := h
  refine r_getR C (r_atT rfl g1) fa_X8_124 rfl (r_atN g3) dX8_begin_1 ?_
  refine r_iload_n C dX8_begin_4 rfl (j := 1) rfl ?_
  refine r_iload_n C dX8_begin_5 rfl (j := 2) rfl ?_
  obtain ⟨g4, h⟩ := h
  refine r_iast C (r_atT rfl g3) ⟨rfl, fun _ => rfl⟩ g4 dX8_begin_6 ?_
  refine r_nam (fun σ5 e6 => ?_)
  have h := h σ5 e6
  have s7 : σ5.1 = σ.1 := by rw [e6]; exact rfl
  refine r_aload_n C dX8_begin_7 rfl (j := 0) rfl ?_
  obtain ⟨n8, g9, h⟩ := h
  refine r_getR C (r_atT s7 g1) fa_X8_127 rfl (r_atN g9) dX8_begin_8 ?_
  refine r_iload_n C dX8_begin_11 rfl (j := 1) rfl ?_
  refine r_iload_n C dX8_begin_12 rfl (j := 3) rfl ?_
  obtain ⟨g10, h⟩ := h
  refine r_iast C (r_atT s7 g9) ⟨rfl, fun _ => rfl⟩ g10 dX8_begin_13 ?_
  refine r_nam (fun σ11 e12 => ?_)
  have h := h σ11 e12
  have s13 : σ11.1 = σ.1 := by rw [e12]; exact s7
  refine r_aload_n C dX8_begin_14 rfl (j := 0) rfl ?_
  obtain ⟨n14, g15, h⟩ := h
  refine r_getR C (r_atT s13 g1) fa_X8_130 rfl (r_atN g15) dX8_begin_15 ?_
  refine r_iload_n C dX8_begin_18 rfl (j := 1) rfl ?_
  refine r_lload C dX8_begin_19 (j := 6) rfl ?_
  obtain ⟨g16, h⟩ := h
  refine r_last C (r_atT s13 g15) ⟨rfl, fun _ => rfl⟩ g16 dX8_begin_21 ?_
  refine r_nam (fun σ17 e18 => ?_)
  have h := h σ17 e18
  have s19 : σ17.1 = σ.1 := by rw [e18]; exact s13
  refine r_aload_n C dX8_begin_22 rfl (j := 0) rfl ?_
  obtain ⟨n20, g21, h⟩ := h
  refine r_getR C (r_atT s19 g1) fa_X8_133 rfl (r_atN g21) dX8_begin_23 ?_
  refine r_iload_n C dX8_begin_26 rfl (j := 1) rfl ?_
  refine r_lload C dX8_begin_27 (j := 6) rfl ?_
  refine r_iload_n C dX8_begin_29 rfl (j := 2) rfl ?_
  refine r_iconst (v := 3) C dX8_begin_30 (by decide) ?_
  refine r_icmp_ne (tgt := 39) C dX8_begin_31 (by decide) (fun c22 => ?_) (fun c22 => ?_)
  · have h := h.2 c22
    refine r_iconst (v := 2) C dX8_begin_39 (by decide) ?_
    refine r_i2l (v := (2 : Int32).toInt64) C dX8_begin_40 rfl ?_
    refine r_ladd C dX8_begin_41 ?_
    refine r_lconst (v := 1) C dX8_begin_42 (by decide) ?_
    refine r_lsub C dX8_begin_43 ?_
    obtain ⟨g23, h⟩ := h
    refine r_last C (r_atT s19 g21) ⟨rfl, fun _ => rfl⟩ g23 dX8_begin_44 ?_
    refine r_nam (fun σ24 e25 => ?_)
    have h := h σ24 e25
    have s26 : σ24.1 = σ.1 := by rw [e25]; exact s19
    refine r_aload_n C dX8_begin_45 rfl (j := 0) rfl ?_
    obtain ⟨n27, g28, h⟩ := h
    refine r_getR C (r_atT s26 g1) fa_X8_136 rfl (r_atN g28) dX8_begin_46 ?_
    refine r_iload_n C dX8_begin_49 rfl (j := 1) rfl ?_
    refine r_iload C dX8_begin_50 (j := 4) rfl ?_
    obtain ⟨g29, h⟩ := h
    refine r_iast C (r_atT s26 g28) ⟨rfl, fun _ => rfl⟩ g29 dX8_begin_52 ?_
    refine r_nam (fun σ30 e31 => ?_)
    have h := h σ30 e31
    have s32 : σ30.1 = σ.1 := by rw [e31]; exact s26
    refine r_aload_n C dX8_begin_53 rfl (j := 0) rfl ?_
    obtain ⟨n33, g34, h⟩ := h
    refine r_getR C (r_atT s32 g1) fa_X8_139 rfl (r_atN g34) dX8_begin_54 ?_
    refine r_iload_n C dX8_begin_57 rfl (j := 1) rfl ?_
    refine r_iload C dX8_begin_58 (j := 5) rfl ?_
    obtain ⟨g35, h⟩ := h
    refine r_iast C (r_atT s32 g34) ⟨rfl, fun _ => rfl⟩ g35 dX8_begin_60 ?_
    refine r_nam (fun σ36 e37 => ?_)
    have h := h σ36 e37
    have s38 : σ36.1 = σ.1 := by rw [e37]; exact s32
    refine r_aload_n C dX8_begin_61 rfl (j := 0) rfl ?_
    obtain ⟨n39, g40, h⟩ := h
    refine r_getR C (r_atT s38 g1) fa_X8_112 rfl (r_atN g40) dX8_begin_62 ?_
    refine r_iconst (v := 4) C dX8_begin_65 (by decide) ?_
    refine r_iload_n C dX8_begin_66 rfl (j := 1) rfl ?_
    refine r_imul C dX8_begin_67 ?_
    refine r_iload_n C dX8_begin_68 rfl (j := 2) rfl ?_
    refine r_iadd C dX8_begin_69 ?_
    refine r_iconst (v := 1) C dX8_begin_70 (by decide) ?_
    refine r_isub C dX8_begin_71 ?_
    refine r_dup2_11 C dX8_begin_72 rfl rfl ?_
    obtain ⟨g41, h⟩ := h
    refine r_iald C (r_atT s38 g40) ⟨rfl, fun _ => rfl⟩ g41 dX8_begin_73 ?_
    refine r_iconst (v := 1) C dX8_begin_74 (by decide) ?_
    refine r_iadd C dX8_begin_75 ?_
    refine r_iast C (r_atT s38 g40) ⟨rfl, fun _ => rfl⟩ g41 dX8_begin_76 ?_
    refine r_nam (fun σ42 e43 => ?_)
    have h := h σ42 e43
    have s44 : σ42.1 = σ.1 := by rw [e43]; exact s38
    refine r_iconst (v := 0) C dX8_begin_77 (by decide) ?_
    refine r_istore (lv' := [(8, Value.int 0), (0, Value.ref (B + a0)), (1, Value.int x1), (2, Value.int x2), (3, Value.int x3), (4, Value.int x4), (5, Value.int x5), (6, Value.long y6)]) C dX8_begin_78 (by decide) rfl ?_
    exact r_loc (by simp) h
  · have h := h.1 c22
    refine r_iload C dX8_begin_34 (j := 4) rfl ?_
    refine r_goto (tgt := 40) C dX8_begin_36 (by decide) ?_
    refine r_i2l (v := x4.toInt64) C dX8_begin_40 rfl ?_
    refine r_ladd C dX8_begin_41 ?_
    refine r_lconst (v := 1) C dX8_begin_42 (by decide) ?_
    refine r_lsub C dX8_begin_43 ?_
    obtain ⟨g45, h⟩ := h
    refine r_last C (r_atT s19 g21) ⟨rfl, fun _ => rfl⟩ g45 dX8_begin_44 ?_
    refine r_nam (fun σ46 e47 => ?_)
    have h := h σ46 e47
    have s48 : σ46.1 = σ.1 := by rw [e47]; exact s19
    refine r_aload_n C dX8_begin_45 rfl (j := 0) rfl ?_
    obtain ⟨n49, g50, h⟩ := h
    refine r_getR C (r_atT s48 g1) fa_X8_136 rfl (r_atN g50) dX8_begin_46 ?_
    refine r_iload_n C dX8_begin_49 rfl (j := 1) rfl ?_
    refine r_iload C dX8_begin_50 (j := 4) rfl ?_
    obtain ⟨g51, h⟩ := h
    refine r_iast C (r_atT s48 g50) ⟨rfl, fun _ => rfl⟩ g51 dX8_begin_52 ?_
    refine r_nam (fun σ52 e53 => ?_)
    have h := h σ52 e53
    have s54 : σ52.1 = σ.1 := by rw [e53]; exact s48
    refine r_aload_n C dX8_begin_53 rfl (j := 0) rfl ?_
    obtain ⟨n55, g56, h⟩ := h
    refine r_getR C (r_atT s54 g1) fa_X8_139 rfl (r_atN g56) dX8_begin_54 ?_
    refine r_iload_n C dX8_begin_57 rfl (j := 1) rfl ?_
    refine r_iload C dX8_begin_58 (j := 5) rfl ?_
    obtain ⟨g57, h⟩ := h
    refine r_iast C (r_atT s54 g56) ⟨rfl, fun _ => rfl⟩ g57 dX8_begin_60 ?_
    refine r_nam (fun σ58 e59 => ?_)
    have h := h σ58 e59
    have s60 : σ58.1 = σ.1 := by rw [e59]; exact s54
    refine r_aload_n C dX8_begin_61 rfl (j := 0) rfl ?_
    obtain ⟨n61, g62, h⟩ := h
    refine r_getR C (r_atT s60 g1) fa_X8_112 rfl (r_atN g62) dX8_begin_62 ?_
    refine r_iconst (v := 4) C dX8_begin_65 (by decide) ?_
    refine r_iload_n C dX8_begin_66 rfl (j := 1) rfl ?_
    refine r_imul C dX8_begin_67 ?_
    refine r_iload_n C dX8_begin_68 rfl (j := 2) rfl ?_
    refine r_iadd C dX8_begin_69 ?_
    refine r_iconst (v := 1) C dX8_begin_70 (by decide) ?_
    refine r_isub C dX8_begin_71 ?_
    refine r_dup2_11 C dX8_begin_72 rfl rfl ?_
    obtain ⟨g63, h⟩ := h
    refine r_iald C (r_atT s60 g62) ⟨rfl, fun _ => rfl⟩ g63 dX8_begin_73 ?_
    refine r_iconst (v := 1) C dX8_begin_74 (by decide) ?_
    refine r_iadd C dX8_begin_75 ?_
    refine r_iast C (r_atT s60 g62) ⟨rfl, fun _ => rfl⟩ g63 dX8_begin_76 ?_
    refine r_nam (fun σ64 e65 => ?_)
    have h := h σ64 e65
    have s66 : σ64.1 = σ.1 := by rw [e65]; exact s60
    refine r_iconst (v := 0) C dX8_begin_77 (by decide) ?_
    refine r_istore (lv' := [(8, Value.int 0), (0, Value.ref (B + a0)), (1, Value.int x1), (2, Value.int x2), (3, Value.int x3), (4, Value.int x4), (5, Value.int x5), (6, Value.long y6)]) C dX8_begin_78 (by decide) rfl ?_
    exact r_loc (by simp) h
theorem w_X8_begin_80 {X : r_X} {w : r_V} {B : Nat} {l : Launch} {Q : r_S → Prop} {σ0 : r_S} (C : r_C X w B 9 cX8_begin RX8) (E : r_E X l tX8_begin) {σ : r_S} (hs : σ.1 = σ0.1) {a0 : Nat} {x1 x8 : Int32}
    (h : r_at σ a0 = some (.inl 8) ∧ (((r_gi σ a0 1) ≤ x8 → (Q σ)) ∧ (¬ (r_gi σ a0 1) ≤ x8 → (∃ n3, r_at σ (r_gr σ a0 51) = some (.inr (1, n3)) ∧ (vp_in ((6 * x1) + x8) n3 ∧ (∀ σ6 : r_S, σ6 = r_ul σ (r_gr σ a0 51) (((6 * x1) + x8).toNatClampNeg) 0 → (∀ z9 : Int32, z9 = x8 + 1 → (r_W X w B 9 0 0 (r_Z X w B tX8_begin (r_QV σ0 Q)) 80 [(0, Value.ref (B + a0)), (1, Value.int x1), (8, Value.int z9)] [] σ6)))))))) :
    r_W X w B 9 0 0 (r_Z X w B tX8_begin (r_QV σ0 Q)) 80 [(0, Value.ref (B + a0)), (1, Value.int x1), (8, Value.int x8)] [] σ := by
  refine r_iload C dX8_begin_80 (j := 2) rfl ?_
  refine r_aload_n C dX8_begin_82 rfl (j := 0) rfl ?_
  obtain ⟨g1, h⟩ := h
  refine r_get (v := .int (r_gi σ a0 1)) C (r_atT rfl g1) fa_X8_145 rfl dX8_begin_83 ?_
  refine r_icmp_ge (tgt := 108) C dX8_begin_86 (by decide) (fun c2 => ?_) (fun c2 => ?_)
  · have h := h.1 c2
    exact r_vretQ C E rfl (Nat.zero_le _) (Nat.zero_le _) dX8_begin_108 ((rfl : σ.1 = σ.1).trans hs) h
  · have h := h.2 c2
    refine r_aload_n C dX8_begin_89 rfl (j := 0) rfl ?_
    obtain ⟨n3, g4, h⟩ := h
    refine r_getR C (r_atT rfl g1) fa_X8_142 rfl (r_atN g4) dX8_begin_90 ?_
    refine r_bipush (v := 6) C dX8_begin_93 (by decide) ?_
    refine r_iload_n C dX8_begin_95 rfl (j := 1) rfl ?_
    refine r_imul C dX8_begin_96 ?_
    refine r_iload C dX8_begin_97 (j := 2) rfl ?_
    refine r_iadd C dX8_begin_99 ?_
    refine r_lconst (v := 0) C dX8_begin_100 (by decide) ?_
    obtain ⟨g5, h⟩ := h
    refine r_last C (r_atT rfl g4) ⟨rfl, fun _ => rfl⟩ g5 dX8_begin_101 ?_
    refine r_nam (fun σ6 e7 => ?_)
    have h := h σ6 e7
    have s8 : σ6.1 = σ.1 := by rw [e7]; exact rfl
    obtain ⟨z9, e10⟩ : ∃ y : Int32, y = x8 + 1 := ⟨_, rfl⟩
    have h := h z9 e10
    refine r_iinc (v := z9) (lv' := [(8, Value.int z9), (0, Value.ref (B + a0)), (1, Value.int x1)]) C dX8_begin_102 (k := 2) rfl (by rw [e10]; rfl) (by decide) rfl ?_
    refine r_goto (tgt := 80) C dX8_begin_105 (by decide) ?_
    exact r_loc (by simp) h
theorem w_X8_attempt_0 {X : r_X} {w : r_V} {B : Nat} {l : Launch} {Q : r_S → Prop} {σ0 : r_S} (C : r_C X w B 8 cX8_attempt RX8) (E : r_E X l tX8_attempt) {σ : r_S} (hs : σ.1 = σ0.1) {a0 : Nat} {x1 : Int32} {y2 : Int64}
    (h : r_W X w B 8 0 0 (r_Z X w B tX8_attempt (r_QV σ0 Q)) 12 [(0, Value.ref (B + a0)), (1, Value.int x1), (2, Value.long y2), (4, Value.int 0), (5, Value.int 1), (6, Value.int 1), (7, Value.int 1)] [] σ) :
    r_W X w B 8 0 0 (r_Z X w B tX8_attempt (r_QV σ0 Q)) 0 [(0, Value.ref (B + a0)), (1, Value.int x1), (2, Value.long y2)] [] σ := by
  refine r_iconst (v := 0) C dX8_attempt_0 (by decide) ?_
  refine r_istore (lv' := [(4, Value.int 0), (0, Value.ref (B + a0)), (1, Value.int x1), (2, Value.long y2)]) C dX8_attempt_1 (by decide) rfl ?_
  refine r_iconst (v := 1) C dX8_attempt_3 (by decide) ?_
  refine r_istore (lv' := [(5, Value.int 1), (4, Value.int 0), (0, Value.ref (B + a0)), (1, Value.int x1), (2, Value.long y2)]) C dX8_attempt_4 (by decide) rfl ?_
  refine r_iconst (v := 1) C dX8_attempt_6 (by decide) ?_
  refine r_istore (lv' := [(6, Value.int 1), (5, Value.int 1), (4, Value.int 0), (0, Value.ref (B + a0)), (1, Value.int x1), (2, Value.long y2)]) C dX8_attempt_7 (by decide) rfl ?_
  refine r_iconst (v := 1) C dX8_attempt_9 (by decide) ?_
  refine r_istore (lv' := [(7, Value.int 1), (6, Value.int 1), (5, Value.int 1), (4, Value.int 0), (0, Value.ref (B + a0)), (1, Value.int x1), (2, Value.long y2)]) C dX8_attempt_10 (by decide) rfl ?_
  exact r_loc (by simp) h
theorem w_X8_attempt_12 {X : r_X} {w : r_V} {B : Nat} {l : Launch} {Q : r_S → Prop} {σ0 : r_S} (C : r_C X w B 8 cX8_attempt RX8) (E : r_E X l tX8_attempt) {σ : r_S} (hs : σ.1 = σ0.1) {a0 : Nat} {x1 x4 x5 x6 x7 : Int32} {y2 : Int64}
    (h : r_at σ a0 = some (.inl 8) ∧ (((r_gi σ a0 5) < x7 → (r_W X w B 8 0 0 (r_Z X w B tX8_attempt (r_QV σ0 Q)) 127 [(0, Value.ref (B + a0)), (1, Value.int x1), (2, Value.long y2), (4, Value.int x4), (5, Value.int x5)] [] σ)) ∧ (¬ (r_gi σ a0 5) < x7 → ((x6 = 0 → (r_W X w B 8 0 0 (r_Z X w B tX8_attempt (r_QV σ0 Q)) 127 [(0, Value.ref (B + a0)), (1, Value.int x1), (2, Value.long y2), (4, Value.int x4), (5, Value.int x5)] [] σ)) ∧ (¬ x6 = 0 → (∃ n4, r_at σ (r_gr σ a0 6) = some (.inr (0, n4)) ∧ (vp_in x7 n4 ∧ (((r_gi σ (r_gr σ a0 6) x7.toNatClampNeg) = x1 → (∃ n10, r_at σ (r_gr σ a0 10) = some (.inr (2, n10)) ∧ (vp_in x7 n10 ∧ (((r_gi σ (r_gr σ a0 10) x7.toNatClampNeg) = 0 → (∀ z14 : Int32, z14 = x7 + 1 → (r_W X w B 8 0 0 (r_Z X w B tX8_attempt (r_QV σ0 Q)) 12 [(0, Value.ref (B + a0)), (1, Value.int x1), (2, Value.long y2), (4, Value.int x4), (5, Value.int x5), (6, Value.int x6), (7, Value.int z14)] [] σ))) ∧ (¬ (r_gi σ (r_gr σ a0 10) x7.toNatClampNeg) = 0 → ((4 ≤ x4 → (r_W X w B 8 0 0 (r_Z X w B tX8_attempt (r_QV σ0 Q)) 85 [(0, Value.ref (B + a0)), (1, Value.int x1), (2, Value.long y2), (4, Value.int x4), (5, Value.int x5), (7, Value.int x7)] [] σ)) ∧ (¬ 4 ≤ x4 → ((x4 = 0 → (r_W X w B 8 0 0 (r_Z X w B tX8_attempt (r_QV σ0 Q)) 81 [(0, Value.ref (B + a0)), (1, Value.int x1), (2, Value.long y2), (4, Value.int x4), (5, Value.int x5), (7, Value.int x7)] [] σ)) ∧ (¬ x4 = 0 → (∃ n18, r_at σ (r_gr σ a0 7) = some (.inr (0, n18)) ∧ (vp_in x7 n18 ∧ (∃ n21, r_at σ (r_gr σ a0 42) = some (.inr (0, n21)) ∧ (vp_in (4 * x1) n21 ∧ (vp_in (r_gi σ (r_gr σ a0 42) (4 * x1).toNatClampNeg) n18 ∧ (((r_gi σ (r_gr σ a0 7) x7.toNatClampNeg) = (r_gi σ (r_gr σ a0 7) (r_gi σ (r_gr σ a0 42) (4 * x1).toNatClampNeg).toNatClampNeg) → (r_W X w B 8 0 0 (r_Z X w B tX8_attempt (r_QV σ0 Q)) 81 [(0, Value.ref (B + a0)), (1, Value.int x1), (2, Value.long y2), (4, Value.int x4), (5, Value.int x5), (7, Value.int x7)] [] σ)) ∧ (¬ (r_gi σ (r_gr σ a0 7) x7.toNatClampNeg) = (r_gi σ (r_gr σ a0 7) (r_gi σ (r_gr σ a0 42) (4 * x1).toNatClampNeg).toNatClampNeg) → (r_W X w B 8 0 0 (r_Z X w B tX8_attempt (r_QV σ0 Q)) 85 [(0, Value.ref (B + a0)), (1, Value.int x1), (2, Value.long y2), (4, Value.int x4), (5, Value.int x5), (7, Value.int x7)] [] σ))))))))))))))))) ∧ (¬ (r_gi σ (r_gr σ a0 6) x7.toNatClampNeg) = x1 → (∀ z8 : Int32, z8 = x7 + 1 → (r_W X w B 8 0 0 (r_Z X w B tX8_attempt (r_QV σ0 Q)) 12 [(0, Value.ref (B + a0)), (1, Value.int x1), (2, Value.long y2), (4, Value.int x4), (5, Value.int x5), (6, Value.int x6), (7, Value.int z8)] [] σ))))))))))) :
    r_W X w B 8 0 0 (r_Z X w B tX8_attempt (r_QV σ0 Q)) 12 [(0, Value.ref (B + a0)), (1, Value.int x1), (2, Value.long y2), (4, Value.int x4), (5, Value.int x5), (6, Value.int x6), (7, Value.int x7)] [] σ := by
  refine r_iload C dX8_attempt_12 (j := 6) rfl ?_
  refine r_aload_n C dX8_attempt_14 rfl (j := 0) rfl ?_
  obtain ⟨g1, h⟩ := h
  refine r_get (v := .int (r_gi σ a0 5)) C (r_atT rfl g1) fa_X8_163 rfl dX8_attempt_15 ?_
  refine r_icmp_gt (tgt := 127) C dX8_attempt_18 (by decide) (fun c2 => ?_) (fun c2 => ?_)
  · have h := h.1 c2
    exact r_loc (by simp) h
  · have h := h.2 c2
    refine r_iload C dX8_attempt_21 (j := 5) rfl ?_
    refine r_if_eq (tgt := 127) C dX8_attempt_23 (by decide) (fun c3 => ?_) (fun c3 => ?_)
    · have h := h.1 c3
      exact r_loc (by simp) h
    · have h := h.2 c3
      refine r_aload_n C dX8_attempt_26 rfl (j := 0) rfl ?_
      obtain ⟨n4, g5, h⟩ := h
      refine r_getR C (r_atT rfl g1) fa_X8_17 rfl (r_atN g5) dX8_attempt_27 ?_
      refine r_iload C dX8_attempt_30 (j := 6) rfl ?_
      obtain ⟨g6, h⟩ := h
      refine r_iald C (r_atT rfl g5) ⟨rfl, fun _ => rfl⟩ g6 dX8_attempt_32 ?_
      refine r_iload_n C dX8_attempt_33 rfl (j := 1) rfl ?_
      refine r_icmp_ne (tgt := 121) C dX8_attempt_34 (by decide) (fun c7 => ?_) (fun c7 => ?_)
      · have h := h.2 c7
        obtain ⟨z8, e9⟩ : ∃ y : Int32, y = x7 + 1 := ⟨_, rfl⟩
        have h := h z8 e9
        refine r_iinc (v := z8) (lv' := [(7, Value.int z8), (0, Value.ref (B + a0)), (1, Value.int x1), (2, Value.long y2), (4, Value.int x4), (5, Value.int x5), (6, Value.int x6)]) C dX8_attempt_121 (k := 6) rfl (by rw [e9]; rfl) (by decide) rfl ?_
        refine r_goto (tgt := 12) C dX8_attempt_124 (by decide) ?_
        exact r_loc (by simp) h
      · have h := h.1 c7
        refine r_aload_n C dX8_attempt_37 rfl (j := 0) rfl ?_
        obtain ⟨n10, g11, h⟩ := h
        refine r_getR C (r_atT rfl g1) fa_X8_30 rfl (r_atN g11) dX8_attempt_38 ?_
        refine r_iload C dX8_attempt_41 (j := 6) rfl ?_
        obtain ⟨g12, h⟩ := h
        refine r_zald C (r_atT rfl g11) ⟨rfl, fun _ => rfl⟩ g12 dX8_attempt_43 ?_
        refine r_if_eq (tgt := 121) C dX8_attempt_44 (by decide) (fun c13 => ?_) (fun c13 => ?_)
        · have h := h.1 c13
          obtain ⟨z14, e15⟩ : ∃ y : Int32, y = x7 + 1 := ⟨_, rfl⟩
          have h := h z14 e15
          refine r_iinc (v := z14) (lv' := [(7, Value.int z14), (0, Value.ref (B + a0)), (1, Value.int x1), (2, Value.long y2), (4, Value.int x4), (5, Value.int x5), (6, Value.int x6)]) C dX8_attempt_121 (k := 6) rfl (by rw [e15]; rfl) (by decide) rfl ?_
          refine r_goto (tgt := 12) C dX8_attempt_124 (by decide) ?_
          exact r_loc (by simp) h
        · have h := h.2 c13
          refine r_iload C dX8_attempt_47 (j := 3) rfl ?_
          refine r_iconst (v := 4) C dX8_attempt_49 (by decide) ?_
          refine r_icmp_ge (tgt := 85) C dX8_attempt_50 (by decide) (fun c16 => ?_) (fun c16 => ?_)
          · have h := h.1 c16
            exact r_loc (by simp) h
          · have h := h.2 c16
            refine r_iload C dX8_attempt_53 (j := 3) rfl ?_
            refine r_if_eq (tgt := 81) C dX8_attempt_55 (by decide) (fun c17 => ?_) (fun c17 => ?_)
            · have h := h.1 c17
              exact r_loc (by simp) h
            · have h := h.2 c17
              refine r_aload_n C dX8_attempt_58 rfl (j := 0) rfl ?_
              obtain ⟨n18, g19, h⟩ := h
              refine r_getR C (r_atT rfl g1) fa_X8_21 rfl (r_atN g19) dX8_attempt_59 ?_
              refine r_iload C dX8_attempt_62 (j := 6) rfl ?_
              obtain ⟨g20, h⟩ := h
              refine r_iald C (r_atT rfl g19) ⟨rfl, fun _ => rfl⟩ g20 dX8_attempt_64 ?_
              refine r_aload_n C dX8_attempt_65 rfl (j := 0) rfl ?_
              refine r_getR C (r_atT rfl g1) fa_X8_21 rfl (r_atN g19) dX8_attempt_66 ?_
              refine r_aload_n C dX8_attempt_69 rfl (j := 0) rfl ?_
              obtain ⟨n21, g22, h⟩ := h
              refine r_getR C (r_atT rfl g1) fa_X8_115 rfl (r_atN g22) dX8_attempt_70 ?_
              refine r_iconst (v := 4) C dX8_attempt_73 (by decide) ?_
              refine r_iload_n C dX8_attempt_74 rfl (j := 1) rfl ?_
              refine r_imul C dX8_attempt_75 ?_
              obtain ⟨g23, h⟩ := h
              refine r_iald C (r_atT rfl g22) ⟨rfl, fun _ => rfl⟩ g23 dX8_attempt_76 ?_
              obtain ⟨g24, h⟩ := h
              refine r_iald C (r_atT rfl g19) ⟨rfl, fun _ => rfl⟩ g24 dX8_attempt_77 ?_
              refine r_icmp_ne (tgt := 85) C dX8_attempt_78 (by decide) (fun c25 => ?_) (fun c25 => ?_)
              · have h := h.2 c25
                exact r_loc (by simp) h
              · have h := h.1 c25
                exact r_loc (by simp) h
theorem w_X8_attempt_81 {X : r_X} {w : r_V} {B : Nat} {l : Launch} {Q : r_S → Prop} {σ0 : r_S} (C : r_C X w B 8 cX8_attempt RX8) (E : r_E X l tX8_attempt) {σ : r_S} (hs : σ.1 = σ0.1) {a0 : Nat} {x1 x4 x5 x7 : Int32} {y2 : Int64}
    (h : r_at σ a0 = some (.inl 8) ∧ (∃ n3, r_at σ (r_gr σ a0 42) = some (.inr (0, n3)) ∧ (vp_in ((4 * x1) + x4) n3 ∧ (∀ σ6 : r_S, σ6 = r_ui σ (r_gr σ a0 42) (((4 * x1) + x4).toNatClampNeg) x7 → (∀ z9 : Int32, z9 = x4 + 1 → (∃ n11, r_at σ (r_gr σ6 a0 8) = some (.inr (0, n11)) ∧ (vp_in x7 n11 ∧ (∀ z14 : Int32, z14 = x5 + (r_gi σ6 (r_gr σ6 a0 8) x7.toNatClampNeg) → (∀ z16 : Int32, z16 = x7 + 1 → (r_W X w B 8 0 0 (r_Z X w B tX8_attempt (r_QV σ0 Q)) 12 [(0, Value.ref (B + a0)), (1, Value.int x1), (2, Value.long y2), (4, Value.int z9), (5, Value.int z14), (6, Value.int 1), (7, Value.int z16)] [] σ6)))))))))) :
    r_W X w B 8 0 0 (r_Z X w B tX8_attempt (r_QV σ0 Q)) 81 [(0, Value.ref (B + a0)), (1, Value.int x1), (2, Value.long y2), (4, Value.int x4), (5, Value.int x5), (7, Value.int x7)] [] σ := by
  refine r_iconst (v := 1) C dX8_attempt_81 (by decide) ?_
  refine r_goto (tgt := 86) C dX8_attempt_82 (by decide) ?_
  refine r_istore (lv' := [(6, Value.int 1), (0, Value.ref (B + a0)), (1, Value.int x1), (2, Value.long y2), (4, Value.int x4), (5, Value.int x5), (7, Value.int x7)]) C dX8_attempt_86 (by decide) rfl ?_
  refine r_iload C dX8_attempt_88 (j := 0) rfl ?_
  refine r_if_eq (tgt := 121) C dX8_attempt_90 (by decide) (fun c1 => ?_) (fun c1 => ?_)
  · exact absurd c1 (by decide)
  · skip
    refine r_aload_n C dX8_attempt_93 rfl (j := 1) rfl ?_
    obtain ⟨g2, h⟩ := h
    obtain ⟨n3, g4, h⟩ := h
    refine r_getR C (r_atT rfl g2) fa_X8_115 rfl (r_atN g4) dX8_attempt_94 ?_
    refine r_iconst (v := 4) C dX8_attempt_97 (by decide) ?_
    refine r_iload_n C dX8_attempt_98 rfl (j := 2) rfl ?_
    refine r_imul C dX8_attempt_99 ?_
    refine r_iload C dX8_attempt_100 (j := 4) rfl ?_
    refine r_iadd C dX8_attempt_102 ?_
    refine r_iload C dX8_attempt_103 (j := 6) rfl ?_
    obtain ⟨g5, h⟩ := h
    refine r_iast C (r_atT rfl g4) ⟨rfl, fun _ => rfl⟩ g5 dX8_attempt_105 ?_
    refine r_nam (fun σ6 e7 => ?_)
    have h := h σ6 e7
    have s8 : σ6.1 = σ.1 := by rw [e7]; exact rfl
    obtain ⟨z9, e10⟩ : ∃ y : Int32, y = x4 + 1 := ⟨_, rfl⟩
    have h := h z9 e10
    refine r_iinc (v := z9) (lv' := [(4, Value.int z9), (6, Value.int 1), (0, Value.ref (B + a0)), (1, Value.int x1), (2, Value.long y2), (5, Value.int x5), (7, Value.int x7)]) C dX8_attempt_106 (k := 4) rfl (by rw [e10]; rfl) (by decide) rfl ?_
    refine r_iload C dX8_attempt_109 (j := 5) rfl ?_
    refine r_aload_n C dX8_attempt_111 rfl (j := 2) rfl ?_
    obtain ⟨n11, g12, h⟩ := h
    refine r_getR C (r_atT s8 g2) fa_X8_24 rfl (r_atN g12) dX8_attempt_112 ?_
    refine r_iload C dX8_attempt_115 (j := 6) rfl ?_
    obtain ⟨g13, h⟩ := h
    refine r_iald C (r_atT s8 g12) ⟨rfl, fun _ => rfl⟩ g13 dX8_attempt_117 ?_
    refine r_iadd C dX8_attempt_118 ?_
    refine r_topi (fun z14 e15 => ?_)
    have h := h z14 e15
    refine r_istore (lv' := [(5, Value.int z14), (4, Value.int z9), (6, Value.int 1), (0, Value.ref (B + a0)), (1, Value.int x1), (2, Value.long y2), (7, Value.int x7)]) C dX8_attempt_119 (by decide) rfl ?_
    obtain ⟨z16, e17⟩ : ∃ y : Int32, y = x7 + 1 := ⟨_, rfl⟩
    have h := h z16 e17
    refine r_iinc (v := z16) (lv' := [(7, Value.int z16), (5, Value.int z14), (4, Value.int z9), (6, Value.int 1), (0, Value.ref (B + a0)), (1, Value.int x1), (2, Value.long y2)]) C dX8_attempt_121 (k := 6) rfl (by rw [e17]; rfl) (by decide) rfl ?_
    refine r_goto (tgt := 12) C dX8_attempt_124 (by decide) ?_
    exact r_loc (by simp) h
theorem w_X8_attempt_85 {X : r_X} {w : r_V} {B : Nat} {l : Launch} {Q : r_S → Prop} {σ0 : r_S} (C : r_C X w B 8 cX8_attempt RX8) (E : r_E X l tX8_attempt) {σ : r_S} (hs : σ.1 = σ0.1) {a0 : Nat} {x1 x4 x5 x7 : Int32} {y2 : Int64}
    (h : ∀ z2 : Int32, z2 = x7 + 1 → (r_W X w B 8 0 0 (r_Z X w B tX8_attempt (r_QV σ0 Q)) 12 [(0, Value.ref (B + a0)), (1, Value.int x1), (2, Value.long y2), (4, Value.int x4), (5, Value.int x5), (6, Value.int 0), (7, Value.int z2)] [] σ)) :
    r_W X w B 8 0 0 (r_Z X w B tX8_attempt (r_QV σ0 Q)) 85 [(0, Value.ref (B + a0)), (1, Value.int x1), (2, Value.long y2), (4, Value.int x4), (5, Value.int x5), (7, Value.int x7)] [] σ := by
  refine r_iconst (v := 0) C dX8_attempt_85 (by decide) ?_
  refine r_istore (lv' := [(6, Value.int 0), (0, Value.ref (B + a0)), (1, Value.int x1), (2, Value.long y2), (4, Value.int x4), (5, Value.int x5), (7, Value.int x7)]) C dX8_attempt_86 (by decide) rfl ?_
  refine r_iload C dX8_attempt_88 (j := 0) rfl ?_
  refine r_if_eq (tgt := 121) C dX8_attempt_90 (by decide) (fun c1 => ?_) (fun c1 => ?_)
  · skip
    obtain ⟨z2, e3⟩ : ∃ y : Int32, y = x7 + 1 := ⟨_, rfl⟩
    have h := h z2 e3
    refine r_iinc (v := z2) (lv' := [(7, Value.int z2), (6, Value.int 0), (0, Value.ref (B + a0)), (1, Value.int x1), (2, Value.long y2), (4, Value.int x4), (5, Value.int x5)]) C dX8_attempt_121 (k := 6) rfl (by rw [e3]; rfl) (by decide) rfl ?_
    refine r_goto (tgt := 12) C dX8_attempt_124 (by decide) ?_
    exact r_loc (by simp) h
  · exact absurd (by decide) c1
theorem w_X8_attempt_127 {X : r_X} {w : r_V} {B : Nat} {l : Launch} {Q : r_S → Prop} {σ0 : r_S} (C : r_C X w B 8 cX8_attempt RX8) (E : r_E X l tX8_attempt) {σ : r_S} (hs : σ.1 = σ0.1) {a0 : Nat} {x1 x4 x5 : Int32} {y2 : Int64}
    (h : r_at σ a0 = some (.inl 8) ∧ (∃ n2, r_at σ (r_gr σ a0 43) = some (.inr (0, n2)) ∧ (vp_in x1 n2 ∧ (∀ σ5 : r_S, σ5 = r_ui σ (r_gr σ a0 43) (x1.toNatClampNeg) x4 → (∃ n8, r_at σ (r_gr σ5 a0 44) = some (.inr (0, n8)) ∧ (vp_in x1 n8 ∧ (∀ σ11 : r_S, σ11 = r_ui σ5 (r_gr σ5 a0 44) (x1.toNatClampNeg) x5 → ((x5 < (r_gi σ11 a0 3) → (∃ n15, r_at σ (r_gr σ11 a0 7) = some (.inr (0, n15)) ∧ (∃ n17, r_at σ (r_gr σ11 a0 42) = some (.inr (0, n17)) ∧ (vp_in (4 * x1) n17 ∧ (vp_in (r_gi σ11 (r_gr σ11 a0 42) (4 * x1).toNatClampNeg) n15 ∧ (∃ Q21 : r_S → Prop, r_M l w B tX8_begin [Value.ref (B + a0), Value.int x1, Value.int 3, Value.int (r_gi σ11 (r_gr σ11 a0 7) (r_gi σ11 (r_gr σ11 a0 42) (4 * x1).toNatClampNeg).toNatClampNeg), Value.int x5, Value.int 0, Value.long y2] σ11 (r_QV σ11 Q21) ∧ (∀ σ23 : r_S, Q21 σ23 → (Q σ23)))))))) ∧ (¬ x5 < (r_gi σ11 a0 3) → (∃ n27, r_at σ (r_gr σ11 a0 7) = some (.inr (0, n27)) ∧ (∃ n29, r_at σ (r_gr σ11 a0 42) = some (.inr (0, n29)) ∧ (vp_in (4 * x1) n29 ∧ (vp_in (r_gi σ11 (r_gr σ11 a0 42) (4 * x1).toNatClampNeg) n27 ∧ (∃ Q33 : r_S → Prop, r_M l w B tX8_begin [Value.ref (B + a0), Value.int x1, Value.int 1, Value.int (r_gi σ11 (r_gr σ11 a0 7) (r_gi σ11 (r_gr σ11 a0 42) (4 * x1).toNatClampNeg).toNatClampNeg), Value.int x5, Value.int 0, Value.long y2] σ11 (r_QV σ11 Q33) ∧ (∀ σ35 : r_S, Q33 σ35 → (Q σ35)))))))))))))))) :
    r_W X w B 8 0 0 (r_Z X w B tX8_attempt (r_QV σ0 Q)) 127 [(0, Value.ref (B + a0)), (1, Value.int x1), (2, Value.long y2), (4, Value.int x4), (5, Value.int x5)] [] σ := by
  refine r_aload_n C dX8_attempt_127 rfl (j := 0) rfl ?_
  obtain ⟨g1, h⟩ := h
  obtain ⟨n2, g3, h⟩ := h
  refine r_getR C (r_atT rfl g1) fa_X8_118 rfl (r_atN g3) dX8_attempt_128 ?_
  refine r_iload_n C dX8_attempt_131 rfl (j := 1) rfl ?_
  refine r_iload C dX8_attempt_132 (j := 3) rfl ?_
  obtain ⟨g4, h⟩ := h
  refine r_iast C (r_atT rfl g3) ⟨rfl, fun _ => rfl⟩ g4 dX8_attempt_134 ?_
  refine r_nam (fun σ5 e6 => ?_)
  have h := h σ5 e6
  have s7 : σ5.1 = σ.1 := by rw [e6]; exact rfl
  refine r_aload_n C dX8_attempt_135 rfl (j := 0) rfl ?_
  obtain ⟨n8, g9, h⟩ := h
  refine r_getR C (r_atT s7 g1) fa_X8_121 rfl (r_atN g9) dX8_attempt_136 ?_
  refine r_iload_n C dX8_attempt_139 rfl (j := 1) rfl ?_
  refine r_iload C dX8_attempt_140 (j := 4) rfl ?_
  obtain ⟨g10, h⟩ := h
  refine r_iast C (r_atT s7 g9) ⟨rfl, fun _ => rfl⟩ g10 dX8_attempt_142 ?_
  refine r_nam (fun σ11 e12 => ?_)
  have h := h σ11 e12
  have s13 : σ11.1 = σ.1 := by rw [e12]; exact s7
  refine r_aload_n C dX8_attempt_143 rfl (j := 0) rfl ?_
  refine r_iload_n C dX8_attempt_144 rfl (j := 1) rfl ?_
  refine r_iload C dX8_attempt_145 (j := 4) rfl ?_
  refine r_aload_n C dX8_attempt_147 rfl (j := 0) rfl ?_
  refine r_get (v := .int (r_gi σ11 a0 3)) C (r_atT s13 g1) fa_X8_7 rfl dX8_attempt_148 ?_
  refine r_icmp_lt (tgt := 158) C dX8_attempt_151 (by decide) (fun c14 => ?_) (fun c14 => ?_)
  · have h := h.1 c14
    refine r_iconst (v := 3) C dX8_attempt_158 (by decide) ?_
    refine r_aload_n C dX8_attempt_159 rfl (j := 0) rfl ?_
    obtain ⟨n15, g16, h⟩ := h
    refine r_getR C (r_atT s13 g1) fa_X8_21 rfl (r_atN g16) dX8_attempt_160 ?_
    refine r_aload_n C dX8_attempt_163 rfl (j := 0) rfl ?_
    obtain ⟨n17, g18, h⟩ := h
    refine r_getR C (r_atT s13 g1) fa_X8_115 rfl (r_atN g18) dX8_attempt_164 ?_
    refine r_iconst (v := 4) C dX8_attempt_167 (by decide) ?_
    refine r_iload_n C dX8_attempt_168 rfl (j := 1) rfl ?_
    refine r_imul C dX8_attempt_169 ?_
    obtain ⟨g19, h⟩ := h
    refine r_iald C (r_atT s13 g18) ⟨rfl, fun _ => rfl⟩ g19 dX8_attempt_170 ?_
    obtain ⟨g20, h⟩ := h
    refine r_iald C (r_atT s13 g16) ⟨rfl, fun _ => rfl⟩ g20 dX8_attempt_171 ?_
    refine r_iload C dX8_attempt_172 (j := 4) rfl ?_
    refine r_iconst (v := 0) C dX8_attempt_174 (by decide) ?_
    refine r_lload_n C dX8_attempt_175 rfl (j := 2) rfl ?_
    obtain ⟨Q21, m22, h⟩ := h
    refine r_callVV (rest := []) C E [Value.int x1, Value.int 3, Value.int (r_gi σ11 (r_gr σ11 a0 7) (r_gi σ11 (r_gr σ11 a0 42) (4 * x1).toNatClampNeg).toNatClampNeg), Value.int x5, Value.int 0, Value.long y2] (r_atT s13 g1) rfl ky_X8_begin kl_X8_190 ki_X8_begin kx_X8_begin ⟨Nat.le_of_ble_eq_true rfl, Nat.le_of_ble_eq_true rfl⟩ ⟨rfl, rfl⟩ m22 rfl rfl (Nat.le_of_ble_eq_true rfl) (Nat.zero_le _) (Nat.zero_le _) dX8_attempt_176 (fun σ23 s24 q26 => ?_)
    have h := h σ23 q26
    have s24 := s24.trans s13
    exact r_vretQ C E rfl (Nat.zero_le _) (Nat.zero_le _) dX8_attempt_179 (s24.trans hs) h
  · have h := h.2 c14
    refine r_iconst (v := 1) C dX8_attempt_154 (by decide) ?_
    refine r_goto (tgt := 159) C dX8_attempt_155 (by decide) ?_
    refine r_aload_n C dX8_attempt_159 rfl (j := 0) rfl ?_
    obtain ⟨n27, g28, h⟩ := h
    refine r_getR C (r_atT s13 g1) fa_X8_21 rfl (r_atN g28) dX8_attempt_160 ?_
    refine r_aload_n C dX8_attempt_163 rfl (j := 0) rfl ?_
    obtain ⟨n29, g30, h⟩ := h
    refine r_getR C (r_atT s13 g1) fa_X8_115 rfl (r_atN g30) dX8_attempt_164 ?_
    refine r_iconst (v := 4) C dX8_attempt_167 (by decide) ?_
    refine r_iload_n C dX8_attempt_168 rfl (j := 1) rfl ?_
    refine r_imul C dX8_attempt_169 ?_
    obtain ⟨g31, h⟩ := h
    refine r_iald C (r_atT s13 g30) ⟨rfl, fun _ => rfl⟩ g31 dX8_attempt_170 ?_
    obtain ⟨g32, h⟩ := h
    refine r_iald C (r_atT s13 g28) ⟨rfl, fun _ => rfl⟩ g32 dX8_attempt_171 ?_
    refine r_iload C dX8_attempt_172 (j := 4) rfl ?_
    refine r_iconst (v := 0) C dX8_attempt_174 (by decide) ?_
    refine r_lload_n C dX8_attempt_175 rfl (j := 2) rfl ?_
    obtain ⟨Q33, m34, h⟩ := h
    refine r_callVV (rest := []) C E [Value.int x1, Value.int 1, Value.int (r_gi σ11 (r_gr σ11 a0 7) (r_gi σ11 (r_gr σ11 a0 42) (4 * x1).toNatClampNeg).toNatClampNeg), Value.int x5, Value.int 0, Value.long y2] (r_atT s13 g1) rfl ky_X8_begin kl_X8_190 ki_X8_begin kx_X8_begin ⟨Nat.le_of_ble_eq_true rfl, Nat.le_of_ble_eq_true rfl⟩ ⟨rfl, rfl⟩ m34 rfl rfl (Nat.le_of_ble_eq_true rfl) (Nat.zero_le _) (Nat.zero_le _) dX8_attempt_176 (fun σ35 s36 q38 => ?_)
    have h := h σ35 q38
    have s36 := s36.trans s13
    exact r_vretQ C E rfl (Nat.zero_le _) (Nat.zero_le _) dX8_attempt_179 (s36.trans hs) h
theorem w_X8_stepOne_0 {X : r_X} {w : r_V} {B : Nat} {l : Launch} {Q : r_S → Prop} {σ0 : r_S} (C : r_C X w B 4 cX8_stepOne RX8) (E : r_E X l tX8_stepOne) {σ : r_S} (hs : σ.1 = σ0.1) {a0 : Nat} {y1 : Int64}
    (h : r_W X w B 4 0 0 (r_Z X w B tX8_stepOne (r_QV σ0 Q)) 2 [(0, Value.ref (B + a0)), (1, Value.long y1), (3, Value.int 0)] [] σ) :
    r_W X w B 4 0 0 (r_Z X w B tX8_stepOne (r_QV σ0 Q)) 0 [(0, Value.ref (B + a0)), (1, Value.long y1)] [] σ := by
  refine r_iconst (v := 0) C dX8_stepOne_0 (by decide) ?_
  refine r_istore_n (lv' := [(3, Value.int 0), (0, Value.ref (B + a0)), (1, Value.long y1)]) C dX8_stepOne_1 rfl (by decide) rfl ?_
  exact r_loc (by simp) h
theorem w_X8_stepOne_2 {X : r_X} {w : r_V} {B : Nat} {l : Launch} {Q : r_S → Prop} {σ0 : r_S} (C : r_C X w B 4 cX8_stepOne RX8) (E : r_E X l tX8_stepOne) {σ : r_S} (hs : σ.1 = σ0.1) {a0 : Nat} {x3 : Int32} {y1 : Int64}
    (h : r_at σ a0 = some (.inl 8) ∧ (((r_gi σ a0 1) ≤ x3 → (Q σ)) ∧ (¬ (r_gi σ a0 1) ≤ x3 → (∃ n3, r_at σ (r_gr σ a0 31) = some (.inr (1, n3)) ∧ (vp_in x3 n3 ∧ (((r_gl σ (r_gr σ a0 31) x3.toNatClampNeg) = y1 → (∃ Q7 : r_S → Prop, r_M l w B tX8_fail [Value.ref (B + a0), Value.int x3, Value.long y1] σ (r_QV σ Q7) ∧ (∀ σ9 : r_S, Q7 σ9 → (r_W X w B 4 0 0 (r_Z X w B tX8_stepOne (r_QV σ0 Q)) 27 [(0, Value.ref (B + a0)), (1, Value.long y1), (3, Value.int x3)] [] σ9)))) ∧ (¬ (r_gl σ (r_gr σ a0 31) x3.toNatClampNeg) = y1 → (r_W X w B 4 0 0 (r_Z X w B tX8_stepOne (r_QV σ0 Q)) 27 [(0, Value.ref (B + a0)), (1, Value.long y1), (3, Value.int x3)] [] σ)))))))) :
    r_W X w B 4 0 0 (r_Z X w B tX8_stepOne (r_QV σ0 Q)) 2 [(0, Value.ref (B + a0)), (1, Value.long y1), (3, Value.int x3)] [] σ := by
  refine r_iload_n C dX8_stepOne_2 rfl (j := 2) rfl ?_
  refine r_aload_n C dX8_stepOne_3 rfl (j := 0) rfl ?_
  obtain ⟨g1, h⟩ := h
  refine r_get (v := .int (r_gi σ a0 1)) C (r_atT rfl g1) fa_X8_145 rfl dX8_stepOne_4 ?_
  refine r_icmp_ge (tgt := 166) C dX8_stepOne_7 (by decide) (fun c2 => ?_) (fun c2 => ?_)
  · have h := h.1 c2
    exact r_vretQ C E rfl (Nat.zero_le _) (Nat.zero_le _) dX8_stepOne_166 ((rfl : σ.1 = σ.1).trans hs) h
  · have h := h.2 c2
    refine r_aload_n C dX8_stepOne_10 rfl (j := 0) rfl ?_
    obtain ⟨n3, g4, h⟩ := h
    refine r_getR C (r_atT rfl g1) fa_X8_82 rfl (r_atN g4) dX8_stepOne_11 ?_
    refine r_iload_n C dX8_stepOne_14 rfl (j := 2) rfl ?_
    obtain ⟨g5, h⟩ := h
    refine r_lald C (r_atT rfl g4) ⟨rfl, fun _ => rfl⟩ g5 dX8_stepOne_15 ?_
    refine r_lload_n C dX8_stepOne_16 rfl (j := 1) rfl ?_
    refine r_lcmp C dX8_stepOne_17 ?_
    refine r_if_ne (tgt := 27) C dX8_stepOne_18 (by decide) (fun c6 => ?_) (fun c6 => ?_)
    · have h := h.2 (fun q => c6 (lgc_eq.mpr q))
      exact r_loc (by simp) h
    · have h := h.1 (lgc_eq.mp c6)
      refine r_aload_n C dX8_stepOne_21 rfl (j := 0) rfl ?_
      refine r_iload_n C dX8_stepOne_22 rfl (j := 2) rfl ?_
      refine r_lload_n C dX8_stepOne_23 rfl (j := 1) rfl ?_
      obtain ⟨Q7, m8, h⟩ := h
      refine r_callVV (rest := []) C E [Value.int x3, Value.long y1] (r_atT rfl g1) rfl ky_X8_fail kl_X8_194 ki_X8_fail kx_X8_fail ⟨Nat.le_of_ble_eq_true rfl, Nat.le_of_ble_eq_true rfl⟩ ⟨rfl, rfl⟩ m8 rfl rfl (Nat.le_of_ble_eq_true rfl) (Nat.zero_le _) (Nat.zero_le _) dX8_stepOne_24 (fun σ9 s10 q12 => ?_)
      have h := h σ9 q12
      have s10 := s10.trans rfl
      exact r_loc (by simp) h
theorem w_X8_stepOne_27 {X : r_X} {w : r_V} {B : Nat} {l : Launch} {Q : r_S → Prop} {σ0 : r_S} (C : r_C X w B 4 cX8_stepOne RX8) (E : r_E X l tX8_stepOne) {σ : r_S} (hs : σ.1 = σ0.1) {a0 : Nat} {x3 : Int32} {y1 : Int64}
    (h : r_at σ a0 = some (.inl 8) ∧ (∃ n2, r_at σ (r_gr σ a0 34) = some (.inr (1, n2)) ∧ (vp_in x3 n2 ∧ (((r_gl σ (r_gr σ a0 34) x3.toNatClampNeg) = y1 → (∀ σ65 : r_S, σ65 = r_ul σ (r_gr σ a0 34) (x3.toNatClampNeg) (-1) → (∃ n68, r_at σ (r_gr σ65 a0 35) = some (.inr (0, n68)) ∧ (vp_in x3 n68 ∧ (∃ n71, r_at σ (r_gr σ65 a0 36) = some (.inr (0, n71)) ∧ (vp_in x3 n71 ∧ (∃ n74, r_at σ (r_gr σ65 a0 37) = some (.inr (0, n74)) ∧ (vp_in x3 n74 ∧ (∃ n77, r_at σ (r_gr σ65 a0 38) = some (.inr (0, n77)) ∧ (vp_in x3 n77 ∧ (∃ Q80 : r_S → Prop, r_M l w B tX8_begin [Value.ref (B + a0), Value.int x3, Value.int (r_gi σ65 (r_gr σ65 a0 35) x3.toNatClampNeg), Value.int (r_gi σ65 (r_gr σ65 a0 36) x3.toNatClampNeg), Value.int (r_gi σ65 (r_gr σ65 a0 37) x3.toNatClampNeg), Value.int (r_gi σ65 (r_gr σ65 a0 38) x3.toNatClampNeg), Value.long y1] σ65 (r_QV σ65 Q80) ∧ (∀ σ82 : r_S, Q80 σ82 → (∀ z86 : Int32, z86 = x3 + 1 → (r_W X w B 4 0 0 (r_Z X w B tX8_stepOne (r_QV σ0 Q)) 2 [(0, Value.ref (B + a0)), (1, Value.long y1), (3, Value.int z86)] [] σ82)))))))))))))) ∧ (¬ (r_gl σ (r_gr σ a0 34) x3.toNatClampNeg) = y1 → (∃ Q6 : Int32 → r_S → Prop, r_M l w B tX8_sends [Value.ref (B + a0), Value.int x3, Value.long y1] σ (r_QI σ Q6) ∧ (∀ (z10 : Int32) (σ8 : r_S), Q6 z10 σ8 → ((z10 = 0 → (∃ n15, r_at σ (r_gr σ8 a0 31) = some (.inr (1, n15)) ∧ (vp_in x3 n15 ∧ ((0 ≤ (r_gl σ8 (r_gr σ8 a0 31) x3.toNatClampNeg) → (∀ z19 : Int32, z19 = x3 + 1 → (r_W X w B 4 0 0 (r_Z X w B tX8_stepOne (r_QV σ0 Q)) 2 [(0, Value.ref (B + a0)), (1, Value.long y1), (3, Value.int z19)] [] σ8))) ∧ (¬ 0 ≤ (r_gl σ8 (r_gr σ8 a0 31) x3.toNatClampNeg) → (∃ n21, r_at σ (r_gr σ8 a0 34) = some (.inr (1, n21)) ∧ (vp_in x3 n21 ∧ ((0 ≤ (r_gl σ8 (r_gr σ8 a0 34) x3.toNatClampNeg) → (∀ z25 : Int32, z25 = x3 + 1 → (r_W X w B 4 0 0 (r_Z X w B tX8_stepOne (r_QV σ0 Q)) 2 [(0, Value.ref (B + a0)), (1, Value.long y1), (3, Value.int z25)] [] σ8))) ∧ (¬ 0 ≤ (r_gl σ8 (r_gr σ8 a0 34) x3.toNatClampNeg) → (∃ Q27 : Int32 → r_S → Prop, r_M l w B tX8_keeps [Value.ref (B + a0), Value.int x3] σ8 (r_QI σ8 Q27) ∧ (∀ (z31 : Int32) (σ29 : r_S), Q27 z31 σ29 → ((z31 ≤ 0 → (∀ z34 : Int32, z34 = x3 + 1 → (r_W X w B 4 0 0 (r_Z X w B tX8_stepOne (r_QV σ0 Q)) 2 [(0, Value.ref (B + a0)), (1, Value.long y1), (3, Value.int z34)] [] σ29))) ∧ (¬ z31 ≤ 0 → (∃ n36, r_at σ (r_gr σ29 a0 27) = some (.inr (0, n36)) ∧ (vp_in x3 n36 ∧ (((r_gi σ29 (r_gr σ29 a0 27) x3.toNatClampNeg) = 0 → (∃ n42, r_at σ (r_gr σ29 a0 28) = some (.inr (0, n42)) ∧ (vp_in x3 n42 ∧ (∃ n45, r_at σ (r_gr σ29 a0 29) = some (.inr (0, n45)) ∧ (vp_in x3 n45 ∧ (((r_gi σ29 (r_gr σ29 a0 28) x3.toNatClampNeg) < (r_gi σ29 (r_gr σ29 a0 29) x3.toNatClampNeg) → (∀ z49 : Int32, z49 = x3 + 1 → (r_W X w B 4 0 0 (r_Z X w B tX8_stepOne (r_QV σ0 Q)) 2 [(0, Value.ref (B + a0)), (1, Value.long y1), (3, Value.int z49)] [] σ29))) ∧ (¬ (r_gi σ29 (r_gr σ29 a0 28) x3.toNatClampNeg) < (r_gi σ29 (r_gr σ29 a0 29) x3.toNatClampNeg) → (∃ n51, r_at σ (r_gr σ29 a0 30) = some (.inr (1, n51)) ∧ (vp_in x3 n51 ∧ ((y1 < (r_gl σ29 (r_gr σ29 a0 30) x3.toNatClampNeg) → (∀ z55 : Int32, z55 = x3 + 1 → (r_W X w B 4 0 0 (r_Z X w B tX8_stepOne (r_QV σ0 Q)) 2 [(0, Value.ref (B + a0)), (1, Value.long y1), (3, Value.int z55)] [] σ29))) ∧ (¬ y1 < (r_gl σ29 (r_gr σ29 a0 30) x3.toNatClampNeg) → (∃ Q57 : r_S → Prop, r_M l w B tX8_attempt [Value.ref (B + a0), Value.int x3, Value.long y1] σ29 (r_QV σ29 Q57) ∧ (∀ σ59 : r_S, Q57 σ59 → (∀ z63 : Int32, z63 = x3 + 1 → (r_W X w B 4 0 0 (r_Z X w B tX8_stepOne (r_QV σ0 Q)) 2 [(0, Value.ref (B + a0)), (1, Value.long y1), (3, Value.int z63)] [] σ59))))))))))))))) ∧ (¬ (r_gi σ29 (r_gr σ29 a0 27) x3.toNatClampNeg) = 0 → (∀ z40 : Int32, z40 = x3 + 1 → (r_W X w B 4 0 0 (r_Z X w B tX8_stepOne (r_QV σ0 Q)) 2 [(0, Value.ref (B + a0)), (1, Value.long y1), (3, Value.int z40)] [] σ29))))))))))))))))))) ∧ (¬ z10 = 0 → (∀ z13 : Int32, z13 = x3 + 1 → (r_W X w B 4 0 0 (r_Z X w B tX8_stepOne (r_QV σ0 Q)) 2 [(0, Value.ref (B + a0)), (1, Value.long y1), (3, Value.int z13)] [] σ8))))))))))) :
    r_W X w B 4 0 0 (r_Z X w B tX8_stepOne (r_QV σ0 Q)) 27 [(0, Value.ref (B + a0)), (1, Value.long y1), (3, Value.int x3)] [] σ := by
  refine r_aload_n C dX8_stepOne_27 rfl (j := 0) rfl ?_
  obtain ⟨g1, h⟩ := h
  obtain ⟨n2, g3, h⟩ := h
  refine r_getR C (r_atT rfl g1) fa_X8_91 rfl (r_atN g3) dX8_stepOne_28 ?_
  refine r_iload_n C dX8_stepOne_31 rfl (j := 2) rfl ?_
  obtain ⟨g4, h⟩ := h
  refine r_lald C (r_atT rfl g3) ⟨rfl, fun _ => rfl⟩ g4 dX8_stepOne_32 ?_
  refine r_lload_n C dX8_stepOne_33 rfl (j := 1) rfl ?_
  refine r_lcmp C dX8_stepOne_34 ?_
  refine r_if_ne (tgt := 80) C dX8_stepOne_35 (by decide) (fun c5 => ?_) (fun c5 => ?_)
  · have h := h.2 (fun q => c5 (lgc_eq.mpr q))
    refine r_aload_n C dX8_stepOne_80 rfl (j := 0) rfl ?_
    refine r_iload_n C dX8_stepOne_81 rfl (j := 2) rfl ?_
    refine r_lload_n C dX8_stepOne_82 rfl (j := 1) rfl ?_
    obtain ⟨Q6, m7, h⟩ := h
    refine r_callVI (rest := []) C E [Value.int x3, Value.long y1] (r_atT rfl g1) rfl ky_X8_sends kl_X8_198 ki_X8_sends kx_X8_sends ⟨Nat.le_of_ble_eq_true rfl, Nat.le_of_ble_eq_true rfl⟩ ⟨rfl, rfl⟩ m7 rfl rfl (Nat.le_of_ble_eq_true rfl) (Nat.zero_le _) (Nat.zero_le _) dX8_stepOne_83 (fun z10 σ8 s9 q11 => ?_)
    have h := h z10 σ8 q11
    have s9 := s9.trans rfl
    refine r_if_ne (tgt := 160) C dX8_stepOne_86 (by decide) (fun c12 => ?_) (fun c12 => ?_)
    · have h := h.2 c12
      obtain ⟨z13, e14⟩ : ∃ y : Int32, y = x3 + 1 := ⟨_, rfl⟩
      have h := h z13 e14
      refine r_iinc (v := z13) (lv' := [(3, Value.int z13), (0, Value.ref (B + a0)), (1, Value.long y1)]) C dX8_stepOne_160 (k := 2) rfl (by rw [e14]; rfl) (by decide) rfl ?_
      refine r_goto (tgt := 2) C dX8_stepOne_163 (by decide) ?_
      exact r_loc (by simp) h
    · have h := h.1 c12
      refine r_aload_n C dX8_stepOne_89 rfl (j := 0) rfl ?_
      obtain ⟨n15, g16, h⟩ := h
      refine r_getR C (r_atT s9 g1) fa_X8_82 rfl (r_atN g16) dX8_stepOne_90 ?_
      refine r_iload_n C dX8_stepOne_93 rfl (j := 2) rfl ?_
      obtain ⟨g17, h⟩ := h
      refine r_lald C (r_atT s9 g16) ⟨rfl, fun _ => rfl⟩ g17 dX8_stepOne_94 ?_
      refine r_lconst (v := 0) C dX8_stepOne_95 (by decide) ?_
      refine r_lcmp C dX8_stepOne_96 ?_
      refine r_if_ge (tgt := 160) C dX8_stepOne_97 (by decide) (fun c18 => ?_) (fun c18 => ?_)
      · have h := h.1 (lgc_ge.mp c18)
        obtain ⟨z19, e20⟩ : ∃ y : Int32, y = x3 + 1 := ⟨_, rfl⟩
        have h := h z19 e20
        refine r_iinc (v := z19) (lv' := [(3, Value.int z19), (0, Value.ref (B + a0)), (1, Value.long y1)]) C dX8_stepOne_160 (k := 2) rfl (by rw [e20]; rfl) (by decide) rfl ?_
        refine r_goto (tgt := 2) C dX8_stepOne_163 (by decide) ?_
        exact r_loc (by simp) h
      · have h := h.2 (fun q => c18 (lgc_ge.mpr q))
        refine r_aload_n C dX8_stepOne_100 rfl (j := 0) rfl ?_
        obtain ⟨n21, g22, h⟩ := h
        refine r_getR C (r_atT s9 g1) fa_X8_91 rfl (r_atN g22) dX8_stepOne_101 ?_
        refine r_iload_n C dX8_stepOne_104 rfl (j := 2) rfl ?_
        obtain ⟨g23, h⟩ := h
        refine r_lald C (r_atT s9 g22) ⟨rfl, fun _ => rfl⟩ g23 dX8_stepOne_105 ?_
        refine r_lconst (v := 0) C dX8_stepOne_106 (by decide) ?_
        refine r_lcmp C dX8_stepOne_107 ?_
        refine r_if_ge (tgt := 160) C dX8_stepOne_108 (by decide) (fun c24 => ?_) (fun c24 => ?_)
        · have h := h.1 (lgc_ge.mp c24)
          obtain ⟨z25, e26⟩ : ∃ y : Int32, y = x3 + 1 := ⟨_, rfl⟩
          have h := h z25 e26
          refine r_iinc (v := z25) (lv' := [(3, Value.int z25), (0, Value.ref (B + a0)), (1, Value.long y1)]) C dX8_stepOne_160 (k := 2) rfl (by rw [e26]; rfl) (by decide) rfl ?_
          refine r_goto (tgt := 2) C dX8_stepOne_163 (by decide) ?_
          exact r_loc (by simp) h
        · have h := h.2 (fun q => c24 (lgc_ge.mpr q))
          refine r_aload_n C dX8_stepOne_111 rfl (j := 0) rfl ?_
          refine r_iload_n C dX8_stepOne_112 rfl (j := 2) rfl ?_
          obtain ⟨Q27, m28, h⟩ := h
          refine r_callVI (rest := []) C E [Value.int x3] (r_atT s9 g1) rfl ky_X8_keeps kl_X8_166 ki_X8_keeps kx_X8_keeps ⟨Nat.le_of_ble_eq_true rfl, Nat.le_of_ble_eq_true rfl⟩ ⟨rfl, rfl⟩ m28 rfl rfl (Nat.le_of_ble_eq_true rfl) (Nat.zero_le _) (Nat.zero_le _) dX8_stepOne_113 (fun z31 σ29 s30 q32 => ?_)
          have h := h z31 σ29 q32
          have s30 := s30.trans s9
          refine r_if_le (tgt := 160) C dX8_stepOne_116 (by decide) (fun c33 => ?_) (fun c33 => ?_)
          · have h := h.1 c33
            obtain ⟨z34, e35⟩ : ∃ y : Int32, y = x3 + 1 := ⟨_, rfl⟩
            have h := h z34 e35
            refine r_iinc (v := z34) (lv' := [(3, Value.int z34), (0, Value.ref (B + a0)), (1, Value.long y1)]) C dX8_stepOne_160 (k := 2) rfl (by rw [e35]; rfl) (by decide) rfl ?_
            refine r_goto (tgt := 2) C dX8_stepOne_163 (by decide) ?_
            exact r_loc (by simp) h
          · have h := h.2 c33
            refine r_aload_n C dX8_stepOne_119 rfl (j := 0) rfl ?_
            obtain ⟨n36, g37, h⟩ := h
            refine r_getR C (r_atT s30 g1) fa_X8_70 rfl (r_atN g37) dX8_stepOne_120 ?_
            refine r_iload_n C dX8_stepOne_123 rfl (j := 2) rfl ?_
            obtain ⟨g38, h⟩ := h
            refine r_iald C (r_atT s30 g37) ⟨rfl, fun _ => rfl⟩ g38 dX8_stepOne_124 ?_
            refine r_if_ne (tgt := 160) C dX8_stepOne_125 (by decide) (fun c39 => ?_) (fun c39 => ?_)
            · have h := h.2 c39
              obtain ⟨z40, e41⟩ : ∃ y : Int32, y = x3 + 1 := ⟨_, rfl⟩
              have h := h z40 e41
              refine r_iinc (v := z40) (lv' := [(3, Value.int z40), (0, Value.ref (B + a0)), (1, Value.long y1)]) C dX8_stepOne_160 (k := 2) rfl (by rw [e41]; rfl) (by decide) rfl ?_
              refine r_goto (tgt := 2) C dX8_stepOne_163 (by decide) ?_
              exact r_loc (by simp) h
            · have h := h.1 c39
              refine r_aload_n C dX8_stepOne_128 rfl (j := 0) rfl ?_
              obtain ⟨n42, g43, h⟩ := h
              refine r_getR C (r_atT s30 g1) fa_X8_73 rfl (r_atN g43) dX8_stepOne_129 ?_
              refine r_iload_n C dX8_stepOne_132 rfl (j := 2) rfl ?_
              obtain ⟨g44, h⟩ := h
              refine r_iald C (r_atT s30 g43) ⟨rfl, fun _ => rfl⟩ g44 dX8_stepOne_133 ?_
              refine r_aload_n C dX8_stepOne_134 rfl (j := 0) rfl ?_
              obtain ⟨n45, g46, h⟩ := h
              refine r_getR C (r_atT s30 g1) fa_X8_76 rfl (r_atN g46) dX8_stepOne_135 ?_
              refine r_iload_n C dX8_stepOne_138 rfl (j := 2) rfl ?_
              obtain ⟨g47, h⟩ := h
              refine r_iald C (r_atT s30 g46) ⟨rfl, fun _ => rfl⟩ g47 dX8_stepOne_139 ?_
              refine r_icmp_lt (tgt := 160) C dX8_stepOne_140 (by decide) (fun c48 => ?_) (fun c48 => ?_)
              · have h := h.1 c48
                obtain ⟨z49, e50⟩ : ∃ y : Int32, y = x3 + 1 := ⟨_, rfl⟩
                have h := h z49 e50
                refine r_iinc (v := z49) (lv' := [(3, Value.int z49), (0, Value.ref (B + a0)), (1, Value.long y1)]) C dX8_stepOne_160 (k := 2) rfl (by rw [e50]; rfl) (by decide) rfl ?_
                refine r_goto (tgt := 2) C dX8_stepOne_163 (by decide) ?_
                exact r_loc (by simp) h
              · have h := h.2 c48
                refine r_aload_n C dX8_stepOne_143 rfl (j := 0) rfl ?_
                obtain ⟨n51, g52, h⟩ := h
                refine r_getR C (r_atT s30 g1) fa_X8_79 rfl (r_atN g52) dX8_stepOne_144 ?_
                refine r_iload_n C dX8_stepOne_147 rfl (j := 2) rfl ?_
                obtain ⟨g53, h⟩ := h
                refine r_lald C (r_atT s30 g52) ⟨rfl, fun _ => rfl⟩ g53 dX8_stepOne_148 ?_
                refine r_lload_n C dX8_stepOne_149 rfl (j := 1) rfl ?_
                refine r_lcmp C dX8_stepOne_150 ?_
                refine r_if_gt (tgt := 160) C dX8_stepOne_151 (by decide) (fun c54 => ?_) (fun c54 => ?_)
                · have h := h.1 (lgc_gt.mp c54)
                  obtain ⟨z55, e56⟩ : ∃ y : Int32, y = x3 + 1 := ⟨_, rfl⟩
                  have h := h z55 e56
                  refine r_iinc (v := z55) (lv' := [(3, Value.int z55), (0, Value.ref (B + a0)), (1, Value.long y1)]) C dX8_stepOne_160 (k := 2) rfl (by rw [e56]; rfl) (by decide) rfl ?_
                  refine r_goto (tgt := 2) C dX8_stepOne_163 (by decide) ?_
                  exact r_loc (by simp) h
                · have h := h.2 (fun q => c54 (lgc_gt.mpr q))
                  refine r_aload_n C dX8_stepOne_154 rfl (j := 0) rfl ?_
                  refine r_iload_n C dX8_stepOne_155 rfl (j := 2) rfl ?_
                  refine r_lload_n C dX8_stepOne_156 rfl (j := 1) rfl ?_
                  obtain ⟨Q57, m58, h⟩ := h
                  refine r_callVV (rest := []) C E [Value.int x3, Value.long y1] (r_atT s30 g1) rfl ky_X8_attempt kl_X8_202 ki_X8_attempt kx_X8_attempt ⟨Nat.le_of_ble_eq_true rfl, Nat.le_of_ble_eq_true rfl⟩ ⟨rfl, rfl⟩ m58 rfl rfl (Nat.le_of_ble_eq_true rfl) (Nat.zero_le _) (Nat.zero_le _) dX8_stepOne_157 (fun σ59 s60 q62 => ?_)
                  have h := h σ59 q62
                  have s60 := s60.trans s30
                  obtain ⟨z63, e64⟩ : ∃ y : Int32, y = x3 + 1 := ⟨_, rfl⟩
                  have h := h z63 e64
                  refine r_iinc (v := z63) (lv' := [(3, Value.int z63), (0, Value.ref (B + a0)), (1, Value.long y1)]) C dX8_stepOne_160 (k := 2) rfl (by rw [e64]; rfl) (by decide) rfl ?_
                  refine r_goto (tgt := 2) C dX8_stepOne_163 (by decide) ?_
                  exact r_loc (by simp) h
  · have h := h.1 (lgc_eq.mp c5)
    refine r_aload_n C dX8_stepOne_38 rfl (j := 0) rfl ?_
    refine r_getR C (r_atT rfl g1) fa_X8_91 rfl (r_atN g3) dX8_stepOne_39 ?_
    refine r_iload_n C dX8_stepOne_42 rfl (j := 2) rfl ?_
    refine r_ldc2 (v := (-1)) C kj_X8_148 dX8_stepOne_43 ?_
    refine r_last C (r_atT rfl g3) ⟨rfl, fun _ => rfl⟩ g4 dX8_stepOne_46 ?_
    refine r_nam (fun σ65 e66 => ?_)
    have h := h σ65 e66
    have s67 : σ65.1 = σ.1 := by rw [e66]; exact rfl
    refine r_aload_n C dX8_stepOne_47 rfl (j := 0) rfl ?_
    refine r_iload_n C dX8_stepOne_48 rfl (j := 2) rfl ?_
    refine r_aload_n C dX8_stepOne_49 rfl (j := 0) rfl ?_
    obtain ⟨n68, g69, h⟩ := h
    refine r_getR C (r_atT s67 g1) fa_X8_94 rfl (r_atN g69) dX8_stepOne_50 ?_
    refine r_iload_n C dX8_stepOne_53 rfl (j := 2) rfl ?_
    obtain ⟨g70, h⟩ := h
    refine r_iald C (r_atT s67 g69) ⟨rfl, fun _ => rfl⟩ g70 dX8_stepOne_54 ?_
    refine r_aload_n C dX8_stepOne_55 rfl (j := 0) rfl ?_
    obtain ⟨n71, g72, h⟩ := h
    refine r_getR C (r_atT s67 g1) fa_X8_97 rfl (r_atN g72) dX8_stepOne_56 ?_
    refine r_iload_n C dX8_stepOne_59 rfl (j := 2) rfl ?_
    obtain ⟨g73, h⟩ := h
    refine r_iald C (r_atT s67 g72) ⟨rfl, fun _ => rfl⟩ g73 dX8_stepOne_60 ?_
    refine r_aload_n C dX8_stepOne_61 rfl (j := 0) rfl ?_
    obtain ⟨n74, g75, h⟩ := h
    refine r_getR C (r_atT s67 g1) fa_X8_100 rfl (r_atN g75) dX8_stepOne_62 ?_
    refine r_iload_n C dX8_stepOne_65 rfl (j := 2) rfl ?_
    obtain ⟨g76, h⟩ := h
    refine r_iald C (r_atT s67 g75) ⟨rfl, fun _ => rfl⟩ g76 dX8_stepOne_66 ?_
    refine r_aload_n C dX8_stepOne_67 rfl (j := 0) rfl ?_
    obtain ⟨n77, g78, h⟩ := h
    refine r_getR C (r_atT s67 g1) fa_X8_103 rfl (r_atN g78) dX8_stepOne_68 ?_
    refine r_iload_n C dX8_stepOne_71 rfl (j := 2) rfl ?_
    obtain ⟨g79, h⟩ := h
    refine r_iald C (r_atT s67 g78) ⟨rfl, fun _ => rfl⟩ g79 dX8_stepOne_72 ?_
    refine r_lload_n C dX8_stepOne_73 rfl (j := 1) rfl ?_
    obtain ⟨Q80, m81, h⟩ := h
    refine r_callVV (rest := []) C E [Value.int x3, Value.int (r_gi σ65 (r_gr σ65 a0 35) x3.toNatClampNeg), Value.int (r_gi σ65 (r_gr σ65 a0 36) x3.toNatClampNeg), Value.int (r_gi σ65 (r_gr σ65 a0 37) x3.toNatClampNeg), Value.int (r_gi σ65 (r_gr σ65 a0 38) x3.toNatClampNeg), Value.long y1] (r_atT s67 g1) rfl ky_X8_begin kl_X8_190 ki_X8_begin kx_X8_begin ⟨Nat.le_of_ble_eq_true rfl, Nat.le_of_ble_eq_true rfl⟩ ⟨rfl, rfl⟩ m81 rfl rfl (Nat.le_of_ble_eq_true rfl) (Nat.zero_le _) (Nat.zero_le _) dX8_stepOne_74 (fun σ82 s83 q85 => ?_)
    have h := h σ82 q85
    have s83 := s83.trans s67
    refine r_goto (tgt := 160) C dX8_stepOne_77 (by decide) ?_
    obtain ⟨z86, e87⟩ : ∃ y : Int32, y = x3 + 1 := ⟨_, rfl⟩
    have h := h z86 e87
    refine r_iinc (v := z86) (lv' := [(3, Value.int z86), (0, Value.ref (B + a0)), (1, Value.long y1)]) C dX8_stepOne_160 (k := 2) rfl (by rw [e87]; rfl) (by decide) rfl ?_
    refine r_goto (tgt := 2) C dX8_stepOne_163 (by decide) ?_
    exact r_loc (by simp) h
theorem w_X8_hearsAny_0 {X : r_X} {w : r_V} {B : Nat} {l : Launch} {Q : Int32 → r_S → Prop} {σ0 : r_S} (C : r_C X w B 7 cX8_hearsAny RX8) (E : r_E X l tX8_hearsAny) {σ : r_S} (hs : σ.1 = σ0.1) {a0 : Nat} {x1 x2 : Int32} {y3 : Int64}
    (h : r_W X w B 7 0 0 (r_Z X w B tX8_hearsAny (r_QI σ0 Q)) 6 [(0, Value.ref (B + a0)), (1, Value.int x1), (2, Value.int x2), (3, Value.long y3), (5, Value.int 0), (6, Value.int 0)] [] σ) :
    r_W X w B 7 0 0 (r_Z X w B tX8_hearsAny (r_QI σ0 Q)) 0 [(0, Value.ref (B + a0)), (1, Value.int x1), (2, Value.int x2), (3, Value.long y3)] [] σ := by
  refine r_iconst (v := 0) C dX8_hearsAny_0 (by decide) ?_
  refine r_istore (lv' := [(5, Value.int 0), (0, Value.ref (B + a0)), (1, Value.int x1), (2, Value.int x2), (3, Value.long y3)]) C dX8_hearsAny_1 (by decide) rfl ?_
  refine r_iconst (v := 0) C dX8_hearsAny_3 (by decide) ?_
  refine r_istore (lv' := [(6, Value.int 0), (5, Value.int 0), (0, Value.ref (B + a0)), (1, Value.int x1), (2, Value.int x2), (3, Value.long y3)]) C dX8_hearsAny_4 (by decide) rfl ?_
  exact r_loc (by simp) h
theorem w_X8_hearsAny_6 {X : r_X} {w : r_V} {B : Nat} {l : Launch} {Q : Int32 → r_S → Prop} {σ0 : r_S} (C : r_C X w B 7 cX8_hearsAny RX8) (E : r_E X l tX8_hearsAny) {σ : r_S} (hs : σ.1 = σ0.1) {a0 : Nat} {x1 x2 x5 x6 : Int32} {y3 : Int64}
    (h : r_at σ a0 = some (.inl 8) ∧ (((r_gi σ a0 1) ≤ x6 → ((x5 = 0 ∨ x5 = 1) ∧ (Q x5 σ))) ∧ (¬ (r_gi σ a0 1) ≤ x6 → ((x5 = 0 → ((x6 = x2 → (∀ z8 : Int32, z8 = x6 + 1 → (r_W X w B 7 0 0 (r_Z X w B tX8_hearsAny (r_QI σ0 Q)) 6 [(0, Value.ref (B + a0)), (1, Value.int x1), (2, Value.int x2), (3, Value.long y3), (5, Value.int 0), (6, Value.int z8)] [] σ))) ∧ (¬ x6 = x2 → (∃ Q10 : Int32 → r_S → Prop, r_M l w B tX8_hears [Value.ref (B + a0), Value.int x1, Value.int x6] σ (r_QI σ Q10) ∧ (∀ (z14 : Int32) (σ12 : r_S), Q10 z14 σ12 → ((z14 = 0 → (∀ z17 : Int32, z17 = x6 + 1 → (r_W X w B 7 0 0 (r_Z X w B tX8_hearsAny (r_QI σ0 Q)) 6 [(0, Value.ref (B + a0)), (1, Value.int x1), (2, Value.int x2), (3, Value.long y3), (5, Value.int 0), (6, Value.int z17)] [] σ12))) ∧ (¬ z14 = 0 → (∃ Q19 : Int32 → r_S → Prop, r_M l w B tX8_sends [Value.ref (B + a0), Value.int x6, Value.long y3] σ12 (r_QI σ12 Q19) ∧ (∀ (z23 : Int32) (σ21 : r_S), Q19 z23 σ21 → ((z23 = 0 → (∀ z26 : Int32, z26 = x6 + 1 → (r_W X w B 7 0 0 (r_Z X w B tX8_hearsAny (r_QI σ0 Q)) 6 [(0, Value.ref (B + a0)), (1, Value.int x1), (2, Value.int x2), (3, Value.long y3), (5, Value.int 0), (6, Value.int z26)] [] σ21))) ∧ (¬ z23 = 0 → (∀ z28 : Int32, z28 = x6 + 1 → (r_W X w B 7 0 0 (r_Z X w B tX8_hearsAny (r_QI σ0 Q)) 6 [(0, Value.ref (B + a0)), (1, Value.int x1), (2, Value.int x2), (3, Value.long y3), (5, Value.int 1), (6, Value.int z28)] [] σ21))))))))))))) ∧ (¬ x5 = 0 → (∀ z5 : Int32, z5 = x6 + 1 → (r_W X w B 7 0 0 (r_Z X w B tX8_hearsAny (r_QI σ0 Q)) 6 [(0, Value.ref (B + a0)), (1, Value.int x1), (2, Value.int x2), (3, Value.long y3), (5, Value.int 1), (6, Value.int z5)] [] σ))))))) :
    r_W X w B 7 0 0 (r_Z X w B tX8_hearsAny (r_QI σ0 Q)) 6 [(0, Value.ref (B + a0)), (1, Value.int x1), (2, Value.int x2), (3, Value.long y3), (5, Value.int x5), (6, Value.int x6)] [] σ := by
  refine r_iload C dX8_hearsAny_6 (j := 5) rfl ?_
  refine r_aload_n C dX8_hearsAny_8 rfl (j := 0) rfl ?_
  obtain ⟨g1, h⟩ := h
  refine r_get (v := .int (r_gi σ a0 1)) C (r_atT rfl g1) fa_X8_145 rfl dX8_hearsAny_9 ?_
  refine r_icmp_ge (tgt := 59) C dX8_hearsAny_12 (by decide) (fun c2 => ?_) (fun c2 => ?_)
  · have h := h.1 c2
    refine r_iload C dX8_hearsAny_59 (j := 4) rfl ?_
    obtain ⟨g3, h⟩ := h
    exact r_zretQ C E rfl g3 (Nat.zero_le _) (Nat.zero_le _) dX8_hearsAny_61 ((rfl : σ.1 = σ.1).trans hs) h
  · have h := h.2 c2
    refine r_iload C dX8_hearsAny_15 (j := 4) rfl ?_
    refine r_if_ne (tgt := 46) C dX8_hearsAny_17 (by decide) (fun c4 => ?_) (fun c4 => ?_)
    · have h := h.2 c4
      refine r_iconst (v := 1) C dX8_hearsAny_46 (by decide) ?_
      refine r_goto (tgt := 51) C dX8_hearsAny_47 (by decide) ?_
      refine r_istore (lv' := [(5, Value.int 1), (0, Value.ref (B + a0)), (1, Value.int x1), (2, Value.int x2), (3, Value.long y3), (6, Value.int x6)]) C dX8_hearsAny_51 (by decide) rfl ?_
      obtain ⟨z5, e6⟩ : ∃ y : Int32, y = x6 + 1 := ⟨_, rfl⟩
      have h := h z5 e6
      refine r_iinc (v := z5) (lv' := [(6, Value.int z5), (5, Value.int 1), (0, Value.ref (B + a0)), (1, Value.int x1), (2, Value.int x2), (3, Value.long y3)]) C dX8_hearsAny_53 (k := 5) rfl (by rw [e6]; rfl) (by decide) rfl ?_
      refine r_goto (tgt := 6) C dX8_hearsAny_56 (by decide) ?_
      exact r_loc (by simp) h
    · have h := h.1 c4
      refine r_iload C dX8_hearsAny_20 (j := 5) rfl ?_
      refine r_iload_n C dX8_hearsAny_22 rfl (j := 2) rfl ?_
      refine r_icmp_eq (tgt := 50) C dX8_hearsAny_23 (by decide) (fun c7 => ?_) (fun c7 => ?_)
      · have h := h.1 c7
        refine r_iconst (v := 0) C dX8_hearsAny_50 (by decide) ?_
        refine r_istore (lv' := [(5, Value.int 0), (0, Value.ref (B + a0)), (1, Value.int x1), (2, Value.int x2), (3, Value.long y3), (6, Value.int x6)]) C dX8_hearsAny_51 (by decide) rfl ?_
        obtain ⟨z8, e9⟩ : ∃ y : Int32, y = x6 + 1 := ⟨_, rfl⟩
        have h := h z8 e9
        refine r_iinc (v := z8) (lv' := [(6, Value.int z8), (5, Value.int 0), (0, Value.ref (B + a0)), (1, Value.int x1), (2, Value.int x2), (3, Value.long y3)]) C dX8_hearsAny_53 (k := 5) rfl (by rw [e9]; rfl) (by decide) rfl ?_
        refine r_goto (tgt := 6) C dX8_hearsAny_56 (by decide) ?_
        exact r_loc (by simp) h
      · have h := h.2 c7
        refine r_aload_n C dX8_hearsAny_26 rfl (j := 0) rfl ?_
        refine r_iload_n C dX8_hearsAny_27 rfl (j := 1) rfl ?_
        refine r_iload C dX8_hearsAny_28 (j := 5) rfl ?_
        obtain ⟨Q10, m11, h⟩ := h
        refine r_callVI (rest := []) C E [Value.int x1, Value.int x6] (r_atT rfl g1) rfl ky_X8_hears kl_X8_205 ki_X8_hears kx_X8_hears ⟨Nat.le_of_ble_eq_true rfl, Nat.le_of_ble_eq_true rfl⟩ ⟨rfl, rfl⟩ m11 rfl rfl (Nat.le_of_ble_eq_true rfl) (Nat.zero_le _) (Nat.zero_le _) dX8_hearsAny_30 (fun z14 σ12 s13 q15 => ?_)
        have h := h z14 σ12 q15
        have s13 := s13.trans rfl
        refine r_if_eq (tgt := 50) C dX8_hearsAny_33 (by decide) (fun c16 => ?_) (fun c16 => ?_)
        · have h := h.1 c16
          refine r_iconst (v := 0) C dX8_hearsAny_50 (by decide) ?_
          refine r_istore (lv' := [(5, Value.int 0), (0, Value.ref (B + a0)), (1, Value.int x1), (2, Value.int x2), (3, Value.long y3), (6, Value.int x6)]) C dX8_hearsAny_51 (by decide) rfl ?_
          obtain ⟨z17, e18⟩ : ∃ y : Int32, y = x6 + 1 := ⟨_, rfl⟩
          have h := h z17 e18
          refine r_iinc (v := z17) (lv' := [(6, Value.int z17), (5, Value.int 0), (0, Value.ref (B + a0)), (1, Value.int x1), (2, Value.int x2), (3, Value.long y3)]) C dX8_hearsAny_53 (k := 5) rfl (by rw [e18]; rfl) (by decide) rfl ?_
          refine r_goto (tgt := 6) C dX8_hearsAny_56 (by decide) ?_
          exact r_loc (by simp) h
        · have h := h.2 c16
          refine r_aload_n C dX8_hearsAny_36 rfl (j := 0) rfl ?_
          refine r_iload C dX8_hearsAny_37 (j := 5) rfl ?_
          refine r_lload_n C dX8_hearsAny_39 rfl (j := 3) rfl ?_
          obtain ⟨Q19, m20, h⟩ := h
          refine r_callVI (rest := []) C E [Value.int x6, Value.long y3] (r_atT s13 g1) rfl ky_X8_sends kl_X8_198 ki_X8_sends kx_X8_sends ⟨Nat.le_of_ble_eq_true rfl, Nat.le_of_ble_eq_true rfl⟩ ⟨rfl, rfl⟩ m20 rfl rfl (Nat.le_of_ble_eq_true rfl) (Nat.zero_le _) (Nat.zero_le _) dX8_hearsAny_40 (fun z23 σ21 s22 q24 => ?_)
          have h := h z23 σ21 q24
          have s22 := s22.trans s13
          refine r_if_eq (tgt := 50) C dX8_hearsAny_43 (by decide) (fun c25 => ?_) (fun c25 => ?_)
          · have h := h.1 c25
            refine r_iconst (v := 0) C dX8_hearsAny_50 (by decide) ?_
            refine r_istore (lv' := [(5, Value.int 0), (0, Value.ref (B + a0)), (1, Value.int x1), (2, Value.int x2), (3, Value.long y3), (6, Value.int x6)]) C dX8_hearsAny_51 (by decide) rfl ?_
            obtain ⟨z26, e27⟩ : ∃ y : Int32, y = x6 + 1 := ⟨_, rfl⟩
            have h := h z26 e27
            refine r_iinc (v := z26) (lv' := [(6, Value.int z26), (5, Value.int 0), (0, Value.ref (B + a0)), (1, Value.int x1), (2, Value.int x2), (3, Value.long y3)]) C dX8_hearsAny_53 (k := 5) rfl (by rw [e27]; rfl) (by decide) rfl ?_
            refine r_goto (tgt := 6) C dX8_hearsAny_56 (by decide) ?_
            exact r_loc (by simp) h
          · have h := h.2 c25
            refine r_iconst (v := 1) C dX8_hearsAny_46 (by decide) ?_
            refine r_goto (tgt := 51) C dX8_hearsAny_47 (by decide) ?_
            refine r_istore (lv' := [(5, Value.int 1), (0, Value.ref (B + a0)), (1, Value.int x1), (2, Value.int x2), (3, Value.long y3), (6, Value.int x6)]) C dX8_hearsAny_51 (by decide) rfl ?_
            obtain ⟨z28, e29⟩ : ∃ y : Int32, y = x6 + 1 := ⟨_, rfl⟩
            have h := h z28 e29
            refine r_iinc (v := z28) (lv' := [(6, Value.int z28), (5, Value.int 1), (0, Value.ref (B + a0)), (1, Value.int x1), (2, Value.int x2), (3, Value.long y3)]) C dX8_hearsAny_53 (k := 5) rfl (by rw [e29]; rfl) (by decide) rfl ?_
            refine r_goto (tgt := 6) C dX8_hearsAny_56 (by decide) ?_
            exact r_loc (by simp) h
theorem w_X8_stepTwo_0 {X : r_X} {w : r_V} {B : Nat} {l : Launch} {Q : r_S → Prop} {σ0 : r_S} (C : r_C X w B 6 cX8_stepTwo RX8) (E : r_E X l tX8_stepTwo) {σ : r_S} (hs : σ.1 = σ0.1) {a0 : Nat} {y1 : Int64}
    (h : r_W X w B 6 0 0 (r_Z X w B tX8_stepTwo (r_QV σ0 Q)) 2 [(0, Value.ref (B + a0)), (1, Value.long y1), (3, Value.int 0)] [] σ) :
    r_W X w B 6 0 0 (r_Z X w B tX8_stepTwo (r_QV σ0 Q)) 0 [(0, Value.ref (B + a0)), (1, Value.long y1)] [] σ := by
  refine r_iconst (v := 0) C dX8_stepTwo_0 (by decide) ?_
  refine r_istore_n (lv' := [(3, Value.int 0), (0, Value.ref (B + a0)), (1, Value.long y1)]) C dX8_stepTwo_1 rfl (by decide) rfl ?_
  exact r_loc (by simp) h
theorem w_X8_stepTwo_2 {X : r_X} {w : r_V} {B : Nat} {l : Launch} {Q : r_S → Prop} {σ0 : r_S} (C : r_C X w B 6 cX8_stepTwo RX8) (E : r_E X l tX8_stepTwo) {σ : r_S} (hs : σ.1 = σ0.1) {a0 : Nat} {x3 : Int32} {y1 : Int64}
    (h : r_at σ a0 = some (.inl 8) ∧ (((r_gi σ a0 1) ≤ x3 → (Q σ)) ∧ (¬ (r_gi σ a0 1) ≤ x3 → (r_W X w B 6 0 0 (r_Z X w B tX8_stepTwo (r_QV σ0 Q)) 13 [(0, Value.ref (B + a0)), (1, Value.long y1), (3, Value.int x3), (4, Value.int 0)] [] σ)))) :
    r_W X w B 6 0 0 (r_Z X w B tX8_stepTwo (r_QV σ0 Q)) 2 [(0, Value.ref (B + a0)), (1, Value.long y1), (3, Value.int x3)] [] σ := by
  refine r_iload_n C dX8_stepTwo_2 rfl (j := 2) rfl ?_
  refine r_aload_n C dX8_stepTwo_3 rfl (j := 0) rfl ?_
  obtain ⟨g1, h⟩ := h
  refine r_get (v := .int (r_gi σ a0 1)) C (r_atT rfl g1) fa_X8_145 rfl dX8_stepTwo_4 ?_
  refine r_icmp_ge (tgt := 147) C dX8_stepTwo_7 (by decide) (fun c2 => ?_) (fun c2 => ?_)
  · have h := h.1 c2
    exact r_vretQ C E rfl (Nat.zero_le _) (Nat.zero_le _) dX8_stepTwo_147 ((rfl : σ.1 = σ.1).trans hs) h
  · have h := h.2 c2
    refine r_iconst (v := 0) C dX8_stepTwo_10 (by decide) ?_
    refine r_istore (lv' := [(4, Value.int 0), (0, Value.ref (B + a0)), (1, Value.long y1), (3, Value.int x3)]) C dX8_stepTwo_11 (by decide) rfl ?_
    exact r_loc (by simp) h
theorem w_X8_stepTwo_13 {X : r_X} {w : r_V} {B : Nat} {l : Launch} {Q : r_S → Prop} {σ0 : r_S} (C : r_C X w B 6 cX8_stepTwo RX8) (E : r_E X l tX8_stepTwo) {σ : r_S} (hs : σ.1 = σ0.1) {a0 : Nat} {x3 x4 : Int32} {y1 : Int64}
    (h : r_at σ a0 = some (.inl 8) ∧ (((r_gi σ a0 1) ≤ x4 → (∀ z3 : Int32, z3 = x3 + 1 → (r_W X w B 6 0 0 (r_Z X w B tX8_stepTwo (r_QV σ0 Q)) 2 [(0, Value.ref (B + a0)), (1, Value.long y1), (3, Value.int z3)] [] σ))) ∧ (¬ (r_gi σ a0 1) ≤ x4 → (∃ Q5 : Int32 → r_S → Prop, r_M l w B tX8_sends [Value.ref (B + a0), Value.int x3, Value.long y1] σ (r_QI σ Q5) ∧ (∀ (z9 : Int32) (σ7 : r_S), Q5 z9 σ7 → ((z9 = 0 → (∀ z12 : Int32, z12 = x3 + 1 → (r_W X w B 6 0 0 (r_Z X w B tX8_stepTwo (r_QV σ0 Q)) 2 [(0, Value.ref (B + a0)), (1, Value.long y1), (3, Value.int z12)] [] σ7))) ∧ (¬ z9 = 0 → (∃ Q14 : Int32 → r_S → Prop, r_M l w B tX8_hears [Value.ref (B + a0), Value.int x4, Value.int x3] σ7 (r_QI σ7 Q14) ∧ (∀ (z18 : Int32) (σ16 : r_S), Q14 z18 σ16 → ((z18 = 0 → (r_W X w B 6 0 0 (r_Z X w B tX8_stepTwo (r_QV σ0 Q)) 76 [(0, Value.ref (B + a0)), (1, Value.long y1), (3, Value.int x3), (4, Value.int x4)] [] σ16)) ∧ (¬ z18 = 0 → (∃ Q21 : Int32 → r_S → Prop, r_M l w B tX8_sends [Value.ref (B + a0), Value.int x4, Value.long y1] σ16 (r_QI σ16 Q21) ∧ (∀ (z25 : Int32) (σ23 : r_S), Q21 z25 σ23 → ((z25 = 0 → (∃ Q28 : Int32 → r_S → Prop, r_M l w B tX8_hearsAny [Value.ref (B + a0), Value.int x4, Value.int x3, Value.long y1] σ23 (r_QI σ23 Q28) ∧ (∀ (z32 : Int32) (σ30 : r_S), Q28 z32 σ30 → ((z32 = 0 → (∃ Q35 : Int32 → r_S → Prop, r_M l w B tX8_hasNoise [Value.ref (B + a0), Value.int x4, Value.long y1] σ30 (r_QI σ30 Q35) ∧ (∀ (z39 : Int32) (σ37 : r_S), Q35 z39 σ37 → ((z39 = 0 → (∃ n42, r_at σ (r_gr σ37 a0 51) = some (.inr (1, n42)) ∧ (vp_in ((6 * x3) + x4) n42 ∧ (∀ σ46 : r_S, σ46 = r_ul σ37 (r_gr σ37 a0 51) (((6 * x3) + x4).toNatClampNeg) (r_gl σ37 (r_gr σ37 a0 51) ((6 * x3) + x4).toNatClampNeg) → (∀ z49 : Int32, z49 = x4 + 1 → (r_W X w B 6 0 0 (r_Z X w B tX8_stepTwo (r_QV σ0 Q)) 13 [(0, Value.ref (B + a0)), (1, Value.long y1), (3, Value.int x3), (4, Value.int z49)] [] σ46)))))) ∧ (¬ z39 = 0 → (r_W X w B 6 0 0 (r_Z X w B tX8_stepTwo (r_QV σ0 Q)) 76 [(0, Value.ref (B + a0)), (1, Value.long y1), (3, Value.int x3), (4, Value.int x4)] [] σ37)))))) ∧ (¬ z32 = 0 → (r_W X w B 6 0 0 (r_Z X w B tX8_stepTwo (r_QV σ0 Q)) 76 [(0, Value.ref (B + a0)), (1, Value.long y1), (3, Value.int x3), (4, Value.int x4)] [] σ30)))))) ∧ (¬ z25 = 0 → (r_W X w B 6 0 0 (r_Z X w B tX8_stepTwo (r_QV σ0 Q)) 76 [(0, Value.ref (B + a0)), (1, Value.long y1), (3, Value.int x3), (4, Value.int x4)] [] σ23)))))))))))))))) :
    r_W X w B 6 0 0 (r_Z X w B tX8_stepTwo (r_QV σ0 Q)) 13 [(0, Value.ref (B + a0)), (1, Value.long y1), (3, Value.int x3), (4, Value.int x4)] [] σ := by
  refine r_iload C dX8_stepTwo_13 (j := 3) rfl ?_
  refine r_aload_n C dX8_stepTwo_15 rfl (j := 0) rfl ?_
  obtain ⟨g1, h⟩ := h
  refine r_get (v := .int (r_gi σ a0 1)) C (r_atT rfl g1) fa_X8_145 rfl dX8_stepTwo_16 ?_
  refine r_icmp_ge (tgt := 141) C dX8_stepTwo_19 (by decide) (fun c2 => ?_) (fun c2 => ?_)
  · have h := h.1 c2
    obtain ⟨z3, e4⟩ : ∃ y : Int32, y = x3 + 1 := ⟨_, rfl⟩
    have h := h z3 e4
    refine r_iinc (v := z3) (lv' := [(3, Value.int z3), (0, Value.ref (B + a0)), (1, Value.long y1), (4, Value.int x4)]) C dX8_stepTwo_141 (k := 2) rfl (by rw [e4]; rfl) (by decide) rfl ?_
    refine r_goto (tgt := 2) C dX8_stepTwo_144 (by decide) ?_
    exact r_loc (by simp) h
  · have h := h.2 c2
    refine r_aload_n C dX8_stepTwo_22 rfl (j := 0) rfl ?_
    refine r_iload_n C dX8_stepTwo_23 rfl (j := 2) rfl ?_
    refine r_lload_n C dX8_stepTwo_24 rfl (j := 1) rfl ?_
    obtain ⟨Q5, m6, h⟩ := h
    refine r_callVI (rest := []) C E [Value.int x3, Value.long y1] (r_atT rfl g1) rfl ky_X8_sends kl_X8_198 ki_X8_sends kx_X8_sends ⟨Nat.le_of_ble_eq_true rfl, Nat.le_of_ble_eq_true rfl⟩ ⟨rfl, rfl⟩ m6 rfl rfl (Nat.le_of_ble_eq_true rfl) (Nat.zero_le _) (Nat.zero_le _) dX8_stepTwo_25 (fun z9 σ7 s8 q10 => ?_)
    have h := h z9 σ7 q10
    have s8 := s8.trans rfl
    refine r_if_eq (tgt := 141) C dX8_stepTwo_28 (by decide) (fun c11 => ?_) (fun c11 => ?_)
    · have h := h.1 c11
      obtain ⟨z12, e13⟩ : ∃ y : Int32, y = x3 + 1 := ⟨_, rfl⟩
      have h := h z12 e13
      refine r_iinc (v := z12) (lv' := [(3, Value.int z12), (0, Value.ref (B + a0)), (1, Value.long y1), (4, Value.int x4)]) C dX8_stepTwo_141 (k := 2) rfl (by rw [e13]; rfl) (by decide) rfl ?_
      refine r_goto (tgt := 2) C dX8_stepTwo_144 (by decide) ?_
      exact r_loc (by simp) h
    · have h := h.2 c11
      refine r_aload_n C dX8_stepTwo_31 rfl (j := 0) rfl ?_
      refine r_iload C dX8_stepTwo_32 (j := 3) rfl ?_
      refine r_iload_n C dX8_stepTwo_34 rfl (j := 2) rfl ?_
      obtain ⟨Q14, m15, h⟩ := h
      refine r_callVI (rest := []) C E [Value.int x4, Value.int x3] (r_atT s8 g1) rfl ky_X8_hears kl_X8_205 ki_X8_hears kx_X8_hears ⟨Nat.le_of_ble_eq_true rfl, Nat.le_of_ble_eq_true rfl⟩ ⟨rfl, rfl⟩ m15 rfl rfl (Nat.le_of_ble_eq_true rfl) (Nat.zero_le _) (Nat.zero_le _) dX8_stepTwo_35 (fun z18 σ16 s17 q19 => ?_)
      have h := h z18 σ16 q19
      have s17 := s17.trans s8
      refine r_if_eq (tgt := 76) C dX8_stepTwo_38 (by decide) (fun c20 => ?_) (fun c20 => ?_)
      · have h := h.1 c20
        exact r_loc (by simp) h
      · have h := h.2 c20
        refine r_aload_n C dX8_stepTwo_41 rfl (j := 0) rfl ?_
        refine r_iload C dX8_stepTwo_42 (j := 3) rfl ?_
        refine r_lload_n C dX8_stepTwo_44 rfl (j := 1) rfl ?_
        obtain ⟨Q21, m22, h⟩ := h
        refine r_callVI (rest := []) C E [Value.int x4, Value.long y1] (r_atT s17 g1) rfl ky_X8_sends kl_X8_198 ki_X8_sends kx_X8_sends ⟨Nat.le_of_ble_eq_true rfl, Nat.le_of_ble_eq_true rfl⟩ ⟨rfl, rfl⟩ m22 rfl rfl (Nat.le_of_ble_eq_true rfl) (Nat.zero_le _) (Nat.zero_le _) dX8_stepTwo_45 (fun z25 σ23 s24 q26 => ?_)
        have h := h z25 σ23 q26
        have s24 := s24.trans s17
        refine r_if_ne (tgt := 76) C dX8_stepTwo_48 (by decide) (fun c27 => ?_) (fun c27 => ?_)
        · have h := h.2 c27
          exact r_loc (by simp) h
        · have h := h.1 c27
          refine r_aload_n C dX8_stepTwo_51 rfl (j := 0) rfl ?_
          refine r_iload C dX8_stepTwo_52 (j := 3) rfl ?_
          refine r_iload_n C dX8_stepTwo_54 rfl (j := 2) rfl ?_
          refine r_lload_n C dX8_stepTwo_55 rfl (j := 1) rfl ?_
          obtain ⟨Q28, m29, h⟩ := h
          refine r_callVI (rest := []) C E [Value.int x4, Value.int x3, Value.long y1] (r_atT s24 g1) rfl ky_X8_hearsAny kl_X8_209 ki_X8_hearsAny kx_X8_hearsAny ⟨Nat.le_of_ble_eq_true rfl, Nat.le_of_ble_eq_true rfl⟩ ⟨rfl, rfl⟩ m29 rfl rfl (Nat.le_of_ble_eq_true rfl) (Nat.zero_le _) (Nat.zero_le _) dX8_stepTwo_56 (fun z32 σ30 s31 q33 => ?_)
          have h := h z32 σ30 q33
          have s31 := s31.trans s24
          refine r_if_ne (tgt := 76) C dX8_stepTwo_59 (by decide) (fun c34 => ?_) (fun c34 => ?_)
          · have h := h.2 c34
            exact r_loc (by simp) h
          · have h := h.1 c34
            refine r_aload_n C dX8_stepTwo_62 rfl (j := 0) rfl ?_
            refine r_iload C dX8_stepTwo_63 (j := 3) rfl ?_
            refine r_lload_n C dX8_stepTwo_65 rfl (j := 1) rfl ?_
            obtain ⟨Q35, m36, h⟩ := h
            refine r_callVI (rest := []) C E [Value.int x4, Value.long y1] (r_atT s31 g1) rfl ky_X8_hasNoise kl_X8_213 ki_X8_hasNoise kx_X8_hasNoise ⟨Nat.le_of_ble_eq_true rfl, Nat.le_of_ble_eq_true rfl⟩ ⟨rfl, rfl⟩ m36 rfl rfl (Nat.le_of_ble_eq_true rfl) (Nat.zero_le _) (Nat.zero_le _) dX8_stepTwo_66 (fun z39 σ37 s38 q40 => ?_)
            have h := h z39 σ37 q40
            have s38 := s38.trans s31
            refine r_if_ne (tgt := 76) C dX8_stepTwo_69 (by decide) (fun c41 => ?_) (fun c41 => ?_)
            · have h := h.2 c41
              exact r_loc (by simp) h
            · have h := h.1 c41
              refine r_iconst (v := 1) C dX8_stepTwo_72 (by decide) ?_
              refine r_goto (tgt := 77) C dX8_stepTwo_73 (by decide) ?_
              refine r_istore (lv' := [(5, Value.int 1), (0, Value.ref (B + a0)), (1, Value.long y1), (3, Value.int x3), (4, Value.int x4)]) C dX8_stepTwo_77 (by decide) rfl ?_
              refine r_aload_n C dX8_stepTwo_79 rfl (j := 1) rfl ?_
              obtain ⟨n42, g43, h⟩ := h
              refine r_getR C (r_atT s38 g1) fa_X8_142 rfl (r_atN g43) dX8_stepTwo_80 ?_
              refine r_bipush (v := 6) C dX8_stepTwo_83 (by decide) ?_
              refine r_iload_n C dX8_stepTwo_85 rfl (j := 3) rfl ?_
              refine r_imul C dX8_stepTwo_86 ?_
              refine r_iload C dX8_stepTwo_87 (j := 4) rfl ?_
              refine r_iadd C dX8_stepTwo_89 ?_
              refine r_iload C dX8_stepTwo_90 (j := 0) rfl ?_
              refine r_if_eq (tgt := 110) C dX8_stepTwo_92 (by decide) (fun c44 => ?_) (fun c44 => ?_)
              · exact absurd c44 (by decide)
              · skip
                refine r_aload_n C dX8_stepTwo_95 rfl (j := 1) rfl ?_
                refine r_getR C (r_atT s38 g1) fa_X8_142 rfl (r_atN g43) dX8_stepTwo_96 ?_
                refine r_bipush (v := 6) C dX8_stepTwo_99 (by decide) ?_
                refine r_iload_n C dX8_stepTwo_101 rfl (j := 3) rfl ?_
                refine r_imul C dX8_stepTwo_102 ?_
                refine r_iload C dX8_stepTwo_103 (j := 4) rfl ?_
                refine r_iadd C dX8_stepTwo_105 ?_
                obtain ⟨g45, h⟩ := h
                refine r_lald C (r_atT s38 g43) ⟨rfl, fun _ => rfl⟩ g45 dX8_stepTwo_106 ?_
                refine r_goto (tgt := 134) C dX8_stepTwo_107 (by decide) ?_
                refine r_last C (r_atT s38 g43) ⟨rfl, fun _ => rfl⟩ g45 dX8_stepTwo_134 ?_
                refine r_nam (fun σ46 e47 => ?_)
                have h := h σ46 e47
                have s48 : σ46.1 = σ.1 := by rw [e47]; exact s38
                obtain ⟨z49, e50⟩ : ∃ y : Int32, y = x4 + 1 := ⟨_, rfl⟩
                have h := h z49 e50
                refine r_iinc (v := z49) (lv' := [(4, Value.int z49), (5, Value.int 1), (0, Value.ref (B + a0)), (1, Value.long y1), (3, Value.int x3)]) C dX8_stepTwo_135 (k := 4) rfl (by rw [e50]; rfl) (by decide) rfl ?_
                refine r_goto (tgt := 13) C dX8_stepTwo_138 (by decide) ?_
                exact r_loc (by simp) h
theorem w_X8_stepTwo_76 {X : r_X} {w : r_V} {B : Nat} {l : Launch} {Q : r_S → Prop} {σ0 : r_S} (C : r_C X w B 6 cX8_stepTwo RX8) (E : r_E X l tX8_stepTwo) {σ : r_S} (hs : σ.1 = σ0.1) {a0 : Nat} {x3 x4 : Int32} {y1 : Int64}
    (h : r_at σ a0 = some (.inl 8) ∧ (∃ n2, r_at σ (r_gr σ a0 51) = some (.inr (1, n2)) ∧ (vp_in ((6 * x3) + x4) n2 ∧ (∃ n6, r_at σ (r_gr σ a0 47) = some (.inr (1, n6)) ∧ (vp_in x3 n6 ∧ (∀ σ9 : r_S, σ9 = r_ul σ (r_gr σ a0 51) (((6 * x3) + x4).toNatClampNeg) ((r_gl σ (r_gr σ a0 51) ((6 * x3) + x4).toNatClampNeg) ||| ((1 : Int64) <<< (((y1 - (r_gl σ (r_gr σ a0 47) x3.toNatClampNeg)).toInt32).toInt64 &&& 63))) → (∀ z12 : Int32, z12 = x4 + 1 → (r_W X w B 6 0 0 (r_Z X w B tX8_stepTwo (r_QV σ0 Q)) 13 [(0, Value.ref (B + a0)), (1, Value.long y1), (3, Value.int x3), (4, Value.int z12)] [] σ9)))))))) :
    r_W X w B 6 0 0 (r_Z X w B tX8_stepTwo (r_QV σ0 Q)) 76 [(0, Value.ref (B + a0)), (1, Value.long y1), (3, Value.int x3), (4, Value.int x4)] [] σ := by
  refine r_iconst (v := 0) C dX8_stepTwo_76 (by decide) ?_
  refine r_istore (lv' := [(5, Value.int 0), (0, Value.ref (B + a0)), (1, Value.long y1), (3, Value.int x3), (4, Value.int x4)]) C dX8_stepTwo_77 (by decide) rfl ?_
  refine r_aload_n C dX8_stepTwo_79 rfl (j := 1) rfl ?_
  obtain ⟨g1, h⟩ := h
  obtain ⟨n2, g3, h⟩ := h
  refine r_getR C (r_atT rfl g1) fa_X8_142 rfl (r_atN g3) dX8_stepTwo_80 ?_
  refine r_bipush (v := 6) C dX8_stepTwo_83 (by decide) ?_
  refine r_iload_n C dX8_stepTwo_85 rfl (j := 3) rfl ?_
  refine r_imul C dX8_stepTwo_86 ?_
  refine r_iload C dX8_stepTwo_87 (j := 4) rfl ?_
  refine r_iadd C dX8_stepTwo_89 ?_
  refine r_iload C dX8_stepTwo_90 (j := 0) rfl ?_
  refine r_if_eq (tgt := 110) C dX8_stepTwo_92 (by decide) (fun c4 => ?_) (fun c4 => ?_)
  · skip
    refine r_aload_n C dX8_stepTwo_110 rfl (j := 1) rfl ?_
    refine r_getR C (r_atT rfl g1) fa_X8_142 rfl (r_atN g3) dX8_stepTwo_111 ?_
    refine r_bipush (v := 6) C dX8_stepTwo_114 (by decide) ?_
    refine r_iload_n C dX8_stepTwo_116 rfl (j := 3) rfl ?_
    refine r_imul C dX8_stepTwo_117 ?_
    refine r_iload C dX8_stepTwo_118 (j := 4) rfl ?_
    refine r_iadd C dX8_stepTwo_120 ?_
    obtain ⟨g5, h⟩ := h
    refine r_lald C (r_atT rfl g3) ⟨rfl, fun _ => rfl⟩ g5 dX8_stepTwo_121 ?_
    refine r_lconst (v := 1) C dX8_stepTwo_122 (by decide) ?_
    refine r_lload_n C dX8_stepTwo_123 rfl (j := 2) rfl ?_
    refine r_aload_n C dX8_stepTwo_124 rfl (j := 1) rfl ?_
    obtain ⟨n6, g7, h⟩ := h
    refine r_getR C (r_atT rfl g1) fa_X8_130 rfl (r_atN g7) dX8_stepTwo_125 ?_
    refine r_iload_n C dX8_stepTwo_128 rfl (j := 3) rfl ?_
    obtain ⟨g8, h⟩ := h
    refine r_lald C (r_atT rfl g7) ⟨rfl, fun _ => rfl⟩ g8 dX8_stepTwo_129 ?_
    refine r_lsub C dX8_stepTwo_130 ?_
    refine r_l2i (v := (y1 - (r_gl σ (r_gr σ a0 47) x3.toNatClampNeg)).toInt32) C dX8_stepTwo_131 rfl ?_
    refine r_lshl (v := (1 : Int64) <<< (((y1 - (r_gl σ (r_gr σ a0 47) x3.toNatClampNeg)).toInt32).toInt64 &&& 63)) C dX8_stepTwo_132 rfl ?_
    refine r_lor C dX8_stepTwo_133 ?_
    refine r_last C (r_atT rfl g3) ⟨rfl, fun _ => rfl⟩ g5 dX8_stepTwo_134 ?_
    refine r_nam (fun σ9 e10 => ?_)
    have h := h σ9 e10
    have s11 : σ9.1 = σ.1 := by rw [e10]; exact rfl
    obtain ⟨z12, e13⟩ : ∃ y : Int32, y = x4 + 1 := ⟨_, rfl⟩
    have h := h z12 e13
    refine r_iinc (v := z12) (lv' := [(4, Value.int z12), (5, Value.int 0), (0, Value.ref (B + a0)), (1, Value.long y1), (3, Value.int x3)]) C dX8_stepTwo_135 (k := 4) rfl (by rw [e13]; rfl) (by decide) rfl ?_
    refine r_goto (tgt := 13) C dX8_stepTwo_138 (by decide) ?_
    exact r_loc (by simp) h
  · exact absurd (by decide) c4
theorem w_X8_left_0 {X : r_X} {w : r_V} {B : Nat} {l : Launch} {Q : Int32 → r_S → Prop} {σ0 : r_S} (C : r_C X w B 2 cX8_left RX8) (E : r_E X l tX8_left) {σ : r_S} (hs : σ.1 = σ0.1) {a0 : Nat} {x1 : Int32}
    (h : r_at σ a0 = some (.inl 8) ∧ (∃ n2, r_at σ (r_gr σ a0 45) = some (.inr (0, n2)) ∧ (vp_in x1 n2 ∧ (((r_gi σ (r_gr σ a0 45) x1.toNatClampNeg) = 1 → (∃ n11, r_at σ (r_gr σ a0 49) = some (.inr (0, n11)) ∧ (vp_in x1 n11 ∧ (Q (7 + (r_gi σ (r_gr σ a0 49) x1.toNatClampNeg)) σ)))) ∧ (¬ (r_gi σ (r_gr σ a0 45) x1.toNatClampNeg) = 1 → (((r_gi σ (r_gr σ a0 45) x1.toNatClampNeg) = 2 → (∃ n8, r_at σ (r_gr σ a0 49) = some (.inr (0, n8)) ∧ (vp_in x1 n8 ∧ (Q (4 + (r_gi σ (r_gr σ a0 49) x1.toNatClampNeg)) σ)))) ∧ (¬ (r_gi σ (r_gr σ a0 45) x1.toNatClampNeg) = 2 → (((r_gi σ (r_gr σ a0 45) x1.toNatClampNeg) = 3 → (Q 3 σ)) ∧ (¬ (r_gi σ (r_gr σ a0 45) x1.toNatClampNeg) = 3 → (Q 0 σ)))))))))) :
    r_W X w B 2 0 0 (r_Z X w B tX8_left (r_QI σ0 Q)) 0 [(0, Value.ref (B + a0)), (1, Value.int x1)] [] σ := by
  refine r_aload_n C dX8_left_0 rfl (j := 0) rfl ?_
  obtain ⟨g1, h⟩ := h
  obtain ⟨n2, g3, h⟩ := h
  refine r_getR C (r_atT rfl g1) fa_X8_124 rfl (r_atN g3) dX8_left_1 ?_
  refine r_iload_n C dX8_left_4 rfl (j := 1) rfl ?_
  obtain ⟨g4, h⟩ := h
  refine r_iald C (r_atT rfl g3) ⟨rfl, fun _ => rfl⟩ g4 dX8_left_5 ?_
  refine r_iconst (v := 1) C dX8_left_6 (by decide) ?_
  refine r_icmp_ne (tgt := 22) C dX8_left_7 (by decide) (fun c5 => ?_) (fun c5 => ?_)
  · have h := h.2 c5
    refine r_aload_n C dX8_left_22 rfl (j := 0) rfl ?_
    refine r_getR C (r_atT rfl g1) fa_X8_124 rfl (r_atN g3) dX8_left_23 ?_
    refine r_iload_n C dX8_left_26 rfl (j := 1) rfl ?_
    refine r_iald C (r_atT rfl g3) ⟨rfl, fun _ => rfl⟩ g4 dX8_left_27 ?_
    refine r_iconst (v := 2) C dX8_left_28 (by decide) ?_
    refine r_icmp_ne (tgt := 43) C dX8_left_29 (by decide) (fun c6 => ?_) (fun c6 => ?_)
    · have h := h.2 c6
      refine r_aload_n C dX8_left_43 rfl (j := 0) rfl ?_
      refine r_getR C (r_atT rfl g1) fa_X8_124 rfl (r_atN g3) dX8_left_44 ?_
      refine r_iload_n C dX8_left_47 rfl (j := 1) rfl ?_
      refine r_iald C (r_atT rfl g3) ⟨rfl, fun _ => rfl⟩ g4 dX8_left_48 ?_
      refine r_iconst (v := 3) C dX8_left_49 (by decide) ?_
      refine r_icmp_ne (tgt := 57) C dX8_left_50 (by decide) (fun c7 => ?_) (fun c7 => ?_)
      · have h := h.2 c7
        refine r_iconst (v := 0) C dX8_left_57 (by decide) ?_
        exact r_iretQ C E rfl (Nat.zero_le _) (Nat.zero_le _) dX8_left_58 ((rfl : σ.1 = σ.1).trans hs) h
      · have h := h.1 c7
        refine r_iconst (v := 3) C dX8_left_53 (by decide) ?_
        refine r_goto (tgt := 58) C dX8_left_54 (by decide) ?_
        exact r_iretQ C E rfl (Nat.zero_le _) (Nat.zero_le _) dX8_left_58 ((rfl : σ.1 = σ.1).trans hs) h
    · have h := h.1 c6
      refine r_iconst (v := 4) C dX8_left_32 (by decide) ?_
      refine r_aload_n C dX8_left_33 rfl (j := 0) rfl ?_
      obtain ⟨n8, g9, h⟩ := h
      refine r_getR C (r_atT rfl g1) fa_X8_136 rfl (r_atN g9) dX8_left_34 ?_
      refine r_iload_n C dX8_left_37 rfl (j := 1) rfl ?_
      obtain ⟨g10, h⟩ := h
      refine r_iald C (r_atT rfl g9) ⟨rfl, fun _ => rfl⟩ g10 dX8_left_38 ?_
      refine r_iadd C dX8_left_39 ?_
      refine r_goto (tgt := 58) C dX8_left_40 (by decide) ?_
      exact r_iretQ C E rfl (Nat.zero_le _) (Nat.zero_le _) dX8_left_58 ((rfl : σ.1 = σ.1).trans hs) h
  · have h := h.1 c5
    refine r_bipush (v := 7) C dX8_left_10 (by decide) ?_
    refine r_aload_n C dX8_left_12 rfl (j := 0) rfl ?_
    obtain ⟨n11, g12, h⟩ := h
    refine r_getR C (r_atT rfl g1) fa_X8_136 rfl (r_atN g12) dX8_left_13 ?_
    refine r_iload_n C dX8_left_16 rfl (j := 1) rfl ?_
    obtain ⟨g13, h⟩ := h
    refine r_iald C (r_atT rfl g12) ⟨rfl, fun _ => rfl⟩ g13 dX8_left_17 ?_
    refine r_iadd C dX8_left_18 ?_
    refine r_goto (tgt := 58) C dX8_left_19 (by decide) ?_
    exact r_iretQ C E rfl (Nat.zero_le _) (Nat.zero_le _) dX8_left_58 ((rfl : σ.1 = σ.1).trans hs) h
theorem w_X8_due_0 {X : r_X} {w : r_V} {B : Nat} {l : Launch} {Q : r_S → Prop} {σ0 : r_S} (C : r_C X w B 8 cX8_due RX8) (E : r_E X l tX8_due) {σ : r_S} (hs : σ.1 = σ0.1) {a0 : Nat} {x1 x2 x3 x4 x5 : Int32} {y6 : Int64}
    (h : r_at σ a0 = some (.inl 8) ∧ (∃ n2, r_at σ (r_gr σ a0 34) = some (.inr (1, n2)) ∧ (vp_in x1 n2 ∧ (∀ σ5 : r_S, σ5 = r_ul σ (r_gr σ a0 34) (x1.toNatClampNeg) (y6 + 2) → (∃ n8, r_at σ (r_gr σ5 a0 35) = some (.inr (0, n8)) ∧ (vp_in x1 n8 ∧ (∀ σ11 : r_S, σ11 = r_ui σ5 (r_gr σ5 a0 35) (x1.toNatClampNeg) x2 → (∃ n14, r_at σ (r_gr σ11 a0 36) = some (.inr (0, n14)) ∧ (vp_in x1 n14 ∧ (∀ σ17 : r_S, σ17 = r_ui σ11 (r_gr σ11 a0 36) (x1.toNatClampNeg) x3 → (∃ n20, r_at σ (r_gr σ17 a0 37) = some (.inr (0, n20)) ∧ (vp_in x1 n20 ∧ (∀ σ23 : r_S, σ23 = r_ui σ17 (r_gr σ17 a0 37) (x1.toNatClampNeg) x4 → (∃ n26, r_at σ (r_gr σ23 a0 38) = some (.inr (0, n26)) ∧ (vp_in x1 n26 ∧ (∀ σ29 : r_S, σ29 = r_ui σ23 (r_gr σ23 a0 38) (x1.toNatClampNeg) x5 → (Q σ29))))))))))))))))) :
    r_W X w B 8 0 0 (r_Z X w B tX8_due (r_QV σ0 Q)) 0 [(0, Value.ref (B + a0)), (1, Value.int x1), (2, Value.int x2), (3, Value.int x3), (4, Value.int x4), (5, Value.int x5), (6, Value.long y6)] [] σ := by
  refine r_aload_n C dX8_due_0 rfl (j := 0) rfl ?_
  obtain ⟨g1, h⟩ := h
  obtain ⟨n2, g3, h⟩ := h
  refine r_getR C (r_atT rfl g1) fa_X8_91 rfl (r_atN g3) dX8_due_1 ?_
  refine r_iload_n C dX8_due_4 rfl (j := 1) rfl ?_
  refine r_lload C dX8_due_5 (j := 6) rfl ?_
  refine r_ldc2 (v := 2) C kj_X8_216 dX8_due_7 ?_
  refine r_ladd C dX8_due_10 ?_
  obtain ⟨g4, h⟩ := h
  refine r_last C (r_atT rfl g3) ⟨rfl, fun _ => rfl⟩ g4 dX8_due_11 ?_
  refine r_nam (fun σ5 e6 => ?_)
  have h := h σ5 e6
  have s7 : σ5.1 = σ.1 := by rw [e6]; exact rfl
  refine r_aload_n C dX8_due_12 rfl (j := 0) rfl ?_
  obtain ⟨n8, g9, h⟩ := h
  refine r_getR C (r_atT s7 g1) fa_X8_94 rfl (r_atN g9) dX8_due_13 ?_
  refine r_iload_n C dX8_due_16 rfl (j := 1) rfl ?_
  refine r_iload_n C dX8_due_17 rfl (j := 2) rfl ?_
  obtain ⟨g10, h⟩ := h
  refine r_iast C (r_atT s7 g9) ⟨rfl, fun _ => rfl⟩ g10 dX8_due_18 ?_
  refine r_nam (fun σ11 e12 => ?_)
  have h := h σ11 e12
  have s13 : σ11.1 = σ.1 := by rw [e12]; exact s7
  refine r_aload_n C dX8_due_19 rfl (j := 0) rfl ?_
  obtain ⟨n14, g15, h⟩ := h
  refine r_getR C (r_atT s13 g1) fa_X8_97 rfl (r_atN g15) dX8_due_20 ?_
  refine r_iload_n C dX8_due_23 rfl (j := 1) rfl ?_
  refine r_iload_n C dX8_due_24 rfl (j := 3) rfl ?_
  obtain ⟨g16, h⟩ := h
  refine r_iast C (r_atT s13 g15) ⟨rfl, fun _ => rfl⟩ g16 dX8_due_25 ?_
  refine r_nam (fun σ17 e18 => ?_)
  have h := h σ17 e18
  have s19 : σ17.1 = σ.1 := by rw [e18]; exact s13
  refine r_aload_n C dX8_due_26 rfl (j := 0) rfl ?_
  obtain ⟨n20, g21, h⟩ := h
  refine r_getR C (r_atT s19 g1) fa_X8_100 rfl (r_atN g21) dX8_due_27 ?_
  refine r_iload_n C dX8_due_30 rfl (j := 1) rfl ?_
  refine r_iload C dX8_due_31 (j := 4) rfl ?_
  obtain ⟨g22, h⟩ := h
  refine r_iast C (r_atT s19 g21) ⟨rfl, fun _ => rfl⟩ g22 dX8_due_33 ?_
  refine r_nam (fun σ23 e24 => ?_)
  have h := h σ23 e24
  have s25 : σ23.1 = σ.1 := by rw [e24]; exact s19
  refine r_aload_n C dX8_due_34 rfl (j := 0) rfl ?_
  obtain ⟨n26, g27, h⟩ := h
  refine r_getR C (r_atT s25 g1) fa_X8_103 rfl (r_atN g27) dX8_due_35 ?_
  refine r_iload_n C dX8_due_38 rfl (j := 1) rfl ?_
  refine r_iload C dX8_due_39 (j := 5) rfl ?_
  obtain ⟨g28, h⟩ := h
  refine r_iast C (r_atT s25 g27) ⟨rfl, fun _ => rfl⟩ g28 dX8_due_41 ?_
  refine r_nam (fun σ29 e30 => ?_)
  have h := h σ29 e30
  have s31 : σ29.1 = σ.1 := by rw [e30]; exact s25
  exact r_vretQ C E rfl (Nat.zero_le _) (Nat.zero_le _) dX8_due_42 (s31.trans hs) h
theorem w_X8_handOver_0 {X : r_X} {w : r_V} {B : Nat} {l : Launch} {Q : r_S → Prop} {σ0 : r_S} (C : r_C X w B 4 cX8_handOver RX8) (E : r_E X l tX8_handOver) {σ : r_S} (hs : σ.1 = σ0.1) {a0 : Nat} {x1 : Int32} {y2 : Int64}
    (h : r_at σ a0 = some (.inl 8) ∧ (∃ n2, r_at σ (r_gr σ a0 11) = some (.inr (2, n2)) ∧ (vp_in x1 n2 ∧ (∀ σ5 : r_S, σ5 = r_ui σ (r_gr σ a0 11) (x1.toNatClampNeg) 0 → (∃ Q8 : r_S → Prop, r_M l w B tX8_tell [Value.ref (B + a0), Value.int x1, Value.int 1, Value.long y2] σ5 (r_QV σ5 Q8) ∧ (∀ σ10 : r_S, Q8 σ10 → (Q σ10))))))) :
    r_W X w B 4 0 0 (r_Z X w B tX8_handOver (r_QV σ0 Q)) 0 [(0, Value.ref (B + a0)), (1, Value.int x1), (2, Value.long y2)] [] σ := by
  refine r_aload_n C dX8_handOver_0 rfl (j := 0) rfl ?_
  obtain ⟨g1, h⟩ := h
  obtain ⟨n2, g3, h⟩ := h
  refine r_getR C (r_atT rfl g1) fa_X8_33 rfl (r_atN g3) dX8_handOver_1 ?_
  refine r_iload_n C dX8_handOver_4 rfl (j := 1) rfl ?_
  refine r_iconst (v := 0) C dX8_handOver_5 (by decide) ?_
  obtain ⟨g4, h⟩ := h
  refine r_zast C (r_atT rfl g3) ⟨rfl, fun _ => rfl⟩ g4 (by decide) dX8_handOver_6 ?_
  refine r_nam (fun σ5 e6 => ?_)
  have h := h σ5 e6
  have s7 : σ5.1 = σ.1 := by rw [e6]; exact rfl
  refine r_aload_n C dX8_handOver_7 rfl (j := 0) rfl ?_
  refine r_iload_n C dX8_handOver_8 rfl (j := 1) rfl ?_
  refine r_iconst (v := 1) C dX8_handOver_9 (by decide) ?_
  refine r_lload_n C dX8_handOver_10 rfl (j := 2) rfl ?_
  obtain ⟨Q8, m9, h⟩ := h
  refine r_callVV (rest := []) C E [Value.int x1, Value.int 1, Value.long y2] (r_atT s7 g1) rfl ky_X8_tell kl_X8_186 ki_X8_tell kx_X8_tell ⟨Nat.le_of_ble_eq_true rfl, Nat.le_of_ble_eq_true rfl⟩ ⟨rfl, rfl⟩ m9 rfl rfl (Nat.le_of_ble_eq_true rfl) (Nat.zero_le _) (Nat.zero_le _) dX8_handOver_11 (fun σ10 s11 q13 => ?_)
  have h := h σ10 q13
  have s11 := s11.trans s7
  exact r_vretQ C E rfl (Nat.zero_le _) (Nat.zero_le _) dX8_handOver_14 (s11.trans hs) h
theorem w_X8_take_0 {X : r_X} {w : r_V} {B : Nat} {l : Launch} {Q : Int32 → r_S → Prop} {σ0 : r_S} (C : r_C X w B 13 cX8_take RX8) (E : r_E X l tX8_take) {σ : r_S} (hs : σ.1 = σ0.1) {a0 : Nat} {x1 x2 : Int32} {y3 : Int64}
    (h : ∀ z1 : Int32, z1 = (6 * x1) + x2 → (r_at σ a0 = some (.inl 8) ∧ (∃ n4, r_at σ (r_gr σ a0 9) = some (.inr (0, n4)) ∧ (∃ n6, r_at σ (r_gr σ a0 42) = some (.inr (0, n6)) ∧ (vp_in (4 * x1) n6 ∧ (vp_in (r_gi σ (r_gr σ a0 42) (4 * x1).toNatClampNeg) n4 ∧ (∀ z10 : Int32, z10 = r_gi σ (r_gr σ a0 9) (r_gi σ (r_gr σ a0 42) (4 * x1).toNatClampNeg).toNatClampNeg → (∃ n12, r_at σ (r_gr σ a0 13) = some (.inr (0, n12)) ∧ (vp_in z1 n12 ∧ ((z10 ≤ (r_gi σ (r_gr σ a0 13) z1.toNatClampNeg) → (r_W X w B 13 0 0 (r_Z X w B tX8_take (r_QI σ0 Q)) 122 [(0, Value.ref (B + a0)), (1, Value.int x1), (2, Value.int x2), (3, Value.long y3), (5, Value.int z1), (7, Value.int 0), (8, Value.int 1), (9, Value.int 0)] [] σ)) ∧ (¬ z10 ≤ (r_gi σ (r_gr σ a0 13) z1.toNatClampNeg) → (r_W X w B 13 0 0 (r_Z X w B tX8_take (r_QI σ0 Q)) 38 [(0, Value.ref (B + a0)), (1, Value.int x1), (2, Value.int x2), (3, Value.long y3), (5, Value.int z1), (6, Value.int z10), (7, Value.int 1)] [] σ)))))))))))) :
    r_W X w B 13 0 0 (r_Z X w B tX8_take (r_QI σ0 Q)) 0 [(0, Value.ref (B + a0)), (1, Value.int x1), (2, Value.int x2), (3, Value.long y3)] [] σ := by
  refine r_bipush (v := 6) C dX8_take_0 (by decide) ?_
  refine r_iload_n C dX8_take_2 rfl (j := 1) rfl ?_
  refine r_imul C dX8_take_3 ?_
  refine r_iload_n C dX8_take_4 rfl (j := 2) rfl ?_
  refine r_iadd C dX8_take_5 ?_
  refine r_topi (fun z1 e2 => ?_)
  have h := h z1 e2
  refine r_istore (lv' := [(5, Value.int z1), (0, Value.ref (B + a0)), (1, Value.int x1), (2, Value.int x2), (3, Value.long y3)]) C dX8_take_6 (by decide) rfl ?_
  refine r_aload_n C dX8_take_8 rfl (j := 1) rfl ?_
  obtain ⟨g3, h⟩ := h
  obtain ⟨n4, g5, h⟩ := h
  refine r_getR C (r_atT rfl g3) fa_X8_27 rfl (r_atN g5) dX8_take_9 ?_
  refine r_aload_n C dX8_take_12 rfl (j := 1) rfl ?_
  obtain ⟨n6, g7, h⟩ := h
  refine r_getR C (r_atT rfl g3) fa_X8_115 rfl (r_atN g7) dX8_take_13 ?_
  refine r_iconst (v := 4) C dX8_take_16 (by decide) ?_
  refine r_iload_n C dX8_take_17 rfl (j := 2) rfl ?_
  refine r_imul C dX8_take_18 ?_
  obtain ⟨g8, h⟩ := h
  refine r_iald C (r_atT rfl g7) ⟨rfl, fun _ => rfl⟩ g8 dX8_take_19 ?_
  obtain ⟨g9, h⟩ := h
  refine r_iald C (r_atT rfl g5) ⟨rfl, fun _ => rfl⟩ g9 dX8_take_20 ?_
  refine r_topi (fun z10 e11 => ?_)
  have h := h z10 e11
  refine r_istore (lv' := [(6, Value.int z10), (5, Value.int z1), (0, Value.ref (B + a0)), (1, Value.int x1), (2, Value.int x2), (3, Value.long y3)]) C dX8_take_21 (by decide) rfl ?_
  refine r_iload C dX8_take_23 (j := 0) rfl ?_
  refine r_aload_n C dX8_take_25 rfl (j := 2) rfl ?_
  obtain ⟨n12, g13, h⟩ := h
  refine r_getR C (r_atT rfl g3) fa_X8_39 rfl (r_atN g13) dX8_take_26 ?_
  refine r_iload C dX8_take_29 (j := 1) rfl ?_
  obtain ⟨g14, h⟩ := h
  refine r_iald C (r_atT rfl g13) ⟨rfl, fun _ => rfl⟩ g14 dX8_take_31 ?_
  refine r_icmp_le (tgt := 113) C dX8_take_32 (by decide) (fun c15 => ?_) (fun c15 => ?_)
  · have h := h.1 c15
    refine r_iconst (v := 0) C dX8_take_113 (by decide) ?_
    refine r_istore (lv' := [(7, Value.int 0), (6, Value.int z10), (5, Value.int z1), (0, Value.ref (B + a0)), (1, Value.int x1), (2, Value.int x2), (3, Value.long y3)]) C dX8_take_114 (by decide) rfl ?_
    refine r_iconst (v := 1) C dX8_take_116 (by decide) ?_
    refine r_istore (lv' := [(8, Value.int 1), (7, Value.int 0), (6, Value.int z10), (5, Value.int z1), (0, Value.ref (B + a0)), (1, Value.int x1), (2, Value.int x2), (3, Value.long y3)]) C dX8_take_117 (by decide) rfl ?_
    refine r_iconst (v := 0) C dX8_take_119 (by decide) ?_
    refine r_istore (lv' := [(9, Value.int 0), (8, Value.int 1), (7, Value.int 0), (6, Value.int z10), (5, Value.int z1), (0, Value.ref (B + a0)), (1, Value.int x1), (2, Value.int x2), (3, Value.long y3)]) C dX8_take_120 (by decide) rfl ?_
    exact r_loc (by simp) h
  · have h := h.2 c15
    refine r_iconst (v := 1) C dX8_take_35 (by decide) ?_
    refine r_istore (lv' := [(7, Value.int 1), (6, Value.int z10), (5, Value.int z1), (0, Value.ref (B + a0)), (1, Value.int x1), (2, Value.int x2), (3, Value.long y3)]) C dX8_take_36 (by decide) rfl ?_
    exact r_loc (by simp) h
theorem w_X8_take_38 {X : r_X} {w : r_V} {B : Nat} {l : Launch} {Q : Int32 → r_S → Prop} {σ0 : r_S} (C : r_C X w B 13 cX8_take RX8) (E : r_E X l tX8_take) {σ : r_S} (hs : σ.1 = σ0.1) {a0 : Nat} {x1 x2 x5 x6 x7 : Int32} {y3 : Int64}
    (h : r_at σ a0 = some (.inl 8) ∧ (((r_gi σ a0 5) < x7 → (∃ n3, r_at σ (r_gr σ a0 13) = some (.inr (0, n3)) ∧ (vp_in x5 n3 ∧ (∀ σ6 : r_S, σ6 = r_ui σ (r_gr σ a0 13) (x5.toNatClampNeg) x6 → (r_W X w B 13 0 0 (r_Z X w B tX8_take (r_QI σ0 Q)) 122 [(0, Value.ref (B + a0)), (1, Value.int x1), (2, Value.int x2), (3, Value.long y3), (5, Value.int x5), (7, Value.int 0), (8, Value.int 1), (9, Value.int 0)] [] σ6))))) ∧ (¬ (r_gi σ a0 5) < x7 → (∃ n9, r_at σ (r_gr σ a0 11) = some (.inr (2, n9)) ∧ (vp_in x7 n9 ∧ (((r_gi σ (r_gr σ a0 11) x7.toNatClampNeg) = 0 → (∀ z13 : Int32, z13 = x7 + 1 → (r_W X w B 13 0 0 (r_Z X w B tX8_take (r_QI σ0 Q)) 38 [(0, Value.ref (B + a0)), (1, Value.int x1), (2, Value.int x2), (3, Value.long y3), (5, Value.int x5), (6, Value.int x6), (7, Value.int z13)] [] σ))) ∧ (¬ (r_gi σ (r_gr σ a0 11) x7.toNatClampNeg) = 0 → (∃ n15, r_at σ (r_gr σ a0 6) = some (.inr (0, n15)) ∧ (vp_in x7 n15 ∧ (((r_gi σ (r_gr σ a0 6) x7.toNatClampNeg) = x1 → (∃ n21, r_at σ (r_gr σ a0 7) = some (.inr (0, n21)) ∧ (vp_in x7 n21 ∧ (((r_gi σ (r_gr σ a0 7) x7.toNatClampNeg) = x2 → (∃ n27, r_at σ (r_gr σ a0 9) = some (.inr (0, n27)) ∧ (vp_in x7 n27 ∧ ((x6 ≤ (r_gi σ (r_gr σ a0 9) x7.toNatClampNeg) → (∀ z31 : Int32, z31 = x7 + 1 → (r_W X w B 13 0 0 (r_Z X w B tX8_take (r_QI σ0 Q)) 38 [(0, Value.ref (B + a0)), (1, Value.int x1), (2, Value.int x2), (3, Value.long y3), (5, Value.int x5), (6, Value.int x6), (7, Value.int z31)] [] σ))) ∧ (¬ x6 ≤ (r_gi σ (r_gr σ a0 9) x7.toNatClampNeg) → (∃ Q33 : r_S → Prop, r_M l w B tX8_handOver [Value.ref (B + a0), Value.int x7, Value.long y3] σ (r_QV σ Q33) ∧ (∀ σ35 : r_S, Q33 σ35 → (∀ z39 : Int32, z39 = x7 + 1 → (r_W X w B 13 0 0 (r_Z X w B tX8_take (r_QI σ0 Q)) 38 [(0, Value.ref (B + a0)), (1, Value.int x1), (2, Value.int x2), (3, Value.long y3), (5, Value.int x5), (6, Value.int x6), (7, Value.int z39)] [] σ35))))))))) ∧ (¬ (r_gi σ (r_gr σ a0 7) x7.toNatClampNeg) = x2 → (∀ z25 : Int32, z25 = x7 + 1 → (r_W X w B 13 0 0 (r_Z X w B tX8_take (r_QI σ0 Q)) 38 [(0, Value.ref (B + a0)), (1, Value.int x1), (2, Value.int x2), (3, Value.long y3), (5, Value.int x5), (6, Value.int x6), (7, Value.int z25)] [] σ))))))) ∧ (¬ (r_gi σ (r_gr σ a0 6) x7.toNatClampNeg) = x1 → (∀ z19 : Int32, z19 = x7 + 1 → (r_W X w B 13 0 0 (r_Z X w B tX8_take (r_QI σ0 Q)) 38 [(0, Value.ref (B + a0)), (1, Value.int x1), (2, Value.int x2), (3, Value.long y3), (5, Value.int x5), (6, Value.int x6), (7, Value.int z19)] [] σ))))))))))))) :
    r_W X w B 13 0 0 (r_Z X w B tX8_take (r_QI σ0 Q)) 38 [(0, Value.ref (B + a0)), (1, Value.int x1), (2, Value.int x2), (3, Value.long y3), (5, Value.int x5), (6, Value.int x6), (7, Value.int x7)] [] σ := by
  refine r_iload C dX8_take_38 (j := 6) rfl ?_
  refine r_aload_n C dX8_take_40 rfl (j := 0) rfl ?_
  obtain ⟨g1, h⟩ := h
  refine r_get (v := .int (r_gi σ a0 5)) C (r_atT rfl g1) fa_X8_163 rfl dX8_take_41 ?_
  refine r_icmp_gt (tgt := 104) C dX8_take_44 (by decide) (fun c2 => ?_) (fun c2 => ?_)
  · have h := h.1 c2
    refine r_aload_n C dX8_take_104 rfl (j := 0) rfl ?_
    obtain ⟨n3, g4, h⟩ := h
    refine r_getR C (r_atT rfl g1) fa_X8_39 rfl (r_atN g4) dX8_take_105 ?_
    refine r_iload C dX8_take_108 (j := 4) rfl ?_
    refine r_iload C dX8_take_110 (j := 5) rfl ?_
    obtain ⟨g5, h⟩ := h
    refine r_iast C (r_atT rfl g4) ⟨rfl, fun _ => rfl⟩ g5 dX8_take_112 ?_
    refine r_nam (fun σ6 e7 => ?_)
    have h := h σ6 e7
    have s8 : σ6.1 = σ.1 := by rw [e7]; exact rfl
    refine r_iconst (v := 0) C dX8_take_113 (by decide) ?_
    refine r_istore (lv' := [(7, Value.int 0), (0, Value.ref (B + a0)), (1, Value.int x1), (2, Value.int x2), (3, Value.long y3), (5, Value.int x5), (6, Value.int x6)]) C dX8_take_114 (by decide) rfl ?_
    refine r_iconst (v := 1) C dX8_take_116 (by decide) ?_
    refine r_istore (lv' := [(8, Value.int 1), (7, Value.int 0), (0, Value.ref (B + a0)), (1, Value.int x1), (2, Value.int x2), (3, Value.long y3), (5, Value.int x5), (6, Value.int x6)]) C dX8_take_117 (by decide) rfl ?_
    refine r_iconst (v := 0) C dX8_take_119 (by decide) ?_
    refine r_istore (lv' := [(9, Value.int 0), (8, Value.int 1), (7, Value.int 0), (0, Value.ref (B + a0)), (1, Value.int x1), (2, Value.int x2), (3, Value.long y3), (5, Value.int x5), (6, Value.int x6)]) C dX8_take_120 (by decide) rfl ?_
    exact r_loc (by simp) h
  · have h := h.2 c2
    refine r_aload_n C dX8_take_47 rfl (j := 0) rfl ?_
    obtain ⟨n9, g10, h⟩ := h
    refine r_getR C (r_atT rfl g1) fa_X8_33 rfl (r_atN g10) dX8_take_48 ?_
    refine r_iload C dX8_take_51 (j := 6) rfl ?_
    obtain ⟨g11, h⟩ := h
    refine r_zald C (r_atT rfl g10) ⟨rfl, fun _ => rfl⟩ g11 dX8_take_53 ?_
    refine r_if_eq (tgt := 98) C dX8_take_54 (by decide) (fun c12 => ?_) (fun c12 => ?_)
    · have h := h.1 c12
      obtain ⟨z13, e14⟩ : ∃ y : Int32, y = x7 + 1 := ⟨_, rfl⟩
      have h := h z13 e14
      refine r_iinc (v := z13) (lv' := [(7, Value.int z13), (0, Value.ref (B + a0)), (1, Value.int x1), (2, Value.int x2), (3, Value.long y3), (5, Value.int x5), (6, Value.int x6)]) C dX8_take_98 (k := 6) rfl (by rw [e14]; rfl) (by decide) rfl ?_
      refine r_goto (tgt := 38) C dX8_take_101 (by decide) ?_
      exact r_loc (by simp) h
    · have h := h.2 c12
      refine r_aload_n C dX8_take_57 rfl (j := 0) rfl ?_
      obtain ⟨n15, g16, h⟩ := h
      refine r_getR C (r_atT rfl g1) fa_X8_17 rfl (r_atN g16) dX8_take_58 ?_
      refine r_iload C dX8_take_61 (j := 6) rfl ?_
      obtain ⟨g17, h⟩ := h
      refine r_iald C (r_atT rfl g16) ⟨rfl, fun _ => rfl⟩ g17 dX8_take_63 ?_
      refine r_iload_n C dX8_take_64 rfl (j := 1) rfl ?_
      refine r_icmp_ne (tgt := 98) C dX8_take_65 (by decide) (fun c18 => ?_) (fun c18 => ?_)
      · have h := h.2 c18
        obtain ⟨z19, e20⟩ : ∃ y : Int32, y = x7 + 1 := ⟨_, rfl⟩
        have h := h z19 e20
        refine r_iinc (v := z19) (lv' := [(7, Value.int z19), (0, Value.ref (B + a0)), (1, Value.int x1), (2, Value.int x2), (3, Value.long y3), (5, Value.int x5), (6, Value.int x6)]) C dX8_take_98 (k := 6) rfl (by rw [e20]; rfl) (by decide) rfl ?_
        refine r_goto (tgt := 38) C dX8_take_101 (by decide) ?_
        exact r_loc (by simp) h
      · have h := h.1 c18
        refine r_aload_n C dX8_take_68 rfl (j := 0) rfl ?_
        obtain ⟨n21, g22, h⟩ := h
        refine r_getR C (r_atT rfl g1) fa_X8_21 rfl (r_atN g22) dX8_take_69 ?_
        refine r_iload C dX8_take_72 (j := 6) rfl ?_
        obtain ⟨g23, h⟩ := h
        refine r_iald C (r_atT rfl g22) ⟨rfl, fun _ => rfl⟩ g23 dX8_take_74 ?_
        refine r_iload_n C dX8_take_75 rfl (j := 2) rfl ?_
        refine r_icmp_ne (tgt := 98) C dX8_take_76 (by decide) (fun c24 => ?_) (fun c24 => ?_)
        · have h := h.2 c24
          obtain ⟨z25, e26⟩ : ∃ y : Int32, y = x7 + 1 := ⟨_, rfl⟩
          have h := h z25 e26
          refine r_iinc (v := z25) (lv' := [(7, Value.int z25), (0, Value.ref (B + a0)), (1, Value.int x1), (2, Value.int x2), (3, Value.long y3), (5, Value.int x5), (6, Value.int x6)]) C dX8_take_98 (k := 6) rfl (by rw [e26]; rfl) (by decide) rfl ?_
          refine r_goto (tgt := 38) C dX8_take_101 (by decide) ?_
          exact r_loc (by simp) h
        · have h := h.1 c24
          refine r_aload_n C dX8_take_79 rfl (j := 0) rfl ?_
          obtain ⟨n27, g28, h⟩ := h
          refine r_getR C (r_atT rfl g1) fa_X8_27 rfl (r_atN g28) dX8_take_80 ?_
          refine r_iload C dX8_take_83 (j := 6) rfl ?_
          obtain ⟨g29, h⟩ := h
          refine r_iald C (r_atT rfl g28) ⟨rfl, fun _ => rfl⟩ g29 dX8_take_85 ?_
          refine r_iload C dX8_take_86 (j := 5) rfl ?_
          refine r_icmp_ge (tgt := 98) C dX8_take_88 (by decide) (fun c30 => ?_) (fun c30 => ?_)
          · have h := h.1 c30
            obtain ⟨z31, e32⟩ : ∃ y : Int32, y = x7 + 1 := ⟨_, rfl⟩
            have h := h z31 e32
            refine r_iinc (v := z31) (lv' := [(7, Value.int z31), (0, Value.ref (B + a0)), (1, Value.int x1), (2, Value.int x2), (3, Value.long y3), (5, Value.int x5), (6, Value.int x6)]) C dX8_take_98 (k := 6) rfl (by rw [e32]; rfl) (by decide) rfl ?_
            refine r_goto (tgt := 38) C dX8_take_101 (by decide) ?_
            exact r_loc (by simp) h
          · have h := h.2 c30
            refine r_aload_n C dX8_take_91 rfl (j := 0) rfl ?_
            refine r_iload C dX8_take_92 (j := 6) rfl ?_
            refine r_lload_n C dX8_take_94 rfl (j := 3) rfl ?_
            obtain ⟨Q33, m34, h⟩ := h
            refine r_callVV (rest := []) C E [Value.int x7, Value.long y3] (r_atT rfl g1) rfl ky_X8_handOver kl_X8_218 ki_X8_handOver kx_X8_handOver ⟨Nat.le_of_ble_eq_true rfl, Nat.le_of_ble_eq_true rfl⟩ ⟨rfl, rfl⟩ m34 rfl rfl (Nat.le_of_ble_eq_true rfl) (Nat.zero_le _) (Nat.zero_le _) dX8_take_95 (fun σ35 s36 q38 => ?_)
            have h := h σ35 q38
            have s36 := s36.trans rfl
            obtain ⟨z39, e40⟩ : ∃ y : Int32, y = x7 + 1 := ⟨_, rfl⟩
            have h := h z39 e40
            refine r_iinc (v := z39) (lv' := [(7, Value.int z39), (0, Value.ref (B + a0)), (1, Value.int x1), (2, Value.int x2), (3, Value.long y3), (5, Value.int x5), (6, Value.int x6)]) C dX8_take_98 (k := 6) rfl (by rw [e40]; rfl) (by decide) rfl ?_
            refine r_goto (tgt := 38) C dX8_take_101 (by decide) ?_
            exact r_loc (by simp) h
theorem w_X8_take_122 {X : r_X} {w : r_V} {B : Nat} {l : Launch} {Q : Int32 → r_S → Prop} {σ0 : r_S} (C : r_C X w B 13 cX8_take RX8) (E : r_E X l tX8_take) {σ : r_S} (hs : σ.1 = σ0.1) {a0 : Nat} {x1 x2 x5 x7 x8 x9 : Int32} {y3 : Int64}
    (h : r_at σ a0 = some (.inl 8) ∧ (∃ n2, r_at σ (r_gr σ a0 43) = some (.inr (0, n2)) ∧ (vp_in x1 n2 ∧ (((r_gi σ (r_gr σ a0 43) x1.toNatClampNeg) ≤ x9 → (r_W X w B 13 0 0 (r_Z X w B tX8_take (r_QI σ0 Q)) 246 [(0, Value.ref (B + a0)), (1, Value.int x1), (2, Value.int x2), (3, Value.long y3), (5, Value.int x5), (7, Value.int x7), (9, Value.int 1)] [] σ)) ∧ (¬ (r_gi σ (r_gr σ a0 43) x1.toNatClampNeg) ≤ x9 → (∃ n6, r_at σ (r_gr σ a0 42) = some (.inr (0, n6)) ∧ (vp_in ((4 * x1) + x9) n6 ∧ (∀ z9 : Int32, z9 = r_gi σ (r_gr σ a0 42) ((4 * x1) + x9).toNatClampNeg → (∃ n11, r_at σ (r_gr σ a0 8) = some (.inr (0, n11)) ∧ (vp_in z9 n11 ∧ (∀ y14 : Int64, y14 = (((1 : Int64) <<< ((r_gi σ (r_gr σ a0 8) z9.toNatClampNeg).toInt64 &&& 63)) - 1) <<< (x8.toInt64 &&& 63) → (∀ z16 : Int32, z16 = x8 + (r_gi σ (r_gr σ a0 8) z9.toNatClampNeg) → (∃ n18, r_at σ (r_gr σ a0 51) = some (.inr (1, n18)) ∧ (vp_in x5 n18 ∧ ((((r_gl σ (r_gr σ a0 51) x5.toNatClampNeg) &&& y14) = 0 → (∀ z24 : Int32, z24 = x7 ||| (1 <<< (x9 &&& 31)) → (∃ n26, r_at σ (r_gr σ a0 11) = some (.inr (2, n26)) ∧ (vp_in z9 n26 ∧ (((r_gi σ (r_gr σ a0 11) z9.toNatClampNeg) = 0 → (∃ n35, r_at σ (r_gr σ a0 9) = some (.inr (0, n35)) ∧ (vp_in z9 n35 ∧ (∃ n38, r_at σ (r_gr σ a0 13) = some (.inr (0, n38)) ∧ (vp_in x5 n38 ∧ (((r_gi σ (r_gr σ a0 9) z9.toNatClampNeg) < (r_gi σ (r_gr σ a0 13) x5.toNatClampNeg) → (∀ σ42 : r_S, σ42 = r_ui σ (r_gr σ a0 11) (z9.toNatClampNeg) 0 → (∀ z45 : Int32, z45 = x9 + 1 → (r_W X w B 13 0 0 (r_Z X w B tX8_take (r_QI σ0 Q)) 122 [(0, Value.ref (B + a0)), (1, Value.int x1), (2, Value.int x2), (3, Value.long y3), (5, Value.int x5), (7, Value.int z24), (8, Value.int z16), (9, Value.int z45)] [] σ42)))) ∧ (¬ (r_gi σ (r_gr σ a0 9) z9.toNatClampNeg) < (r_gi σ (r_gr σ a0 13) x5.toNatClampNeg) → (∀ σ47 : r_S, σ47 = r_ui σ (r_gr σ a0 11) (z9.toNatClampNeg) 1 → (∀ z50 : Int32, z50 = x9 + 1 → (r_W X w B 13 0 0 (r_Z X w B tX8_take (r_QI σ0 Q)) 122 [(0, Value.ref (B + a0)), (1, Value.int x1), (2, Value.int x2), (3, Value.long y3), (5, Value.int x5), (7, Value.int z24), (8, Value.int z16), (9, Value.int z50)] [] σ47)))))))))) ∧ (¬ (r_gi σ (r_gr σ a0 11) z9.toNatClampNeg) = 0 → (∀ σ30 : r_S, σ30 = r_ui σ (r_gr σ a0 11) (z9.toNatClampNeg) 1 → (∀ z33 : Int32, z33 = x9 + 1 → (r_W X w B 13 0 0 (r_Z X w B tX8_take (r_QI σ0 Q)) 122 [(0, Value.ref (B + a0)), (1, Value.int x1), (2, Value.int x2), (3, Value.long y3), (5, Value.int x5), (7, Value.int z24), (8, Value.int z16), (9, Value.int z33)] [] σ30))))))))) ∧ (¬ ((r_gl σ (r_gr σ a0 51) x5.toNatClampNeg) &&& y14) = 0 → (∀ z22 : Int32, z22 = x9 + 1 → (r_W X w B 13 0 0 (r_Z X w B tX8_take (r_QI σ0 Q)) 122 [(0, Value.ref (B + a0)), (1, Value.int x1), (2, Value.int x2), (3, Value.long y3), (5, Value.int x5), (7, Value.int x7), (8, Value.int z16), (9, Value.int z22)] [] σ)))))))))))))))))) :
    r_W X w B 13 0 0 (r_Z X w B tX8_take (r_QI σ0 Q)) 122 [(0, Value.ref (B + a0)), (1, Value.int x1), (2, Value.int x2), (3, Value.long y3), (5, Value.int x5), (7, Value.int x7), (8, Value.int x8), (9, Value.int x9)] [] σ := by
  refine r_iload C dX8_take_122 (j := 7) rfl ?_
  refine r_aload_n C dX8_take_124 rfl (j := 0) rfl ?_
  obtain ⟨g1, h⟩ := h
  obtain ⟨n2, g3, h⟩ := h
  refine r_getR C (r_atT rfl g1) fa_X8_118 rfl (r_atN g3) dX8_take_125 ?_
  refine r_iload_n C dX8_take_128 rfl (j := 1) rfl ?_
  obtain ⟨g4, h⟩ := h
  refine r_iald C (r_atT rfl g3) ⟨rfl, fun _ => rfl⟩ g4 dX8_take_129 ?_
  refine r_icmp_ge (tgt := 243) C dX8_take_130 (by decide) (fun c5 => ?_) (fun c5 => ?_)
  · have h := h.1 c5
    refine r_iconst (v := 1) C dX8_take_243 (by decide) ?_
    refine r_istore (lv' := [(9, Value.int 1), (0, Value.ref (B + a0)), (1, Value.int x1), (2, Value.int x2), (3, Value.long y3), (5, Value.int x5), (7, Value.int x7), (8, Value.int x8)]) C dX8_take_244 (by decide) rfl ?_
    exact r_loc (by simp) h
  · have h := h.2 c5
    refine r_aload_n C dX8_take_133 rfl (j := 0) rfl ?_
    obtain ⟨n6, g7, h⟩ := h
    refine r_getR C (r_atT rfl g1) fa_X8_115 rfl (r_atN g7) dX8_take_134 ?_
    refine r_iconst (v := 4) C dX8_take_137 (by decide) ?_
    refine r_iload_n C dX8_take_138 rfl (j := 1) rfl ?_
    refine r_imul C dX8_take_139 ?_
    refine r_iload C dX8_take_140 (j := 7) rfl ?_
    refine r_iadd C dX8_take_142 ?_
    obtain ⟨g8, h⟩ := h
    refine r_iald C (r_atT rfl g7) ⟨rfl, fun _ => rfl⟩ g8 dX8_take_143 ?_
    refine r_topi (fun z9 e10 => ?_)
    have h := h z9 e10
    refine r_istore (lv' := [(10, Value.int z9), (0, Value.ref (B + a0)), (1, Value.int x1), (2, Value.int x2), (3, Value.long y3), (5, Value.int x5), (7, Value.int x7), (8, Value.int x8), (9, Value.int x9)]) C dX8_take_144 (by decide) rfl ?_
    refine r_lconst (v := 1) C dX8_take_146 (by decide) ?_
    refine r_aload_n C dX8_take_147 rfl (j := 1) rfl ?_
    obtain ⟨n11, g12, h⟩ := h
    refine r_getR C (r_atT rfl g1) fa_X8_24 rfl (r_atN g12) dX8_take_148 ?_
    refine r_iload C dX8_take_151 (j := 0) rfl ?_
    obtain ⟨g13, h⟩ := h
    refine r_iald C (r_atT rfl g12) ⟨rfl, fun _ => rfl⟩ g13 dX8_take_153 ?_
    refine r_lshl (v := (1 : Int64) <<< ((r_gi σ (r_gr σ a0 8) z9.toNatClampNeg).toInt64 &&& 63)) C dX8_take_154 rfl ?_
    refine r_lconst (v := 1) C dX8_take_155 (by decide) ?_
    refine r_lsub C dX8_take_156 ?_
    refine r_iload C dX8_take_157 (j := 7) rfl ?_
    refine r_lshl (v := (((1 : Int64) <<< ((r_gi σ (r_gr σ a0 8) z9.toNatClampNeg).toInt64 &&& 63)) - 1) <<< (x8.toInt64 &&& 63)) C dX8_take_159 rfl ?_
    refine r_topl (fun y14 e15 => ?_)
    have h := h y14 e15
    refine r_lstore (lv' := [(11, Value.long y14), (10, Value.int z9), (0, Value.ref (B + a0)), (1, Value.int x1), (2, Value.int x2), (3, Value.long y3), (5, Value.int x5), (7, Value.int x7), (8, Value.int x8), (9, Value.int x9)]) C dX8_take_160 (by decide) rfl ?_
    refine r_iload C dX8_take_162 (j := 8) rfl ?_
    refine r_aload_n C dX8_take_164 rfl (j := 2) rfl ?_
    refine r_getR C (r_atT rfl g1) fa_X8_24 rfl (r_atN g12) dX8_take_165 ?_
    refine r_iload C dX8_take_168 (j := 1) rfl ?_
    refine r_iald C (r_atT rfl g12) ⟨rfl, fun _ => rfl⟩ g13 dX8_take_170 ?_
    refine r_iadd C dX8_take_171 ?_
    refine r_topi (fun z16 e17 => ?_)
    have h := h z16 e17
    refine r_istore (lv' := [(8, Value.int z16), (11, Value.long y14), (10, Value.int z9), (0, Value.ref (B + a0)), (1, Value.int x1), (2, Value.int x2), (3, Value.long y3), (5, Value.int x5), (7, Value.int x7), (9, Value.int x9)]) C dX8_take_172 (by decide) rfl ?_
    refine r_aload_n C dX8_take_174 rfl (j := 3) rfl ?_
    obtain ⟨n18, g19, h⟩ := h
    refine r_getR C (r_atT rfl g1) fa_X8_142 rfl (r_atN g19) dX8_take_175 ?_
    refine r_iload C dX8_take_178 (j := 7) rfl ?_
    obtain ⟨g20, h⟩ := h
    refine r_lald C (r_atT rfl g19) ⟨rfl, fun _ => rfl⟩ g20 dX8_take_180 ?_
    refine r_lload C dX8_take_181 (j := 1) rfl ?_
    refine r_land C dX8_take_183 ?_
    refine r_lconst (v := 0) C dX8_take_184 (by decide) ?_
    refine r_lcmp C dX8_take_185 ?_
    refine r_if_ne (tgt := 237) C dX8_take_186 (by decide) (fun c21 => ?_) (fun c21 => ?_)
    · have h := h.2 (fun q => c21 (lgc_eq.mpr q))
      obtain ⟨z22, e23⟩ : ∃ y : Int32, y = x9 + 1 := ⟨_, rfl⟩
      have h := h z22 e23
      refine r_iinc (v := z22) (lv' := [(9, Value.int z22), (8, Value.int z16), (11, Value.long y14), (10, Value.int z9), (0, Value.ref (B + a0)), (1, Value.int x1), (2, Value.int x2), (3, Value.long y3), (5, Value.int x5), (7, Value.int x7)]) C dX8_take_237 (k := 9) rfl (by rw [e23]; rfl) (by decide) rfl ?_
      refine r_goto (tgt := 122) C dX8_take_240 (by decide) ?_
      exact r_loc (by simp) h
    · have h := h.1 (lgc_eq.mp c21)
      refine r_iload C dX8_take_189 (j := 8) rfl ?_
      refine r_iconst (v := 1) C dX8_take_191 (by decide) ?_
      refine r_iload C dX8_take_192 (j := 9) rfl ?_
      refine r_ishl C dX8_take_194 ?_
      refine r_ior C dX8_take_195 ?_
      refine r_topi (fun z24 e25 => ?_)
      have h := h z24 e25
      refine r_istore (lv' := [(7, Value.int z24), (8, Value.int z16), (11, Value.long y14), (10, Value.int z9), (0, Value.ref (B + a0)), (1, Value.int x1), (2, Value.int x2), (3, Value.long y3), (5, Value.int x5), (9, Value.int x9)]) C dX8_take_196 (by decide) rfl ?_
      refine r_aload_n C dX8_take_198 rfl (j := 4) rfl ?_
      obtain ⟨n26, g27, h⟩ := h
      refine r_getR C (r_atT rfl g1) fa_X8_33 rfl (r_atN g27) dX8_take_199 ?_
      refine r_iload C dX8_take_202 (j := 3) rfl ?_
      refine r_aload_n C dX8_take_204 rfl (j := 4) rfl ?_
      refine r_getR C (r_atT rfl g1) fa_X8_33 rfl (r_atN g27) dX8_take_205 ?_
      refine r_iload C dX8_take_208 (j := 3) rfl ?_
      obtain ⟨g28, h⟩ := h
      refine r_zald C (r_atT rfl g27) ⟨rfl, fun _ => rfl⟩ g28 dX8_take_210 ?_
      refine r_if_ne (tgt := 231) C dX8_take_211 (by decide) (fun c29 => ?_) (fun c29 => ?_)
      · have h := h.2 c29
        refine r_iconst (v := 1) C dX8_take_231 (by decide) ?_
        refine r_goto (tgt := 236) C dX8_take_232 (by decide) ?_
        refine r_zast C (r_atT rfl g27) ⟨rfl, fun _ => rfl⟩ g28 (by decide) dX8_take_236 ?_
        refine r_nam (fun σ30 e31 => ?_)
        have h := h σ30 e31
        have s32 : σ30.1 = σ.1 := by rw [e31]; exact rfl
        obtain ⟨z33, e34⟩ : ∃ y : Int32, y = x9 + 1 := ⟨_, rfl⟩
        have h := h z33 e34
        refine r_iinc (v := z33) (lv' := [(9, Value.int z33), (7, Value.int z24), (8, Value.int z16), (11, Value.long y14), (10, Value.int z9), (0, Value.ref (B + a0)), (1, Value.int x1), (2, Value.int x2), (3, Value.long y3), (5, Value.int x5)]) C dX8_take_237 (k := 9) rfl (by rw [e34]; rfl) (by decide) rfl ?_
        refine r_goto (tgt := 122) C dX8_take_240 (by decide) ?_
        exact r_loc (by simp) h
      · have h := h.1 c29
        refine r_aload_n C dX8_take_214 rfl (j := 4) rfl ?_
        obtain ⟨n35, g36, h⟩ := h
        refine r_getR C (r_atT rfl g1) fa_X8_27 rfl (r_atN g36) dX8_take_215 ?_
        refine r_iload C dX8_take_218 (j := 3) rfl ?_
        obtain ⟨g37, h⟩ := h
        refine r_iald C (r_atT rfl g36) ⟨rfl, fun _ => rfl⟩ g37 dX8_take_220 ?_
        refine r_aload_n C dX8_take_221 rfl (j := 4) rfl ?_
        obtain ⟨n38, g39, h⟩ := h
        refine r_getR C (r_atT rfl g1) fa_X8_39 rfl (r_atN g39) dX8_take_222 ?_
        refine r_iload C dX8_take_225 (j := 8) rfl ?_
        obtain ⟨g40, h⟩ := h
        refine r_iald C (r_atT rfl g39) ⟨rfl, fun _ => rfl⟩ g40 dX8_take_227 ?_
        refine r_icmp_lt (tgt := 235) C dX8_take_228 (by decide) (fun c41 => ?_) (fun c41 => ?_)
        · have h := h.1 c41
          refine r_iconst (v := 0) C dX8_take_235 (by decide) ?_
          refine r_zast C (r_atT rfl g27) ⟨rfl, fun _ => rfl⟩ g28 (by decide) dX8_take_236 ?_
          refine r_nam (fun σ42 e43 => ?_)
          have h := h σ42 e43
          have s44 : σ42.1 = σ.1 := by rw [e43]; exact rfl
          obtain ⟨z45, e46⟩ : ∃ y : Int32, y = x9 + 1 := ⟨_, rfl⟩
          have h := h z45 e46
          refine r_iinc (v := z45) (lv' := [(9, Value.int z45), (7, Value.int z24), (8, Value.int z16), (11, Value.long y14), (10, Value.int z9), (0, Value.ref (B + a0)), (1, Value.int x1), (2, Value.int x2), (3, Value.long y3), (5, Value.int x5)]) C dX8_take_237 (k := 9) rfl (by rw [e46]; rfl) (by decide) rfl ?_
          refine r_goto (tgt := 122) C dX8_take_240 (by decide) ?_
          exact r_loc (by simp) h
        · have h := h.2 c41
          refine r_iconst (v := 1) C dX8_take_231 (by decide) ?_
          refine r_goto (tgt := 236) C dX8_take_232 (by decide) ?_
          refine r_zast C (r_atT rfl g27) ⟨rfl, fun _ => rfl⟩ g28 (by decide) dX8_take_236 ?_
          refine r_nam (fun σ47 e48 => ?_)
          have h := h σ47 e48
          have s49 : σ47.1 = σ.1 := by rw [e48]; exact rfl
          obtain ⟨z50, e51⟩ : ∃ y : Int32, y = x9 + 1 := ⟨_, rfl⟩
          have h := h z50 e51
          refine r_iinc (v := z50) (lv' := [(9, Value.int z50), (7, Value.int z24), (8, Value.int z16), (11, Value.long y14), (10, Value.int z9), (0, Value.ref (B + a0)), (1, Value.int x1), (2, Value.int x2), (3, Value.long y3), (5, Value.int x5)]) C dX8_take_237 (k := 9) rfl (by rw [e51]; rfl) (by decide) rfl ?_
          refine r_goto (tgt := 122) C dX8_take_240 (by decide) ?_
          exact r_loc (by simp) h
theorem w_X8_take_246 {X : r_X} {w : r_V} {B : Nat} {l : Launch} {Q : Int32 → r_S → Prop} {σ0 : r_S} (C : r_C X w B 13 cX8_take RX8) (E : r_E X l tX8_take) {σ : r_S} (hs : σ.1 = σ0.1) {a0 : Nat} {x1 x2 x5 x7 x9 : Int32} {y3 : Int64}
    (h : r_at σ a0 = some (.inl 8) ∧ (((r_gi σ a0 5) < x9 → (Q x7 σ)) ∧ (¬ (r_gi σ a0 5) < x9 → (∃ n3, r_at σ (r_gr σ a0 11) = some (.inr (2, n3)) ∧ (vp_in x9 n3 ∧ (((r_gi σ (r_gr σ a0 11) x9.toNatClampNeg) = 0 → (∀ z7 : Int32, z7 = x9 + 1 → (r_W X w B 13 0 0 (r_Z X w B tX8_take (r_QI σ0 Q)) 246 [(0, Value.ref (B + a0)), (1, Value.int x1), (2, Value.int x2), (3, Value.long y3), (5, Value.int x5), (7, Value.int x7), (9, Value.int z7)] [] σ))) ∧ (¬ (r_gi σ (r_gr σ a0 11) x9.toNatClampNeg) = 0 → (∃ n9, r_at σ (r_gr σ a0 6) = some (.inr (0, n9)) ∧ (vp_in x9 n9 ∧ (((r_gi σ (r_gr σ a0 6) x9.toNatClampNeg) = x1 → (∃ n15, r_at σ (r_gr σ a0 7) = some (.inr (0, n15)) ∧ (vp_in x9 n15 ∧ (((r_gi σ (r_gr σ a0 7) x9.toNatClampNeg) = x2 → (∃ n21, r_at σ (r_gr σ a0 9) = some (.inr (0, n21)) ∧ (vp_in x9 n21 ∧ (∃ n24, r_at σ (r_gr σ a0 13) = some (.inr (0, n24)) ∧ (vp_in x5 n24 ∧ (((r_gi σ (r_gr σ a0 9) x9.toNatClampNeg) = (r_gi σ (r_gr σ a0 13) x5.toNatClampNeg) → (∃ Q30 : r_S → Prop, r_M l w B tX8_handOver [Value.ref (B + a0), Value.int x9, Value.long y3] σ (r_QV σ Q30) ∧ (∀ σ32 : r_S, Q30 σ32 → (∃ n36, r_at σ (r_gr σ32 a0 13) = some (.inr (0, n36)) ∧ (vp_in x5 n36 ∧ (∀ σ39 : r_S, σ39 = r_ui σ32 (r_gr σ32 a0 13) (x5.toNatClampNeg) ((r_gi σ32 (r_gr σ32 a0 13) x5.toNatClampNeg) + 1) → (∀ z42 : Int32, z42 = x9 + 1 → (r_W X w B 13 0 0 (r_Z X w B tX8_take (r_QI σ0 Q)) 246 [(0, Value.ref (B + a0)), (1, Value.int x1), (2, Value.int x2), (3, Value.long y3), (5, Value.int x5), (7, Value.int x7), (9, Value.int z42)] [] σ39)))))))) ∧ (¬ (r_gi σ (r_gr σ a0 9) x9.toNatClampNeg) = (r_gi σ (r_gr σ a0 13) x5.toNatClampNeg) → (∀ z28 : Int32, z28 = x9 + 1 → (r_W X w B 13 0 0 (r_Z X w B tX8_take (r_QI σ0 Q)) 246 [(0, Value.ref (B + a0)), (1, Value.int x1), (2, Value.int x2), (3, Value.long y3), (5, Value.int x5), (7, Value.int x7), (9, Value.int z28)] [] σ))))))))) ∧ (¬ (r_gi σ (r_gr σ a0 7) x9.toNatClampNeg) = x2 → (∀ z19 : Int32, z19 = x9 + 1 → (r_W X w B 13 0 0 (r_Z X w B tX8_take (r_QI σ0 Q)) 246 [(0, Value.ref (B + a0)), (1, Value.int x1), (2, Value.int x2), (3, Value.long y3), (5, Value.int x5), (7, Value.int x7), (9, Value.int z19)] [] σ))))))) ∧ (¬ (r_gi σ (r_gr σ a0 6) x9.toNatClampNeg) = x1 → (∀ z13 : Int32, z13 = x9 + 1 → (r_W X w B 13 0 0 (r_Z X w B tX8_take (r_QI σ0 Q)) 246 [(0, Value.ref (B + a0)), (1, Value.int x1), (2, Value.int x2), (3, Value.long y3), (5, Value.int x5), (7, Value.int x7), (9, Value.int z13)] [] σ))))))))))))) :
    r_W X w B 13 0 0 (r_Z X w B tX8_take (r_QI σ0 Q)) 246 [(0, Value.ref (B + a0)), (1, Value.int x1), (2, Value.int x2), (3, Value.long y3), (5, Value.int x5), (7, Value.int x7), (9, Value.int x9)] [] σ := by
  refine r_iload C dX8_take_246 (j := 6) rfl ?_
  refine r_aload_n C dX8_take_248 rfl (j := 0) rfl ?_
  obtain ⟨g1, h⟩ := h
  refine r_get (v := .int (r_gi σ a0 5)) C (r_atT rfl g1) fa_X8_163 rfl dX8_take_249 ?_
  refine r_icmp_gt (tgt := 328) C dX8_take_252 (by decide) (fun c2 => ?_) (fun c2 => ?_)
  · have h := h.1 c2
    refine r_iload C dX8_take_328 (j := 5) rfl ?_
    exact r_iretQ C E rfl (Nat.zero_le _) (Nat.zero_le _) dX8_take_330 ((rfl : σ.1 = σ.1).trans hs) h
  · have h := h.2 c2
    refine r_aload_n C dX8_take_255 rfl (j := 0) rfl ?_
    obtain ⟨n3, g4, h⟩ := h
    refine r_getR C (r_atT rfl g1) fa_X8_33 rfl (r_atN g4) dX8_take_256 ?_
    refine r_iload C dX8_take_259 (j := 6) rfl ?_
    obtain ⟨g5, h⟩ := h
    refine r_zald C (r_atT rfl g4) ⟨rfl, fun _ => rfl⟩ g5 dX8_take_261 ?_
    refine r_if_eq (tgt := 322) C dX8_take_262 (by decide) (fun c6 => ?_) (fun c6 => ?_)
    · have h := h.1 c6
      obtain ⟨z7, e8⟩ : ∃ y : Int32, y = x9 + 1 := ⟨_, rfl⟩
      have h := h z7 e8
      refine r_iinc (v := z7) (lv' := [(9, Value.int z7), (0, Value.ref (B + a0)), (1, Value.int x1), (2, Value.int x2), (3, Value.long y3), (5, Value.int x5), (7, Value.int x7)]) C dX8_take_322 (k := 6) rfl (by rw [e8]; rfl) (by decide) rfl ?_
      refine r_goto (tgt := 246) C dX8_take_325 (by decide) ?_
      exact r_loc (by simp) h
    · have h := h.2 c6
      refine r_aload_n C dX8_take_265 rfl (j := 0) rfl ?_
      obtain ⟨n9, g10, h⟩ := h
      refine r_getR C (r_atT rfl g1) fa_X8_17 rfl (r_atN g10) dX8_take_266 ?_
      refine r_iload C dX8_take_269 (j := 6) rfl ?_
      obtain ⟨g11, h⟩ := h
      refine r_iald C (r_atT rfl g10) ⟨rfl, fun _ => rfl⟩ g11 dX8_take_271 ?_
      refine r_iload_n C dX8_take_272 rfl (j := 1) rfl ?_
      refine r_icmp_ne (tgt := 322) C dX8_take_273 (by decide) (fun c12 => ?_) (fun c12 => ?_)
      · have h := h.2 c12
        obtain ⟨z13, e14⟩ : ∃ y : Int32, y = x9 + 1 := ⟨_, rfl⟩
        have h := h z13 e14
        refine r_iinc (v := z13) (lv' := [(9, Value.int z13), (0, Value.ref (B + a0)), (1, Value.int x1), (2, Value.int x2), (3, Value.long y3), (5, Value.int x5), (7, Value.int x7)]) C dX8_take_322 (k := 6) rfl (by rw [e14]; rfl) (by decide) rfl ?_
        refine r_goto (tgt := 246) C dX8_take_325 (by decide) ?_
        exact r_loc (by simp) h
      · have h := h.1 c12
        refine r_aload_n C dX8_take_276 rfl (j := 0) rfl ?_
        obtain ⟨n15, g16, h⟩ := h
        refine r_getR C (r_atT rfl g1) fa_X8_21 rfl (r_atN g16) dX8_take_277 ?_
        refine r_iload C dX8_take_280 (j := 6) rfl ?_
        obtain ⟨g17, h⟩ := h
        refine r_iald C (r_atT rfl g16) ⟨rfl, fun _ => rfl⟩ g17 dX8_take_282 ?_
        refine r_iload_n C dX8_take_283 rfl (j := 2) rfl ?_
        refine r_icmp_ne (tgt := 322) C dX8_take_284 (by decide) (fun c18 => ?_) (fun c18 => ?_)
        · have h := h.2 c18
          obtain ⟨z19, e20⟩ : ∃ y : Int32, y = x9 + 1 := ⟨_, rfl⟩
          have h := h z19 e20
          refine r_iinc (v := z19) (lv' := [(9, Value.int z19), (0, Value.ref (B + a0)), (1, Value.int x1), (2, Value.int x2), (3, Value.long y3), (5, Value.int x5), (7, Value.int x7)]) C dX8_take_322 (k := 6) rfl (by rw [e20]; rfl) (by decide) rfl ?_
          refine r_goto (tgt := 246) C dX8_take_325 (by decide) ?_
          exact r_loc (by simp) h
        · have h := h.1 c18
          refine r_aload_n C dX8_take_287 rfl (j := 0) rfl ?_
          obtain ⟨n21, g22, h⟩ := h
          refine r_getR C (r_atT rfl g1) fa_X8_27 rfl (r_atN g22) dX8_take_288 ?_
          refine r_iload C dX8_take_291 (j := 6) rfl ?_
          obtain ⟨g23, h⟩ := h
          refine r_iald C (r_atT rfl g22) ⟨rfl, fun _ => rfl⟩ g23 dX8_take_293 ?_
          refine r_aload_n C dX8_take_294 rfl (j := 0) rfl ?_
          obtain ⟨n24, g25, h⟩ := h
          refine r_getR C (r_atT rfl g1) fa_X8_39 rfl (r_atN g25) dX8_take_295 ?_
          refine r_iload C dX8_take_298 (j := 4) rfl ?_
          obtain ⟨g26, h⟩ := h
          refine r_iald C (r_atT rfl g25) ⟨rfl, fun _ => rfl⟩ g26 dX8_take_300 ?_
          refine r_icmp_ne (tgt := 322) C dX8_take_301 (by decide) (fun c27 => ?_) (fun c27 => ?_)
          · have h := h.2 c27
            obtain ⟨z28, e29⟩ : ∃ y : Int32, y = x9 + 1 := ⟨_, rfl⟩
            have h := h z28 e29
            refine r_iinc (v := z28) (lv' := [(9, Value.int z28), (0, Value.ref (B + a0)), (1, Value.int x1), (2, Value.int x2), (3, Value.long y3), (5, Value.int x5), (7, Value.int x7)]) C dX8_take_322 (k := 6) rfl (by rw [e29]; rfl) (by decide) rfl ?_
            refine r_goto (tgt := 246) C dX8_take_325 (by decide) ?_
            exact r_loc (by simp) h
          · have h := h.1 c27
            refine r_aload_n C dX8_take_304 rfl (j := 0) rfl ?_
            refine r_iload C dX8_take_305 (j := 6) rfl ?_
            refine r_lload_n C dX8_take_307 rfl (j := 3) rfl ?_
            obtain ⟨Q30, m31, h⟩ := h
            refine r_callVV (rest := []) C E [Value.int x9, Value.long y3] (r_atT rfl g1) rfl ky_X8_handOver kl_X8_218 ki_X8_handOver kx_X8_handOver ⟨Nat.le_of_ble_eq_true rfl, Nat.le_of_ble_eq_true rfl⟩ ⟨rfl, rfl⟩ m31 rfl rfl (Nat.le_of_ble_eq_true rfl) (Nat.zero_le _) (Nat.zero_le _) dX8_take_308 (fun σ32 s33 q35 => ?_)
            have h := h σ32 q35
            have s33 := s33.trans rfl
            refine r_aload_n C dX8_take_311 rfl (j := 0) rfl ?_
            obtain ⟨n36, g37, h⟩ := h
            refine r_getR C (r_atT s33 g1) fa_X8_39 rfl (r_atN g37) dX8_take_312 ?_
            refine r_iload C dX8_take_315 (j := 4) rfl ?_
            refine r_dup2_11 C dX8_take_317 rfl rfl ?_
            obtain ⟨g38, h⟩ := h
            refine r_iald C (r_atT s33 g37) ⟨rfl, fun _ => rfl⟩ g38 dX8_take_318 ?_
            refine r_iconst (v := 1) C dX8_take_319 (by decide) ?_
            refine r_iadd C dX8_take_320 ?_
            refine r_iast C (r_atT s33 g37) ⟨rfl, fun _ => rfl⟩ g38 dX8_take_321 ?_
            refine r_nam (fun σ39 e40 => ?_)
            have h := h σ39 e40
            have s41 : σ39.1 = σ.1 := by rw [e40]; exact s33
            obtain ⟨z42, e43⟩ : ∃ y : Int32, y = x9 + 1 := ⟨_, rfl⟩
            have h := h z42 e43
            refine r_iinc (v := z42) (lv' := [(9, Value.int z42), (0, Value.ref (B + a0)), (1, Value.int x1), (2, Value.int x2), (3, Value.long y3), (5, Value.int x5), (7, Value.int x7)]) C dX8_take_322 (k := 6) rfl (by rw [e43]; rfl) (by decide) rfl ?_
            refine r_goto (tgt := 246) C dX8_take_325 (by decide) ?_
            exact r_loc (by simp) h
theorem w_X8_acknowledged_0 {X : r_X} {w : r_V} {B : Nat} {l : Launch} {Q : r_S → Prop} {σ0 : r_S} (C : r_C X w B 6 cX8_acknowledged RX8) (E : r_E X l tX8_acknowledged) {σ : r_S} (hs : σ.1 = σ0.1) {a0 : Nat} {x1 x2 : Int32} {y3 : Int64}
    (h : r_at σ a0 = some (.inl 8) ∧ (∃ n2, r_at σ (r_gr σ a0 31) = some (.inr (1, n2)) ∧ (vp_in x1 n2 ∧ (∀ σ5 : r_S, σ5 = r_ul σ (r_gr σ a0 31) (x1.toNatClampNeg) (-1) → (r_W X w B 6 0 0 (r_Z X w B tX8_acknowledged (r_QV σ0 Q)) 12 [(0, Value.ref (B + a0)), (1, Value.int x1), (2, Value.int x2), (3, Value.long y3), (5, Value.int 0)] [] σ5))))) :
    r_W X w B 6 0 0 (r_Z X w B tX8_acknowledged (r_QV σ0 Q)) 0 [(0, Value.ref (B + a0)), (1, Value.int x1), (2, Value.int x2), (3, Value.long y3)] [] σ := by
  refine r_aload_n C dX8_acknowledged_0 rfl (j := 0) rfl ?_
  obtain ⟨g1, h⟩ := h
  obtain ⟨n2, g3, h⟩ := h
  refine r_getR C (r_atT rfl g1) fa_X8_82 rfl (r_atN g3) dX8_acknowledged_1 ?_
  refine r_iload_n C dX8_acknowledged_4 rfl (j := 1) rfl ?_
  refine r_ldc2 (v := (-1)) C kj_X8_148 dX8_acknowledged_5 ?_
  obtain ⟨g4, h⟩ := h
  refine r_last C (r_atT rfl g3) ⟨rfl, fun _ => rfl⟩ g4 dX8_acknowledged_8 ?_
  refine r_nam (fun σ5 e6 => ?_)
  have h := h σ5 e6
  have s7 : σ5.1 = σ.1 := by rw [e6]; exact rfl
  refine r_iconst (v := 0) C dX8_acknowledged_9 (by decide) ?_
  refine r_istore (lv' := [(5, Value.int 0), (0, Value.ref (B + a0)), (1, Value.int x1), (2, Value.int x2), (3, Value.long y3)]) C dX8_acknowledged_10 (by decide) rfl ?_
  exact r_loc (by simp) h
theorem w_X8_acknowledged_12 {X : r_X} {w : r_V} {B : Nat} {l : Launch} {Q : r_S → Prop} {σ0 : r_S} (C : r_C X w B 6 cX8_acknowledged RX8) (E : r_E X l tX8_acknowledged) {σ : r_S} (hs : σ.1 = σ0.1) {a0 : Nat} {x1 x2 x5 : Int32} {y3 : Int64}
    (h : r_at σ a0 = some (.inl 8) ∧ (∃ n2, r_at σ (r_gr σ a0 43) = some (.inr (0, n2)) ∧ (vp_in x1 n2 ∧ (((r_gi σ (r_gr σ a0 43) x1.toNatClampNeg) ≤ x5 → ((x2 = 0 → (∃ Q32 : r_S → Prop, r_M l w B tX8_fail [Value.ref (B + a0), Value.int x1, Value.long y3] σ (r_QV σ Q32) ∧ (∀ σ34 : r_S, Q32 σ34 → (Q σ34)))) ∧ (¬ x2 = 0 → (∃ n7, r_at σ (r_gr σ a0 26) = some (.inr (0, n7)) ∧ (vp_in x1 n7 ∧ (∀ σ10 : r_S, σ10 = r_ui σ (r_gr σ a0 26) (x1.toNatClampNeg) 0 → (∃ n13, r_at σ (r_gr σ10 a0 25) = some (.inr (0, n13)) ∧ (vp_in x1 n13 ∧ (∀ σ16 : r_S, σ16 = r_ui σ10 (r_gr σ10 a0 25) (x1.toNatClampNeg) 3 → (∃ Q19 : Int32 → r_S → Prop, r_M l w B tX8_keeps [Value.ref (B + a0), Value.int x1] σ16 (r_QI σ16 Q19) ∧ (∀ (z23 : Int32) (σ21 : r_S), Q19 z23 σ21 → ((z23 ≤ 0 → (Q σ21)) ∧ (¬ z23 ≤ 0 → (∃ Q26 : r_S → Prop, r_M l w B tX8_draw [Value.ref (B + a0), Value.int x1] σ21 (r_QV σ21 Q26) ∧ (∀ σ28 : r_S, Q26 σ28 → (Q σ28)))))))))))))))) ∧ (¬ (r_gi σ (r_gr σ a0 43) x1.toNatClampNeg) ≤ x5 → ((((x2 >>> (x5 &&& 31)) &&& 1) = 1 → (∃ n41, r_at σ (r_gr σ a0 10) = some (.inr (2, n41)) ∧ (∃ n43, r_at σ (r_gr σ a0 42) = some (.inr (0, n43)) ∧ (vp_in ((4 * x1) + x5) n43 ∧ (vp_in (r_gi σ (r_gr σ a0 42) ((4 * x1) + x5).toNatClampNeg) n41 ∧ (∀ σ47 : r_S, σ47 = r_ui σ (r_gr σ a0 10) ((r_gi σ (r_gr σ a0 42) ((4 * x1) + x5).toNatClampNeg).toNatClampNeg) 0 → (∃ n50, r_at σ (r_gr σ47 a0 42) = some (.inr (0, n50)) ∧ (vp_in ((4 * x1) + x5) n50 ∧ (∃ Q53 : r_S → Prop, r_M l w B tX8_tell [Value.ref (B + a0), Value.int (r_gi σ47 (r_gr σ47 a0 42) ((4 * x1) + x5).toNatClampNeg), Value.int 3, Value.long y3] σ47 (r_QV σ47 Q53) ∧ (∀ σ55 : r_S, Q53 σ55 → (∀ z59 : Int32, z59 = x5 + 1 → (r_W X w B 6 0 0 (r_Z X w B tX8_acknowledged (r_QV σ0 Q)) 12 [(0, Value.ref (B + a0)), (1, Value.int x1), (2, Value.int x2), (3, Value.long y3), (5, Value.int z59)] [] σ55)))))))))))) ∧ (¬ ((x2 >>> (x5 &&& 31)) &&& 1) = 1 → (∀ z39 : Int32, z39 = x5 + 1 → (r_W X w B 6 0 0 (r_Z X w B tX8_acknowledged (r_QV σ0 Q)) 12 [(0, Value.ref (B + a0)), (1, Value.int x1), (2, Value.int x2), (3, Value.long y3), (5, Value.int z39)] [] σ))))))))) :
    r_W X w B 6 0 0 (r_Z X w B tX8_acknowledged (r_QV σ0 Q)) 12 [(0, Value.ref (B + a0)), (1, Value.int x1), (2, Value.int x2), (3, Value.long y3), (5, Value.int x5)] [] σ := by
  refine r_iload C dX8_acknowledged_12 (j := 4) rfl ?_
  refine r_aload_n C dX8_acknowledged_14 rfl (j := 0) rfl ?_
  obtain ⟨g1, h⟩ := h
  obtain ⟨n2, g3, h⟩ := h
  refine r_getR C (r_atT rfl g1) fa_X8_118 rfl (r_atN g3) dX8_acknowledged_15 ?_
  refine r_iload_n C dX8_acknowledged_18 rfl (j := 1) rfl ?_
  obtain ⟨g4, h⟩ := h
  refine r_iald C (r_atT rfl g3) ⟨rfl, fun _ => rfl⟩ g4 dX8_acknowledged_19 ?_
  refine r_icmp_ge (tgt := 73) C dX8_acknowledged_20 (by decide) (fun c5 => ?_) (fun c5 => ?_)
  · have h := h.1 c5
    refine r_iload_n C dX8_acknowledged_73 rfl (j := 2) rfl ?_
    refine r_if_ne (tgt := 84) C dX8_acknowledged_74 (by decide) (fun c6 => ?_) (fun c6 => ?_)
    · have h := h.2 c6
      refine r_aload_n C dX8_acknowledged_84 rfl (j := 0) rfl ?_
      obtain ⟨n7, g8, h⟩ := h
      refine r_getR C (r_atT rfl g1) fa_X8_67 rfl (r_atN g8) dX8_acknowledged_85 ?_
      refine r_iload_n C dX8_acknowledged_88 rfl (j := 1) rfl ?_
      refine r_iconst (v := 0) C dX8_acknowledged_89 (by decide) ?_
      obtain ⟨g9, h⟩ := h
      refine r_iast C (r_atT rfl g8) ⟨rfl, fun _ => rfl⟩ g9 dX8_acknowledged_90 ?_
      refine r_nam (fun σ10 e11 => ?_)
      have h := h σ10 e11
      have s12 : σ10.1 = σ.1 := by rw [e11]; exact rfl
      refine r_aload_n C dX8_acknowledged_91 rfl (j := 0) rfl ?_
      obtain ⟨n13, g14, h⟩ := h
      refine r_getR C (r_atT s12 g1) fa_X8_64 rfl (r_atN g14) dX8_acknowledged_92 ?_
      refine r_iload_n C dX8_acknowledged_95 rfl (j := 1) rfl ?_
      refine r_iconst (v := 3) C dX8_acknowledged_96 (by decide) ?_
      obtain ⟨g15, h⟩ := h
      refine r_iast C (r_atT s12 g14) ⟨rfl, fun _ => rfl⟩ g15 dX8_acknowledged_97 ?_
      refine r_nam (fun σ16 e17 => ?_)
      have h := h σ16 e17
      have s18 : σ16.1 = σ.1 := by rw [e17]; exact s12
      refine r_aload_n C dX8_acknowledged_98 rfl (j := 0) rfl ?_
      refine r_iload_n C dX8_acknowledged_99 rfl (j := 1) rfl ?_
      obtain ⟨Q19, m20, h⟩ := h
      refine r_callVI (rest := []) C E [Value.int x1] (r_atT s18 g1) rfl ky_X8_keeps kl_X8_166 ki_X8_keeps kx_X8_keeps ⟨Nat.le_of_ble_eq_true rfl, Nat.le_of_ble_eq_true rfl⟩ ⟨rfl, rfl⟩ m20 rfl rfl (Nat.le_of_ble_eq_true rfl) (Nat.zero_le _) (Nat.zero_le _) dX8_acknowledged_100 (fun z23 σ21 s22 q24 => ?_)
      have h := h z23 σ21 q24
      have s22 := s22.trans s18
      refine r_if_le (tgt := 111) C dX8_acknowledged_103 (by decide) (fun c25 => ?_) (fun c25 => ?_)
      · have h := h.1 c25
        exact r_vretQ C E rfl (Nat.zero_le _) (Nat.zero_le _) dX8_acknowledged_111 (s22.trans hs) h
      · have h := h.2 c25
        refine r_aload_n C dX8_acknowledged_106 rfl (j := 0) rfl ?_
        refine r_iload_n C dX8_acknowledged_107 rfl (j := 1) rfl ?_
        obtain ⟨Q26, m27, h⟩ := h
        refine r_callVV (rest := []) C E [Value.int x1] (r_atT s22 g1) rfl ky_X8_draw kl_X8_170 ki_X8_draw kx_X8_draw ⟨Nat.le_of_ble_eq_true rfl, Nat.le_of_ble_eq_true rfl⟩ ⟨rfl, rfl⟩ m27 rfl rfl (Nat.le_of_ble_eq_true rfl) (Nat.zero_le _) (Nat.zero_le _) dX8_acknowledged_108 (fun σ28 s29 q31 => ?_)
        have h := h σ28 q31
        have s29 := s29.trans s22
        exact r_vretQ C E rfl (Nat.zero_le _) (Nat.zero_le _) dX8_acknowledged_111 (s29.trans hs) h
    · have h := h.1 c6
      refine r_aload_n C dX8_acknowledged_77 rfl (j := 0) rfl ?_
      refine r_iload_n C dX8_acknowledged_78 rfl (j := 1) rfl ?_
      refine r_lload_n C dX8_acknowledged_79 rfl (j := 3) rfl ?_
      obtain ⟨Q32, m33, h⟩ := h
      refine r_callVV (rest := []) C E [Value.int x1, Value.long y3] (r_atT rfl g1) rfl ky_X8_fail kl_X8_194 ki_X8_fail kx_X8_fail ⟨Nat.le_of_ble_eq_true rfl, Nat.le_of_ble_eq_true rfl⟩ ⟨rfl, rfl⟩ m33 rfl rfl (Nat.le_of_ble_eq_true rfl) (Nat.zero_le _) (Nat.zero_le _) dX8_acknowledged_80 (fun σ34 s35 q37 => ?_)
      have h := h σ34 q37
      have s35 := s35.trans rfl
      exact r_vretQ C E rfl (Nat.zero_le _) (Nat.zero_le _) dX8_acknowledged_83 (s35.trans hs) h
  · have h := h.2 c5
    refine r_iload_n C dX8_acknowledged_23 rfl (j := 2) rfl ?_
    refine r_iload C dX8_acknowledged_24 (j := 4) rfl ?_
    refine r_ishr C dX8_acknowledged_26 ?_
    refine r_iconst (v := 1) C dX8_acknowledged_27 (by decide) ?_
    refine r_iand C dX8_acknowledged_28 ?_
    refine r_iconst (v := 1) C dX8_acknowledged_29 (by decide) ?_
    refine r_icmp_ne (tgt := 67) C dX8_acknowledged_30 (by decide) (fun c38 => ?_) (fun c38 => ?_)
    · have h := h.2 c38
      obtain ⟨z39, e40⟩ : ∃ y : Int32, y = x5 + 1 := ⟨_, rfl⟩
      have h := h z39 e40
      refine r_iinc (v := z39) (lv' := [(5, Value.int z39), (0, Value.ref (B + a0)), (1, Value.int x1), (2, Value.int x2), (3, Value.long y3)]) C dX8_acknowledged_67 (k := 4) rfl (by rw [e40]; rfl) (by decide) rfl ?_
      refine r_goto (tgt := 12) C dX8_acknowledged_70 (by decide) ?_
      exact r_loc (by simp) h
    · have h := h.1 c38
      refine r_aload_n C dX8_acknowledged_33 rfl (j := 0) rfl ?_
      obtain ⟨n41, g42, h⟩ := h
      refine r_getR C (r_atT rfl g1) fa_X8_30 rfl (r_atN g42) dX8_acknowledged_34 ?_
      refine r_aload_n C dX8_acknowledged_37 rfl (j := 0) rfl ?_
      obtain ⟨n43, g44, h⟩ := h
      refine r_getR C (r_atT rfl g1) fa_X8_115 rfl (r_atN g44) dX8_acknowledged_38 ?_
      refine r_iconst (v := 4) C dX8_acknowledged_41 (by decide) ?_
      refine r_iload_n C dX8_acknowledged_42 rfl (j := 1) rfl ?_
      refine r_imul C dX8_acknowledged_43 ?_
      refine r_iload C dX8_acknowledged_44 (j := 4) rfl ?_
      refine r_iadd C dX8_acknowledged_46 ?_
      obtain ⟨g45, h⟩ := h
      refine r_iald C (r_atT rfl g44) ⟨rfl, fun _ => rfl⟩ g45 dX8_acknowledged_47 ?_
      refine r_iconst (v := 0) C dX8_acknowledged_48 (by decide) ?_
      obtain ⟨g46, h⟩ := h
      refine r_zast C (r_atT rfl g42) ⟨rfl, fun _ => rfl⟩ g46 (by decide) dX8_acknowledged_49 ?_
      refine r_nam (fun σ47 e48 => ?_)
      have h := h σ47 e48
      have s49 : σ47.1 = σ.1 := by rw [e48]; exact rfl
      refine r_aload_n C dX8_acknowledged_50 rfl (j := 0) rfl ?_
      refine r_aload_n C dX8_acknowledged_51 rfl (j := 0) rfl ?_
      obtain ⟨n50, g51, h⟩ := h
      refine r_getR C (r_atT s49 g1) fa_X8_115 rfl (r_atN g51) dX8_acknowledged_52 ?_
      refine r_iconst (v := 4) C dX8_acknowledged_55 (by decide) ?_
      refine r_iload_n C dX8_acknowledged_56 rfl (j := 1) rfl ?_
      refine r_imul C dX8_acknowledged_57 ?_
      refine r_iload C dX8_acknowledged_58 (j := 4) rfl ?_
      refine r_iadd C dX8_acknowledged_60 ?_
      obtain ⟨g52, h⟩ := h
      refine r_iald C (r_atT s49 g51) ⟨rfl, fun _ => rfl⟩ g52 dX8_acknowledged_61 ?_
      refine r_iconst (v := 3) C dX8_acknowledged_62 (by decide) ?_
      refine r_lload_n C dX8_acknowledged_63 rfl (j := 3) rfl ?_
      obtain ⟨Q53, m54, h⟩ := h
      refine r_callVV (rest := []) C E [Value.int (r_gi σ47 (r_gr σ47 a0 42) ((4 * x1) + x5).toNatClampNeg), Value.int 3, Value.long y3] (r_atT s49 g1) rfl ky_X8_tell kl_X8_186 ki_X8_tell kx_X8_tell ⟨Nat.le_of_ble_eq_true rfl, Nat.le_of_ble_eq_true rfl⟩ ⟨rfl, rfl⟩ m54 rfl rfl (Nat.le_of_ble_eq_true rfl) (Nat.zero_le _) (Nat.zero_le _) dX8_acknowledged_64 (fun σ55 s56 q58 => ?_)
      have h := h σ55 q58
      have s56 := s56.trans s49
      obtain ⟨z59, e60⟩ : ∃ y : Int32, y = x5 + 1 := ⟨_, rfl⟩
      have h := h z59 e60
      refine r_iinc (v := z59) (lv' := [(5, Value.int z59), (0, Value.ref (B + a0)), (1, Value.int x1), (2, Value.int x2), (3, Value.long y3)]) C dX8_acknowledged_67 (k := 4) rfl (by rw [e60]; rfl) (by decide) rfl ?_
      refine r_goto (tgt := 12) C dX8_acknowledged_70 (by decide) ?_
      exact r_loc (by simp) h
theorem w_X8_receive_0 {X : r_X} {w : r_V} {B : Nat} {l : Launch} {Q : r_S → Prop} {σ0 : r_S} (C : r_C X w B 7 cX8_receive RX8) (E : r_E X l tX8_receive) {σ : r_S} (hs : σ.1 = σ0.1) {a0 : Nat} {x1 x2 : Int32} {y3 : Int64}
    (h : r_at σ a0 = some (.inl 8) ∧ (∃ n2, r_at σ (r_gr σ a0 40) = some (.inr (1, n2)) ∧ (vp_in x2 n2 ∧ (∀ σ5 : r_S, σ5 = r_ul σ (r_gr σ a0 40) (x2.toNatClampNeg) y3 → (∃ n8, r_at σ (r_gr σ5 a0 46) = some (.inr (0, n8)) ∧ (vp_in x1 n8 ∧ (((r_gi σ5 (r_gr σ5 a0 46) x1.toNatClampNeg) = x2 → (∃ n12, r_at σ (r_gr σ5 a0 31) = some (.inr (1, n12)) ∧ (vp_in x2 n12 ∧ (((r_gl σ5 (r_gr σ5 a0 31) x2.toNatClampNeg) < 0 → (r_W X w B 7 0 0 (r_Z X w B tX8_receive (r_QV σ0 Q)) 99 [(0, Value.ref (B + a0)), (1, Value.int x1), (2, Value.int x2), (3, Value.long y3)] [] σ5)) ∧ (¬ (r_gl σ5 (r_gr σ5 a0 31) x2.toNatClampNeg) < 0 → (∃ n16, r_at σ (r_gr σ5 a0 32) = some (.inr (0, n16)) ∧ (vp_in x2 n16 ∧ (((r_gi σ5 (r_gr σ5 a0 32) x2.toNatClampNeg) = x1 → (∃ n20, r_at σ (r_gr σ5 a0 33) = some (.inr (0, n20)) ∧ (vp_in x2 n20 ∧ (∃ n23, r_at σ (r_gr σ5 a0 45) = some (.inr (0, n23)) ∧ (vp_in x1 n23 ∧ (((r_gi σ5 (r_gr σ5 a0 33) x2.toNatClampNeg) = (r_gi σ5 (r_gr σ5 a0 45) x1.toNatClampNeg) → (((r_gi σ5 (r_gr σ5 a0 45) x1.toNatClampNeg) = 1 → (∃ n66, r_at σ (r_gr σ5 a0 30) = some (.inr (1, n66)) ∧ (vp_in x2 n66 ∧ (((y3 + 1) < (r_gl σ5 (r_gr σ5 a0 30) x2.toNatClampNeg) → (Q σ5)) ∧ (¬ (y3 + 1) < (r_gl σ5 (r_gr σ5 a0 30) x2.toNatClampNeg) → ((0 ≤ (r_gl σ5 (r_gr σ5 a0 31) x2.toNatClampNeg) → (Q σ5)) ∧ (¬ 0 ≤ (r_gl σ5 (r_gr σ5 a0 31) x2.toNatClampNeg) → (∃ n71, r_at σ (r_gr σ5 a0 34) = some (.inr (1, n71)) ∧ (vp_in x2 n71 ∧ ((0 ≤ (r_gl σ5 (r_gr σ5 a0 34) x2.toNatClampNeg) → (Q σ5)) ∧ (¬ 0 ≤ (r_gl σ5 (r_gr σ5 a0 34) x2.toNatClampNeg) → (∃ n75, r_at σ (r_gr σ5 a0 49) = some (.inr (0, n75)) ∧ (vp_in x1 n75 ∧ (∃ Q78 : r_S → Prop, r_M l w B tX8_due [Value.ref (B + a0), Value.int x2, Value.int 2, Value.int x1, Value.int (r_gi σ5 (r_gr σ5 a0 49) x1.toNatClampNeg), Value.int 0, Value.long y3] σ5 (r_QV σ5 Q78) ∧ (∀ σ80 : r_S, Q78 σ80 → (Q σ80)))))))))))))))) ∧ (¬ (r_gi σ5 (r_gr σ5 a0 45) x1.toNatClampNeg) = 1 → (((r_gi σ5 (r_gr σ5 a0 45) x1.toNatClampNeg) = 3 → (∃ Q43 : Int32 → r_S → Prop, r_M l w B tX8_take [Value.ref (B + a0), Value.int x1, Value.int x2, Value.long y3] σ5 (r_QI σ5 Q43) ∧ (∀ (z47 : Int32) (σ45 : r_S), Q43 z47 σ45 → (∃ Q49 : Int32 → r_S → Prop, r_M l w B tX8_sends [Value.ref (B + a0), Value.int x2, Value.long y3] σ45 (r_QI σ45 Q49) ∧ (∀ (z53 : Int32) (σ51 : r_S), Q49 z53 σ51 → ((z53 = 0 → (∃ n56, r_at σ (r_gr σ51 a0 34) = some (.inr (1, n56)) ∧ (vp_in x2 n56 ∧ ((0 ≤ (r_gl σ51 (r_gr σ51 a0 34) x2.toNatClampNeg) → (Q σ51)) ∧ (¬ 0 ≤ (r_gl σ51 (r_gr σ51 a0 34) x2.toNatClampNeg) → (∃ Q60 : r_S → Prop, r_M l w B tX8_due [Value.ref (B + a0), Value.int x2, Value.int 4, Value.int x1, Value.int 0, Value.int z47, Value.long y3] σ51 (r_QV σ51 Q60) ∧ (∀ σ62 : r_S, Q60 σ62 → (Q σ62)))))))) ∧ (¬ z53 = 0 → (Q σ51)))))))) ∧ (¬ (r_gi σ5 (r_gr σ5 a0 45) x1.toNatClampNeg) = 3 → (((r_gi σ5 (r_gr σ5 a0 45) x1.toNatClampNeg) = 2 → (∀ σ31 : r_S, σ31 = r_ul σ5 (r_gr σ5 a0 31) (x2.toNatClampNeg) (-1) → (∃ n34, r_at σ (r_gr σ31 a0 44) = some (.inr (0, n34)) ∧ (vp_in x2 n34 ∧ (∃ Q37 : r_S → Prop, r_M l w B tX8_due [Value.ref (B + a0), Value.int x2, Value.int 3, Value.int x1, Value.int (r_gi σ31 (r_gr σ31 a0 44) x2.toNatClampNeg), Value.int 0, Value.long y3] σ31 (r_QV σ31 Q37) ∧ (∀ σ39 : r_S, Q37 σ39 → (Q σ39))))))) ∧ (¬ (r_gi σ5 (r_gr σ5 a0 45) x1.toNatClampNeg) = 2 → (r_W X w B 7 0 0 (r_Z X w B tX8_receive (r_QV σ0 Q)) 260 [(0, Value.ref (B + a0)), (1, Value.int x1), (2, Value.int x2), (3, Value.long y3), (5, Value.int 1)] [] σ5)))))))) ∧ (¬ (r_gi σ5 (r_gr σ5 a0 33) x2.toNatClampNeg) = (r_gi σ5 (r_gr σ5 a0 45) x1.toNatClampNeg) → (r_W X w B 7 0 0 (r_Z X w B tX8_receive (r_QV σ0 Q)) 99 [(0, Value.ref (B + a0)), (1, Value.int x1), (2, Value.int x2), (3, Value.long y3)] [] σ5)))))))) ∧ (¬ (r_gi σ5 (r_gr σ5 a0 32) x2.toNatClampNeg) = x1 → (r_W X w B 7 0 0 (r_Z X w B tX8_receive (r_QV σ0 Q)) 99 [(0, Value.ref (B + a0)), (1, Value.int x1), (2, Value.int x2), (3, Value.long y3)] [] σ5)))))))))) ∧ (¬ (r_gi σ5 (r_gr σ5 a0 46) x1.toNatClampNeg) = x2 → (∃ Q84 : Int32 → r_S → Prop, r_M l w B tX8_left [Value.ref (B + a0), Value.int x1] σ5 (r_QI σ5 Q84) ∧ (∀ (z88 : Int32) (σ86 : r_S), Q84 z88 σ86 → (∀ y90 : Int64, y90 = (y3 + 1) + z88.toInt64 → (∃ n92, r_at σ (r_gr σ86 a0 30) = some (.inr (1, n92)) ∧ (vp_in x2 n92 ∧ ((y90 ≤ (r_gl σ86 (r_gr σ86 a0 30) x2.toNatClampNeg) → (∀ σ96 : r_S, σ96 = r_ul σ86 (r_gr σ86 a0 30) (x2.toNatClampNeg) (r_gl σ86 (r_gr σ86 a0 30) x2.toNatClampNeg) → (Q σ96))) ∧ (¬ y90 ≤ (r_gl σ86 (r_gr σ86 a0 30) x2.toNatClampNeg) → (∀ σ99 : r_S, σ99 = r_ul σ86 (r_gr σ86 a0 30) (x2.toNatClampNeg) y90 → (Q σ99))))))))))))))))) :
    r_W X w B 7 0 0 (r_Z X w B tX8_receive (r_QV σ0 Q)) 0 [(0, Value.ref (B + a0)), (1, Value.int x1), (2, Value.int x2), (3, Value.long y3)] [] σ := by
  refine r_aload_n C dX8_receive_0 rfl (j := 0) rfl ?_
  obtain ⟨g1, h⟩ := h
  obtain ⟨n2, g3, h⟩ := h
  refine r_getR C (r_atT rfl g1) fa_X8_109 rfl (r_atN g3) dX8_receive_1 ?_
  refine r_iload_n C dX8_receive_4 rfl (j := 2) rfl ?_
  refine r_lload_n C dX8_receive_5 rfl (j := 3) rfl ?_
  obtain ⟨g4, h⟩ := h
  refine r_last C (r_atT rfl g3) ⟨rfl, fun _ => rfl⟩ g4 dX8_receive_6 ?_
  refine r_nam (fun σ5 e6 => ?_)
  have h := h σ5 e6
  have s7 : σ5.1 = σ.1 := by rw [e6]; exact rfl
  refine r_aload_n C dX8_receive_7 rfl (j := 0) rfl ?_
  obtain ⟨n8, g9, h⟩ := h
  refine r_getR C (r_atT s7 g1) fa_X8_127 rfl (r_atN g9) dX8_receive_8 ?_
  refine r_iload_n C dX8_receive_11 rfl (j := 1) rfl ?_
  obtain ⟨g10, h⟩ := h
  refine r_iald C (r_atT s7 g9) ⟨rfl, fun _ => rfl⟩ g10 dX8_receive_12 ?_
  refine r_iload_n C dX8_receive_13 rfl (j := 2) rfl ?_
  refine r_icmp_eq (tgt := 59) C dX8_receive_14 (by decide) (fun c11 => ?_) (fun c11 => ?_)
  · have h := h.1 c11
    refine r_aload_n C dX8_receive_59 rfl (j := 0) rfl ?_
    obtain ⟨n12, g13, h⟩ := h
    refine r_getR C (r_atT s7 g1) fa_X8_82 rfl (r_atN g13) dX8_receive_60 ?_
    refine r_iload_n C dX8_receive_63 rfl (j := 2) rfl ?_
    obtain ⟨g14, h⟩ := h
    refine r_lald C (r_atT s7 g13) ⟨rfl, fun _ => rfl⟩ g14 dX8_receive_64 ?_
    refine r_lconst (v := 0) C dX8_receive_65 (by decide) ?_
    refine r_lcmp C dX8_receive_66 ?_
    refine r_if_lt (tgt := 99) C dX8_receive_67 (by decide) (fun c15 => ?_) (fun c15 => ?_)
    · have h := h.1 (lgc_lt.mp c15)
      exact r_loc (by simp) h
    · have h := h.2 (fun q => c15 (lgc_lt.mpr q))
      refine r_aload_n C dX8_receive_70 rfl (j := 0) rfl ?_
      obtain ⟨n16, g17, h⟩ := h
      refine r_getR C (r_atT s7 g1) fa_X8_85 rfl (r_atN g17) dX8_receive_71 ?_
      refine r_iload_n C dX8_receive_74 rfl (j := 2) rfl ?_
      obtain ⟨g18, h⟩ := h
      refine r_iald C (r_atT s7 g17) ⟨rfl, fun _ => rfl⟩ g18 dX8_receive_75 ?_
      refine r_iload_n C dX8_receive_76 rfl (j := 1) rfl ?_
      refine r_icmp_ne (tgt := 99) C dX8_receive_77 (by decide) (fun c19 => ?_) (fun c19 => ?_)
      · have h := h.2 c19
        exact r_loc (by simp) h
      · have h := h.1 c19
        refine r_aload_n C dX8_receive_80 rfl (j := 0) rfl ?_
        obtain ⟨n20, g21, h⟩ := h
        refine r_getR C (r_atT s7 g1) fa_X8_88 rfl (r_atN g21) dX8_receive_81 ?_
        refine r_iload_n C dX8_receive_84 rfl (j := 2) rfl ?_
        obtain ⟨g22, h⟩ := h
        refine r_iald C (r_atT s7 g21) ⟨rfl, fun _ => rfl⟩ g22 dX8_receive_85 ?_
        refine r_aload_n C dX8_receive_86 rfl (j := 0) rfl ?_
        obtain ⟨n23, g24, h⟩ := h
        refine r_getR C (r_atT s7 g1) fa_X8_124 rfl (r_atN g24) dX8_receive_87 ?_
        refine r_iload_n C dX8_receive_90 rfl (j := 1) rfl ?_
        obtain ⟨g25, h⟩ := h
        refine r_iald C (r_atT s7 g24) ⟨rfl, fun _ => rfl⟩ g25 dX8_receive_91 ?_
        refine r_icmp_ne (tgt := 99) C dX8_receive_92 (by decide) (fun c26 => ?_) (fun c26 => ?_)
        · have h := h.2 c26
          exact r_loc (by simp) h
        · have h := h.1 c26
          refine r_iconst (v := 1) C dX8_receive_95 (by decide) ?_
          refine r_goto (tgt := 100) C dX8_receive_96 (by decide) ?_
          refine r_istore (lv' := [(5, Value.int 1), (0, Value.ref (B + a0)), (1, Value.int x1), (2, Value.int x2), (3, Value.long y3)]) C dX8_receive_100 (by decide) rfl ?_
          refine r_aload_n C dX8_receive_102 rfl (j := 1) rfl ?_
          refine r_getR C (r_atT s7 g1) fa_X8_124 rfl (r_atN g24) dX8_receive_103 ?_
          refine r_iload_n C dX8_receive_106 rfl (j := 2) rfl ?_
          refine r_iald C (r_atT s7 g24) ⟨rfl, fun _ => rfl⟩ g25 dX8_receive_107 ?_
          refine r_iconst (v := 1) C dX8_receive_108 (by decide) ?_
          refine r_icmp_ne (tgt := 165) C dX8_receive_109 (by decide) (fun c27 => ?_) (fun c27 => ?_)
          · have h := h.2 c27
            refine r_aload_n C dX8_receive_165 rfl (j := 1) rfl ?_
            refine r_getR C (r_atT s7 g1) fa_X8_124 rfl (r_atN g24) dX8_receive_166 ?_
            refine r_iload_n C dX8_receive_169 rfl (j := 2) rfl ?_
            refine r_iald C (r_atT s7 g24) ⟨rfl, fun _ => rfl⟩ g25 dX8_receive_170 ?_
            refine r_iconst (v := 3) C dX8_receive_171 (by decide) ?_
            refine r_icmp_ne (tgt := 218) C dX8_receive_172 (by decide) (fun c28 => ?_) (fun c28 => ?_)
            · have h := h.2 c28
              refine r_iload C dX8_receive_218 (j := 0) rfl ?_
              refine r_if_eq (tgt := 260) C dX8_receive_220 (by decide) (fun c29 => ?_) (fun c29 => ?_)
              · exact absurd c29 (by decide)
              · skip
                refine r_aload_n C dX8_receive_223 rfl (j := 1) rfl ?_
                refine r_getR C (r_atT s7 g1) fa_X8_124 rfl (r_atN g24) dX8_receive_224 ?_
                refine r_iload_n C dX8_receive_227 rfl (j := 2) rfl ?_
                refine r_iald C (r_atT s7 g24) ⟨rfl, fun _ => rfl⟩ g25 dX8_receive_228 ?_
                refine r_iconst (v := 2) C dX8_receive_229 (by decide) ?_
                refine r_icmp_ne (tgt := 260) C dX8_receive_230 (by decide) (fun c30 => ?_) (fun c30 => ?_)
                · have h := h.2 c30
                  exact r_loc (by simp) h
                · have h := h.1 c30
                  refine r_aload_n C dX8_receive_233 rfl (j := 1) rfl ?_
                  refine r_getR C (r_atT s7 g1) fa_X8_82 rfl (r_atN g13) dX8_receive_234 ?_
                  refine r_iload_n C dX8_receive_237 rfl (j := 3) rfl ?_
                  refine r_ldc2 (v := (-1)) C kj_X8_148 dX8_receive_238 ?_
                  refine r_last C (r_atT s7 g13) ⟨rfl, fun _ => rfl⟩ g14 dX8_receive_241 ?_
                  refine r_nam (fun σ31 e32 => ?_)
                  have h := h σ31 e32
                  have s33 : σ31.1 = σ.1 := by rw [e32]; exact s7
                  refine r_aload_n C dX8_receive_242 rfl (j := 1) rfl ?_
                  refine r_iload_n C dX8_receive_243 rfl (j := 3) rfl ?_
                  refine r_iconst (v := 3) C dX8_receive_244 (by decide) ?_
                  refine r_iload_n C dX8_receive_245 rfl (j := 2) rfl ?_
                  refine r_aload_n C dX8_receive_246 rfl (j := 1) rfl ?_
                  obtain ⟨n34, g35, h⟩ := h
                  refine r_getR C (r_atT s33 g1) fa_X8_121 rfl (r_atN g35) dX8_receive_247 ?_
                  refine r_iload_n C dX8_receive_250 rfl (j := 3) rfl ?_
                  obtain ⟨g36, h⟩ := h
                  refine r_iald C (r_atT s33 g35) ⟨rfl, fun _ => rfl⟩ g36 dX8_receive_251 ?_
                  refine r_iconst (v := 0) C dX8_receive_252 (by decide) ?_
                  refine r_lload_n C dX8_receive_253 rfl (j := 4) rfl ?_
                  obtain ⟨Q37, m38, h⟩ := h
                  refine r_callVV (rest := []) C E [Value.int x2, Value.int 3, Value.int x1, Value.int (r_gi σ31 (r_gr σ31 a0 44) x2.toNatClampNeg), Value.int 0, Value.long y3] (r_atT s33 g1) rfl ky_X8_due kl_X8_224 ki_X8_due kx_X8_due ⟨Nat.le_of_ble_eq_true rfl, Nat.le_of_ble_eq_true rfl⟩ ⟨rfl, rfl⟩ m38 rfl rfl (Nat.le_of_ble_eq_true rfl) (Nat.zero_le _) (Nat.zero_le _) dX8_receive_254 (fun σ39 s40 q42 => ?_)
                  have h := h σ39 q42
                  have s40 := s40.trans s33
                  refine r_goto (tgt := 277) C dX8_receive_257 (by decide) ?_
                  exact r_vretQ C E rfl (Nat.zero_le _) (Nat.zero_le _) dX8_receive_277 (s40.trans hs) h
            · have h := h.1 c28
              refine r_aload_n C dX8_receive_175 rfl (j := 1) rfl ?_
              refine r_iload_n C dX8_receive_176 rfl (j := 2) rfl ?_
              refine r_iload_n C dX8_receive_177 rfl (j := 3) rfl ?_
              refine r_lload_n C dX8_receive_178 rfl (j := 4) rfl ?_
              obtain ⟨Q43, m44, h⟩ := h
              refine r_callVI (rest := []) C E [Value.int x1, Value.int x2, Value.long y3] (r_atT s7 g1) rfl ky_X8_take kl_X8_227 ki_X8_take kx_X8_take ⟨Nat.le_of_ble_eq_true rfl, Nat.le_of_ble_eq_true rfl⟩ ⟨rfl, rfl⟩ m44 rfl rfl (Nat.le_of_ble_eq_true rfl) (Nat.zero_le _) (Nat.zero_le _) dX8_receive_179 (fun z47 σ45 s46 q48 => ?_)
              have h := h z47 σ45 q48
              have s46 := s46.trans s7
              refine r_istore (lv' := [(6, Value.int z47), (5, Value.int 1), (0, Value.ref (B + a0)), (1, Value.int x1), (2, Value.int x2), (3, Value.long y3)]) C dX8_receive_182 (by decide) rfl ?_
              refine r_aload_n C dX8_receive_184 rfl (j := 2) rfl ?_
              refine r_iload_n C dX8_receive_185 rfl (j := 4) rfl ?_
              refine r_lload_n C dX8_receive_186 rfl (j := 5) rfl ?_
              obtain ⟨Q49, m50, h⟩ := h
              refine r_callVI (rest := []) C E [Value.int x2, Value.long y3] (r_atT s46 g1) rfl ky_X8_sends kl_X8_198 ki_X8_sends kx_X8_sends ⟨Nat.le_of_ble_eq_true rfl, Nat.le_of_ble_eq_true rfl⟩ ⟨rfl, rfl⟩ m50 rfl rfl (Nat.le_of_ble_eq_true rfl) (Nat.zero_le _) (Nat.zero_le _) dX8_receive_187 (fun z53 σ51 s52 q54 => ?_)
              have h := h z53 σ51 q54
              have s52 := s52.trans s46
              refine r_if_ne (tgt := 215) C dX8_receive_190 (by decide) (fun c55 => ?_) (fun c55 => ?_)
              · have h := h.2 c55
                refine r_goto (tgt := 277) C dX8_receive_215 (by decide) ?_
                exact r_vretQ C E rfl (Nat.zero_le _) (Nat.zero_le _) dX8_receive_277 (s52.trans hs) h
              · have h := h.1 c55
                refine r_aload_n C dX8_receive_193 rfl (j := 2) rfl ?_
                obtain ⟨n56, g57, h⟩ := h
                refine r_getR C (r_atT s52 g1) fa_X8_91 rfl (r_atN g57) dX8_receive_194 ?_
                refine r_iload_n C dX8_receive_197 rfl (j := 4) rfl ?_
                obtain ⟨g58, h⟩ := h
                refine r_lald C (r_atT s52 g57) ⟨rfl, fun _ => rfl⟩ g58 dX8_receive_198 ?_
                refine r_lconst (v := 0) C dX8_receive_199 (by decide) ?_
                refine r_lcmp C dX8_receive_200 ?_
                refine r_if_ge (tgt := 215) C dX8_receive_201 (by decide) (fun c59 => ?_) (fun c59 => ?_)
                · have h := h.1 (lgc_ge.mp c59)
                  refine r_goto (tgt := 277) C dX8_receive_215 (by decide) ?_
                  exact r_vretQ C E rfl (Nat.zero_le _) (Nat.zero_le _) dX8_receive_277 (s52.trans hs) h
                · have h := h.2 (fun q => c59 (lgc_ge.mpr q))
                  refine r_aload_n C dX8_receive_204 rfl (j := 2) rfl ?_
                  refine r_iload_n C dX8_receive_205 rfl (j := 4) rfl ?_
                  refine r_iconst (v := 4) C dX8_receive_206 (by decide) ?_
                  refine r_iload_n C dX8_receive_207 rfl (j := 3) rfl ?_
                  refine r_iconst (v := 0) C dX8_receive_208 (by decide) ?_
                  refine r_iload C dX8_receive_209 (j := 0) rfl ?_
                  refine r_lload_n C dX8_receive_211 rfl (j := 5) rfl ?_
                  obtain ⟨Q60, m61, h⟩ := h
                  refine r_callVV (rest := []) C E [Value.int x2, Value.int 4, Value.int x1, Value.int 0, Value.int z47, Value.long y3] (r_atT s52 g1) rfl ky_X8_due kl_X8_224 ki_X8_due kx_X8_due ⟨Nat.le_of_ble_eq_true rfl, Nat.le_of_ble_eq_true rfl⟩ ⟨rfl, rfl⟩ m61 rfl rfl (Nat.le_of_ble_eq_true rfl) (Nat.zero_le _) (Nat.zero_le _) dX8_receive_212 (fun σ62 s63 q65 => ?_)
                  have h := h σ62 q65
                  have s63 := s63.trans s52
                  refine r_goto (tgt := 277) C dX8_receive_215 (by decide) ?_
                  exact r_vretQ C E rfl (Nat.zero_le _) (Nat.zero_le _) dX8_receive_277 (s63.trans hs) h
          · have h := h.1 c27
            refine r_aload_n C dX8_receive_112 rfl (j := 1) rfl ?_
            obtain ⟨n66, g67, h⟩ := h
            refine r_getR C (r_atT s7 g1) fa_X8_79 rfl (r_atN g67) dX8_receive_113 ?_
            refine r_iload_n C dX8_receive_116 rfl (j := 3) rfl ?_
            obtain ⟨g68, h⟩ := h
            refine r_lald C (r_atT s7 g67) ⟨rfl, fun _ => rfl⟩ g68 dX8_receive_117 ?_
            refine r_lload_n C dX8_receive_118 rfl (j := 4) rfl ?_
            refine r_lconst (v := 1) C dX8_receive_119 (by decide) ?_
            refine r_ladd C dX8_receive_120 ?_
            refine r_lcmp C dX8_receive_121 ?_
            refine r_if_gt (tgt := 277) C dX8_receive_122 (by decide) (fun c69 => ?_) (fun c69 => ?_)
            · have h := h.1 (lgc_gt.mp c69)
              exact r_vretQ C E rfl (Nat.zero_le _) (Nat.zero_le _) dX8_receive_277 (s7.trans hs) h
            · have h := h.2 (fun q => c69 (lgc_gt.mpr q))
              refine r_aload_n C dX8_receive_125 rfl (j := 1) rfl ?_
              refine r_getR C (r_atT s7 g1) fa_X8_82 rfl (r_atN g13) dX8_receive_126 ?_
              refine r_iload_n C dX8_receive_129 rfl (j := 3) rfl ?_
              refine r_lald C (r_atT s7 g13) ⟨rfl, fun _ => rfl⟩ g14 dX8_receive_130 ?_
              refine r_lconst (v := 0) C dX8_receive_131 (by decide) ?_
              refine r_lcmp C dX8_receive_132 ?_
              refine r_if_ge (tgt := 277) C dX8_receive_133 (by decide) (fun c70 => ?_) (fun c70 => ?_)
              · have h := h.1 (lgc_ge.mp c70)
                exact r_vretQ C E rfl (Nat.zero_le _) (Nat.zero_le _) dX8_receive_277 (s7.trans hs) h
              · have h := h.2 (fun q => c70 (lgc_ge.mpr q))
                refine r_aload_n C dX8_receive_136 rfl (j := 1) rfl ?_
                obtain ⟨n71, g72, h⟩ := h
                refine r_getR C (r_atT s7 g1) fa_X8_91 rfl (r_atN g72) dX8_receive_137 ?_
                refine r_iload_n C dX8_receive_140 rfl (j := 3) rfl ?_
                obtain ⟨g73, h⟩ := h
                refine r_lald C (r_atT s7 g72) ⟨rfl, fun _ => rfl⟩ g73 dX8_receive_141 ?_
                refine r_lconst (v := 0) C dX8_receive_142 (by decide) ?_
                refine r_lcmp C dX8_receive_143 ?_
                refine r_if_ge (tgt := 277) C dX8_receive_144 (by decide) (fun c74 => ?_) (fun c74 => ?_)
                · have h := h.1 (lgc_ge.mp c74)
                  exact r_vretQ C E rfl (Nat.zero_le _) (Nat.zero_le _) dX8_receive_277 (s7.trans hs) h
                · have h := h.2 (fun q => c74 (lgc_ge.mpr q))
                  refine r_aload_n C dX8_receive_147 rfl (j := 1) rfl ?_
                  refine r_iload_n C dX8_receive_148 rfl (j := 3) rfl ?_
                  refine r_iconst (v := 2) C dX8_receive_149 (by decide) ?_
                  refine r_iload_n C dX8_receive_150 rfl (j := 2) rfl ?_
                  refine r_aload_n C dX8_receive_151 rfl (j := 1) rfl ?_
                  obtain ⟨n75, g76, h⟩ := h
                  refine r_getR C (r_atT s7 g1) fa_X8_136 rfl (r_atN g76) dX8_receive_152 ?_
                  refine r_iload_n C dX8_receive_155 rfl (j := 2) rfl ?_
                  obtain ⟨g77, h⟩ := h
                  refine r_iald C (r_atT s7 g76) ⟨rfl, fun _ => rfl⟩ g77 dX8_receive_156 ?_
                  refine r_iconst (v := 0) C dX8_receive_157 (by decide) ?_
                  refine r_lload_n C dX8_receive_158 rfl (j := 4) rfl ?_
                  obtain ⟨Q78, m79, h⟩ := h
                  refine r_callVV (rest := []) C E [Value.int x2, Value.int 2, Value.int x1, Value.int (r_gi σ5 (r_gr σ5 a0 49) x1.toNatClampNeg), Value.int 0, Value.long y3] (r_atT s7 g1) rfl ky_X8_due kl_X8_224 ki_X8_due kx_X8_due ⟨Nat.le_of_ble_eq_true rfl, Nat.le_of_ble_eq_true rfl⟩ ⟨rfl, rfl⟩ m79 rfl rfl (Nat.le_of_ble_eq_true rfl) (Nat.zero_le _) (Nat.zero_le _) dX8_receive_159 (fun σ80 s81 q83 => ?_)
                  have h := h σ80 q83
                  have s81 := s81.trans s7
                  refine r_goto (tgt := 277) C dX8_receive_162 (by decide) ?_
                  exact r_vretQ C E rfl (Nat.zero_le _) (Nat.zero_le _) dX8_receive_277 (s81.trans hs) h
  · have h := h.2 c11
    refine r_lload_n C dX8_receive_17 rfl (j := 3) rfl ?_
    refine r_lconst (v := 1) C dX8_receive_18 (by decide) ?_
    refine r_ladd C dX8_receive_19 ?_
    refine r_aload_n C dX8_receive_20 rfl (j := 0) rfl ?_
    refine r_iload_n C dX8_receive_21 rfl (j := 1) rfl ?_
    obtain ⟨Q84, m85, h⟩ := h
    refine r_callVI (rest := [Value.long (y3 + 1)]) C E [Value.int x1] (r_atT s7 g1) rfl ky_X8_left kl_X8_221 ki_X8_left kx_X8_left ⟨Nat.le_of_ble_eq_true rfl, Nat.le_of_ble_eq_true rfl⟩ ⟨rfl, rfl⟩ m85 rfl rfl (Nat.le_of_ble_eq_true rfl) (Nat.zero_le _) (Nat.zero_le _) dX8_receive_22 (fun z88 σ86 s87 q89 => ?_)
    have h := h z88 σ86 q89
    have s87 := s87.trans s7
    refine r_i2l (v := z88.toInt64) C dX8_receive_25 rfl ?_
    refine r_ladd C dX8_receive_26 ?_
    refine r_topl (fun y90 e91 => ?_)
    have h := h y90 e91
    refine r_lstore (lv' := [(5, Value.long y90), (0, Value.ref (B + a0)), (1, Value.int x1), (2, Value.int x2), (3, Value.long y3)]) C dX8_receive_27 (by decide) rfl ?_
    refine r_aload_n C dX8_receive_29 rfl (j := 1) rfl ?_
    obtain ⟨n92, g93, h⟩ := h
    refine r_getR C (r_atT s87 g1) fa_X8_79 rfl (r_atN g93) dX8_receive_30 ?_
    refine r_iload_n C dX8_receive_33 rfl (j := 3) rfl ?_
    refine r_lload C dX8_receive_34 (j := 0) rfl ?_
    refine r_aload_n C dX8_receive_36 rfl (j := 1) rfl ?_
    refine r_getR C (r_atT s87 g1) fa_X8_79 rfl (r_atN g93) dX8_receive_37 ?_
    refine r_iload_n C dX8_receive_40 rfl (j := 3) rfl ?_
    obtain ⟨g94, h⟩ := h
    refine r_lald C (r_atT s87 g93) ⟨rfl, fun _ => rfl⟩ g94 dX8_receive_41 ?_
    refine r_lcmp C dX8_receive_42 ?_
    refine r_if_le (tgt := 51) C dX8_receive_43 (by decide) (fun c95 => ?_) (fun c95 => ?_)
    · have h := h.1 (lgc_le.mp c95)
      refine r_aload_n C dX8_receive_51 rfl (j := 1) rfl ?_
      refine r_getR C (r_atT s87 g1) fa_X8_79 rfl (r_atN g93) dX8_receive_52 ?_
      refine r_iload_n C dX8_receive_55 rfl (j := 3) rfl ?_
      refine r_lald C (r_atT s87 g93) ⟨rfl, fun _ => rfl⟩ g94 dX8_receive_56 ?_
      refine r_last C (r_atT s87 g93) ⟨rfl, fun _ => rfl⟩ g94 dX8_receive_57 ?_
      refine r_nam (fun σ96 e97 => ?_)
      have h := h σ96 e97
      have s98 : σ96.1 = σ.1 := by rw [e97]; exact s87
      exact r_vretQ C E rfl (Nat.zero_le _) (Nat.zero_le _) dX8_receive_58 (s98.trans hs) h
    · have h := h.2 (fun q => c95 (lgc_le.mpr q))
      refine r_lload C dX8_receive_46 (j := 0) rfl ?_
      refine r_goto (tgt := 57) C dX8_receive_48 (by decide) ?_
      refine r_last C (r_atT s87 g93) ⟨rfl, fun _ => rfl⟩ g94 dX8_receive_57 ?_
      refine r_nam (fun σ99 e100 => ?_)
      have h := h σ99 e100
      have s101 : σ99.1 = σ.1 := by rw [e100]; exact s87
      exact r_vretQ C E rfl (Nat.zero_le _) (Nat.zero_le _) dX8_receive_58 (s101.trans hs) h
theorem w_X8_receive_99 {X : r_X} {w : r_V} {B : Nat} {l : Launch} {Q : r_S → Prop} {σ0 : r_S} (C : r_C X w B 7 cX8_receive RX8) (E : r_E X l tX8_receive) {σ : r_S} (hs : σ.1 = σ0.1) {a0 : Nat} {x1 x2 : Int32} {y3 : Int64}
    (h : r_at σ a0 = some (.inl 8) ∧ (∃ n2, r_at σ (r_gr σ a0 45) = some (.inr (0, n2)) ∧ (vp_in x1 n2 ∧ (((r_gi σ (r_gr σ a0 45) x1.toNatClampNeg) = 1 → (∃ n31, r_at σ (r_gr σ a0 30) = some (.inr (1, n31)) ∧ (vp_in x2 n31 ∧ (((y3 + 1) < (r_gl σ (r_gr σ a0 30) x2.toNatClampNeg) → (Q σ)) ∧ (¬ (y3 + 1) < (r_gl σ (r_gr σ a0 30) x2.toNatClampNeg) → (∃ n35, r_at σ (r_gr σ a0 31) = some (.inr (1, n35)) ∧ (vp_in x2 n35 ∧ ((0 ≤ (r_gl σ (r_gr σ a0 31) x2.toNatClampNeg) → (Q σ)) ∧ (¬ 0 ≤ (r_gl σ (r_gr σ a0 31) x2.toNatClampNeg) → (∃ n39, r_at σ (r_gr σ a0 34) = some (.inr (1, n39)) ∧ (vp_in x2 n39 ∧ ((0 ≤ (r_gl σ (r_gr σ a0 34) x2.toNatClampNeg) → (Q σ)) ∧ (¬ 0 ≤ (r_gl σ (r_gr σ a0 34) x2.toNatClampNeg) → (∃ n43, r_at σ (r_gr σ a0 49) = some (.inr (0, n43)) ∧ (vp_in x1 n43 ∧ (∃ Q46 : r_S → Prop, r_M l w B tX8_due [Value.ref (B + a0), Value.int x2, Value.int 2, Value.int x1, Value.int (r_gi σ (r_gr σ a0 49) x1.toNatClampNeg), Value.int 0, Value.long y3] σ (r_QV σ Q46) ∧ (∀ σ48 : r_S, Q46 σ48 → (Q σ48)))))))))))))))))) ∧ (¬ (r_gi σ (r_gr σ a0 45) x1.toNatClampNeg) = 1 → (((r_gi σ (r_gr σ a0 45) x1.toNatClampNeg) = 3 → (∃ Q8 : Int32 → r_S → Prop, r_M l w B tX8_take [Value.ref (B + a0), Value.int x1, Value.int x2, Value.long y3] σ (r_QI σ Q8) ∧ (∀ (z12 : Int32) (σ10 : r_S), Q8 z12 σ10 → (∃ Q14 : Int32 → r_S → Prop, r_M l w B tX8_sends [Value.ref (B + a0), Value.int x2, Value.long y3] σ10 (r_QI σ10 Q14) ∧ (∀ (z18 : Int32) (σ16 : r_S), Q14 z18 σ16 → ((z18 = 0 → (∃ n21, r_at σ (r_gr σ16 a0 34) = some (.inr (1, n21)) ∧ (vp_in x2 n21 ∧ ((0 ≤ (r_gl σ16 (r_gr σ16 a0 34) x2.toNatClampNeg) → (Q σ16)) ∧ (¬ 0 ≤ (r_gl σ16 (r_gr σ16 a0 34) x2.toNatClampNeg) → (∃ Q25 : r_S → Prop, r_M l w B tX8_due [Value.ref (B + a0), Value.int x2, Value.int 4, Value.int x1, Value.int 0, Value.int z12, Value.long y3] σ16 (r_QV σ16 Q25) ∧ (∀ σ27 : r_S, Q25 σ27 → (Q σ27)))))))) ∧ (¬ z18 = 0 → (Q σ16)))))))) ∧ (¬ (r_gi σ (r_gr σ a0 45) x1.toNatClampNeg) = 3 → (r_W X w B 7 0 0 (r_Z X w B tX8_receive (r_QV σ0 Q)) 260 [(0, Value.ref (B + a0)), (1, Value.int x1), (2, Value.int x2), (3, Value.long y3), (5, Value.int 0)] [] σ)))))))) :
    r_W X w B 7 0 0 (r_Z X w B tX8_receive (r_QV σ0 Q)) 99 [(0, Value.ref (B + a0)), (1, Value.int x1), (2, Value.int x2), (3, Value.long y3)] [] σ := by
  refine r_iconst (v := 0) C dX8_receive_99 (by decide) ?_
  refine r_istore (lv' := [(5, Value.int 0), (0, Value.ref (B + a0)), (1, Value.int x1), (2, Value.int x2), (3, Value.long y3)]) C dX8_receive_100 (by decide) rfl ?_
  refine r_aload_n C dX8_receive_102 rfl (j := 1) rfl ?_
  obtain ⟨g1, h⟩ := h
  obtain ⟨n2, g3, h⟩ := h
  refine r_getR C (r_atT rfl g1) fa_X8_124 rfl (r_atN g3) dX8_receive_103 ?_
  refine r_iload_n C dX8_receive_106 rfl (j := 2) rfl ?_
  obtain ⟨g4, h⟩ := h
  refine r_iald C (r_atT rfl g3) ⟨rfl, fun _ => rfl⟩ g4 dX8_receive_107 ?_
  refine r_iconst (v := 1) C dX8_receive_108 (by decide) ?_
  refine r_icmp_ne (tgt := 165) C dX8_receive_109 (by decide) (fun c5 => ?_) (fun c5 => ?_)
  · have h := h.2 c5
    refine r_aload_n C dX8_receive_165 rfl (j := 1) rfl ?_
    refine r_getR C (r_atT rfl g1) fa_X8_124 rfl (r_atN g3) dX8_receive_166 ?_
    refine r_iload_n C dX8_receive_169 rfl (j := 2) rfl ?_
    refine r_iald C (r_atT rfl g3) ⟨rfl, fun _ => rfl⟩ g4 dX8_receive_170 ?_
    refine r_iconst (v := 3) C dX8_receive_171 (by decide) ?_
    refine r_icmp_ne (tgt := 218) C dX8_receive_172 (by decide) (fun c6 => ?_) (fun c6 => ?_)
    · have h := h.2 c6
      refine r_iload C dX8_receive_218 (j := 0) rfl ?_
      refine r_if_eq (tgt := 260) C dX8_receive_220 (by decide) (fun c7 => ?_) (fun c7 => ?_)
      · skip
        exact r_loc (by simp) h
      · exact absurd (by decide) c7
    · have h := h.1 c6
      refine r_aload_n C dX8_receive_175 rfl (j := 1) rfl ?_
      refine r_iload_n C dX8_receive_176 rfl (j := 2) rfl ?_
      refine r_iload_n C dX8_receive_177 rfl (j := 3) rfl ?_
      refine r_lload_n C dX8_receive_178 rfl (j := 4) rfl ?_
      obtain ⟨Q8, m9, h⟩ := h
      refine r_callVI (rest := []) C E [Value.int x1, Value.int x2, Value.long y3] (r_atT rfl g1) rfl ky_X8_take kl_X8_227 ki_X8_take kx_X8_take ⟨Nat.le_of_ble_eq_true rfl, Nat.le_of_ble_eq_true rfl⟩ ⟨rfl, rfl⟩ m9 rfl rfl (Nat.le_of_ble_eq_true rfl) (Nat.zero_le _) (Nat.zero_le _) dX8_receive_179 (fun z12 σ10 s11 q13 => ?_)
      have h := h z12 σ10 q13
      have s11 := s11.trans rfl
      refine r_istore (lv' := [(6, Value.int z12), (5, Value.int 0), (0, Value.ref (B + a0)), (1, Value.int x1), (2, Value.int x2), (3, Value.long y3)]) C dX8_receive_182 (by decide) rfl ?_
      refine r_aload_n C dX8_receive_184 rfl (j := 2) rfl ?_
      refine r_iload_n C dX8_receive_185 rfl (j := 4) rfl ?_
      refine r_lload_n C dX8_receive_186 rfl (j := 5) rfl ?_
      obtain ⟨Q14, m15, h⟩ := h
      refine r_callVI (rest := []) C E [Value.int x2, Value.long y3] (r_atT s11 g1) rfl ky_X8_sends kl_X8_198 ki_X8_sends kx_X8_sends ⟨Nat.le_of_ble_eq_true rfl, Nat.le_of_ble_eq_true rfl⟩ ⟨rfl, rfl⟩ m15 rfl rfl (Nat.le_of_ble_eq_true rfl) (Nat.zero_le _) (Nat.zero_le _) dX8_receive_187 (fun z18 σ16 s17 q19 => ?_)
      have h := h z18 σ16 q19
      have s17 := s17.trans s11
      refine r_if_ne (tgt := 215) C dX8_receive_190 (by decide) (fun c20 => ?_) (fun c20 => ?_)
      · have h := h.2 c20
        refine r_goto (tgt := 277) C dX8_receive_215 (by decide) ?_
        exact r_vretQ C E rfl (Nat.zero_le _) (Nat.zero_le _) dX8_receive_277 (s17.trans hs) h
      · have h := h.1 c20
        refine r_aload_n C dX8_receive_193 rfl (j := 2) rfl ?_
        obtain ⟨n21, g22, h⟩ := h
        refine r_getR C (r_atT s17 g1) fa_X8_91 rfl (r_atN g22) dX8_receive_194 ?_
        refine r_iload_n C dX8_receive_197 rfl (j := 4) rfl ?_
        obtain ⟨g23, h⟩ := h
        refine r_lald C (r_atT s17 g22) ⟨rfl, fun _ => rfl⟩ g23 dX8_receive_198 ?_
        refine r_lconst (v := 0) C dX8_receive_199 (by decide) ?_
        refine r_lcmp C dX8_receive_200 ?_
        refine r_if_ge (tgt := 215) C dX8_receive_201 (by decide) (fun c24 => ?_) (fun c24 => ?_)
        · have h := h.1 (lgc_ge.mp c24)
          refine r_goto (tgt := 277) C dX8_receive_215 (by decide) ?_
          exact r_vretQ C E rfl (Nat.zero_le _) (Nat.zero_le _) dX8_receive_277 (s17.trans hs) h
        · have h := h.2 (fun q => c24 (lgc_ge.mpr q))
          refine r_aload_n C dX8_receive_204 rfl (j := 2) rfl ?_
          refine r_iload_n C dX8_receive_205 rfl (j := 4) rfl ?_
          refine r_iconst (v := 4) C dX8_receive_206 (by decide) ?_
          refine r_iload_n C dX8_receive_207 rfl (j := 3) rfl ?_
          refine r_iconst (v := 0) C dX8_receive_208 (by decide) ?_
          refine r_iload C dX8_receive_209 (j := 0) rfl ?_
          refine r_lload_n C dX8_receive_211 rfl (j := 5) rfl ?_
          obtain ⟨Q25, m26, h⟩ := h
          refine r_callVV (rest := []) C E [Value.int x2, Value.int 4, Value.int x1, Value.int 0, Value.int z12, Value.long y3] (r_atT s17 g1) rfl ky_X8_due kl_X8_224 ki_X8_due kx_X8_due ⟨Nat.le_of_ble_eq_true rfl, Nat.le_of_ble_eq_true rfl⟩ ⟨rfl, rfl⟩ m26 rfl rfl (Nat.le_of_ble_eq_true rfl) (Nat.zero_le _) (Nat.zero_le _) dX8_receive_212 (fun σ27 s28 q30 => ?_)
          have h := h σ27 q30
          have s28 := s28.trans s17
          refine r_goto (tgt := 277) C dX8_receive_215 (by decide) ?_
          exact r_vretQ C E rfl (Nat.zero_le _) (Nat.zero_le _) dX8_receive_277 (s28.trans hs) h
  · have h := h.1 c5
    refine r_aload_n C dX8_receive_112 rfl (j := 1) rfl ?_
    obtain ⟨n31, g32, h⟩ := h
    refine r_getR C (r_atT rfl g1) fa_X8_79 rfl (r_atN g32) dX8_receive_113 ?_
    refine r_iload_n C dX8_receive_116 rfl (j := 3) rfl ?_
    obtain ⟨g33, h⟩ := h
    refine r_lald C (r_atT rfl g32) ⟨rfl, fun _ => rfl⟩ g33 dX8_receive_117 ?_
    refine r_lload_n C dX8_receive_118 rfl (j := 4) rfl ?_
    refine r_lconst (v := 1) C dX8_receive_119 (by decide) ?_
    refine r_ladd C dX8_receive_120 ?_
    refine r_lcmp C dX8_receive_121 ?_
    refine r_if_gt (tgt := 277) C dX8_receive_122 (by decide) (fun c34 => ?_) (fun c34 => ?_)
    · have h := h.1 (lgc_gt.mp c34)
      exact r_vretQ C E rfl (Nat.zero_le _) (Nat.zero_le _) dX8_receive_277 ((rfl : σ.1 = σ.1).trans hs) h
    · have h := h.2 (fun q => c34 (lgc_gt.mpr q))
      refine r_aload_n C dX8_receive_125 rfl (j := 1) rfl ?_
      obtain ⟨n35, g36, h⟩ := h
      refine r_getR C (r_atT rfl g1) fa_X8_82 rfl (r_atN g36) dX8_receive_126 ?_
      refine r_iload_n C dX8_receive_129 rfl (j := 3) rfl ?_
      obtain ⟨g37, h⟩ := h
      refine r_lald C (r_atT rfl g36) ⟨rfl, fun _ => rfl⟩ g37 dX8_receive_130 ?_
      refine r_lconst (v := 0) C dX8_receive_131 (by decide) ?_
      refine r_lcmp C dX8_receive_132 ?_
      refine r_if_ge (tgt := 277) C dX8_receive_133 (by decide) (fun c38 => ?_) (fun c38 => ?_)
      · have h := h.1 (lgc_ge.mp c38)
        exact r_vretQ C E rfl (Nat.zero_le _) (Nat.zero_le _) dX8_receive_277 ((rfl : σ.1 = σ.1).trans hs) h
      · have h := h.2 (fun q => c38 (lgc_ge.mpr q))
        refine r_aload_n C dX8_receive_136 rfl (j := 1) rfl ?_
        obtain ⟨n39, g40, h⟩ := h
        refine r_getR C (r_atT rfl g1) fa_X8_91 rfl (r_atN g40) dX8_receive_137 ?_
        refine r_iload_n C dX8_receive_140 rfl (j := 3) rfl ?_
        obtain ⟨g41, h⟩ := h
        refine r_lald C (r_atT rfl g40) ⟨rfl, fun _ => rfl⟩ g41 dX8_receive_141 ?_
        refine r_lconst (v := 0) C dX8_receive_142 (by decide) ?_
        refine r_lcmp C dX8_receive_143 ?_
        refine r_if_ge (tgt := 277) C dX8_receive_144 (by decide) (fun c42 => ?_) (fun c42 => ?_)
        · have h := h.1 (lgc_ge.mp c42)
          exact r_vretQ C E rfl (Nat.zero_le _) (Nat.zero_le _) dX8_receive_277 ((rfl : σ.1 = σ.1).trans hs) h
        · have h := h.2 (fun q => c42 (lgc_ge.mpr q))
          refine r_aload_n C dX8_receive_147 rfl (j := 1) rfl ?_
          refine r_iload_n C dX8_receive_148 rfl (j := 3) rfl ?_
          refine r_iconst (v := 2) C dX8_receive_149 (by decide) ?_
          refine r_iload_n C dX8_receive_150 rfl (j := 2) rfl ?_
          refine r_aload_n C dX8_receive_151 rfl (j := 1) rfl ?_
          obtain ⟨n43, g44, h⟩ := h
          refine r_getR C (r_atT rfl g1) fa_X8_136 rfl (r_atN g44) dX8_receive_152 ?_
          refine r_iload_n C dX8_receive_155 rfl (j := 2) rfl ?_
          obtain ⟨g45, h⟩ := h
          refine r_iald C (r_atT rfl g44) ⟨rfl, fun _ => rfl⟩ g45 dX8_receive_156 ?_
          refine r_iconst (v := 0) C dX8_receive_157 (by decide) ?_
          refine r_lload_n C dX8_receive_158 rfl (j := 4) rfl ?_
          obtain ⟨Q46, m47, h⟩ := h
          refine r_callVV (rest := []) C E [Value.int x2, Value.int 2, Value.int x1, Value.int (r_gi σ (r_gr σ a0 49) x1.toNatClampNeg), Value.int 0, Value.long y3] (r_atT rfl g1) rfl ky_X8_due kl_X8_224 ki_X8_due kx_X8_due ⟨Nat.le_of_ble_eq_true rfl, Nat.le_of_ble_eq_true rfl⟩ ⟨rfl, rfl⟩ m47 rfl rfl (Nat.le_of_ble_eq_true rfl) (Nat.zero_le _) (Nat.zero_le _) dX8_receive_159 (fun σ48 s49 q51 => ?_)
          have h := h σ48 q51
          have s49 := s49.trans rfl
          refine r_goto (tgt := 277) C dX8_receive_162 (by decide) ?_
          exact r_vretQ C E rfl (Nat.zero_le _) (Nat.zero_le _) dX8_receive_277 (s49.trans hs) h
theorem w_X8_receive_260 {X : r_X} {w : r_V} {B : Nat} {l : Launch} {Q : r_S → Prop} {σ0 : r_S} (C : r_C X w B 7 cX8_receive RX8) (E : r_E X l tX8_receive) {σ : r_S} (hs : σ.1 = σ0.1) {a0 : Nat} {x1 x2 x5 : Int32} {y3 : Int64}
    (h : (x5 = 0 → (Q σ)) ∧ (¬ x5 = 0 → (r_at σ a0 = some (.inl 8) ∧ (∃ n3, r_at σ (r_gr σ a0 50) = some (.inr (0, n3)) ∧ (vp_in x1 n3 ∧ (∃ Q6 : r_S → Prop, r_M l w B tX8_acknowledged [Value.ref (B + a0), Value.int x2, Value.int (r_gi σ (r_gr σ a0 50) x1.toNatClampNeg), Value.long y3] σ (r_QV σ Q6) ∧ (∀ σ8 : r_S, Q6 σ8 → (Q σ8)))))))) :
    r_W X w B 7 0 0 (r_Z X w B tX8_receive (r_QV σ0 Q)) 260 [(0, Value.ref (B + a0)), (1, Value.int x1), (2, Value.int x2), (3, Value.long y3), (5, Value.int x5)] [] σ := by
  refine r_iload C dX8_receive_260 (j := 4) rfl ?_
  refine r_if_eq (tgt := 277) C dX8_receive_262 (by decide) (fun c1 => ?_) (fun c1 => ?_)
  · have h := h.1 c1
    exact r_vretQ C E rfl (Nat.zero_le _) (Nat.zero_le _) dX8_receive_277 ((rfl : σ.1 = σ.1).trans hs) h
  · have h := h.2 c1
    refine r_aload_n C dX8_receive_265 rfl (j := 0) rfl ?_
    refine r_iload_n C dX8_receive_266 rfl (j := 2) rfl ?_
    refine r_aload_n C dX8_receive_267 rfl (j := 0) rfl ?_
    obtain ⟨g2, h⟩ := h
    obtain ⟨n3, g4, h⟩ := h
    refine r_getR C (r_atT rfl g2) fa_X8_139 rfl (r_atN g4) dX8_receive_268 ?_
    refine r_iload_n C dX8_receive_271 rfl (j := 1) rfl ?_
    obtain ⟨g5, h⟩ := h
    refine r_iald C (r_atT rfl g4) ⟨rfl, fun _ => rfl⟩ g5 dX8_receive_272 ?_
    refine r_lload_n C dX8_receive_273 rfl (j := 3) rfl ?_
    obtain ⟨Q6, m7, h⟩ := h
    refine r_callVV (rest := []) C E [Value.int x2, Value.int (r_gi σ (r_gr σ a0 50) x1.toNatClampNeg), Value.long y3] (r_atT rfl g2) rfl ky_X8_acknowledged kl_X8_231 ki_X8_acknowledged kx_X8_acknowledged ⟨Nat.le_of_ble_eq_true rfl, Nat.le_of_ble_eq_true rfl⟩ ⟨rfl, rfl⟩ m7 rfl rfl (Nat.le_of_ble_eq_true rfl) (Nat.zero_le _) (Nat.zero_le _) dX8_receive_274 (fun σ8 s9 q11 => ?_)
    have h := h σ8 q11
    have s9 := s9.trans rfl
    exact r_vretQ C E rfl (Nat.zero_le _) (Nat.zero_le _) dX8_receive_277 (s9.trans hs) h
theorem w_X8_stepThree_0 {X : r_X} {w : r_V} {B : Nat} {l : Launch} {Q : r_S → Prop} {σ0 : r_S} (C : r_C X w B 6 cX8_stepThree RX8) (E : r_E X l tX8_stepThree) {σ : r_S} (hs : σ.1 = σ0.1) {a0 : Nat} {y1 : Int64}
    (h : r_W X w B 6 0 0 (r_Z X w B tX8_stepThree (r_QV σ0 Q)) 2 [(0, Value.ref (B + a0)), (1, Value.long y1), (3, Value.int 0)] [] σ) :
    r_W X w B 6 0 0 (r_Z X w B tX8_stepThree (r_QV σ0 Q)) 0 [(0, Value.ref (B + a0)), (1, Value.long y1)] [] σ := by
  refine r_iconst (v := 0) C dX8_stepThree_0 (by decide) ?_
  refine r_istore_n (lv' := [(3, Value.int 0), (0, Value.ref (B + a0)), (1, Value.long y1)]) C dX8_stepThree_1 rfl (by decide) rfl ?_
  exact r_loc (by simp) h
theorem w_X8_stepThree_2 {X : r_X} {w : r_V} {B : Nat} {l : Launch} {Q : r_S → Prop} {σ0 : r_S} (C : r_C X w B 6 cX8_stepThree RX8) (E : r_E X l tX8_stepThree) {σ : r_S} (hs : σ.1 = σ0.1) {a0 : Nat} {x3 : Int32} {y1 : Int64}
    (h : r_at σ a0 = some (.inl 8) ∧ (((r_gi σ a0 1) ≤ x3 → (Q σ)) ∧ (¬ (r_gi σ a0 1) ≤ x3 → (∃ n3, r_at σ (r_gr σ a0 45) = some (.inr (0, n3)) ∧ (vp_in x3 n3 ∧ (((r_gi σ (r_gr σ a0 45) x3.toNatClampNeg) ≤ 0 → (∀ z7 : Int32, z7 = x3 + 1 → (r_W X w B 6 0 0 (r_Z X w B tX8_stepThree (r_QV σ0 Q)) 2 [(0, Value.ref (B + a0)), (1, Value.long y1), (3, Value.int z7)] [] σ))) ∧ (¬ (r_gi σ (r_gr σ a0 45) x3.toNatClampNeg) ≤ 0 → (∃ n9, r_at σ (r_gr σ a0 48) = some (.inr (1, n9)) ∧ (vp_in x3 n9 ∧ (((r_gl σ (r_gr σ a0 48) x3.toNatClampNeg) = y1 → (r_W X w B 6 0 0 (r_Z X w B tX8_stepThree (r_QV σ0 Q)) 33 [(0, Value.ref (B + a0)), (1, Value.long y1), (3, Value.int x3), (4, Value.int 0)] [] σ)) ∧ (¬ (r_gl σ (r_gr σ a0 48) x3.toNatClampNeg) = y1 → (∀ z13 : Int32, z13 = x3 + 1 → (r_W X w B 6 0 0 (r_Z X w B tX8_stepThree (r_QV σ0 Q)) 2 [(0, Value.ref (B + a0)), (1, Value.long y1), (3, Value.int z13)] [] σ))))))))))))) :
    r_W X w B 6 0 0 (r_Z X w B tX8_stepThree (r_QV σ0 Q)) 2 [(0, Value.ref (B + a0)), (1, Value.long y1), (3, Value.int x3)] [] σ := by
  refine r_iload_n C dX8_stepThree_2 rfl (j := 2) rfl ?_
  refine r_aload_n C dX8_stepThree_3 rfl (j := 0) rfl ?_
  obtain ⟨g1, h⟩ := h
  refine r_get (v := .int (r_gi σ a0 1)) C (r_atT rfl g1) fa_X8_145 rfl dX8_stepThree_4 ?_
  refine r_icmp_ge (tgt := 195) C dX8_stepThree_7 (by decide) (fun c2 => ?_) (fun c2 => ?_)
  · have h := h.1 c2
    exact r_vretQ C E rfl (Nat.zero_le _) (Nat.zero_le _) dX8_stepThree_195 ((rfl : σ.1 = σ.1).trans hs) h
  · have h := h.2 c2
    refine r_aload_n C dX8_stepThree_10 rfl (j := 0) rfl ?_
    obtain ⟨n3, g4, h⟩ := h
    refine r_getR C (r_atT rfl g1) fa_X8_124 rfl (r_atN g4) dX8_stepThree_11 ?_
    refine r_iload_n C dX8_stepThree_14 rfl (j := 2) rfl ?_
    obtain ⟨g5, h⟩ := h
    refine r_iald C (r_atT rfl g4) ⟨rfl, fun _ => rfl⟩ g5 dX8_stepThree_15 ?_
    refine r_if_le (tgt := 189) C dX8_stepThree_16 (by decide) (fun c6 => ?_) (fun c6 => ?_)
    · have h := h.1 c6
      obtain ⟨z7, e8⟩ : ∃ y : Int32, y = x3 + 1 := ⟨_, rfl⟩
      have h := h z7 e8
      refine r_iinc (v := z7) (lv' := [(3, Value.int z7), (0, Value.ref (B + a0)), (1, Value.long y1)]) C dX8_stepThree_189 (k := 2) rfl (by rw [e8]; rfl) (by decide) rfl ?_
      refine r_goto (tgt := 2) C dX8_stepThree_192 (by decide) ?_
      exact r_loc (by simp) h
    · have h := h.2 c6
      refine r_aload_n C dX8_stepThree_19 rfl (j := 0) rfl ?_
      obtain ⟨n9, g10, h⟩ := h
      refine r_getR C (r_atT rfl g1) fa_X8_133 rfl (r_atN g10) dX8_stepThree_20 ?_
      refine r_iload_n C dX8_stepThree_23 rfl (j := 2) rfl ?_
      obtain ⟨g11, h⟩ := h
      refine r_lald C (r_atT rfl g10) ⟨rfl, fun _ => rfl⟩ g11 dX8_stepThree_24 ?_
      refine r_lload_n C dX8_stepThree_25 rfl (j := 1) rfl ?_
      refine r_lcmp C dX8_stepThree_26 ?_
      refine r_if_ne (tgt := 189) C dX8_stepThree_27 (by decide) (fun c12 => ?_) (fun c12 => ?_)
      · have h := h.2 (fun q => c12 (lgc_eq.mpr q))
        obtain ⟨z13, e14⟩ : ∃ y : Int32, y = x3 + 1 := ⟨_, rfl⟩
        have h := h z13 e14
        refine r_iinc (v := z13) (lv' := [(3, Value.int z13), (0, Value.ref (B + a0)), (1, Value.long y1)]) C dX8_stepThree_189 (k := 2) rfl (by rw [e14]; rfl) (by decide) rfl ?_
        refine r_goto (tgt := 2) C dX8_stepThree_192 (by decide) ?_
        exact r_loc (by simp) h
      · have h := h.1 (lgc_eq.mp c12)
        refine r_iconst (v := 0) C dX8_stepThree_30 (by decide) ?_
        refine r_istore (lv' := [(4, Value.int 0), (0, Value.ref (B + a0)), (1, Value.long y1), (3, Value.int x3)]) C dX8_stepThree_31 (by decide) rfl ?_
        exact r_loc (by simp) h
theorem w_X8_stepThree_33 {X : r_X} {w : r_V} {B : Nat} {l : Launch} {Q : r_S → Prop} {σ0 : r_S} (C : r_C X w B 6 cX8_stepThree RX8) (E : r_E X l tX8_stepThree) {σ : r_S} (hs : σ.1 = σ0.1) {a0 : Nat} {x3 x4 : Int32} {y1 : Int64}
    (h : r_at σ a0 = some (.inl 8) ∧ (((r_gi σ a0 1) ≤ x4 → (∃ n3, r_at σ (r_gr σ a0 45) = some (.inr (0, n3)) ∧ (vp_in x3 n3 ∧ (((r_gi σ (r_gr σ a0 45) x3.toNatClampNeg) = 1 → (r_W X w B 6 0 0 (r_Z X w B tX8_stepThree (r_QV σ0 Q)) 152 [(0, Value.ref (B + a0)), (1, Value.long y1), (3, Value.int x3)] [] σ)) ∧ (¬ (r_gi σ (r_gr σ a0 45) x3.toNatClampNeg) = 1 → (((r_gi σ (r_gr σ a0 45) x3.toNatClampNeg) = 3 → (r_W X w B 6 0 0 (r_Z X w B tX8_stepThree (r_QV σ0 Q)) 152 [(0, Value.ref (B + a0)), (1, Value.long y1), (3, Value.int x3)] [] σ)) ∧ (¬ (r_gi σ (r_gr σ a0 45) x3.toNatClampNeg) = 3 → (∀ z8 : Int32, z8 = x3 + 1 → (r_W X w B 6 0 0 (r_Z X w B tX8_stepThree (r_QV σ0 Q)) 2 [(0, Value.ref (B + a0)), (1, Value.long y1), (3, Value.int z8)] [] σ))))))))) ∧ (¬ (r_gi σ a0 1) ≤ x4 → (∃ n10, r_at σ (r_gr σ a0 45) = some (.inr (0, n10)) ∧ (vp_in x3 n10 ∧ (((r_gi σ (r_gr σ a0 45) x3.toNatClampNeg) = 3 → (∃ n48, r_at σ (r_gr σ a0 51) = some (.inr (1, n48)) ∧ (vp_in ((6 * x3) + x4) n48 ∧ ((((r_gl σ (r_gr σ a0 51) ((6 * x3) + x4).toNatClampNeg) &&& 1) = 0 → (∃ Q64 : Int32 → r_S → Prop, r_M l w B tX8_hears [Value.ref (B + a0), Value.int x4, Value.int x3] σ (r_QI σ Q64) ∧ (∀ (z68 : Int32) (σ66 : r_S), Q64 z68 σ66 → ((z68 = 0 → (∀ z71 : Int32, z71 = x4 + 1 → (r_W X w B 6 0 0 (r_Z X w B tX8_stepThree (r_QV σ0 Q)) 33 [(0, Value.ref (B + a0)), (1, Value.long y1), (3, Value.int x3), (4, Value.int z71)] [] σ66))) ∧ (¬ z68 = 0 → (∃ Q74 : r_S → Prop, r_M l w B tX8_receive [Value.ref (B + a0), Value.int x3, Value.int x4, Value.long y1] σ66 (r_QV σ66 Q74) ∧ (∀ σ76 : r_S, Q74 σ76 → (∀ z80 : Int32, z80 = x4 + 1 → (r_W X w B 6 0 0 (r_Z X w B tX8_stepThree (r_QV σ0 Q)) 33 [(0, Value.ref (B + a0)), (1, Value.long y1), (3, Value.int x3), (4, Value.int z80)] [] σ76))))))))) ∧ (¬ ((r_gl σ (r_gr σ a0 51) ((6 * x3) + x4).toNatClampNeg) &&& 1) = 0 → (∃ Q52 : Int32 → r_S → Prop, r_M l w B tX8_hears [Value.ref (B + a0), Value.int x4, Value.int x3] σ (r_QI σ Q52) ∧ (∀ (z56 : Int32) (σ54 : r_S), Q52 z56 σ54 → ((z56 = 0 → (∀ z59 : Int32, z59 = x4 + 1 → (r_W X w B 6 0 0 (r_Z X w B tX8_stepThree (r_QV σ0 Q)) 33 [(0, Value.ref (B + a0)), (1, Value.long y1), (3, Value.int x3), (4, Value.int z59)] [] σ54))) ∧ (¬ z56 = 0 → (∀ z62 : Int32, z62 = x4 + 1 → (r_W X w B 6 0 0 (r_Z X w B tX8_stepThree (r_QV σ0 Q)) 33 [(0, Value.ref (B + a0)), (1, Value.long y1), (3, Value.int x3), (4, Value.int z62)] [] σ54))))))))))) ∧ (¬ (r_gi σ (r_gr σ a0 45) x3.toNatClampNeg) = 3 → (∃ n14, r_at σ (r_gr σ a0 51) = some (.inr (1, n14)) ∧ (vp_in ((6 * x3) + x4) n14 ∧ (((r_gl σ (r_gr σ a0 51) ((6 * x3) + x4).toNatClampNeg) = 0 → (∃ Q30 : Int32 → r_S → Prop, r_M l w B tX8_hears [Value.ref (B + a0), Value.int x4, Value.int x3] σ (r_QI σ Q30) ∧ (∀ (z34 : Int32) (σ32 : r_S), Q30 z34 σ32 → ((z34 = 0 → (∀ z37 : Int32, z37 = x4 + 1 → (r_W X w B 6 0 0 (r_Z X w B tX8_stepThree (r_QV σ0 Q)) 33 [(0, Value.ref (B + a0)), (1, Value.long y1), (3, Value.int x3), (4, Value.int z37)] [] σ32))) ∧ (¬ z34 = 0 → (∃ Q40 : r_S → Prop, r_M l w B tX8_receive [Value.ref (B + a0), Value.int x3, Value.int x4, Value.long y1] σ32 (r_QV σ32 Q40) ∧ (∀ σ42 : r_S, Q40 σ42 → (∀ z46 : Int32, z46 = x4 + 1 → (r_W X w B 6 0 0 (r_Z X w B tX8_stepThree (r_QV σ0 Q)) 33 [(0, Value.ref (B + a0)), (1, Value.long y1), (3, Value.int x3), (4, Value.int z46)] [] σ42))))))))) ∧ (¬ (r_gl σ (r_gr σ a0 51) ((6 * x3) + x4).toNatClampNeg) = 0 → (∃ Q18 : Int32 → r_S → Prop, r_M l w B tX8_hears [Value.ref (B + a0), Value.int x4, Value.int x3] σ (r_QI σ Q18) ∧ (∀ (z22 : Int32) (σ20 : r_S), Q18 z22 σ20 → ((z22 = 0 → (∀ z25 : Int32, z25 = x4 + 1 → (r_W X w B 6 0 0 (r_Z X w B tX8_stepThree (r_QV σ0 Q)) 33 [(0, Value.ref (B + a0)), (1, Value.long y1), (3, Value.int x3), (4, Value.int z25)] [] σ20))) ∧ (¬ z22 = 0 → (∀ z28 : Int32, z28 = x4 + 1 → (r_W X w B 6 0 0 (r_Z X w B tX8_stepThree (r_QV σ0 Q)) 33 [(0, Value.ref (B + a0)), (1, Value.long y1), (3, Value.int x3), (4, Value.int z28)] [] σ20))))))))))))))))) :
    r_W X w B 6 0 0 (r_Z X w B tX8_stepThree (r_QV σ0 Q)) 33 [(0, Value.ref (B + a0)), (1, Value.long y1), (3, Value.int x3), (4, Value.int x4)] [] σ := by
  refine r_iload C dX8_stepThree_33 (j := 3) rfl ?_
  refine r_aload_n C dX8_stepThree_35 rfl (j := 0) rfl ?_
  obtain ⟨g1, h⟩ := h
  refine r_get (v := .int (r_gi σ a0 1)) C (r_atT rfl g1) fa_X8_145 rfl dX8_stepThree_36 ?_
  refine r_icmp_ge (tgt := 132) C dX8_stepThree_39 (by decide) (fun c2 => ?_) (fun c2 => ?_)
  · have h := h.1 c2
    refine r_aload_n C dX8_stepThree_132 rfl (j := 0) rfl ?_
    obtain ⟨n3, g4, h⟩ := h
    refine r_getR C (r_atT rfl g1) fa_X8_124 rfl (r_atN g4) dX8_stepThree_133 ?_
    refine r_iload_n C dX8_stepThree_136 rfl (j := 2) rfl ?_
    obtain ⟨g5, h⟩ := h
    refine r_iald C (r_atT rfl g4) ⟨rfl, fun _ => rfl⟩ g5 dX8_stepThree_137 ?_
    refine r_iconst (v := 1) C dX8_stepThree_138 (by decide) ?_
    refine r_icmp_eq (tgt := 152) C dX8_stepThree_139 (by decide) (fun c6 => ?_) (fun c6 => ?_)
    · have h := h.1 c6
      exact r_loc (by simp) h
    · have h := h.2 c6
      refine r_aload_n C dX8_stepThree_142 rfl (j := 0) rfl ?_
      refine r_getR C (r_atT rfl g1) fa_X8_124 rfl (r_atN g4) dX8_stepThree_143 ?_
      refine r_iload_n C dX8_stepThree_146 rfl (j := 2) rfl ?_
      refine r_iald C (r_atT rfl g4) ⟨rfl, fun _ => rfl⟩ g5 dX8_stepThree_147 ?_
      refine r_iconst (v := 3) C dX8_stepThree_148 (by decide) ?_
      refine r_icmp_ne (tgt := 189) C dX8_stepThree_149 (by decide) (fun c7 => ?_) (fun c7 => ?_)
      · have h := h.2 c7
        obtain ⟨z8, e9⟩ : ∃ y : Int32, y = x3 + 1 := ⟨_, rfl⟩
        have h := h z8 e9
        refine r_iinc (v := z8) (lv' := [(3, Value.int z8), (0, Value.ref (B + a0)), (1, Value.long y1), (4, Value.int x4)]) C dX8_stepThree_189 (k := 2) rfl (by rw [e9]; rfl) (by decide) rfl ?_
        refine r_goto (tgt := 2) C dX8_stepThree_192 (by decide) ?_
        exact r_loc (by simp) h
      · have h := h.1 c7
        exact r_loc (by simp) h
  · have h := h.2 c2
    refine r_aload_n C dX8_stepThree_42 rfl (j := 0) rfl ?_
    obtain ⟨n10, g11, h⟩ := h
    refine r_getR C (r_atT rfl g1) fa_X8_124 rfl (r_atN g11) dX8_stepThree_43 ?_
    refine r_iload_n C dX8_stepThree_46 rfl (j := 2) rfl ?_
    obtain ⟨g12, h⟩ := h
    refine r_iald C (r_atT rfl g11) ⟨rfl, fun _ => rfl⟩ g12 dX8_stepThree_47 ?_
    refine r_iconst (v := 3) C dX8_stepThree_48 (by decide) ?_
    refine r_icmp_ne (tgt := 79) C dX8_stepThree_49 (by decide) (fun c13 => ?_) (fun c13 => ?_)
    · have h := h.2 c13
      refine r_aload_n C dX8_stepThree_79 rfl (j := 0) rfl ?_
      obtain ⟨n14, g15, h⟩ := h
      refine r_getR C (r_atT rfl g1) fa_X8_142 rfl (r_atN g15) dX8_stepThree_80 ?_
      refine r_bipush (v := 6) C dX8_stepThree_83 (by decide) ?_
      refine r_iload_n C dX8_stepThree_85 rfl (j := 2) rfl ?_
      refine r_imul C dX8_stepThree_86 ?_
      refine r_iload C dX8_stepThree_87 (j := 3) rfl ?_
      refine r_iadd C dX8_stepThree_89 ?_
      obtain ⟨g16, h⟩ := h
      refine r_lald C (r_atT rfl g15) ⟨rfl, fun _ => rfl⟩ g16 dX8_stepThree_90 ?_
      refine r_lconst (v := 0) C dX8_stepThree_91 (by decide) ?_
      refine r_lcmp C dX8_stepThree_92 ?_
      refine r_if_ne (tgt := 100) C dX8_stepThree_93 (by decide) (fun c17 => ?_) (fun c17 => ?_)
      · have h := h.2 (fun q => c17 (lgc_eq.mpr q))
        refine r_iconst (v := 0) C dX8_stepThree_100 (by decide) ?_
        refine r_istore (lv' := [(5, Value.int 0), (0, Value.ref (B + a0)), (1, Value.long y1), (3, Value.int x3), (4, Value.int x4)]) C dX8_stepThree_101 (by decide) rfl ?_
        refine r_aload_n C dX8_stepThree_103 rfl (j := 1) rfl ?_
        refine r_iload C dX8_stepThree_104 (j := 4) rfl ?_
        refine r_iload_n C dX8_stepThree_106 rfl (j := 3) rfl ?_
        obtain ⟨Q18, m19, h⟩ := h
        refine r_callVI (rest := []) C E [Value.int x4, Value.int x3] (r_atT rfl g1) rfl ky_X8_hears kl_X8_205 ki_X8_hears kx_X8_hears ⟨Nat.le_of_ble_eq_true rfl, Nat.le_of_ble_eq_true rfl⟩ ⟨rfl, rfl⟩ m19 rfl rfl (Nat.le_of_ble_eq_true rfl) (Nat.zero_le _) (Nat.zero_le _) dX8_stepThree_107 (fun z22 σ20 s21 q23 => ?_)
        have h := h z22 σ20 q23
        have s21 := s21.trans rfl
        refine r_if_eq (tgt := 126) C dX8_stepThree_110 (by decide) (fun c24 => ?_) (fun c24 => ?_)
        · have h := h.1 c24
          obtain ⟨z25, e26⟩ : ∃ y : Int32, y = x4 + 1 := ⟨_, rfl⟩
          have h := h z25 e26
          refine r_iinc (v := z25) (lv' := [(4, Value.int z25), (5, Value.int 0), (0, Value.ref (B + a0)), (1, Value.long y1), (3, Value.int x3)]) C dX8_stepThree_126 (k := 4) rfl (by rw [e26]; rfl) (by decide) rfl ?_
          refine r_goto (tgt := 33) C dX8_stepThree_129 (by decide) ?_
          exact r_loc (by simp) h
        · have h := h.2 c24
          refine r_iload C dX8_stepThree_113 (j := 0) rfl ?_
          refine r_if_eq (tgt := 126) C dX8_stepThree_115 (by decide) (fun c27 => ?_) (fun c27 => ?_)
          · skip
            obtain ⟨z28, e29⟩ : ∃ y : Int32, y = x4 + 1 := ⟨_, rfl⟩
            have h := h z28 e29
            refine r_iinc (v := z28) (lv' := [(4, Value.int z28), (5, Value.int 0), (0, Value.ref (B + a0)), (1, Value.long y1), (3, Value.int x3)]) C dX8_stepThree_126 (k := 4) rfl (by rw [e29]; rfl) (by decide) rfl ?_
            refine r_goto (tgt := 33) C dX8_stepThree_129 (by decide) ?_
            exact r_loc (by simp) h
          · exact absurd (by decide) c27
      · have h := h.1 (lgc_eq.mp c17)
        refine r_iconst (v := 1) C dX8_stepThree_96 (by decide) ?_
        refine r_goto (tgt := 101) C dX8_stepThree_97 (by decide) ?_
        refine r_istore (lv' := [(5, Value.int 1), (0, Value.ref (B + a0)), (1, Value.long y1), (3, Value.int x3), (4, Value.int x4)]) C dX8_stepThree_101 (by decide) rfl ?_
        refine r_aload_n C dX8_stepThree_103 rfl (j := 1) rfl ?_
        refine r_iload C dX8_stepThree_104 (j := 4) rfl ?_
        refine r_iload_n C dX8_stepThree_106 rfl (j := 3) rfl ?_
        obtain ⟨Q30, m31, h⟩ := h
        refine r_callVI (rest := []) C E [Value.int x4, Value.int x3] (r_atT rfl g1) rfl ky_X8_hears kl_X8_205 ki_X8_hears kx_X8_hears ⟨Nat.le_of_ble_eq_true rfl, Nat.le_of_ble_eq_true rfl⟩ ⟨rfl, rfl⟩ m31 rfl rfl (Nat.le_of_ble_eq_true rfl) (Nat.zero_le _) (Nat.zero_le _) dX8_stepThree_107 (fun z34 σ32 s33 q35 => ?_)
        have h := h z34 σ32 q35
        have s33 := s33.trans rfl
        refine r_if_eq (tgt := 126) C dX8_stepThree_110 (by decide) (fun c36 => ?_) (fun c36 => ?_)
        · have h := h.1 c36
          obtain ⟨z37, e38⟩ : ∃ y : Int32, y = x4 + 1 := ⟨_, rfl⟩
          have h := h z37 e38
          refine r_iinc (v := z37) (lv' := [(4, Value.int z37), (5, Value.int 1), (0, Value.ref (B + a0)), (1, Value.long y1), (3, Value.int x3)]) C dX8_stepThree_126 (k := 4) rfl (by rw [e38]; rfl) (by decide) rfl ?_
          refine r_goto (tgt := 33) C dX8_stepThree_129 (by decide) ?_
          exact r_loc (by simp) h
        · have h := h.2 c36
          refine r_iload C dX8_stepThree_113 (j := 0) rfl ?_
          refine r_if_eq (tgt := 126) C dX8_stepThree_115 (by decide) (fun c39 => ?_) (fun c39 => ?_)
          · exact absurd c39 (by decide)
          · skip
            refine r_aload_n C dX8_stepThree_118 rfl (j := 1) rfl ?_
            refine r_iload_n C dX8_stepThree_119 rfl (j := 3) rfl ?_
            refine r_iload C dX8_stepThree_120 (j := 4) rfl ?_
            refine r_lload_n C dX8_stepThree_122 rfl (j := 2) rfl ?_
            obtain ⟨Q40, m41, h⟩ := h
            refine r_callVV (rest := []) C E [Value.int x3, Value.int x4, Value.long y1] (r_atT s33 g1) rfl ky_X8_receive kl_X8_234 ki_X8_receive kx_X8_receive ⟨Nat.le_of_ble_eq_true rfl, Nat.le_of_ble_eq_true rfl⟩ ⟨rfl, rfl⟩ m41 rfl rfl (Nat.le_of_ble_eq_true rfl) (Nat.zero_le _) (Nat.zero_le _) dX8_stepThree_123 (fun σ42 s43 q45 => ?_)
            have h := h σ42 q45
            have s43 := s43.trans s33
            obtain ⟨z46, e47⟩ : ∃ y : Int32, y = x4 + 1 := ⟨_, rfl⟩
            have h := h z46 e47
            refine r_iinc (v := z46) (lv' := [(4, Value.int z46), (5, Value.int 1), (0, Value.ref (B + a0)), (1, Value.long y1), (3, Value.int x3)]) C dX8_stepThree_126 (k := 4) rfl (by rw [e47]; rfl) (by decide) rfl ?_
            refine r_goto (tgt := 33) C dX8_stepThree_129 (by decide) ?_
            exact r_loc (by simp) h
    · have h := h.1 c13
      refine r_aload_n C dX8_stepThree_52 rfl (j := 0) rfl ?_
      obtain ⟨n48, g49, h⟩ := h
      refine r_getR C (r_atT rfl g1) fa_X8_142 rfl (r_atN g49) dX8_stepThree_53 ?_
      refine r_bipush (v := 6) C dX8_stepThree_56 (by decide) ?_
      refine r_iload_n C dX8_stepThree_58 rfl (j := 2) rfl ?_
      refine r_imul C dX8_stepThree_59 ?_
      refine r_iload C dX8_stepThree_60 (j := 3) rfl ?_
      refine r_iadd C dX8_stepThree_62 ?_
      obtain ⟨g50, h⟩ := h
      refine r_lald C (r_atT rfl g49) ⟨rfl, fun _ => rfl⟩ g50 dX8_stepThree_63 ?_
      refine r_lconst (v := 1) C dX8_stepThree_64 (by decide) ?_
      refine r_land C dX8_stepThree_65 ?_
      refine r_lconst (v := 0) C dX8_stepThree_66 (by decide) ?_
      refine r_lcmp C dX8_stepThree_67 ?_
      refine r_if_ne (tgt := 75) C dX8_stepThree_68 (by decide) (fun c51 => ?_) (fun c51 => ?_)
      · have h := h.2 (fun q => c51 (lgc_eq.mpr q))
        refine r_iconst (v := 0) C dX8_stepThree_75 (by decide) ?_
        refine r_goto (tgt := 101) C dX8_stepThree_76 (by decide) ?_
        refine r_istore (lv' := [(5, Value.int 0), (0, Value.ref (B + a0)), (1, Value.long y1), (3, Value.int x3), (4, Value.int x4)]) C dX8_stepThree_101 (by decide) rfl ?_
        refine r_aload_n C dX8_stepThree_103 rfl (j := 1) rfl ?_
        refine r_iload C dX8_stepThree_104 (j := 4) rfl ?_
        refine r_iload_n C dX8_stepThree_106 rfl (j := 3) rfl ?_
        obtain ⟨Q52, m53, h⟩ := h
        refine r_callVI (rest := []) C E [Value.int x4, Value.int x3] (r_atT rfl g1) rfl ky_X8_hears kl_X8_205 ki_X8_hears kx_X8_hears ⟨Nat.le_of_ble_eq_true rfl, Nat.le_of_ble_eq_true rfl⟩ ⟨rfl, rfl⟩ m53 rfl rfl (Nat.le_of_ble_eq_true rfl) (Nat.zero_le _) (Nat.zero_le _) dX8_stepThree_107 (fun z56 σ54 s55 q57 => ?_)
        have h := h z56 σ54 q57
        have s55 := s55.trans rfl
        refine r_if_eq (tgt := 126) C dX8_stepThree_110 (by decide) (fun c58 => ?_) (fun c58 => ?_)
        · have h := h.1 c58
          obtain ⟨z59, e60⟩ : ∃ y : Int32, y = x4 + 1 := ⟨_, rfl⟩
          have h := h z59 e60
          refine r_iinc (v := z59) (lv' := [(4, Value.int z59), (5, Value.int 0), (0, Value.ref (B + a0)), (1, Value.long y1), (3, Value.int x3)]) C dX8_stepThree_126 (k := 4) rfl (by rw [e60]; rfl) (by decide) rfl ?_
          refine r_goto (tgt := 33) C dX8_stepThree_129 (by decide) ?_
          exact r_loc (by simp) h
        · have h := h.2 c58
          refine r_iload C dX8_stepThree_113 (j := 0) rfl ?_
          refine r_if_eq (tgt := 126) C dX8_stepThree_115 (by decide) (fun c61 => ?_) (fun c61 => ?_)
          · skip
            obtain ⟨z62, e63⟩ : ∃ y : Int32, y = x4 + 1 := ⟨_, rfl⟩
            have h := h z62 e63
            refine r_iinc (v := z62) (lv' := [(4, Value.int z62), (5, Value.int 0), (0, Value.ref (B + a0)), (1, Value.long y1), (3, Value.int x3)]) C dX8_stepThree_126 (k := 4) rfl (by rw [e63]; rfl) (by decide) rfl ?_
            refine r_goto (tgt := 33) C dX8_stepThree_129 (by decide) ?_
            exact r_loc (by simp) h
          · exact absurd (by decide) c61
      · have h := h.1 (lgc_eq.mp c51)
        refine r_iconst (v := 1) C dX8_stepThree_71 (by decide) ?_
        refine r_goto (tgt := 101) C dX8_stepThree_72 (by decide) ?_
        refine r_istore (lv' := [(5, Value.int 1), (0, Value.ref (B + a0)), (1, Value.long y1), (3, Value.int x3), (4, Value.int x4)]) C dX8_stepThree_101 (by decide) rfl ?_
        refine r_aload_n C dX8_stepThree_103 rfl (j := 1) rfl ?_
        refine r_iload C dX8_stepThree_104 (j := 4) rfl ?_
        refine r_iload_n C dX8_stepThree_106 rfl (j := 3) rfl ?_
        obtain ⟨Q64, m65, h⟩ := h
        refine r_callVI (rest := []) C E [Value.int x4, Value.int x3] (r_atT rfl g1) rfl ky_X8_hears kl_X8_205 ki_X8_hears kx_X8_hears ⟨Nat.le_of_ble_eq_true rfl, Nat.le_of_ble_eq_true rfl⟩ ⟨rfl, rfl⟩ m65 rfl rfl (Nat.le_of_ble_eq_true rfl) (Nat.zero_le _) (Nat.zero_le _) dX8_stepThree_107 (fun z68 σ66 s67 q69 => ?_)
        have h := h z68 σ66 q69
        have s67 := s67.trans rfl
        refine r_if_eq (tgt := 126) C dX8_stepThree_110 (by decide) (fun c70 => ?_) (fun c70 => ?_)
        · have h := h.1 c70
          obtain ⟨z71, e72⟩ : ∃ y : Int32, y = x4 + 1 := ⟨_, rfl⟩
          have h := h z71 e72
          refine r_iinc (v := z71) (lv' := [(4, Value.int z71), (5, Value.int 1), (0, Value.ref (B + a0)), (1, Value.long y1), (3, Value.int x3)]) C dX8_stepThree_126 (k := 4) rfl (by rw [e72]; rfl) (by decide) rfl ?_
          refine r_goto (tgt := 33) C dX8_stepThree_129 (by decide) ?_
          exact r_loc (by simp) h
        · have h := h.2 c70
          refine r_iload C dX8_stepThree_113 (j := 0) rfl ?_
          refine r_if_eq (tgt := 126) C dX8_stepThree_115 (by decide) (fun c73 => ?_) (fun c73 => ?_)
          · exact absurd c73 (by decide)
          · skip
            refine r_aload_n C dX8_stepThree_118 rfl (j := 1) rfl ?_
            refine r_iload_n C dX8_stepThree_119 rfl (j := 3) rfl ?_
            refine r_iload C dX8_stepThree_120 (j := 4) rfl ?_
            refine r_lload_n C dX8_stepThree_122 rfl (j := 2) rfl ?_
            obtain ⟨Q74, m75, h⟩ := h
            refine r_callVV (rest := []) C E [Value.int x3, Value.int x4, Value.long y1] (r_atT s67 g1) rfl ky_X8_receive kl_X8_234 ki_X8_receive kx_X8_receive ⟨Nat.le_of_ble_eq_true rfl, Nat.le_of_ble_eq_true rfl⟩ ⟨rfl, rfl⟩ m75 rfl rfl (Nat.le_of_ble_eq_true rfl) (Nat.zero_le _) (Nat.zero_le _) dX8_stepThree_123 (fun σ76 s77 q79 => ?_)
            have h := h σ76 q79
            have s77 := s77.trans s67
            obtain ⟨z80, e81⟩ : ∃ y : Int32, y = x4 + 1 := ⟨_, rfl⟩
            have h := h z80 e81
            refine r_iinc (v := z80) (lv' := [(4, Value.int z80), (5, Value.int 1), (0, Value.ref (B + a0)), (1, Value.long y1), (3, Value.int x3)]) C dX8_stepThree_126 (k := 4) rfl (by rw [e81]; rfl) (by decide) rfl ?_
            refine r_goto (tgt := 33) C dX8_stepThree_129 (by decide) ?_
            exact r_loc (by simp) h
theorem w_X8_stepThree_152 {X : r_X} {w : r_V} {B : Nat} {l : Launch} {Q : r_S → Prop} {σ0 : r_S} (C : r_C X w B 6 cX8_stepThree RX8) (E : r_E X l tX8_stepThree) {σ : r_S} (hs : σ.1 = σ0.1) {a0 : Nat} {x3 : Int32} {y1 : Int64}
    (h : r_at σ a0 = some (.inl 8) ∧ (∃ n2, r_at σ (r_gr σ a0 31) = some (.inr (1, n2)) ∧ (vp_in x3 n2 ∧ (∀ σ5 : r_S, σ5 = r_ul σ (r_gr σ a0 31) (x3.toNatClampNeg) (y1 + 4) → (∃ n8, r_at σ (r_gr σ5 a0 32) = some (.inr (0, n8)) ∧ (∃ n10, r_at σ (r_gr σ5 a0 46) = some (.inr (0, n10)) ∧ (vp_in x3 n10 ∧ (vp_in x3 n8 ∧ (∀ σ14 : r_S, σ14 = r_ui σ5 (r_gr σ5 a0 32) (x3.toNatClampNeg) (r_gi σ5 (r_gr σ5 a0 46) x3.toNatClampNeg) → (∃ n17, r_at σ (r_gr σ14 a0 33) = some (.inr (0, n17)) ∧ (∃ n19, r_at σ (r_gr σ14 a0 45) = some (.inr (0, n19)) ∧ (vp_in x3 n19 ∧ (vp_in x3 n17 ∧ (∀ σ23 : r_S, σ23 = r_ui σ14 (r_gr σ14 a0 33) (x3.toNatClampNeg) ((r_gi σ14 (r_gr σ14 a0 45) x3.toNatClampNeg) + 1) → (∀ z26 : Int32, z26 = x3 + 1 → (r_W X w B 6 0 0 (r_Z X w B tX8_stepThree (r_QV σ0 Q)) 2 [(0, Value.ref (B + a0)), (1, Value.long y1), (3, Value.int z26)] [] σ23)))))))))))))))) :
    r_W X w B 6 0 0 (r_Z X w B tX8_stepThree (r_QV σ0 Q)) 152 [(0, Value.ref (B + a0)), (1, Value.long y1), (3, Value.int x3)] [] σ := by
  refine r_aload_n C dX8_stepThree_152 rfl (j := 0) rfl ?_
  obtain ⟨g1, h⟩ := h
  obtain ⟨n2, g3, h⟩ := h
  refine r_getR C (r_atT rfl g1) fa_X8_82 rfl (r_atN g3) dX8_stepThree_153 ?_
  refine r_iload_n C dX8_stepThree_156 rfl (j := 2) rfl ?_
  refine r_lload_n C dX8_stepThree_157 rfl (j := 1) rfl ?_
  refine r_ldc2 (v := 4) C kj_X8_237 dX8_stepThree_158 ?_
  refine r_ladd C dX8_stepThree_161 ?_
  obtain ⟨g4, h⟩ := h
  refine r_last C (r_atT rfl g3) ⟨rfl, fun _ => rfl⟩ g4 dX8_stepThree_162 ?_
  refine r_nam (fun σ5 e6 => ?_)
  have h := h σ5 e6
  have s7 : σ5.1 = σ.1 := by rw [e6]; exact rfl
  refine r_aload_n C dX8_stepThree_163 rfl (j := 0) rfl ?_
  obtain ⟨n8, g9, h⟩ := h
  refine r_getR C (r_atT s7 g1) fa_X8_85 rfl (r_atN g9) dX8_stepThree_164 ?_
  refine r_iload_n C dX8_stepThree_167 rfl (j := 2) rfl ?_
  refine r_aload_n C dX8_stepThree_168 rfl (j := 0) rfl ?_
  obtain ⟨n10, g11, h⟩ := h
  refine r_getR C (r_atT s7 g1) fa_X8_127 rfl (r_atN g11) dX8_stepThree_169 ?_
  refine r_iload_n C dX8_stepThree_172 rfl (j := 2) rfl ?_
  obtain ⟨g12, h⟩ := h
  refine r_iald C (r_atT s7 g11) ⟨rfl, fun _ => rfl⟩ g12 dX8_stepThree_173 ?_
  obtain ⟨g13, h⟩ := h
  refine r_iast C (r_atT s7 g9) ⟨rfl, fun _ => rfl⟩ g13 dX8_stepThree_174 ?_
  refine r_nam (fun σ14 e15 => ?_)
  have h := h σ14 e15
  have s16 : σ14.1 = σ.1 := by rw [e15]; exact s7
  refine r_aload_n C dX8_stepThree_175 rfl (j := 0) rfl ?_
  obtain ⟨n17, g18, h⟩ := h
  refine r_getR C (r_atT s16 g1) fa_X8_88 rfl (r_atN g18) dX8_stepThree_176 ?_
  refine r_iload_n C dX8_stepThree_179 rfl (j := 2) rfl ?_
  refine r_aload_n C dX8_stepThree_180 rfl (j := 0) rfl ?_
  obtain ⟨n19, g20, h⟩ := h
  refine r_getR C (r_atT s16 g1) fa_X8_124 rfl (r_atN g20) dX8_stepThree_181 ?_
  refine r_iload_n C dX8_stepThree_184 rfl (j := 2) rfl ?_
  obtain ⟨g21, h⟩ := h
  refine r_iald C (r_atT s16 g20) ⟨rfl, fun _ => rfl⟩ g21 dX8_stepThree_185 ?_
  refine r_iconst (v := 1) C dX8_stepThree_186 (by decide) ?_
  refine r_iadd C dX8_stepThree_187 ?_
  obtain ⟨g22, h⟩ := h
  refine r_iast C (r_atT s16 g18) ⟨rfl, fun _ => rfl⟩ g22 dX8_stepThree_188 ?_
  refine r_nam (fun σ23 e24 => ?_)
  have h := h σ23 e24
  have s25 : σ23.1 = σ.1 := by rw [e24]; exact s16
  obtain ⟨z26, e27⟩ : ∃ y : Int32, y = x3 + 1 := ⟨_, rfl⟩
  have h := h z26 e27
  refine r_iinc (v := z26) (lv' := [(3, Value.int z26), (0, Value.ref (B + a0)), (1, Value.long y1)]) C dX8_stepThree_189 (k := 2) rfl (by rw [e27]; rfl) (by decide) rfl ?_
  refine r_goto (tgt := 2) C dX8_stepThree_192 (by decide) ?_
  exact r_loc (by simp) h
theorem w_X8_stepFour_0 {X : r_X} {w : r_V} {B : Nat} {l : Launch} {Q : r_S → Prop} {σ0 : r_S} (C : r_C X w B 5 cX8_stepFour RX8) (E : r_E X l tX8_stepFour) {σ : r_S} (hs : σ.1 = σ0.1) {a0 : Nat} {y1 : Int64}
    (h : r_W X w B 5 0 0 (r_Z X w B tX8_stepFour (r_QV σ0 Q)) 2 [(0, Value.ref (B + a0)), (1, Value.long y1), (3, Value.int 0)] [] σ) :
    r_W X w B 5 0 0 (r_Z X w B tX8_stepFour (r_QV σ0 Q)) 0 [(0, Value.ref (B + a0)), (1, Value.long y1)] [] σ := by
  refine r_iconst (v := 0) C dX8_stepFour_0 (by decide) ?_
  refine r_istore_n (lv' := [(3, Value.int 0), (0, Value.ref (B + a0)), (1, Value.long y1)]) C dX8_stepFour_1 rfl (by decide) rfl ?_
  exact r_loc (by simp) h
theorem w_X8_stepFour_2 {X : r_X} {w : r_V} {B : Nat} {l : Launch} {Q : r_S → Prop} {σ0 : r_S} (C : r_C X w B 5 cX8_stepFour RX8) (E : r_E X l tX8_stepFour) {σ : r_S} (hs : σ.1 = σ0.1) {a0 : Nat} {x3 : Int32} {y1 : Int64}
    (h : r_at σ a0 = some (.inl 8) ∧ (((r_gi σ a0 1) ≤ x3 → (r_W X w B 5 0 0 (r_Z X w B tX8_stepFour (r_QV σ0 Q)) 175 [(0, Value.ref (B + a0)), (1, Value.long y1), (3, Value.int 0)] [] σ)) ∧ (¬ (r_gi σ a0 1) ≤ x3 → (∃ Q3 : Int32 → r_S → Prop, r_M l w B tX8_hearsAny [Value.ref (B + a0), Value.int x3, Value.int x3, Value.long y1] σ (r_QI σ Q3) ∧ (∀ (z7 : Int32) (σ5 : r_S), Q3 z7 σ5 → ((z7 = 0 → (∃ n10, r_at σ (r_gr σ5 a0 39) = some (.inr (2, n10)) ∧ (vp_in x3 n10 ∧ (((r_gi σ5 (r_gr σ5 a0 39) x3.toNatClampNeg) = 0 → (r_W X w B 5 0 0 (r_Z X w B tX8_stepFour (r_QV σ0 Q)) 58 [(0, Value.ref (B + a0)), (1, Value.long y1), (3, Value.int x3), (4, Value.int z7)] [] σ5)) ∧ (¬ (r_gi σ5 (r_gr σ5 a0 39) x3.toNatClampNeg) = 0 → (∃ n14, r_at σ (r_gr σ5 a0 29) = some (.inr (0, n14)) ∧ (∃ n16, r_at σ (r_gr σ5 a0 40) = some (.inr (1, n16)) ∧ (vp_in x3 n16 ∧ (((r_gl σ5 (r_gr σ5 a0 40) x3.toNatClampNeg) = (y1 - 1) → (vp_in x3 n14 ∧ (∀ σ25 : r_S, σ25 = r_ui σ5 (r_gr σ5 a0 29) (x3.toNatClampNeg) 3 → (r_W X w B 5 0 0 (r_Z X w B tX8_stepFour (r_QV σ0 Q)) 58 [(0, Value.ref (B + a0)), (1, Value.long y1), (3, Value.int x3), (4, Value.int z7)] [] σ25)))) ∧ (¬ (r_gl σ5 (r_gr σ5 a0 40) x3.toNatClampNeg) = (y1 - 1) → (vp_in x3 n14 ∧ (∀ σ21 : r_S, σ21 = r_ui σ5 (r_gr σ5 a0 29) (x3.toNatClampNeg) 6 → (r_W X w B 5 0 0 (r_Z X w B tX8_stepFour (r_QV σ0 Q)) 58 [(0, Value.ref (B + a0)), (1, Value.long y1), (3, Value.int x3), (4, Value.int z7)] [] σ21))))))))))))) ∧ (¬ z7 = 0 → (r_W X w B 5 0 0 (r_Z X w B tX8_stepFour (r_QV σ0 Q)) 58 [(0, Value.ref (B + a0)), (1, Value.long y1), (3, Value.int x3), (4, Value.int z7)] [] σ5)))))))) :
    r_W X w B 5 0 0 (r_Z X w B tX8_stepFour (r_QV σ0 Q)) 2 [(0, Value.ref (B + a0)), (1, Value.long y1), (3, Value.int x3)] [] σ := by
  refine r_iload_n C dX8_stepFour_2 rfl (j := 2) rfl ?_
  refine r_aload_n C dX8_stepFour_3 rfl (j := 0) rfl ?_
  obtain ⟨g1, h⟩ := h
  refine r_get (v := .int (r_gi σ a0 1)) C (r_atT rfl g1) fa_X8_145 rfl dX8_stepFour_4 ?_
  refine r_icmp_ge (tgt := 173) C dX8_stepFour_7 (by decide) (fun c2 => ?_) (fun c2 => ?_)
  · have h := h.1 c2
    refine r_iconst (v := 0) C dX8_stepFour_173 (by decide) ?_
    refine r_istore_n (lv' := [(3, Value.int 0), (0, Value.ref (B + a0)), (1, Value.long y1)]) C dX8_stepFour_174 rfl (by decide) rfl ?_
    exact r_loc (by simp) h
  · have h := h.2 c2
    refine r_aload_n C dX8_stepFour_10 rfl (j := 0) rfl ?_
    refine r_iload_n C dX8_stepFour_11 rfl (j := 2) rfl ?_
    refine r_iload_n C dX8_stepFour_12 rfl (j := 2) rfl ?_
    refine r_lload_n C dX8_stepFour_13 rfl (j := 1) rfl ?_
    obtain ⟨Q3, m4, h⟩ := h
    refine r_callVI (rest := []) C E [Value.int x3, Value.int x3, Value.long y1] (r_atT rfl g1) rfl ky_X8_hearsAny kl_X8_209 ki_X8_hearsAny kx_X8_hearsAny ⟨Nat.le_of_ble_eq_true rfl, Nat.le_of_ble_eq_true rfl⟩ ⟨rfl, rfl⟩ m4 rfl rfl (Nat.le_of_ble_eq_true rfl) (Nat.zero_le _) (Nat.zero_le _) dX8_stepFour_14 (fun z7 σ5 s6 q8 => ?_)
    have h := h z7 σ5 q8
    have s6 := s6.trans rfl
    refine r_istore (lv' := [(4, Value.int z7), (0, Value.ref (B + a0)), (1, Value.long y1), (3, Value.int x3)]) C dX8_stepFour_17 (by decide) rfl ?_
    refine r_iload C dX8_stepFour_19 (j := 0) rfl ?_
    refine r_if_ne (tgt := 58) C dX8_stepFour_21 (by decide) (fun c9 => ?_) (fun c9 => ?_)
    · have h := h.2 c9
      exact r_loc (by simp) h
    · have h := h.1 c9
      refine r_aload_n C dX8_stepFour_24 rfl (j := 1) rfl ?_
      obtain ⟨n10, g11, h⟩ := h
      refine r_getR C (r_atT s6 g1) fa_X8_106 rfl (r_atN g11) dX8_stepFour_25 ?_
      refine r_iload_n C dX8_stepFour_28 rfl (j := 3) rfl ?_
      obtain ⟨g12, h⟩ := h
      refine r_zald C (r_atT s6 g11) ⟨rfl, fun _ => rfl⟩ g12 dX8_stepFour_29 ?_
      refine r_if_eq (tgt := 58) C dX8_stepFour_30 (by decide) (fun c13 => ?_) (fun c13 => ?_)
      · have h := h.1 c13
        exact r_loc (by simp) h
      · have h := h.2 c13
        refine r_aload_n C dX8_stepFour_33 rfl (j := 1) rfl ?_
        obtain ⟨n14, g15, h⟩ := h
        refine r_getR C (r_atT s6 g1) fa_X8_76 rfl (r_atN g15) dX8_stepFour_34 ?_
        refine r_iload_n C dX8_stepFour_37 rfl (j := 3) rfl ?_
        refine r_aload_n C dX8_stepFour_38 rfl (j := 1) rfl ?_
        obtain ⟨n16, g17, h⟩ := h
        refine r_getR C (r_atT s6 g1) fa_X8_109 rfl (r_atN g17) dX8_stepFour_39 ?_
        refine r_iload_n C dX8_stepFour_42 rfl (j := 3) rfl ?_
        obtain ⟨g18, h⟩ := h
        refine r_lald C (r_atT s6 g17) ⟨rfl, fun _ => rfl⟩ g18 dX8_stepFour_43 ?_
        refine r_lload_n C dX8_stepFour_44 rfl (j := 2) rfl ?_
        refine r_lconst (v := 1) C dX8_stepFour_45 (by decide) ?_
        refine r_lsub C dX8_stepFour_46 ?_
        refine r_lcmp C dX8_stepFour_47 ?_
        refine r_if_ne (tgt := 55) C dX8_stepFour_48 (by decide) (fun c19 => ?_) (fun c19 => ?_)
        · have h := h.2 (fun q => c19 (lgc_eq.mpr q))
          refine r_bipush (v := 6) C dX8_stepFour_55 (by decide) ?_
          obtain ⟨g20, h⟩ := h
          refine r_iast C (r_atT s6 g15) ⟨rfl, fun _ => rfl⟩ g20 dX8_stepFour_57 ?_
          refine r_nam (fun σ21 e22 => ?_)
          have h := h σ21 e22
          have s23 : σ21.1 = σ.1 := by rw [e22]; exact s6
          exact r_loc (by simp) h
        · have h := h.1 (lgc_eq.mp c19)
          refine r_iconst (v := 3) C dX8_stepFour_51 (by decide) ?_
          refine r_goto (tgt := 57) C dX8_stepFour_52 (by decide) ?_
          obtain ⟨g24, h⟩ := h
          refine r_iast C (r_atT s6 g15) ⟨rfl, fun _ => rfl⟩ g24 dX8_stepFour_57 ?_
          refine r_nam (fun σ25 e26 => ?_)
          have h := h σ25 e26
          have s27 : σ25.1 = σ.1 := by rw [e26]; exact s6
          exact r_loc (by simp) h
theorem w_X8_stepFour_58 {X : r_X} {w : r_V} {B : Nat} {l : Launch} {Q : r_S → Prop} {σ0 : r_S} (C : r_C X w B 5 cX8_stepFour RX8) (E : r_E X l tX8_stepFour) {σ : r_S} (hs : σ.1 = σ0.1) {a0 : Nat} {x3 x4 : Int32} {y1 : Int64}
    (h : r_at σ a0 = some (.inl 8) ∧ (∃ n2, r_at σ (r_gr σ a0 39) = some (.inr (2, n2)) ∧ (vp_in x3 n2 ∧ ((x4 = 0 ∨ x4 = 1) ∧ (∀ σ6 : r_S, σ6 = r_ui σ (r_gr σ a0 39) (x3.toNatClampNeg) x4 → (∃ Q9 : Int32 → r_S → Prop, r_M l w B tX8_sends [Value.ref (B + a0), Value.int x3, Value.long y1] σ6 (r_QI σ6 Q9) ∧ (∀ (z13 : Int32) (σ11 : r_S), Q9 z13 σ11 → ((z13 = 0 → ((x4 = 0 → (∃ n33, r_at σ (r_gr σ11 a0 31) = some (.inr (1, n33)) ∧ (vp_in x3 n33 ∧ ((0 ≤ (r_gl σ11 (r_gr σ11 a0 31) x3.toNatClampNeg) → (∃ n37, r_at σ (r_gr σ11 a0 28) = some (.inr (0, n37)) ∧ (vp_in x3 n37 ∧ (∀ σ40 : r_S, σ40 = r_ui σ11 (r_gr σ11 a0 28) (x3.toNatClampNeg) 0 → (∀ z43 : Int32, z43 = x3 + 1 → (r_W X w B 5 0 0 (r_Z X w B tX8_stepFour (r_QV σ0 Q)) 2 [(0, Value.ref (B + a0)), (1, Value.long y1), (3, Value.int z43)] [] σ40)))))) ∧ (¬ 0 ≤ (r_gl σ11 (r_gr σ11 a0 31) x3.toNatClampNeg) → (∃ n45, r_at σ (r_gr σ11 a0 34) = some (.inr (1, n45)) ∧ (vp_in x3 n45 ∧ ((0 ≤ (r_gl σ11 (r_gr σ11 a0 34) x3.toNatClampNeg) → (∃ n49, r_at σ (r_gr σ11 a0 28) = some (.inr (0, n49)) ∧ (vp_in x3 n49 ∧ (∀ σ52 : r_S, σ52 = r_ui σ11 (r_gr σ11 a0 28) (x3.toNatClampNeg) 0 → (∀ z55 : Int32, z55 = x3 + 1 → (r_W X w B 5 0 0 (r_Z X w B tX8_stepFour (r_QV σ0 Q)) 2 [(0, Value.ref (B + a0)), (1, Value.long y1), (3, Value.int z55)] [] σ52)))))) ∧ (¬ 0 ≤ (r_gl σ11 (r_gr σ11 a0 34) x3.toNatClampNeg) → (∃ n57, r_at σ (r_gr σ11 a0 30) = some (.inr (1, n57)) ∧ (vp_in x3 n57 ∧ ((y1 < (r_gl σ11 (r_gr σ11 a0 30) x3.toNatClampNeg) → (∃ n61, r_at σ (r_gr σ11 a0 28) = some (.inr (0, n61)) ∧ (vp_in x3 n61 ∧ (∀ σ64 : r_S, σ64 = r_ui σ11 (r_gr σ11 a0 28) (x3.toNatClampNeg) 0 → (∀ z67 : Int32, z67 = x3 + 1 → (r_W X w B 5 0 0 (r_Z X w B tX8_stepFour (r_QV σ0 Q)) 2 [(0, Value.ref (B + a0)), (1, Value.long y1), (3, Value.int z67)] [] σ64)))))) ∧ (¬ y1 < (r_gl σ11 (r_gr σ11 a0 30) x3.toNatClampNeg) → (∃ n69, r_at σ (r_gr σ11 a0 28) = some (.inr (0, n69)) ∧ (vp_in x3 n69 ∧ (∀ σ72 : r_S, σ72 = r_ui σ11 (r_gr σ11 a0 28) (x3.toNatClampNeg) ((r_gi σ11 (r_gr σ11 a0 28) x3.toNatClampNeg) + 1) → (∃ n75, r_at σ (r_gr σ72 a0 28) = some (.inr (0, n75)) ∧ (vp_in x3 n75 ∧ (∃ n78, r_at σ (r_gr σ72 a0 29) = some (.inr (0, n78)) ∧ (vp_in x3 n78 ∧ (((r_gi σ72 (r_gr σ72 a0 28) x3.toNatClampNeg) ≤ (r_gi σ72 (r_gr σ72 a0 29) x3.toNatClampNeg) → (∀ z82 : Int32, z82 = x3 + 1 → (r_W X w B 5 0 0 (r_Z X w B tX8_stepFour (r_QV σ0 Q)) 2 [(0, Value.ref (B + a0)), (1, Value.long y1), (3, Value.int z82)] [] σ72))) ∧ (¬ (r_gi σ72 (r_gr σ72 a0 28) x3.toNatClampNeg) ≤ (r_gi σ72 (r_gr σ72 a0 29) x3.toNatClampNeg) → (∃ n84, r_at σ (r_gr σ72 a0 27) = some (.inr (0, n84)) ∧ (vp_in x3 n84 ∧ (((r_gi σ72 (r_gr σ72 a0 27) x3.toNatClampNeg) ≤ 0 → (∀ z88 : Int32, z88 = x3 + 1 → (r_W X w B 5 0 0 (r_Z X w B tX8_stepFour (r_QV σ0 Q)) 2 [(0, Value.ref (B + a0)), (1, Value.long y1), (3, Value.int z88)] [] σ72))) ∧ (¬ (r_gi σ72 (r_gr σ72 a0 27) x3.toNatClampNeg) ≤ 0 → (∀ σ90 : r_S, σ90 = r_ui σ72 (r_gr σ72 a0 27) (x3.toNatClampNeg) ((r_gi σ72 (r_gr σ72 a0 27) x3.toNatClampNeg) - 1) → (∀ z93 : Int32, z93 = x3 + 1 → (r_W X w B 5 0 0 (r_Z X w B tX8_stepFour (r_QV σ0 Q)) 2 [(0, Value.ref (B + a0)), (1, Value.long y1), (3, Value.int z93)] [] σ90))))))))))))))))))))))))))))) ∧ (¬ x4 = 0 → (∃ n25, r_at σ (r_gr σ11 a0 28) = some (.inr (0, n25)) ∧ (vp_in x3 n25 ∧ (∀ σ28 : r_S, σ28 = r_ui σ11 (r_gr σ11 a0 28) (x3.toNatClampNeg) 0 → (∀ z31 : Int32, z31 = x3 + 1 → (r_W X w B 5 0 0 (r_Z X w B tX8_stepFour (r_QV σ0 Q)) 2 [(0, Value.ref (B + a0)), (1, Value.long y1), (3, Value.int z31)] [] σ28)))))))) ∧ (¬ z13 = 0 → (∃ n16, r_at σ (r_gr σ11 a0 28) = some (.inr (0, n16)) ∧ (vp_in x3 n16 ∧ (∀ σ19 : r_S, σ19 = r_ui σ11 (r_gr σ11 a0 28) (x3.toNatClampNeg) 0 → (∀ z22 : Int32, z22 = x3 + 1 → (r_W X w B 5 0 0 (r_Z X w B tX8_stepFour (r_QV σ0 Q)) 2 [(0, Value.ref (B + a0)), (1, Value.long y1), (3, Value.int z22)] [] σ19)))))))))))))) :
    r_W X w B 5 0 0 (r_Z X w B tX8_stepFour (r_QV σ0 Q)) 58 [(0, Value.ref (B + a0)), (1, Value.long y1), (3, Value.int x3), (4, Value.int x4)] [] σ := by
  refine r_aload_n C dX8_stepFour_58 rfl (j := 0) rfl ?_
  obtain ⟨g1, h⟩ := h
  obtain ⟨n2, g3, h⟩ := h
  refine r_getR C (r_atT rfl g1) fa_X8_106 rfl (r_atN g3) dX8_stepFour_59 ?_
  refine r_iload_n C dX8_stepFour_62 rfl (j := 2) rfl ?_
  refine r_iload C dX8_stepFour_63 (j := 3) rfl ?_
  obtain ⟨g4, h⟩ := h
  obtain ⟨g5, h⟩ := h
  refine r_zast C (r_atT rfl g3) ⟨rfl, fun _ => rfl⟩ g4 (by rcases g5 with e | e <;> rw [e] <;> decide) dX8_stepFour_65 ?_
  refine r_nam (fun σ6 e7 => ?_)
  have h := h σ6 e7
  have s8 : σ6.1 = σ.1 := by rw [e7]; exact rfl
  refine r_aload_n C dX8_stepFour_66 rfl (j := 0) rfl ?_
  refine r_iload_n C dX8_stepFour_67 rfl (j := 2) rfl ?_
  refine r_lload_n C dX8_stepFour_68 rfl (j := 1) rfl ?_
  obtain ⟨Q9, m10, h⟩ := h
  refine r_callVI (rest := []) C E [Value.int x3, Value.long y1] (r_atT s8 g1) rfl ky_X8_sends kl_X8_198 ki_X8_sends kx_X8_sends ⟨Nat.le_of_ble_eq_true rfl, Nat.le_of_ble_eq_true rfl⟩ ⟨rfl, rfl⟩ m10 rfl rfl (Nat.le_of_ble_eq_true rfl) (Nat.zero_le _) (Nat.zero_le _) dX8_stepFour_69 (fun z13 σ11 s12 q14 => ?_)
  have h := h z13 σ11 q14
  have s12 := s12.trans s8
  refine r_if_ne (tgt := 160) C dX8_stepFour_72 (by decide) (fun c15 => ?_) (fun c15 => ?_)
  · have h := h.2 c15
    refine r_aload_n C dX8_stepFour_160 rfl (j := 0) rfl ?_
    obtain ⟨n16, g17, h⟩ := h
    refine r_getR C (r_atT s12 g1) fa_X8_73 rfl (r_atN g17) dX8_stepFour_161 ?_
    refine r_iload_n C dX8_stepFour_164 rfl (j := 2) rfl ?_
    refine r_iconst (v := 0) C dX8_stepFour_165 (by decide) ?_
    obtain ⟨g18, h⟩ := h
    refine r_iast C (r_atT s12 g17) ⟨rfl, fun _ => rfl⟩ g18 dX8_stepFour_166 ?_
    refine r_nam (fun σ19 e20 => ?_)
    have h := h σ19 e20
    have s21 : σ19.1 = σ.1 := by rw [e20]; exact s12
    obtain ⟨z22, e23⟩ : ∃ y : Int32, y = x3 + 1 := ⟨_, rfl⟩
    have h := h z22 e23
    refine r_iinc (v := z22) (lv' := [(3, Value.int z22), (0, Value.ref (B + a0)), (1, Value.long y1), (4, Value.int x4)]) C dX8_stepFour_167 (k := 2) rfl (by rw [e23]; rfl) (by decide) rfl ?_
    refine r_goto (tgt := 2) C dX8_stepFour_170 (by decide) ?_
    exact r_loc (by simp) h
  · have h := h.1 c15
    refine r_iload C dX8_stepFour_75 (j := 3) rfl ?_
    refine r_if_ne (tgt := 160) C dX8_stepFour_77 (by decide) (fun c24 => ?_) (fun c24 => ?_)
    · have h := h.2 c24
      refine r_aload_n C dX8_stepFour_160 rfl (j := 0) rfl ?_
      obtain ⟨n25, g26, h⟩ := h
      refine r_getR C (r_atT s12 g1) fa_X8_73 rfl (r_atN g26) dX8_stepFour_161 ?_
      refine r_iload_n C dX8_stepFour_164 rfl (j := 2) rfl ?_
      refine r_iconst (v := 0) C dX8_stepFour_165 (by decide) ?_
      obtain ⟨g27, h⟩ := h
      refine r_iast C (r_atT s12 g26) ⟨rfl, fun _ => rfl⟩ g27 dX8_stepFour_166 ?_
      refine r_nam (fun σ28 e29 => ?_)
      have h := h σ28 e29
      have s30 : σ28.1 = σ.1 := by rw [e29]; exact s12
      obtain ⟨z31, e32⟩ : ∃ y : Int32, y = x3 + 1 := ⟨_, rfl⟩
      have h := h z31 e32
      refine r_iinc (v := z31) (lv' := [(3, Value.int z31), (0, Value.ref (B + a0)), (1, Value.long y1), (4, Value.int x4)]) C dX8_stepFour_167 (k := 2) rfl (by rw [e32]; rfl) (by decide) rfl ?_
      refine r_goto (tgt := 2) C dX8_stepFour_170 (by decide) ?_
      exact r_loc (by simp) h
    · have h := h.1 c24
      refine r_aload_n C dX8_stepFour_80 rfl (j := 0) rfl ?_
      obtain ⟨n33, g34, h⟩ := h
      refine r_getR C (r_atT s12 g1) fa_X8_82 rfl (r_atN g34) dX8_stepFour_81 ?_
      refine r_iload_n C dX8_stepFour_84 rfl (j := 2) rfl ?_
      obtain ⟨g35, h⟩ := h
      refine r_lald C (r_atT s12 g34) ⟨rfl, fun _ => rfl⟩ g35 dX8_stepFour_85 ?_
      refine r_lconst (v := 0) C dX8_stepFour_86 (by decide) ?_
      refine r_lcmp C dX8_stepFour_87 ?_
      refine r_if_ge (tgt := 160) C dX8_stepFour_88 (by decide) (fun c36 => ?_) (fun c36 => ?_)
      · have h := h.1 (lgc_ge.mp c36)
        refine r_aload_n C dX8_stepFour_160 rfl (j := 0) rfl ?_
        obtain ⟨n37, g38, h⟩ := h
        refine r_getR C (r_atT s12 g1) fa_X8_73 rfl (r_atN g38) dX8_stepFour_161 ?_
        refine r_iload_n C dX8_stepFour_164 rfl (j := 2) rfl ?_
        refine r_iconst (v := 0) C dX8_stepFour_165 (by decide) ?_
        obtain ⟨g39, h⟩ := h
        refine r_iast C (r_atT s12 g38) ⟨rfl, fun _ => rfl⟩ g39 dX8_stepFour_166 ?_
        refine r_nam (fun σ40 e41 => ?_)
        have h := h σ40 e41
        have s42 : σ40.1 = σ.1 := by rw [e41]; exact s12
        obtain ⟨z43, e44⟩ : ∃ y : Int32, y = x3 + 1 := ⟨_, rfl⟩
        have h := h z43 e44
        refine r_iinc (v := z43) (lv' := [(3, Value.int z43), (0, Value.ref (B + a0)), (1, Value.long y1), (4, Value.int x4)]) C dX8_stepFour_167 (k := 2) rfl (by rw [e44]; rfl) (by decide) rfl ?_
        refine r_goto (tgt := 2) C dX8_stepFour_170 (by decide) ?_
        exact r_loc (by simp) h
      · have h := h.2 (fun q => c36 (lgc_ge.mpr q))
        refine r_aload_n C dX8_stepFour_91 rfl (j := 0) rfl ?_
        obtain ⟨n45, g46, h⟩ := h
        refine r_getR C (r_atT s12 g1) fa_X8_91 rfl (r_atN g46) dX8_stepFour_92 ?_
        refine r_iload_n C dX8_stepFour_95 rfl (j := 2) rfl ?_
        obtain ⟨g47, h⟩ := h
        refine r_lald C (r_atT s12 g46) ⟨rfl, fun _ => rfl⟩ g47 dX8_stepFour_96 ?_
        refine r_lconst (v := 0) C dX8_stepFour_97 (by decide) ?_
        refine r_lcmp C dX8_stepFour_98 ?_
        refine r_if_ge (tgt := 160) C dX8_stepFour_99 (by decide) (fun c48 => ?_) (fun c48 => ?_)
        · have h := h.1 (lgc_ge.mp c48)
          refine r_aload_n C dX8_stepFour_160 rfl (j := 0) rfl ?_
          obtain ⟨n49, g50, h⟩ := h
          refine r_getR C (r_atT s12 g1) fa_X8_73 rfl (r_atN g50) dX8_stepFour_161 ?_
          refine r_iload_n C dX8_stepFour_164 rfl (j := 2) rfl ?_
          refine r_iconst (v := 0) C dX8_stepFour_165 (by decide) ?_
          obtain ⟨g51, h⟩ := h
          refine r_iast C (r_atT s12 g50) ⟨rfl, fun _ => rfl⟩ g51 dX8_stepFour_166 ?_
          refine r_nam (fun σ52 e53 => ?_)
          have h := h σ52 e53
          have s54 : σ52.1 = σ.1 := by rw [e53]; exact s12
          obtain ⟨z55, e56⟩ : ∃ y : Int32, y = x3 + 1 := ⟨_, rfl⟩
          have h := h z55 e56
          refine r_iinc (v := z55) (lv' := [(3, Value.int z55), (0, Value.ref (B + a0)), (1, Value.long y1), (4, Value.int x4)]) C dX8_stepFour_167 (k := 2) rfl (by rw [e56]; rfl) (by decide) rfl ?_
          refine r_goto (tgt := 2) C dX8_stepFour_170 (by decide) ?_
          exact r_loc (by simp) h
        · have h := h.2 (fun q => c48 (lgc_ge.mpr q))
          refine r_aload_n C dX8_stepFour_102 rfl (j := 0) rfl ?_
          obtain ⟨n57, g58, h⟩ := h
          refine r_getR C (r_atT s12 g1) fa_X8_79 rfl (r_atN g58) dX8_stepFour_103 ?_
          refine r_iload_n C dX8_stepFour_106 rfl (j := 2) rfl ?_
          obtain ⟨g59, h⟩ := h
          refine r_lald C (r_atT s12 g58) ⟨rfl, fun _ => rfl⟩ g59 dX8_stepFour_107 ?_
          refine r_lload_n C dX8_stepFour_108 rfl (j := 1) rfl ?_
          refine r_lcmp C dX8_stepFour_109 ?_
          refine r_if_gt (tgt := 160) C dX8_stepFour_110 (by decide) (fun c60 => ?_) (fun c60 => ?_)
          · have h := h.1 (lgc_gt.mp c60)
            refine r_aload_n C dX8_stepFour_160 rfl (j := 0) rfl ?_
            obtain ⟨n61, g62, h⟩ := h
            refine r_getR C (r_atT s12 g1) fa_X8_73 rfl (r_atN g62) dX8_stepFour_161 ?_
            refine r_iload_n C dX8_stepFour_164 rfl (j := 2) rfl ?_
            refine r_iconst (v := 0) C dX8_stepFour_165 (by decide) ?_
            obtain ⟨g63, h⟩ := h
            refine r_iast C (r_atT s12 g62) ⟨rfl, fun _ => rfl⟩ g63 dX8_stepFour_166 ?_
            refine r_nam (fun σ64 e65 => ?_)
            have h := h σ64 e65
            have s66 : σ64.1 = σ.1 := by rw [e65]; exact s12
            obtain ⟨z67, e68⟩ : ∃ y : Int32, y = x3 + 1 := ⟨_, rfl⟩
            have h := h z67 e68
            refine r_iinc (v := z67) (lv' := [(3, Value.int z67), (0, Value.ref (B + a0)), (1, Value.long y1), (4, Value.int x4)]) C dX8_stepFour_167 (k := 2) rfl (by rw [e68]; rfl) (by decide) rfl ?_
            refine r_goto (tgt := 2) C dX8_stepFour_170 (by decide) ?_
            exact r_loc (by simp) h
          · have h := h.2 (fun q => c60 (lgc_gt.mpr q))
            refine r_aload_n C dX8_stepFour_113 rfl (j := 0) rfl ?_
            obtain ⟨n69, g70, h⟩ := h
            refine r_getR C (r_atT s12 g1) fa_X8_73 rfl (r_atN g70) dX8_stepFour_114 ?_
            refine r_iload_n C dX8_stepFour_117 rfl (j := 2) rfl ?_
            refine r_dup2_11 C dX8_stepFour_118 rfl rfl ?_
            obtain ⟨g71, h⟩ := h
            refine r_iald C (r_atT s12 g70) ⟨rfl, fun _ => rfl⟩ g71 dX8_stepFour_119 ?_
            refine r_iconst (v := 1) C dX8_stepFour_120 (by decide) ?_
            refine r_iadd C dX8_stepFour_121 ?_
            refine r_iast C (r_atT s12 g70) ⟨rfl, fun _ => rfl⟩ g71 dX8_stepFour_122 ?_
            refine r_nam (fun σ72 e73 => ?_)
            have h := h σ72 e73
            have s74 : σ72.1 = σ.1 := by rw [e73]; exact s12
            refine r_aload_n C dX8_stepFour_123 rfl (j := 0) rfl ?_
            obtain ⟨n75, g76, h⟩ := h
            refine r_getR C (r_atT s74 g1) fa_X8_73 rfl (r_atN g76) dX8_stepFour_124 ?_
            refine r_iload_n C dX8_stepFour_127 rfl (j := 2) rfl ?_
            obtain ⟨g77, h⟩ := h
            refine r_iald C (r_atT s74 g76) ⟨rfl, fun _ => rfl⟩ g77 dX8_stepFour_128 ?_
            refine r_aload_n C dX8_stepFour_129 rfl (j := 0) rfl ?_
            obtain ⟨n78, g79, h⟩ := h
            refine r_getR C (r_atT s74 g1) fa_X8_76 rfl (r_atN g79) dX8_stepFour_130 ?_
            refine r_iload_n C dX8_stepFour_133 rfl (j := 2) rfl ?_
            obtain ⟨g80, h⟩ := h
            refine r_iald C (r_atT s74 g79) ⟨rfl, fun _ => rfl⟩ g80 dX8_stepFour_134 ?_
            refine r_icmp_le (tgt := 167) C dX8_stepFour_135 (by decide) (fun c81 => ?_) (fun c81 => ?_)
            · have h := h.1 c81
              obtain ⟨z82, e83⟩ : ∃ y : Int32, y = x3 + 1 := ⟨_, rfl⟩
              have h := h z82 e83
              refine r_iinc (v := z82) (lv' := [(3, Value.int z82), (0, Value.ref (B + a0)), (1, Value.long y1), (4, Value.int x4)]) C dX8_stepFour_167 (k := 2) rfl (by rw [e83]; rfl) (by decide) rfl ?_
              refine r_goto (tgt := 2) C dX8_stepFour_170 (by decide) ?_
              exact r_loc (by simp) h
            · have h := h.2 c81
              refine r_aload_n C dX8_stepFour_138 rfl (j := 0) rfl ?_
              obtain ⟨n84, g85, h⟩ := h
              refine r_getR C (r_atT s74 g1) fa_X8_70 rfl (r_atN g85) dX8_stepFour_139 ?_
              refine r_iload_n C dX8_stepFour_142 rfl (j := 2) rfl ?_
              obtain ⟨g86, h⟩ := h
              refine r_iald C (r_atT s74 g85) ⟨rfl, fun _ => rfl⟩ g86 dX8_stepFour_143 ?_
              refine r_if_le (tgt := 167) C dX8_stepFour_144 (by decide) (fun c87 => ?_) (fun c87 => ?_)
              · have h := h.1 c87
                obtain ⟨z88, e89⟩ : ∃ y : Int32, y = x3 + 1 := ⟨_, rfl⟩
                have h := h z88 e89
                refine r_iinc (v := z88) (lv' := [(3, Value.int z88), (0, Value.ref (B + a0)), (1, Value.long y1), (4, Value.int x4)]) C dX8_stepFour_167 (k := 2) rfl (by rw [e89]; rfl) (by decide) rfl ?_
                refine r_goto (tgt := 2) C dX8_stepFour_170 (by decide) ?_
                exact r_loc (by simp) h
              · have h := h.2 c87
                refine r_aload_n C dX8_stepFour_147 rfl (j := 0) rfl ?_
                refine r_getR C (r_atT s74 g1) fa_X8_70 rfl (r_atN g85) dX8_stepFour_148 ?_
                refine r_iload_n C dX8_stepFour_151 rfl (j := 2) rfl ?_
                refine r_dup2_11 C dX8_stepFour_152 rfl rfl ?_
                refine r_iald C (r_atT s74 g85) ⟨rfl, fun _ => rfl⟩ g86 dX8_stepFour_153 ?_
                refine r_iconst (v := 1) C dX8_stepFour_154 (by decide) ?_
                refine r_isub C dX8_stepFour_155 ?_
                refine r_iast C (r_atT s74 g85) ⟨rfl, fun _ => rfl⟩ g86 dX8_stepFour_156 ?_
                refine r_nam (fun σ90 e91 => ?_)
                have h := h σ90 e91
                have s92 : σ90.1 = σ.1 := by rw [e91]; exact s74
                refine r_goto (tgt := 167) C dX8_stepFour_157 (by decide) ?_
                obtain ⟨z93, e94⟩ : ∃ y : Int32, y = x3 + 1 := ⟨_, rfl⟩
                have h := h z93 e94
                refine r_iinc (v := z93) (lv' := [(3, Value.int z93), (0, Value.ref (B + a0)), (1, Value.long y1), (4, Value.int x4)]) C dX8_stepFour_167 (k := 2) rfl (by rw [e94]; rfl) (by decide) rfl ?_
                refine r_goto (tgt := 2) C dX8_stepFour_170 (by decide) ?_
                exact r_loc (by simp) h
theorem w_X8_stepFour_175 {X : r_X} {w : r_V} {B : Nat} {l : Launch} {Q : r_S → Prop} {σ0 : r_S} (C : r_C X w B 5 cX8_stepFour RX8) (E : r_E X l tX8_stepFour) {σ : r_S} (hs : σ.1 = σ0.1) {a0 : Nat} {x3 : Int32} {y1 : Int64}
    (h : r_at σ a0 = some (.inl 8) ∧ (((r_gi σ a0 1) ≤ x3 → (Q σ)) ∧ (¬ (r_gi σ a0 1) ≤ x3 → (∃ n3, r_at σ (r_gr σ a0 45) = some (.inr (0, n3)) ∧ (∃ n5, r_at σ (r_gr σ a0 48) = some (.inr (1, n5)) ∧ (vp_in x3 n5 ∧ ((y1 < (r_gl σ (r_gr σ a0 48) x3.toNatClampNeg) → (vp_in x3 n3 ∧ (∀ σ10 : r_S, σ10 = r_ui σ (r_gr σ a0 45) (x3.toNatClampNeg) (r_gi σ (r_gr σ a0 45) x3.toNatClampNeg) → (∀ z13 : Int32, z13 = x3 + 1 → (r_W X w B 5 0 0 (r_Z X w B tX8_stepFour (r_QV σ0 Q)) 175 [(0, Value.ref (B + a0)), (1, Value.long y1), (3, Value.int z13)] [] σ10))))) ∧ (¬ y1 < (r_gl σ (r_gr σ a0 48) x3.toNatClampNeg) → (vp_in x3 n3 ∧ (∀ σ16 : r_S, σ16 = r_ui σ (r_gr σ a0 45) (x3.toNatClampNeg) 0 → (∀ z19 : Int32, z19 = x3 + 1 → (r_W X w B 5 0 0 (r_Z X w B tX8_stepFour (r_QV σ0 Q)) 175 [(0, Value.ref (B + a0)), (1, Value.long y1), (3, Value.int z19)] [] σ16)))))))))))) :
    r_W X w B 5 0 0 (r_Z X w B tX8_stepFour (r_QV σ0 Q)) 175 [(0, Value.ref (B + a0)), (1, Value.long y1), (3, Value.int x3)] [] σ := by
  refine r_iload_n C dX8_stepFour_175 rfl (j := 2) rfl ?_
  refine r_aload_n C dX8_stepFour_176 rfl (j := 0) rfl ?_
  obtain ⟨g1, h⟩ := h
  refine r_get (v := .int (r_gi σ a0 1)) C (r_atT rfl g1) fa_X8_145 rfl dX8_stepFour_177 ?_
  refine r_icmp_ge (tgt := 216) C dX8_stepFour_180 (by decide) (fun c2 => ?_) (fun c2 => ?_)
  · have h := h.1 c2
    exact r_vretQ C E rfl (Nat.zero_le _) (Nat.zero_le _) dX8_stepFour_216 ((rfl : σ.1 = σ.1).trans hs) h
  · have h := h.2 c2
    refine r_aload_n C dX8_stepFour_183 rfl (j := 0) rfl ?_
    obtain ⟨n3, g4, h⟩ := h
    refine r_getR C (r_atT rfl g1) fa_X8_124 rfl (r_atN g4) dX8_stepFour_184 ?_
    refine r_iload_n C dX8_stepFour_187 rfl (j := 2) rfl ?_
    refine r_aload_n C dX8_stepFour_188 rfl (j := 0) rfl ?_
    obtain ⟨n5, g6, h⟩ := h
    refine r_getR C (r_atT rfl g1) fa_X8_133 rfl (r_atN g6) dX8_stepFour_189 ?_
    refine r_iload_n C dX8_stepFour_192 rfl (j := 2) rfl ?_
    obtain ⟨g7, h⟩ := h
    refine r_lald C (r_atT rfl g6) ⟨rfl, fun _ => rfl⟩ g7 dX8_stepFour_193 ?_
    refine r_lload_n C dX8_stepFour_194 rfl (j := 1) rfl ?_
    refine r_lcmp C dX8_stepFour_195 ?_
    refine r_if_gt (tgt := 203) C dX8_stepFour_196 (by decide) (fun c8 => ?_) (fun c8 => ?_)
    · have h := h.1 (lgc_gt.mp c8)
      refine r_aload_n C dX8_stepFour_203 rfl (j := 0) rfl ?_
      refine r_getR C (r_atT rfl g1) fa_X8_124 rfl (r_atN g4) dX8_stepFour_204 ?_
      refine r_iload_n C dX8_stepFour_207 rfl (j := 2) rfl ?_
      obtain ⟨g9, h⟩ := h
      refine r_iald C (r_atT rfl g4) ⟨rfl, fun _ => rfl⟩ g9 dX8_stepFour_208 ?_
      refine r_iast C (r_atT rfl g4) ⟨rfl, fun _ => rfl⟩ g9 dX8_stepFour_209 ?_
      refine r_nam (fun σ10 e11 => ?_)
      have h := h σ10 e11
      have s12 : σ10.1 = σ.1 := by rw [e11]; exact rfl
      obtain ⟨z13, e14⟩ : ∃ y : Int32, y = x3 + 1 := ⟨_, rfl⟩
      have h := h z13 e14
      refine r_iinc (v := z13) (lv' := [(3, Value.int z13), (0, Value.ref (B + a0)), (1, Value.long y1)]) C dX8_stepFour_210 (k := 2) rfl (by rw [e14]; rfl) (by decide) rfl ?_
      refine r_goto (tgt := 175) C dX8_stepFour_213 (by decide) ?_
      exact r_loc (by simp) h
    · have h := h.2 (fun q => c8 (lgc_gt.mpr q))
      refine r_iconst (v := 0) C dX8_stepFour_199 (by decide) ?_
      refine r_goto (tgt := 209) C dX8_stepFour_200 (by decide) ?_
      obtain ⟨g15, h⟩ := h
      refine r_iast C (r_atT rfl g4) ⟨rfl, fun _ => rfl⟩ g15 dX8_stepFour_209 ?_
      refine r_nam (fun σ16 e17 => ?_)
      have h := h σ16 e17
      have s18 : σ16.1 = σ.1 := by rw [e17]; exact rfl
      obtain ⟨z19, e20⟩ : ∃ y : Int32, y = x3 + 1 := ⟨_, rfl⟩
      have h := h z19 e20
      refine r_iinc (v := z19) (lv' := [(3, Value.int z19), (0, Value.ref (B + a0)), (1, Value.long y1)]) C dX8_stepFour_210 (k := 2) rfl (by rw [e20]; rfl) (by decide) rfl ?_
      refine r_goto (tgt := 175) C dX8_stepFour_213 (by decide) ?_
      exact r_loc (by simp) h
theorem w_X8_run_0 {X : r_X} {w : r_V} {B : Nat} {l : Launch} {Q : Int32 → r_S → Prop} {σ0 : r_S} (C : r_C X w B 4 cX8_run RX8) (E : r_E X l tX8_run) {σ : r_S} (hs : σ.1 = σ0.1) {a0 : Nat} {x1 : Int32}
    (h : r_at σ a0 = some (.inl 8) ∧ (∀ σ2 : r_S, σ2 = r_ui σ a0 0 0 → ((x1 < 1 → (Q (-12) σ2)) ∧ (¬ x1 < 1 → ((x1 ≤ 2000 → (∀ z7 : Int32, z7 = r_gi σ2 a0 21 → (r_W X w B 4 0 0 (r_Z X w B tX8_run (r_QI σ0 Q)) 27 [(0, Value.ref (B + a0)), (1, Value.int x1), (2, Value.int z7), (3, Value.int 0)] [] σ2))) ∧ (¬ x1 ≤ 2000 → (Q (-12) σ2))))))) :
    r_W X w B 4 0 0 (r_Z X w B tX8_run (r_QI σ0 Q)) 0 [(0, Value.ref (B + a0)), (1, Value.int x1)] [] σ := by
  refine r_aload_n C dX8_run_0 rfl (j := 0) rfl ?_
  refine r_iconst (v := 0) C dX8_run_1 (by decide) ?_
  obtain ⟨g1, h⟩ := h
  refine r_putI C (r_atT rfl g1) fa_X8_150 rfl rfl rfl dX8_run_2 ?_
  refine r_nam (fun σ2 e3 => ?_)
  have h := h σ2 e3
  have s4 : σ2.1 = σ.1 := by rw [e3]; exact rfl
  refine r_iload_n C dX8_run_5 rfl (j := 1) rfl ?_
  refine r_iconst (v := 1) C dX8_run_6 (by decide) ?_
  refine r_icmp_lt (tgt := 17) C dX8_run_7 (by decide) (fun c5 => ?_) (fun c5 => ?_)
  · have h := h.1 c5
    refine r_bipush (v := (-12)) C dX8_run_17 (by decide) ?_
    exact r_iretQ C E rfl (Nat.zero_le _) (Nat.zero_le _) dX8_run_19 (s4.trans hs) h
  · have h := h.2 c5
    refine r_iload_n C dX8_run_10 rfl (j := 1) rfl ?_
    refine r_sipush (v := 2000) C dX8_run_11 (by decide) ?_
    refine r_icmp_le (tgt := 20) C dX8_run_14 (by decide) (fun c6 => ?_) (fun c6 => ?_)
    · have h := h.1 c6
      refine r_aload_n C dX8_run_20 rfl (j := 0) rfl ?_
      refine r_get (v := .int (r_gi σ2 a0 21)) C (r_atT s4 g1) fa_X8_183 rfl dX8_run_21 ?_
      refine r_topi (fun z7 e8 => ?_)
      have h := h z7 e8
      refine r_istore_n (lv' := [(2, Value.int z7), (0, Value.ref (B + a0)), (1, Value.int x1)]) C dX8_run_24 rfl (by decide) rfl ?_
      refine r_iconst (v := 0) C dX8_run_25 (by decide) ?_
      refine r_istore_n (lv' := [(3, Value.int 0), (2, Value.int z7), (0, Value.ref (B + a0)), (1, Value.int x1)]) C dX8_run_26 rfl (by decide) rfl ?_
      exact r_loc (by simp) h
    · have h := h.2 c6
      refine r_bipush (v := (-12)) C dX8_run_17 (by decide) ?_
      exact r_iretQ C E rfl (Nat.zero_le _) (Nat.zero_le _) dX8_run_19 (s4.trans hs) h
theorem w_X8_run_27 {X : r_X} {w : r_V} {B : Nat} {l : Launch} {Q : Int32 → r_S → Prop} {σ0 : r_S} (C : r_C X w B 4 cX8_run RX8) (E : r_E X l tX8_run) {σ : r_S} (hs : σ.1 = σ0.1) {a0 : Nat} {x1 x2 x3 : Int32}
    (h : (x1 ≤ x3 → (r_at σ a0 = some (.inl 8) ∧ (Q ((r_gi σ a0 21) - x2) σ))) ∧ (¬ x1 ≤ x3 → (r_at σ a0 = some (.inl 8) ∧ (∃ Q4 : r_S → Prop, r_M l w B tX8_stepOne [Value.ref (B + a0), Value.long (r_gl σ a0 2)] σ (r_QV σ Q4) ∧ (∀ σ6 : r_S, Q4 σ6 → (∃ Q10 : r_S → Prop, r_M l w B tX8_stepTwo [Value.ref (B + a0), Value.long (r_gl σ6 a0 2)] σ6 (r_QV σ6 Q10) ∧ (∀ σ12 : r_S, Q10 σ12 → (∃ Q16 : r_S → Prop, r_M l w B tX8_stepThree [Value.ref (B + a0), Value.long (r_gl σ12 a0 2)] σ12 (r_QV σ12 Q16) ∧ (∀ σ18 : r_S, Q16 σ18 → (∃ Q22 : r_S → Prop, r_M l w B tX8_stepFour [Value.ref (B + a0), Value.long (r_gl σ18 a0 2)] σ18 (r_QV σ18 Q22) ∧ (∀ σ24 : r_S, Q22 σ24 → (∀ σ28 : r_S, σ28 = r_ul σ24 a0 2 ((r_gl σ24 a0 2) + 1) → (∀ z31 : Int32, z31 = x3 + 1 → (r_W X w B 4 0 0 (r_Z X w B tX8_run (r_QI σ0 Q)) 27 [(0, Value.ref (B + a0)), (1, Value.int x1), (2, Value.int x2), (3, Value.int z31)] [] σ28)))))))))))))) :
    r_W X w B 4 0 0 (r_Z X w B tX8_run (r_QI σ0 Q)) 27 [(0, Value.ref (B + a0)), (1, Value.int x1), (2, Value.int x2), (3, Value.int x3)] [] σ := by
  refine r_iload_n C dX8_run_27 rfl (j := 3) rfl ?_
  refine r_iload_n C dX8_run_28 rfl (j := 1) rfl ?_
  refine r_icmp_ge (tgt := 80) C dX8_run_29 (by decide) (fun c1 => ?_) (fun c1 => ?_)
  · have h := h.1 c1
    refine r_aload_n C dX8_run_80 rfl (j := 0) rfl ?_
    obtain ⟨g2, h⟩ := h
    refine r_get (v := .int (r_gi σ a0 21)) C (r_atT rfl g2) fa_X8_183 rfl dX8_run_81 ?_
    refine r_iload_n C dX8_run_84 rfl (j := 2) rfl ?_
    refine r_isub C dX8_run_85 ?_
    exact r_iretQ C E rfl (Nat.zero_le _) (Nat.zero_le _) dX8_run_86 ((rfl : σ.1 = σ.1).trans hs) h
  · have h := h.2 c1
    refine r_aload_n C dX8_run_32 rfl (j := 0) rfl ?_
    refine r_aload_n C dX8_run_33 rfl (j := 0) rfl ?_
    obtain ⟨g3, h⟩ := h
    refine r_get (v := .long (r_gl σ a0 2)) C (r_atT rfl g3) fa_X8_174 rfl dX8_run_34 ?_
    obtain ⟨Q4, m5, h⟩ := h
    refine r_callVV (rest := []) C E [Value.long (r_gl σ a0 2)] (r_atT rfl g3) rfl ky_X8_stepOne kl_X8_239 ki_X8_stepOne kx_X8_stepOne ⟨Nat.le_of_ble_eq_true rfl, Nat.le_of_ble_eq_true rfl⟩ ⟨rfl, rfl⟩ m5 rfl rfl (Nat.le_of_ble_eq_true rfl) (Nat.zero_le _) (Nat.zero_le _) dX8_run_37 (fun σ6 s7 q9 => ?_)
    have h := h σ6 q9
    have s7 := s7.trans rfl
    refine r_aload_n C dX8_run_40 rfl (j := 0) rfl ?_
    refine r_aload_n C dX8_run_41 rfl (j := 0) rfl ?_
    refine r_get (v := .long (r_gl σ6 a0 2)) C (r_atT s7 g3) fa_X8_174 rfl dX8_run_42 ?_
    obtain ⟨Q10, m11, h⟩ := h
    refine r_callVV (rest := []) C E [Value.long (r_gl σ6 a0 2)] (r_atT s7 g3) rfl ky_X8_stepTwo kl_X8_243 ki_X8_stepTwo kx_X8_stepTwo ⟨Nat.le_of_ble_eq_true rfl, Nat.le_of_ble_eq_true rfl⟩ ⟨rfl, rfl⟩ m11 rfl rfl (Nat.le_of_ble_eq_true rfl) (Nat.zero_le _) (Nat.zero_le _) dX8_run_45 (fun σ12 s13 q15 => ?_)
    have h := h σ12 q15
    have s13 := s13.trans s7
    refine r_aload_n C dX8_run_48 rfl (j := 0) rfl ?_
    refine r_aload_n C dX8_run_49 rfl (j := 0) rfl ?_
    refine r_get (v := .long (r_gl σ12 a0 2)) C (r_atT s13 g3) fa_X8_174 rfl dX8_run_50 ?_
    obtain ⟨Q16, m17, h⟩ := h
    refine r_callVV (rest := []) C E [Value.long (r_gl σ12 a0 2)] (r_atT s13 g3) rfl ky_X8_stepThree kl_X8_246 ki_X8_stepThree kx_X8_stepThree ⟨Nat.le_of_ble_eq_true rfl, Nat.le_of_ble_eq_true rfl⟩ ⟨rfl, rfl⟩ m17 rfl rfl (Nat.le_of_ble_eq_true rfl) (Nat.zero_le _) (Nat.zero_le _) dX8_run_53 (fun σ18 s19 q21 => ?_)
    have h := h σ18 q21
    have s19 := s19.trans s13
    refine r_aload_n C dX8_run_56 rfl (j := 0) rfl ?_
    refine r_aload_n C dX8_run_57 rfl (j := 0) rfl ?_
    refine r_get (v := .long (r_gl σ18 a0 2)) C (r_atT s19 g3) fa_X8_174 rfl dX8_run_58 ?_
    obtain ⟨Q22, m23, h⟩ := h
    refine r_callVV (rest := []) C E [Value.long (r_gl σ18 a0 2)] (r_atT s19 g3) rfl ky_X8_stepFour kl_X8_249 ki_X8_stepFour kx_X8_stepFour ⟨Nat.le_of_ble_eq_true rfl, Nat.le_of_ble_eq_true rfl⟩ ⟨rfl, rfl⟩ m23 rfl rfl (Nat.le_of_ble_eq_true rfl) (Nat.zero_le _) (Nat.zero_le _) dX8_run_61 (fun σ24 s25 q27 => ?_)
    have h := h σ24 q27
    have s25 := s25.trans s19
    refine r_aload_n C dX8_run_64 rfl (j := 0) rfl ?_
    refine r_dup C dX8_run_65 rfl ?_
    refine r_get (v := .long (r_gl σ24 a0 2)) C (r_atT s25 g3) fa_X8_174 rfl dX8_run_66 ?_
    refine r_lconst (v := 1) C dX8_run_69 (by decide) ?_
    refine r_ladd C dX8_run_70 ?_
    refine r_putL C (r_atT s25 g3) fa_X8_174 rfl dX8_run_71 ?_
    refine r_nam (fun σ28 e29 => ?_)
    have h := h σ28 e29
    have s30 : σ28.1 = σ.1 := by rw [e29]; exact s25
    obtain ⟨z31, e32⟩ : ∃ y : Int32, y = x3 + 1 := ⟨_, rfl⟩
    have h := h z31 e32
    refine r_iinc (v := z31) (lv' := [(3, Value.int z31), (0, Value.ref (B + a0)), (1, Value.int x1), (2, Value.int x2)]) C dX8_run_74 (k := 3) rfl (by rw [e32]; rfl) (by decide) rfl ?_
    refine r_goto (tgt := 27) C dX8_run_77 (by decide) ?_
    exact r_loc (by simp) h
theorem w_X8_event_0 {X : r_X} {w : r_V} {B : Nat} {l : Launch} {Q : Int32 → r_S → Prop} {σ0 : r_S} (C : r_C X w B 3 cX8_event RX8) (E : r_E X l tX8_event) {σ : r_S} (hs : σ.1 = σ0.1) {a0 : Nat} {x1 x2 : Int32}
    (h : r_at σ a0 = some (.inl 8) ∧ (∀ σ2 : r_S, σ2 = r_ui σ a0 0 0 → ((x1 < 0 → (Q (-1) σ2)) ∧ (¬ x1 < 0 → (((r_gi σ2 a0 21) ≤ x1 → (Q (-1) σ2)) ∧ (¬ (r_gi σ2 a0 21) ≤ x1 → ((700 ≤ x1 → (Q (-1) σ2)) ∧ (¬ 700 ≤ x1 → ((x2 < 0 → (Q (-1) σ2)) ∧ (¬ x2 < 0 → ((x2 ≤ 2 → ((x2 = 0 → (∃ n18, r_at σ (r_gr σ2 a0 22) = some (.inr (0, n18)) ∧ (vp_in x1 n18 ∧ (Q (r_gi σ2 (r_gr σ2 a0 22) x1.toNatClampNeg) σ2)))) ∧ (¬ x2 = 0 → ((x2 = 1 → (∃ n15, r_at σ (r_gr σ2 a0 23) = some (.inr (0, n15)) ∧ (vp_in x1 n15 ∧ (Q (r_gi σ2 (r_gr σ2 a0 23) x1.toNatClampNeg) σ2)))) ∧ (¬ x2 = 1 → (∃ n12, r_at σ (r_gr σ2 a0 24) = some (.inr (1, n12)) ∧ (vp_in x1 n12 ∧ (Q ((r_gl σ2 (r_gr σ2 a0 24) x1.toNatClampNeg).toInt32) σ2)))))))) ∧ (¬ x2 ≤ 2 → (Q (-1) σ2))))))))))))) :
    r_W X w B 3 0 0 (r_Z X w B tX8_event (r_QI σ0 Q)) 0 [(0, Value.ref (B + a0)), (1, Value.int x1), (2, Value.int x2)] [] σ := by
  refine r_aload_n C dX8_event_0 rfl (j := 0) rfl ?_
  refine r_iconst (v := 0) C dX8_event_1 (by decide) ?_
  obtain ⟨g1, h⟩ := h
  refine r_putI C (r_atT rfl g1) fa_X8_150 rfl rfl rfl dX8_event_2 ?_
  refine r_nam (fun σ2 e3 => ?_)
  have h := h σ2 e3
  have s4 : σ2.1 = σ.1 := by rw [e3]; exact rfl
  refine r_iload_n C dX8_event_5 rfl (j := 1) rfl ?_
  refine r_if_lt (tgt := 33) C dX8_event_6 (by decide) (fun c5 => ?_) (fun c5 => ?_)
  · have h := h.1 c5
    refine r_iconst (v := (-1)) C dX8_event_33 (by decide) ?_
    exact r_iretQ C E rfl (Nat.zero_le _) (Nat.zero_le _) dX8_event_34 (s4.trans hs) h
  · have h := h.2 c5
    refine r_iload_n C dX8_event_9 rfl (j := 1) rfl ?_
    refine r_aload_n C dX8_event_10 rfl (j := 0) rfl ?_
    refine r_get (v := .int (r_gi σ2 a0 21)) C (r_atT s4 g1) fa_X8_183 rfl dX8_event_11 ?_
    refine r_icmp_ge (tgt := 33) C dX8_event_14 (by decide) (fun c6 => ?_) (fun c6 => ?_)
    · have h := h.1 c6
      refine r_iconst (v := (-1)) C dX8_event_33 (by decide) ?_
      exact r_iretQ C E rfl (Nat.zero_le _) (Nat.zero_le _) dX8_event_34 (s4.trans hs) h
    · have h := h.2 c6
      refine r_iload_n C dX8_event_17 rfl (j := 1) rfl ?_
      refine r_sipush (v := 700) C dX8_event_18 (by decide) ?_
      refine r_icmp_ge (tgt := 33) C dX8_event_21 (by decide) (fun c7 => ?_) (fun c7 => ?_)
      · have h := h.1 c7
        refine r_iconst (v := (-1)) C dX8_event_33 (by decide) ?_
        exact r_iretQ C E rfl (Nat.zero_le _) (Nat.zero_le _) dX8_event_34 (s4.trans hs) h
      · have h := h.2 c7
        refine r_iload_n C dX8_event_24 rfl (j := 2) rfl ?_
        refine r_if_lt (tgt := 33) C dX8_event_25 (by decide) (fun c8 => ?_) (fun c8 => ?_)
        · have h := h.1 c8
          refine r_iconst (v := (-1)) C dX8_event_33 (by decide) ?_
          exact r_iretQ C E rfl (Nat.zero_le _) (Nat.zero_le _) dX8_event_34 (s4.trans hs) h
        · have h := h.2 c8
          refine r_iload_n C dX8_event_28 rfl (j := 2) rfl ?_
          refine r_iconst (v := 2) C dX8_event_29 (by decide) ?_
          refine r_icmp_le (tgt := 35) C dX8_event_30 (by decide) (fun c9 => ?_) (fun c9 => ?_)
          · have h := h.1 c9
            refine r_iload_n C dX8_event_35 rfl (j := 2) rfl ?_
            refine r_if_ne (tgt := 48) C dX8_event_36 (by decide) (fun c10 => ?_) (fun c10 => ?_)
            · have h := h.2 c10
              refine r_iload_n C dX8_event_48 rfl (j := 2) rfl ?_
              refine r_iconst (v := 1) C dX8_event_49 (by decide) ?_
              refine r_icmp_ne (tgt := 62) C dX8_event_50 (by decide) (fun c11 => ?_) (fun c11 => ?_)
              · have h := h.2 c11
                refine r_aload_n C dX8_event_62 rfl (j := 0) rfl ?_
                obtain ⟨n12, g13, h⟩ := h
                refine r_getR C (r_atT s4 g1) fa_X8_61 rfl (r_atN g13) dX8_event_63 ?_
                refine r_iload_n C dX8_event_66 rfl (j := 1) rfl ?_
                obtain ⟨g14, h⟩ := h
                refine r_lald C (r_atT s4 g13) ⟨rfl, fun _ => rfl⟩ g14 dX8_event_67 ?_
                refine r_l2i (v := (r_gl σ2 (r_gr σ2 a0 24) x1.toNatClampNeg).toInt32) C dX8_event_68 rfl ?_
                exact r_iretQ C E rfl (Nat.zero_le _) (Nat.zero_le _) dX8_event_69 (s4.trans hs) h
              · have h := h.1 c11
                refine r_aload_n C dX8_event_53 rfl (j := 0) rfl ?_
                obtain ⟨n15, g16, h⟩ := h
                refine r_getR C (r_atT s4 g1) fa_X8_58 rfl (r_atN g16) dX8_event_54 ?_
                refine r_iload_n C dX8_event_57 rfl (j := 1) rfl ?_
                obtain ⟨g17, h⟩ := h
                refine r_iald C (r_atT s4 g16) ⟨rfl, fun _ => rfl⟩ g17 dX8_event_58 ?_
                refine r_goto (tgt := 69) C dX8_event_59 (by decide) ?_
                exact r_iretQ C E rfl (Nat.zero_le _) (Nat.zero_le _) dX8_event_69 (s4.trans hs) h
            · have h := h.1 c10
              refine r_aload_n C dX8_event_39 rfl (j := 0) rfl ?_
              obtain ⟨n18, g19, h⟩ := h
              refine r_getR C (r_atT s4 g1) fa_X8_55 rfl (r_atN g19) dX8_event_40 ?_
              refine r_iload_n C dX8_event_43 rfl (j := 1) rfl ?_
              obtain ⟨g20, h⟩ := h
              refine r_iald C (r_atT s4 g19) ⟨rfl, fun _ => rfl⟩ g20 dX8_event_44 ?_
              refine r_goto (tgt := 69) C dX8_event_45 (by decide) ?_
              exact r_iretQ C E rfl (Nat.zero_le _) (Nat.zero_le _) dX8_event_69 (s4.trans hs) h
          · have h := h.2 c9
            refine r_iconst (v := (-1)) C dX8_event_33 (by decide) ?_
            exact r_iretQ C E rfl (Nat.zero_le _) (Nat.zero_le _) dX8_event_34 (s4.trans hs) h
theorem w_X8_state_0 {X : r_X} {w : r_V} {B : Nat} {l : Launch} {Q : Int32 → r_S → Prop} {σ0 : r_S} (C : r_C X w B 3 cX8_state RX8) (E : r_E X l tX8_state) {σ : r_S} (hs : σ.1 = σ0.1) {a0 : Nat} {x1 x2 : Int32}
    (h : r_at σ a0 = some (.inl 8) ∧ (∀ σ2 : r_S, σ2 = r_ui σ a0 0 0 → (∃ Q5 : Int32 → r_S → Prop, r_M l w B tX8_isStation [Value.ref (B + a0), Value.int x1] σ2 (r_QI σ2 Q5) ∧ (∀ (z9 : Int32) (σ7 : r_S), Q5 z9 σ7 → ((z9 = 0 → (Q (-11) σ7)) ∧ (¬ z9 = 0 → ((x2 = 0 → (∃ n13, r_at σ (r_gr σ7 a0 25) = some (.inr (0, n13)) ∧ (vp_in x1 n13 ∧ (Q (r_gi σ7 (r_gr σ7 a0 25) x1.toNatClampNeg) σ7)))) ∧ (¬ x2 = 0 → ((x2 = 1 → (∃ n17, r_at σ (r_gr σ7 a0 27) = some (.inr (0, n17)) ∧ (vp_in x1 n17 ∧ (Q (r_gi σ7 (r_gr σ7 a0 27) x1.toNatClampNeg) σ7)))) ∧ (¬ x2 = 1 → ((x2 = 2 → (∃ n21, r_at σ (r_gr σ7 a0 26) = some (.inr (0, n21)) ∧ (vp_in x1 n21 ∧ (Q (r_gi σ7 (r_gr σ7 a0 26) x1.toNatClampNeg) σ7)))) ∧ (¬ x2 = 2 → ((x2 = 3 → (∃ n25, r_at σ (r_gr σ7 a0 30) = some (.inr (1, n25)) ∧ (vp_in x1 n25 ∧ (((r_gl σ7 (r_gr σ7 a0 30) x1.toNatClampNeg) ≤ (r_gl σ7 a0 2) → (Q 0 σ7)) ∧ (¬ (r_gl σ7 (r_gr σ7 a0 30) x1.toNatClampNeg) ≤ (r_gl σ7 a0 2) → (Q (((r_gl σ7 (r_gr σ7 a0 30) x1.toNatClampNeg) - (r_gl σ7 a0 2)).toInt32) σ7)))))) ∧ (¬ x2 = 3 → ((x2 = 4 → (∃ n30, r_at σ (r_gr σ7 a0 45) = some (.inr (0, n30)) ∧ (vp_in x1 n30 ∧ (Q (r_gi σ7 (r_gr σ7 a0 45) x1.toNatClampNeg) σ7)))) ∧ (¬ x2 = 4 → ((x2 = 5 → (∃ n34, r_at σ (r_gr σ7 a0 28) = some (.inr (0, n34)) ∧ (vp_in x1 n34 ∧ (Q (r_gi σ7 (r_gr σ7 a0 28) x1.toNatClampNeg) σ7)))) ∧ (¬ x2 = 5 → ((x2 = 6 → (∃ n38, r_at σ (r_gr σ7 a0 29) = some (.inr (0, n38)) ∧ (vp_in x1 n38 ∧ (Q (r_gi σ7 (r_gr σ7 a0 29) x1.toNatClampNeg) σ7)))) ∧ (¬ x2 = 6 → ((x2 = 7 → (∃ Q42 : Int32 → r_S → Prop, r_M l w B tX8_keeps [Value.ref (B + a0), Value.int x1] σ7 (r_QI σ7 Q42) ∧ (∀ (z46 : Int32) (σ44 : r_S), Q42 z46 σ44 → (Q z46 σ44)))) ∧ (¬ x2 = 7 → (Q (-12) σ7))))))))))))))))))))))) :
    r_W X w B 3 0 0 (r_Z X w B tX8_state (r_QI σ0 Q)) 0 [(0, Value.ref (B + a0)), (1, Value.int x1), (2, Value.int x2)] [] σ := by
  refine r_aload_n C dX8_state_0 rfl (j := 0) rfl ?_
  refine r_iconst (v := 0) C dX8_state_1 (by decide) ?_
  obtain ⟨g1, h⟩ := h
  refine r_putI C (r_atT rfl g1) fa_X8_150 rfl rfl rfl dX8_state_2 ?_
  refine r_nam (fun σ2 e3 => ?_)
  have h := h σ2 e3
  have s4 : σ2.1 = σ.1 := by rw [e3]; exact rfl
  refine r_aload_n C dX8_state_5 rfl (j := 0) rfl ?_
  refine r_iload_n C dX8_state_6 rfl (j := 1) rfl ?_
  obtain ⟨Q5, m6, h⟩ := h
  refine r_callVI (rest := []) C E [Value.int x1] (r_atT s4 g1) rfl ky_X8_isStation kl_X8_153 ki_X8_isStation kx_X8_isStation ⟨Nat.le_of_ble_eq_true rfl, Nat.le_of_ble_eq_true rfl⟩ ⟨rfl, rfl⟩ m6 rfl rfl (Nat.le_of_ble_eq_true rfl) (Nat.zero_le _) (Nat.zero_le _) dX8_state_7 (fun z9 σ7 s8 q10 => ?_)
  have h := h z9 σ7 q10
  have s8 := s8.trans s4
  refine r_if_ne (tgt := 16) C dX8_state_10 (by decide) (fun c11 => ?_) (fun c11 => ?_)
  · have h := h.2 c11
    refine r_iload_n C dX8_state_16 rfl (j := 2) rfl ?_
    by_cases c12 : x2 = 0
    · have h := h.1 c12
      refine r_tableIn (tgt := 64) (off := 47) C dX8_state_17 (by rw [c12]; decide) (by rw [c12]; decide) (by rw [c12]; rfl) (by decide) ?_
      refine r_aload_n C dX8_state_64 rfl (j := 0) rfl ?_
      obtain ⟨n13, g14, h⟩ := h
      refine r_getR C (r_atT s8 g1) fa_X8_64 rfl (r_atN g14) dX8_state_65 ?_
      refine r_iload_n C dX8_state_68 rfl (j := 1) rfl ?_
      obtain ⟨g15, h⟩ := h
      refine r_iald C (r_atT s8 g14) ⟨rfl, fun _ => rfl⟩ g15 dX8_state_69 ?_
      exact r_iretQ C E rfl (Nat.zero_le _) (Nat.zero_le _) dX8_state_70 (s8.trans hs) h
    have h := h.2 c12
    have c12 := r_neT c12
    by_cases c16 : x2 = 1
    · have h := h.1 c16
      refine r_tableIn (tgt := 71) (off := 54) C dX8_state_17 (by rw [c16]; decide) (by rw [c16]; decide) (by rw [c16]; rfl) (by decide) ?_
      refine r_aload_n C dX8_state_71 rfl (j := 0) rfl ?_
      obtain ⟨n17, g18, h⟩ := h
      refine r_getR C (r_atT s8 g1) fa_X8_70 rfl (r_atN g18) dX8_state_72 ?_
      refine r_iload_n C dX8_state_75 rfl (j := 1) rfl ?_
      obtain ⟨g19, h⟩ := h
      refine r_iald C (r_atT s8 g18) ⟨rfl, fun _ => rfl⟩ g19 dX8_state_76 ?_
      exact r_iretQ C E rfl (Nat.zero_le _) (Nat.zero_le _) dX8_state_77 (s8.trans hs) h
    have h := h.2 c16
    have c16 := r_neT c16
    by_cases c20 : x2 = 2
    · have h := h.1 c20
      refine r_tableIn (tgt := 78) (off := 61) C dX8_state_17 (by rw [c20]; decide) (by rw [c20]; decide) (by rw [c20]; rfl) (by decide) ?_
      refine r_aload_n C dX8_state_78 rfl (j := 0) rfl ?_
      obtain ⟨n21, g22, h⟩ := h
      refine r_getR C (r_atT s8 g1) fa_X8_67 rfl (r_atN g22) dX8_state_79 ?_
      refine r_iload_n C dX8_state_82 rfl (j := 1) rfl ?_
      obtain ⟨g23, h⟩ := h
      refine r_iald C (r_atT s8 g22) ⟨rfl, fun _ => rfl⟩ g23 dX8_state_83 ?_
      exact r_iretQ C E rfl (Nat.zero_le _) (Nat.zero_le _) dX8_state_84 (s8.trans hs) h
    have h := h.2 c20
    have c20 := r_neT c20
    by_cases c24 : x2 = 3
    · have h := h.1 c24
      refine r_tableIn (tgt := 85) (off := 68) C dX8_state_17 (by rw [c24]; decide) (by rw [c24]; decide) (by rw [c24]; rfl) (by decide) ?_
      refine r_aload_n C dX8_state_85 rfl (j := 0) rfl ?_
      obtain ⟨n25, g26, h⟩ := h
      refine r_getR C (r_atT s8 g1) fa_X8_79 rfl (r_atN g26) dX8_state_86 ?_
      refine r_iload_n C dX8_state_89 rfl (j := 1) rfl ?_
      obtain ⟨g27, h⟩ := h
      refine r_lald C (r_atT s8 g26) ⟨rfl, fun _ => rfl⟩ g27 dX8_state_90 ?_
      refine r_aload_n C dX8_state_91 rfl (j := 0) rfl ?_
      refine r_get (v := .long (r_gl σ7 a0 2)) C (r_atT s8 g1) fa_X8_174 rfl dX8_state_92 ?_
      refine r_lcmp C dX8_state_95 ?_
      refine r_if_le (tgt := 114) C dX8_state_96 (by decide) (fun c28 => ?_) (fun c28 => ?_)
      · have h := h.1 (lgc_le.mp c28)
        refine r_iconst (v := 0) C dX8_state_114 (by decide) ?_
        exact r_iretQ C E rfl (Nat.zero_le _) (Nat.zero_le _) dX8_state_115 (s8.trans hs) h
      · have h := h.2 (fun q => c28 (lgc_le.mpr q))
        refine r_aload_n C dX8_state_99 rfl (j := 0) rfl ?_
        refine r_getR C (r_atT s8 g1) fa_X8_79 rfl (r_atN g26) dX8_state_100 ?_
        refine r_iload_n C dX8_state_103 rfl (j := 1) rfl ?_
        refine r_lald C (r_atT s8 g26) ⟨rfl, fun _ => rfl⟩ g27 dX8_state_104 ?_
        refine r_aload_n C dX8_state_105 rfl (j := 0) rfl ?_
        refine r_get (v := .long (r_gl σ7 a0 2)) C (r_atT s8 g1) fa_X8_174 rfl dX8_state_106 ?_
        refine r_lsub C dX8_state_109 ?_
        refine r_l2i (v := ((r_gl σ7 (r_gr σ7 a0 30) x1.toNatClampNeg) - (r_gl σ7 a0 2)).toInt32) C dX8_state_110 rfl ?_
        refine r_goto (tgt := 115) C dX8_state_111 (by decide) ?_
        exact r_iretQ C E rfl (Nat.zero_le _) (Nat.zero_le _) dX8_state_115 (s8.trans hs) h
    have h := h.2 c24
    have c24 := r_neT c24
    by_cases c29 : x2 = 4
    · have h := h.1 c29
      refine r_tableIn (tgt := 116) (off := 99) C dX8_state_17 (by rw [c29]; decide) (by rw [c29]; decide) (by rw [c29]; rfl) (by decide) ?_
      refine r_aload_n C dX8_state_116 rfl (j := 0) rfl ?_
      obtain ⟨n30, g31, h⟩ := h
      refine r_getR C (r_atT s8 g1) fa_X8_124 rfl (r_atN g31) dX8_state_117 ?_
      refine r_iload_n C dX8_state_120 rfl (j := 1) rfl ?_
      obtain ⟨g32, h⟩ := h
      refine r_iald C (r_atT s8 g31) ⟨rfl, fun _ => rfl⟩ g32 dX8_state_121 ?_
      exact r_iretQ C E rfl (Nat.zero_le _) (Nat.zero_le _) dX8_state_122 (s8.trans hs) h
    have h := h.2 c29
    have c29 := r_neT c29
    by_cases c33 : x2 = 5
    · have h := h.1 c33
      refine r_tableIn (tgt := 123) (off := 106) C dX8_state_17 (by rw [c33]; decide) (by rw [c33]; decide) (by rw [c33]; rfl) (by decide) ?_
      refine r_aload_n C dX8_state_123 rfl (j := 0) rfl ?_
      obtain ⟨n34, g35, h⟩ := h
      refine r_getR C (r_atT s8 g1) fa_X8_73 rfl (r_atN g35) dX8_state_124 ?_
      refine r_iload_n C dX8_state_127 rfl (j := 1) rfl ?_
      obtain ⟨g36, h⟩ := h
      refine r_iald C (r_atT s8 g35) ⟨rfl, fun _ => rfl⟩ g36 dX8_state_128 ?_
      exact r_iretQ C E rfl (Nat.zero_le _) (Nat.zero_le _) dX8_state_129 (s8.trans hs) h
    have h := h.2 c33
    have c33 := r_neT c33
    by_cases c37 : x2 = 6
    · have h := h.1 c37
      refine r_tableIn (tgt := 130) (off := 113) C dX8_state_17 (by rw [c37]; decide) (by rw [c37]; decide) (by rw [c37]; rfl) (by decide) ?_
      refine r_aload_n C dX8_state_130 rfl (j := 0) rfl ?_
      obtain ⟨n38, g39, h⟩ := h
      refine r_getR C (r_atT s8 g1) fa_X8_76 rfl (r_atN g39) dX8_state_131 ?_
      refine r_iload_n C dX8_state_134 rfl (j := 1) rfl ?_
      obtain ⟨g40, h⟩ := h
      refine r_iald C (r_atT s8 g39) ⟨rfl, fun _ => rfl⟩ g40 dX8_state_135 ?_
      exact r_iretQ C E rfl (Nat.zero_le _) (Nat.zero_le _) dX8_state_136 (s8.trans hs) h
    have h := h.2 c37
    have c37 := r_neT c37
    by_cases c41 : x2 = 7
    · have h := h.1 c41
      refine r_tableIn (tgt := 137) (off := 120) C dX8_state_17 (by rw [c41]; decide) (by rw [c41]; decide) (by rw [c41]; rfl) (by decide) ?_
      refine r_aload_n C dX8_state_137 rfl (j := 0) rfl ?_
      refine r_iload_n C dX8_state_138 rfl (j := 1) rfl ?_
      obtain ⟨Q42, m43, h⟩ := h
      refine r_callVI (rest := []) C E [Value.int x1] (r_atT s8 g1) rfl ky_X8_keeps kl_X8_166 ki_X8_keeps kx_X8_keeps ⟨Nat.le_of_ble_eq_true rfl, Nat.le_of_ble_eq_true rfl⟩ ⟨rfl, rfl⟩ m43 rfl rfl (Nat.le_of_ble_eq_true rfl) (Nat.zero_le _) (Nat.zero_le _) dX8_state_139 (fun z46 σ44 s45 q47 => ?_)
      have h := h z46 σ44 q47
      have s45 := s45.trans s8
      exact r_iretQ C E rfl (Nat.zero_le _) (Nat.zero_le _) dX8_state_142 (s45.trans hs) h
    have h := h.2 c41
    have c41 := r_neT c41
    refine r_tableOut (tgt := 143) C dX8_state_17 (by simp at *; omega) (by decide) ?_
    refine r_bipush (v := (-12)) C dX8_state_143 (by decide) ?_
    exact r_iretQ C E rfl (Nat.zero_le _) (Nat.zero_le _) dX8_state_145 (s8.trans hs) h
  · have h := h.1 c11
    refine r_bipush (v := (-11)) C dX8_state_13 (by decide) ?_
    exact r_iretQ C E rfl (Nat.zero_le _) (Nat.zero_le _) dX8_state_15 (s8.trans hs) h
theorem w_X8_sent_0 {X : r_X} {w : r_V} {B : Nat} {l : Launch} {Q : Int32 → r_S → Prop} {σ0 : r_S} (C : r_C X w B 3 cX8_sent RX8) (E : r_E X l tX8_sent) {σ : r_S} (hs : σ.1 = σ0.1) {a0 : Nat} {x1 x2 : Int32}
    (h : r_at σ a0 = some (.inl 8) ∧ (∀ σ2 : r_S, σ2 = r_ui σ a0 0 0 → (∃ Q5 : Int32 → r_S → Prop, r_M l w B tX8_isStation [Value.ref (B + a0), Value.int x1] σ2 (r_QI σ2 Q5) ∧ (∀ (z9 : Int32) (σ7 : r_S), Q5 z9 σ7 → ((z9 = 0 → (Q (-11) σ7)) ∧ (¬ z9 = 0 → ((x2 < 1 → (Q (-12) σ7)) ∧ (¬ x2 < 1 → ((x2 ≤ 4 → (∃ n14, r_at σ (r_gr σ7 a0 41) = some (.inr (0, n14)) ∧ (vp_in (((4 * x1) + x2) - 1) n14 ∧ (Q (r_gi σ7 (r_gr σ7 a0 41) (((4 * x1) + x2) - 1).toNatClampNeg) σ7)))) ∧ (¬ x2 ≤ 4 → (Q (-12) σ7))))))))))) :
    r_W X w B 3 0 0 (r_Z X w B tX8_sent (r_QI σ0 Q)) 0 [(0, Value.ref (B + a0)), (1, Value.int x1), (2, Value.int x2)] [] σ := by
  refine r_aload_n C dX8_sent_0 rfl (j := 0) rfl ?_
  refine r_iconst (v := 0) C dX8_sent_1 (by decide) ?_
  obtain ⟨g1, h⟩ := h
  refine r_putI C (r_atT rfl g1) fa_X8_150 rfl rfl rfl dX8_sent_2 ?_
  refine r_nam (fun σ2 e3 => ?_)
  have h := h σ2 e3
  have s4 : σ2.1 = σ.1 := by rw [e3]; exact rfl
  refine r_aload_n C dX8_sent_5 rfl (j := 0) rfl ?_
  refine r_iload_n C dX8_sent_6 rfl (j := 1) rfl ?_
  obtain ⟨Q5, m6, h⟩ := h
  refine r_callVI (rest := []) C E [Value.int x1] (r_atT s4 g1) rfl ky_X8_isStation kl_X8_153 ki_X8_isStation kx_X8_isStation ⟨Nat.le_of_ble_eq_true rfl, Nat.le_of_ble_eq_true rfl⟩ ⟨rfl, rfl⟩ m6 rfl rfl (Nat.le_of_ble_eq_true rfl) (Nat.zero_le _) (Nat.zero_le _) dX8_sent_7 (fun z9 σ7 s8 q10 => ?_)
  have h := h z9 σ7 q10
  have s8 := s8.trans s4
  refine r_if_ne (tgt := 18) C dX8_sent_10 (by decide) (fun c11 => ?_) (fun c11 => ?_)
  · have h := h.2 c11
    refine r_iload_n C dX8_sent_18 rfl (j := 2) rfl ?_
    refine r_iconst (v := 1) C dX8_sent_19 (by decide) ?_
    refine r_icmp_lt (tgt := 28) C dX8_sent_20 (by decide) (fun c12 => ?_) (fun c12 => ?_)
    · have h := h.1 c12
      refine r_bipush (v := (-12)) C dX8_sent_28 (by decide) ?_
      refine r_goto (tgt := 45) C dX8_sent_30 (by decide) ?_
      exact r_iretQ C E rfl (Nat.zero_le _) (Nat.zero_le _) dX8_sent_45 (s8.trans hs) h
    · have h := h.2 c12
      refine r_iload_n C dX8_sent_23 rfl (j := 2) rfl ?_
      refine r_iconst (v := 4) C dX8_sent_24 (by decide) ?_
      refine r_icmp_le (tgt := 33) C dX8_sent_25 (by decide) (fun c13 => ?_) (fun c13 => ?_)
      · have h := h.1 c13
        refine r_aload_n C dX8_sent_33 rfl (j := 0) rfl ?_
        obtain ⟨n14, g15, h⟩ := h
        refine r_getR C (r_atT s8 g1) fa_X8_112 rfl (r_atN g15) dX8_sent_34 ?_
        refine r_iconst (v := 4) C dX8_sent_37 (by decide) ?_
        refine r_iload_n C dX8_sent_38 rfl (j := 1) rfl ?_
        refine r_imul C dX8_sent_39 ?_
        refine r_iload_n C dX8_sent_40 rfl (j := 2) rfl ?_
        refine r_iadd C dX8_sent_41 ?_
        refine r_iconst (v := 1) C dX8_sent_42 (by decide) ?_
        refine r_isub C dX8_sent_43 ?_
        obtain ⟨g16, h⟩ := h
        refine r_iald C (r_atT s8 g15) ⟨rfl, fun _ => rfl⟩ g16 dX8_sent_44 ?_
        exact r_iretQ C E rfl (Nat.zero_le _) (Nat.zero_le _) dX8_sent_45 (s8.trans hs) h
      · have h := h.2 c13
        refine r_bipush (v := (-12)) C dX8_sent_28 (by decide) ?_
        refine r_goto (tgt := 45) C dX8_sent_30 (by decide) ?_
        exact r_iretQ C E rfl (Nat.zero_le _) (Nat.zero_le _) dX8_sent_45 (s8.trans hs) h
  · have h := h.1 c11
    refine r_bipush (v := (-11)) C dX8_sent_13 (by decide) ?_
    refine r_goto (tgt := 45) C dX8_sent_15 (by decide) ?_
    exact r_iretQ C E rfl (Nat.zero_le _) (Nat.zero_le _) dX8_sent_45 (s8.trans hs) h
theorem w_X8_now_0 {X : r_X} {w : r_V} {B : Nat} {l : Launch} {Q : Int64 → r_S → Prop} {σ0 : r_S} (C : r_C X w B 1 cX8_now RX8) (E : r_E X l tX8_now) {σ : r_S} (hs : σ.1 = σ0.1) {a0 : Nat}
    (h : r_at σ a0 = some (.inl 8) ∧ (∀ σ2 : r_S, σ2 = r_ui σ a0 0 0 → (Q (r_gl σ2 a0 2) σ2))) :
    r_W X w B 1 0 0 (r_Z X w B tX8_now (r_QL σ0 Q)) 0 [(0, Value.ref (B + a0))] [] σ := by
  refine r_aload_n C dX8_now_0 rfl (j := 0) rfl ?_
  refine r_iconst (v := 0) C dX8_now_1 (by decide) ?_
  obtain ⟨g1, h⟩ := h
  refine r_putI C (r_atT rfl g1) fa_X8_150 rfl rfl rfl dX8_now_2 ?_
  refine r_nam (fun σ2 e3 => ?_)
  have h := h σ2 e3
  have s4 : σ2.1 = σ.1 := by rw [e3]; exact rfl
  refine r_aload_n C dX8_now_5 rfl (j := 0) rfl ?_
  refine r_get (v := .long (r_gl σ2 a0 2)) C (r_atT s4 g1) fa_X8_174 rfl dX8_now_6 ?_
  exact r_lretQ C E rfl (Nat.zero_le _) (Nat.zero_le _) dX8_now_9 (s4.trans hs) h
