theorem w_X6_isFree_0 {X : r_X} {w : r_V} {B : Nat} {l : Launch} {Q : Int32 → r_S → Prop} {σ0 : r_S} (C : r_C X w B 1 cX6_isFree RX6) (E : r_E X l tX6_isFree) {σ : r_S} (hs : σ.1 = σ0.1) {a0 : Nat}
    (h : r_at σ a0 = some (.inl 6) ∧ (((r_gi σ a0 9) = 0 → (r_at σ (r_gr σ a0 13) = some (.inl 2) ∧ (((r_gi σ (r_gr σ a0 13) 0) = 0 → (Q 1 σ)) ∧ (¬ (r_gi σ (r_gr σ a0 13) 0) = 0 → (Q 0 σ))))) ∧ (¬ (r_gi σ a0 9) = 0 → (Q 0 σ)))) :
    r_W X w B 1 0 0 (r_Z X w B tX6_isFree (r_QI σ0 Q)) 0 [(0, Value.ref (B + a0))] [] σ := by
  refine r_aload_n C dX6_isFree_0 rfl (j := 0) rfl ?_
  obtain ⟨g1, h⟩ := h
  refine r_get (v := .int (r_gi σ a0 9)) C (r_atT rfl g1) fa_X6_31 rfl dX6_isFree_1 ?_
  refine r_if_ne (tgt := 21) C dX6_isFree_4 (by decide) (fun c2 => ?_) (fun c2 => ?_)
  · have h := h.2 c2
    refine r_iconst (v := 0) C dX6_isFree_21 (by decide) ?_
    exact r_zretQ C E rfl (by decide) (Nat.zero_le _) (Nat.zero_le _) dX6_isFree_22 ((rfl : σ.1 = σ.1).trans hs) h
  · have h := h.1 c2
    refine r_aload_n C dX6_isFree_7 rfl (j := 0) rfl ?_
    obtain ⟨g3, h⟩ := h
    refine r_getR C (r_atT rfl g1) fa_X6_80 rfl (r_atN g3) dX6_isFree_8 ?_
    refine r_get (v := .int (r_gi σ (r_gr σ a0 13) 0)) C (r_atT rfl g3) fa_X6_87 rfl dX6_isFree_11 ?_
    refine r_if_ne (tgt := 21) C dX6_isFree_14 (by decide) (fun c4 => ?_) (fun c4 => ?_)
    · have h := h.2 c4
      refine r_iconst (v := 0) C dX6_isFree_21 (by decide) ?_
      exact r_zretQ C E rfl (by decide) (Nat.zero_le _) (Nat.zero_le _) dX6_isFree_22 ((rfl : σ.1 = σ.1).trans hs) h
    · have h := h.1 c4
      refine r_iconst (v := 1) C dX6_isFree_17 (by decide) ?_
      refine r_goto (tgt := 22) C dX6_isFree_18 (by decide) ?_
      exact r_zretQ C E rfl (by decide) (Nat.zero_le _) (Nat.zero_le _) dX6_isFree_22 ((rfl : σ.1 = σ.1).trans hs) h
theorem w_X6_mayAttempt_0 {X : r_X} {w : r_V} {B : Nat} {l : Launch} {Q : Int32 → r_S → Prop} {σ0 : r_S} (C : r_C X w B 3 cX6_mayAttempt RX6) (E : r_E X l tX6_mayAttempt) {σ : r_S} (hs : σ.1 = σ0.1) {a0 : Nat} {y1 : Int64}
    (h : r_at σ a0 = some (.inl 6) ∧ (r_at σ (r_gr σ a0 14) = some (.inl 2) ∧ (((r_gi σ (r_gr σ a0 14) 0) = 0 → (∃ Q4 : Int32 → r_S → Prop, r_M l w B tX6_isFree [Value.ref (B + a0)] σ (r_QI σ Q4) ∧ (∀ (z8 : Int32) (σ6 : r_S), Q4 z8 σ6 → ((z8 = 0 → (Q 0 σ6)) ∧ (¬ z8 = 0 → (r_at σ (r_gr σ6 a0 15) = some (.inl 5) ∧ (((r_gi σ6 (r_gr σ6 a0 15) 1) ≤ 0 → (Q 0 σ6)) ∧ (¬ (r_gi σ6 (r_gr σ6 a0 15) 1) ≤ 0 → (((r_gi σ6 a0 5) = 0 → (((r_gi σ6 a0 6) < (r_gi σ6 a0 7) → (Q 0 σ6)) ∧ (¬ (r_gi σ6 a0 6) < (r_gi σ6 a0 7) → ((y1 < (r_gl σ6 a0 8) → (Q 0 σ6)) ∧ (¬ y1 < (r_gl σ6 a0 8) → (Q 1 σ6)))))) ∧ (¬ (r_gi σ6 a0 5) = 0 → (Q 0 σ6))))))))))) ∧ (¬ (r_gi σ (r_gr σ a0 14) 0) = 0 → (Q 0 σ))))) :
    r_W X w B 3 0 0 (r_Z X w B tX6_mayAttempt (r_QI σ0 Q)) 0 [(0, Value.ref (B + a0)), (1, Value.long y1)] [] σ := by
  refine r_aload_n C dX6_mayAttempt_0 rfl (j := 0) rfl ?_
  obtain ⟨g1, h⟩ := h
  obtain ⟨g2, h⟩ := h
  refine r_getR C (r_atT rfl g1) fa_X6_84 rfl (r_atN g2) dX6_mayAttempt_1 ?_
  refine r_get (v := .int (r_gi σ (r_gr σ a0 14) 0)) C (r_atT rfl g2) fa_X6_87 rfl dX6_mayAttempt_4 ?_
  refine r_if_ne (tgt := 58) C dX6_mayAttempt_7 (by decide) (fun c3 => ?_) (fun c3 => ?_)
  · have h := h.2 c3
    refine r_iconst (v := 0) C dX6_mayAttempt_58 (by decide) ?_
    exact r_zretQ C E rfl (by decide) (Nat.zero_le _) (Nat.zero_le _) dX6_mayAttempt_59 ((rfl : σ.1 = σ.1).trans hs) h
  · have h := h.1 c3
    refine r_aload_n C dX6_mayAttempt_10 rfl (j := 0) rfl ?_
    obtain ⟨Q4, m5, h⟩ := h
    refine r_callVI (rest := []) C E [] (r_atT rfl g1) rfl ky_X6_isFree kl_X6_90 ki_X6_isFree kx_X6_isFree ⟨Nat.le_of_ble_eq_true rfl, Nat.le_of_ble_eq_true rfl⟩ ⟨rfl, rfl⟩ m5 rfl rfl (Nat.le_of_ble_eq_true rfl) (Nat.zero_le _) (Nat.zero_le _) dX6_mayAttempt_11 (fun z8 σ6 s7 q9 => ?_)
    have h := h z8 σ6 q9
    have s7 := s7.trans rfl
    refine r_if_eq (tgt := 58) C dX6_mayAttempt_14 (by decide) (fun c10 => ?_) (fun c10 => ?_)
    · have h := h.1 c10
      refine r_iconst (v := 0) C dX6_mayAttempt_58 (by decide) ?_
      exact r_zretQ C E rfl (by decide) (Nat.zero_le _) (Nat.zero_le _) dX6_mayAttempt_59 (s7.trans hs) h
    · have h := h.2 c10
      refine r_aload_n C dX6_mayAttempt_17 rfl (j := 0) rfl ?_
      obtain ⟨g11, h⟩ := h
      refine r_getR C (r_atT s7 g1) fa_X6_48 rfl (r_atN g11) dX6_mayAttempt_18 ?_
      refine r_get (v := .int (r_gi σ6 (r_gr σ6 a0 15) 1)) C (r_atT s7 g11) fa_X6_94 rfl dX6_mayAttempt_21 ?_
      refine r_if_le (tgt := 58) C dX6_mayAttempt_24 (by decide) (fun c12 => ?_) (fun c12 => ?_)
      · have h := h.1 c12
        refine r_iconst (v := 0) C dX6_mayAttempt_58 (by decide) ?_
        exact r_zretQ C E rfl (by decide) (Nat.zero_le _) (Nat.zero_le _) dX6_mayAttempt_59 (s7.trans hs) h
      · have h := h.2 c12
        refine r_aload_n C dX6_mayAttempt_27 rfl (j := 0) rfl ?_
        refine r_get (v := .int (r_gi σ6 a0 5)) C (r_atT s7 g1) fa_X6_18 rfl dX6_mayAttempt_28 ?_
        refine r_if_ne (tgt := 58) C dX6_mayAttempt_31 (by decide) (fun c13 => ?_) (fun c13 => ?_)
        · have h := h.2 c13
          refine r_iconst (v := 0) C dX6_mayAttempt_58 (by decide) ?_
          exact r_zretQ C E rfl (by decide) (Nat.zero_le _) (Nat.zero_le _) dX6_mayAttempt_59 (s7.trans hs) h
        · have h := h.1 c13
          refine r_aload_n C dX6_mayAttempt_34 rfl (j := 0) rfl ?_
          refine r_get (v := .int (r_gi σ6 a0 6)) C (r_atT s7 g1) fa_X6_21 rfl dX6_mayAttempt_35 ?_
          refine r_aload_n C dX6_mayAttempt_38 rfl (j := 0) rfl ?_
          refine r_get (v := .int (r_gi σ6 a0 7)) C (r_atT s7 g1) fa_X6_24 rfl dX6_mayAttempt_39 ?_
          refine r_icmp_lt (tgt := 58) C dX6_mayAttempt_42 (by decide) (fun c14 => ?_) (fun c14 => ?_)
          · have h := h.1 c14
            refine r_iconst (v := 0) C dX6_mayAttempt_58 (by decide) ?_
            exact r_zretQ C E rfl (by decide) (Nat.zero_le _) (Nat.zero_le _) dX6_mayAttempt_59 (s7.trans hs) h
          · have h := h.2 c14
            refine r_aload_n C dX6_mayAttempt_45 rfl (j := 0) rfl ?_
            refine r_get (v := .long (r_gl σ6 a0 8)) C (r_atT s7 g1) fa_X6_27 rfl dX6_mayAttempt_46 ?_
            refine r_lload_n C dX6_mayAttempt_49 rfl (j := 1) rfl ?_
            refine r_lcmp C dX6_mayAttempt_50 ?_
            refine r_if_gt (tgt := 58) C dX6_mayAttempt_51 (by decide) (fun c15 => ?_) (fun c15 => ?_)
            · have h := h.1 (lgc_gt.mp c15)
              refine r_iconst (v := 0) C dX6_mayAttempt_58 (by decide) ?_
              exact r_zretQ C E rfl (by decide) (Nat.zero_le _) (Nat.zero_le _) dX6_mayAttempt_59 (s7.trans hs) h
            · have h := h.2 (fun q => c15 (lgc_gt.mpr q))
              refine r_iconst (v := 1) C dX6_mayAttempt_54 (by decide) ?_
              refine r_goto (tgt := 59) C dX6_mayAttempt_55 (by decide) ?_
              exact r_zretQ C E rfl (by decide) (Nat.zero_le _) (Nat.zero_le _) dX6_mayAttempt_59 (s7.trans hs) h
theorem w_X6_waitsFor_0 {X : r_X} {w : r_V} {B : Nat} {l : Launch} {Q : Int32 → r_S → Prop} {σ0 : r_S} (C : r_C X w B 3 cX6_waitsFor RX6) (E : r_E X l tX6_waitsFor) {σ : r_S} (hs : σ.1 = σ0.1) {a0 : Nat} {x1 x2 : Int32}
    (h : r_at σ a0 = some (.inl 6) ∧ (((r_gi σ a0 9) = x1 → (((r_gi σ a0 10) = x2 → (Q 1 σ)) ∧ (¬ (r_gi σ a0 10) = x2 → (Q 0 σ)))) ∧ (¬ (r_gi σ a0 9) = x1 → (Q 0 σ)))) :
    r_W X w B 3 0 0 (r_Z X w B tX6_waitsFor (r_QI σ0 Q)) 0 [(0, Value.ref (B + a0)), (1, Value.int x1), (2, Value.int x2)] [] σ := by
  refine r_aload_n C dX6_waitsFor_0 rfl (j := 0) rfl ?_
  obtain ⟨g1, h⟩ := h
  refine r_get (v := .int (r_gi σ a0 9)) C (r_atT rfl g1) fa_X6_31 rfl dX6_waitsFor_1 ?_
  refine r_iload_n C dX6_waitsFor_4 rfl (j := 1) rfl ?_
  refine r_icmp_ne (tgt := 20) C dX6_waitsFor_5 (by decide) (fun c2 => ?_) (fun c2 => ?_)
  · have h := h.2 c2
    refine r_iconst (v := 0) C dX6_waitsFor_20 (by decide) ?_
    exact r_zretQ C E rfl (by decide) (Nat.zero_le _) (Nat.zero_le _) dX6_waitsFor_21 ((rfl : σ.1 = σ.1).trans hs) h
  · have h := h.1 c2
    refine r_aload_n C dX6_waitsFor_8 rfl (j := 0) rfl ?_
    refine r_get (v := .int (r_gi σ a0 10)) C (r_atT rfl g1) fa_X6_34 rfl dX6_waitsFor_9 ?_
    refine r_iload_n C dX6_waitsFor_12 rfl (j := 2) rfl ?_
    refine r_icmp_ne (tgt := 20) C dX6_waitsFor_13 (by decide) (fun c3 => ?_) (fun c3 => ?_)
    · have h := h.2 c3
      refine r_iconst (v := 0) C dX6_waitsFor_20 (by decide) ?_
      exact r_zretQ C E rfl (by decide) (Nat.zero_le _) (Nat.zero_le _) dX6_waitsFor_21 ((rfl : σ.1 = σ.1).trans hs) h
    · have h := h.1 c3
      refine r_iconst (v := 1) C dX6_waitsFor_16 (by decide) ?_
      refine r_goto (tgt := 21) C dX6_waitsFor_17 (by decide) ?_
      exact r_zretQ C E rfl (by decide) (Nat.zero_le _) (Nat.zero_le _) dX6_waitsFor_21 ((rfl : σ.1 = σ.1).trans hs) h
theorem w_X6_startAnew_0 {X : r_X} {w : r_V} {B : Nat} {l : Launch} {Q : r_S → Prop} {σ0 : r_S} (C : r_C X w B 1 cX6_startAnew RX6) (E : r_E X l tX6_startAnew) {σ : r_S} (hs : σ.1 = σ0.1) {a0 : Nat}
    (h : r_at σ a0 = some (.inl 6) ∧ (∀ σ2 : r_S, σ2 = r_ui σ a0 4 0 → (∀ σ5 : r_S, σ5 = r_ui σ2 a0 3 3 → (Q σ5)))) :
    r_W X w B 1 0 0 (r_Z X w B tX6_startAnew (r_QV σ0 Q)) 0 [(0, Value.ref (B + a0))] [] σ := by
  refine r_aload_n C dX6_startAnew_0 rfl (j := 0) rfl ?_
  refine r_iconst (v := 0) C dX6_startAnew_1 (by decide) ?_
  obtain ⟨g1, h⟩ := h
  refine r_putI C (r_atT rfl g1) fa_X6_15 rfl rfl rfl dX6_startAnew_2 ?_
  refine r_nam (fun σ2 e3 => ?_)
  have h := h σ2 e3
  have s4 : σ2.1 = σ.1 := by rw [e3]; exact rfl
  refine r_aload_n C dX6_startAnew_5 rfl (j := 0) rfl ?_
  refine r_iconst (v := 3) C dX6_startAnew_6 (by decide) ?_
  refine r_putI C (r_atT s4 g1) fa_X6_9 rfl rfl rfl dX6_startAnew_7 ?_
  refine r_nam (fun σ5 e6 => ?_)
  have h := h σ5 e6
  have s7 : σ5.1 = σ.1 := by rw [e6]; exact s4
  exact r_vretQ C E rfl (Nat.zero_le _) (Nat.zero_le _) dX6_startAnew_10 (s7.trans hs) h
theorem w_X6_beginDue_0 {X : r_X} {w : r_V} {B : Nat} {l : Launch} {Q : r_S → Prop} {σ0 : r_S} (C : r_C X w B 2 cX6_beginDue RX6) (E : r_E X l tX6_beginDue) {σ : r_S} (hs : σ.1 = σ0.1) {a0 : Nat}
    (h : r_at σ a0 = some (.inl 6) ∧ (r_at σ (r_gr σ a0 13) = some (.inl 2) ∧ (∀ b3 : Nat, b3 = r_gr σ a0 13 → (r_at σ (r_gr σ a0 14) = some (.inl 2) ∧ (∀ σ7 : r_S, σ7 = r_ur σ a0 13 (r_gr σ a0 14) → (r_at σ (r_gr σ7 a0 13) = some (.inl 2) ∧ (∀ σ11 : r_S, σ11 = r_ui σ7 (r_gr σ7 a0 13) 0 0 → (∀ σ14 : r_S, σ14 = r_ur σ11 a0 14 b3 → (∃ Q17 : r_S → Prop, r_M l w B tX6_countBegun [Value.ref (B + a0)] σ14 (r_QV σ14 Q17) ∧ (∀ σ19 : r_S, Q17 σ19 → (Q σ19))))))))))) :
    r_W X w B 2 0 0 (r_Z X w B tX6_beginDue (r_QV σ0 Q)) 0 [(0, Value.ref (B + a0))] [] σ := by
  refine r_aload_n C dX6_beginDue_0 rfl (j := 0) rfl ?_
  obtain ⟨g1, h⟩ := h
  obtain ⟨g2, h⟩ := h
  refine r_getR C (r_atT rfl g1) fa_X6_80 rfl (r_atN g2) dX6_beginDue_1 ?_
  refine r_topa (fun b3 e4 => ?_)
  have h := h b3 e4
  have e4 : b3 = r_gr σ a0 13 := e4
  have g5 := g2; rw [← e4] at g5
  refine r_astore_n (lv' := [(1, Value.ref (B + b3)), (0, Value.ref (B + a0))]) C dX6_beginDue_4 rfl (by decide) rfl ?_
  refine r_aload_n C dX6_beginDue_5 rfl (j := 1) rfl ?_
  refine r_aload_n C dX6_beginDue_6 rfl (j := 1) rfl ?_
  obtain ⟨g6, h⟩ := h
  refine r_getR C (r_atT rfl g1) fa_X6_84 rfl (r_atN g6) dX6_beginDue_7 ?_
  refine r_putR C (r_atT rfl g1) fa_X6_80 rfl (r_atN g6) dX6_beginDue_10 ?_
  refine r_nam (fun σ7 e8 => ?_)
  have h := h σ7 e8
  have s9 : σ7.1 = σ.1 := by rw [e8]; exact rfl
  refine r_aload_n C dX6_beginDue_13 rfl (j := 1) rfl ?_
  obtain ⟨g10, h⟩ := h
  refine r_getR C (r_atT s9 g1) fa_X6_80 rfl (r_atN g10) dX6_beginDue_14 ?_
  refine r_iconst (v := 0) C dX6_beginDue_17 (by decide) ?_
  refine r_putI C (r_atT s9 g10) fa_X6_87 rfl rfl rfl dX6_beginDue_18 ?_
  refine r_nam (fun σ11 e12 => ?_)
  have h := h σ11 e12
  have s13 : σ11.1 = σ.1 := by rw [e12]; exact s9
  refine r_aload_n C dX6_beginDue_21 rfl (j := 1) rfl ?_
  refine r_aload_n C dX6_beginDue_22 rfl (j := 0) rfl ?_
  refine r_putR C (r_atT s13 g1) fa_X6_84 rfl (r_atN g5) dX6_beginDue_23 ?_
  refine r_nam (fun σ14 e15 => ?_)
  have h := h σ14 e15
  have s16 : σ14.1 = σ.1 := by rw [e15]; exact s13
  refine r_aload_n C dX6_beginDue_26 rfl (j := 1) rfl ?_
  obtain ⟨Q17, m18, h⟩ := h
  refine r_callVV (rest := []) C E [] (r_atT s16 g1) rfl ky_X6_countBegun kl_X6_97 ki_X6_countBegun kx_X6_countBegun ⟨Nat.le_of_ble_eq_true rfl, Nat.le_of_ble_eq_true rfl⟩ ⟨rfl, rfl⟩ m18 rfl rfl (Nat.le_of_ble_eq_true rfl) (Nat.zero_le _) (Nat.zero_le _) dX6_beginDue_27 (fun σ19 s20 q22 => ?_)
  have h := h σ19 q22
  have s20 := s20.trans s16
  exact r_vretQ C E rfl (Nat.zero_le _) (Nat.zero_le _) dX6_beginDue_30 (s20.trans hs) h
theorem w_X6_countBegun_0 {X : r_X} {w : r_V} {B : Nat} {l : Launch} {Q : r_S → Prop} {σ0 : r_S} (C : r_C X w B 1 cX6_countBegun RX6) (E : r_E X l tX6_countBegun) {σ : r_S} (hs : σ.1 = σ0.1) {a0 : Nat}
    (h : r_at σ a0 = some (.inl 6) ∧ (∃ n2, r_at σ (r_gr σ a0 17) = some (.inr (0, n2)) ∧ (r_at σ (r_gr σ a0 14) = some (.inl 2) ∧ (vp_in (r_gi σ (r_gr σ a0 14) 0) n2 ∧ (∀ σ6 : r_S, σ6 = r_ui σ (r_gr σ a0 17) ((r_gi σ (r_gr σ a0 14) 0).toNatClampNeg) ((r_gi σ (r_gr σ a0 17) (r_gi σ (r_gr σ a0 14) 0).toNatClampNeg) + 1) → (Q σ6)))))) :
    r_W X w B 1 0 0 (r_Z X w B tX6_countBegun (r_QV σ0 Q)) 0 [(0, Value.ref (B + a0))] [] σ := by
  refine r_aload_n C dX6_countBegun_0 rfl (j := 0) rfl ?_
  obtain ⟨g1, h⟩ := h
  obtain ⟨n2, g3, h⟩ := h
  refine r_getR C (r_atT rfl g1) fa_X6_55 rfl (r_atN g3) dX6_countBegun_1 ?_
  refine r_aload_n C dX6_countBegun_4 rfl (j := 0) rfl ?_
  obtain ⟨g4, h⟩ := h
  refine r_getR C (r_atT rfl g1) fa_X6_84 rfl (r_atN g4) dX6_countBegun_5 ?_
  refine r_get (v := .int (r_gi σ (r_gr σ a0 14) 0)) C (r_atT rfl g4) fa_X6_87 rfl dX6_countBegun_8 ?_
  refine r_dup2_11 C dX6_countBegun_11 rfl rfl ?_
  obtain ⟨g5, h⟩ := h
  refine r_iald C (r_atT rfl g3) ⟨rfl, fun _ => rfl⟩ g5 dX6_countBegun_12 ?_
  refine r_iconst (v := 1) C dX6_countBegun_13 (by decide) ?_
  refine r_iadd C dX6_countBegun_14 ?_
  refine r_iast C (r_atT rfl g3) ⟨rfl, fun _ => rfl⟩ g5 dX6_countBegun_15 ?_
  refine r_nam (fun σ6 e7 => ?_)
  have h := h σ6 e7
  have s8 : σ6.1 = σ.1 := by rw [e7]; exact rfl
  exact r_vretQ C E rfl (Nat.zero_le _) (Nat.zero_le _) dX6_countBegun_16 (s8.trans hs) h
theorem w_X6_endFrame_0 {X : r_X} {w : r_V} {B : Nat} {l : Launch} {Q : r_S → Prop} {σ0 : r_S} (C : r_C X w B 4 cX6_endFrame RX6) (E : r_E X l tX6_endFrame) {σ : r_S} (hs : σ.1 = σ0.1) {a0 : Nat} {y1 : Int64}
    (h : r_at σ a0 = some (.inl 6) ∧ (r_at σ (r_gr σ a0 14) = some (.inl 2) ∧ (∀ z3 : Int32, z3 = r_gi σ (r_gr σ a0 14) 0 → (∀ σ5 : r_S, σ5 = r_ui σ (r_gr σ a0 14) 0 0 → ((z3 = 1 → (r_W X w B 4 0 0 (r_Z X w B tX6_endFrame (r_QV σ0 Q)) 26 [(0, Value.ref (B + a0)), (1, Value.long y1), (3, Value.int z3)] [] σ5)) ∧ (¬ z3 = 1 → ((z3 = 3 → (r_W X w B 4 0 0 (r_Z X w B tX6_endFrame (r_QV σ0 Q)) 26 [(0, Value.ref (B + a0)), (1, Value.long y1), (3, Value.int z3)] [] σ5)) ∧ (¬ z3 = 3 → (Q σ5))))))))) :
    r_W X w B 4 0 0 (r_Z X w B tX6_endFrame (r_QV σ0 Q)) 0 [(0, Value.ref (B + a0)), (1, Value.long y1)] [] σ := by
  refine r_aload_n C dX6_endFrame_0 rfl (j := 0) rfl ?_
  obtain ⟨g1, h⟩ := h
  obtain ⟨g2, h⟩ := h
  refine r_getR C (r_atT rfl g1) fa_X6_84 rfl (r_atN g2) dX6_endFrame_1 ?_
  refine r_get (v := .int (r_gi σ (r_gr σ a0 14) 0)) C (r_atT rfl g2) fa_X6_87 rfl dX6_endFrame_4 ?_
  refine r_topi (fun z3 e4 => ?_)
  have h := h z3 e4
  refine r_istore_n (lv' := [(3, Value.int z3), (0, Value.ref (B + a0)), (1, Value.long y1)]) C dX6_endFrame_7 rfl (by decide) rfl ?_
  refine r_aload_n C dX6_endFrame_8 rfl (j := 1) rfl ?_
  refine r_getR C (r_atT rfl g1) fa_X6_84 rfl (r_atN g2) dX6_endFrame_9 ?_
  refine r_iconst (v := 0) C dX6_endFrame_12 (by decide) ?_
  refine r_putI C (r_atT rfl g2) fa_X6_87 rfl rfl rfl dX6_endFrame_13 ?_
  refine r_nam (fun σ5 e6 => ?_)
  have h := h σ5 e6
  have s7 : σ5.1 = σ.1 := by rw [e6]; exact rfl
  refine r_iload_n C dX6_endFrame_16 rfl (j := 0) rfl ?_
  refine r_iconst (v := 1) C dX6_endFrame_17 (by decide) ?_
  refine r_icmp_eq (tgt := 26) C dX6_endFrame_18 (by decide) (fun c8 => ?_) (fun c8 => ?_)
  · have h := h.1 c8
    exact r_loc (by simp) h
  · have h := h.2 c8
    refine r_iload_n C dX6_endFrame_21 rfl (j := 0) rfl ?_
    refine r_iconst (v := 3) C dX6_endFrame_22 (by decide) ?_
    refine r_icmp_ne (tgt := 60) C dX6_endFrame_23 (by decide) (fun c9 => ?_) (fun c9 => ?_)
    · have h := h.2 c9
      exact r_vretQ C E rfl (Nat.zero_le _) (Nat.zero_le _) dX6_endFrame_60 (s7.trans hs) h
    · have h := h.1 c9
      exact r_loc (by simp) h
theorem w_X6_endFrame_26 {X : r_X} {w : r_V} {B : Nat} {l : Launch} {Q : r_S → Prop} {σ0 : r_S} (C : r_C X w B 4 cX6_endFrame RX6) (E : r_E X l tX6_endFrame) {σ : r_S} (hs : σ.1 = σ0.1) {a0 : Nat} {x3 : Int32} {y1 : Int64}
    (h : (x3 = 1 → (r_at σ a0 = some (.inl 6) ∧ (∀ σ14 : r_S, σ14 = r_ui σ a0 9 2 → (r_at σ (r_gr σ14 a0 14) = some (.inl 2) ∧ (∀ σ18 : r_S, σ18 = r_ui σ14 a0 10 (r_gi σ14 (r_gr σ14 a0 14) 1) → (∀ σ21 : r_S, σ21 = r_ul σ18 a0 11 (y1 + 4) → (Q σ21))))))) ∧ (¬ x3 = 1 → (r_at σ a0 = some (.inl 6) ∧ (∀ σ3 : r_S, σ3 = r_ui σ a0 9 4 → (r_at σ (r_gr σ3 a0 14) = some (.inl 2) ∧ (∀ σ7 : r_S, σ7 = r_ui σ3 a0 10 (r_gi σ3 (r_gr σ3 a0 14) 1) → (∀ σ10 : r_S, σ10 = r_ul σ7 a0 11 (y1 + 4) → (Q σ10)))))))) :
    r_W X w B 4 0 0 (r_Z X w B tX6_endFrame (r_QV σ0 Q)) 26 [(0, Value.ref (B + a0)), (1, Value.long y1), (3, Value.int x3)] [] σ := by
  refine r_aload_n C dX6_endFrame_26 rfl (j := 0) rfl ?_
  refine r_iload_n C dX6_endFrame_27 rfl (j := 2) rfl ?_
  refine r_iconst (v := 1) C dX6_endFrame_28 (by decide) ?_
  refine r_icmp_ne (tgt := 36) C dX6_endFrame_29 (by decide) (fun c1 => ?_) (fun c1 => ?_)
  · have h := h.2 c1
    refine r_iconst (v := 4) C dX6_endFrame_36 (by decide) ?_
    obtain ⟨g2, h⟩ := h
    refine r_putI C (r_atT rfl g2) fa_X6_31 rfl rfl rfl dX6_endFrame_37 ?_
    refine r_nam (fun σ3 e4 => ?_)
    have h := h σ3 e4
    have s5 : σ3.1 = σ.1 := by rw [e4]; exact rfl
    refine r_aload_n C dX6_endFrame_40 rfl (j := 0) rfl ?_
    refine r_aload_n C dX6_endFrame_41 rfl (j := 0) rfl ?_
    obtain ⟨g6, h⟩ := h
    refine r_getR C (r_atT s5 g2) fa_X6_84 rfl (r_atN g6) dX6_endFrame_42 ?_
    refine r_get (v := .int (r_gi σ3 (r_gr σ3 a0 14) 1)) C (r_atT s5 g6) fa_X6_100 rfl dX6_endFrame_45 ?_
    refine r_putI C (r_atT s5 g2) fa_X6_34 rfl rfl rfl dX6_endFrame_48 ?_
    refine r_nam (fun σ7 e8 => ?_)
    have h := h σ7 e8
    have s9 : σ7.1 = σ.1 := by rw [e8]; exact s5
    refine r_aload_n C dX6_endFrame_51 rfl (j := 0) rfl ?_
    refine r_lload_n C dX6_endFrame_52 rfl (j := 1) rfl ?_
    refine r_ldc2 (v := 4) C kj_X6_103 dX6_endFrame_53 ?_
    refine r_ladd C dX6_endFrame_56 ?_
    refine r_putL C (r_atT s9 g2) fa_X6_37 rfl dX6_endFrame_57 ?_
    refine r_nam (fun σ10 e11 => ?_)
    have h := h σ10 e11
    have s12 : σ10.1 = σ.1 := by rw [e11]; exact s9
    exact r_vretQ C E rfl (Nat.zero_le _) (Nat.zero_le _) dX6_endFrame_60 (s12.trans hs) h
  · have h := h.1 c1
    refine r_iconst (v := 2) C dX6_endFrame_32 (by decide) ?_
    refine r_goto (tgt := 37) C dX6_endFrame_33 (by decide) ?_
    obtain ⟨g13, h⟩ := h
    refine r_putI C (r_atT rfl g13) fa_X6_31 rfl rfl rfl dX6_endFrame_37 ?_
    refine r_nam (fun σ14 e15 => ?_)
    have h := h σ14 e15
    have s16 : σ14.1 = σ.1 := by rw [e15]; exact rfl
    refine r_aload_n C dX6_endFrame_40 rfl (j := 0) rfl ?_
    refine r_aload_n C dX6_endFrame_41 rfl (j := 0) rfl ?_
    obtain ⟨g17, h⟩ := h
    refine r_getR C (r_atT s16 g13) fa_X6_84 rfl (r_atN g17) dX6_endFrame_42 ?_
    refine r_get (v := .int (r_gi σ14 (r_gr σ14 a0 14) 1)) C (r_atT s16 g17) fa_X6_100 rfl dX6_endFrame_45 ?_
    refine r_putI C (r_atT s16 g13) fa_X6_34 rfl rfl rfl dX6_endFrame_48 ?_
    refine r_nam (fun σ18 e19 => ?_)
    have h := h σ18 e19
    have s20 : σ18.1 = σ.1 := by rw [e19]; exact s16
    refine r_aload_n C dX6_endFrame_51 rfl (j := 0) rfl ?_
    refine r_lload_n C dX6_endFrame_52 rfl (j := 1) rfl ?_
    refine r_ldc2 (v := 4) C kj_X6_103 dX6_endFrame_53 ?_
    refine r_ladd C dX6_endFrame_56 ?_
    refine r_putL C (r_atT s20 g13) fa_X6_37 rfl dX6_endFrame_57 ?_
    refine r_nam (fun σ21 e22 => ?_)
    have h := h σ21 e22
    have s23 : σ21.1 = σ.1 := by rw [e22]; exact s20
    exact r_vretQ C E rfl (Nat.zero_le _) (Nat.zero_le _) dX6_endFrame_60 (s23.trans hs) h
theorem w_X6_countIdle_0 {X : r_X} {w : r_V} {B : Nat} {l : Launch} {Q : r_S → Prop} {σ0 : r_S} (C : r_C X w B 2 cX6_countIdle RX6) (E : r_E X l tX6_countIdle) {σ : r_S} (hs : σ.1 = σ0.1) {a0 : Nat} {x1 : Int32}
    (h : (x1 = 0 → (r_at σ a0 = some (.inl 6) ∧ (∀ σ12 : r_S, σ12 = r_ui σ a0 6 0 → (Q σ12)))) ∧ (¬ x1 = 0 → (r_at σ a0 = some (.inl 6) ∧ (∀ σ3 : r_S, σ3 = r_ui σ a0 6 ((r_gi σ a0 6) + 1) → (((r_gi σ3 a0 6) ≤ (r_gi σ3 a0 7) → (Q σ3)) ∧ (¬ (r_gi σ3 a0 6) ≤ (r_gi σ3 a0 7) → (((r_gi σ3 a0 5) ≤ 0 → (Q σ3)) ∧ (¬ (r_gi σ3 a0 5) ≤ 0 → (∀ σ8 : r_S, σ8 = r_ui σ3 a0 5 ((r_gi σ3 a0 5) - 1) → (Q σ8)))))))))) :
    r_W X w B 2 0 0 (r_Z X w B tX6_countIdle (r_QV σ0 Q)) 0 [(0, Value.ref (B + a0)), (1, Value.int x1)] [] σ := by
  refine r_iload_n C dX6_countIdle_0 rfl (j := 1) rfl ?_
  refine r_if_ne (tgt := 10) C dX6_countIdle_1 (by decide) (fun c1 => ?_) (fun c1 => ?_)
  · have h := h.2 c1
    refine r_aload_n C dX6_countIdle_10 rfl (j := 0) rfl ?_
    refine r_dup C dX6_countIdle_11 rfl ?_
    obtain ⟨g2, h⟩ := h
    refine r_get (v := .int (r_gi σ a0 6)) C (r_atT rfl g2) fa_X6_21 rfl dX6_countIdle_12 ?_
    refine r_iconst (v := 1) C dX6_countIdle_15 (by decide) ?_
    refine r_iadd C dX6_countIdle_16 ?_
    refine r_putI C (r_atT rfl g2) fa_X6_21 rfl rfl rfl dX6_countIdle_17 ?_
    refine r_nam (fun σ3 e4 => ?_)
    have h := h σ3 e4
    have s5 : σ3.1 = σ.1 := by rw [e4]; exact rfl
    refine r_aload_n C dX6_countIdle_20 rfl (j := 0) rfl ?_
    refine r_get (v := .int (r_gi σ3 a0 6)) C (r_atT s5 g2) fa_X6_21 rfl dX6_countIdle_21 ?_
    refine r_aload_n C dX6_countIdle_24 rfl (j := 0) rfl ?_
    refine r_get (v := .int (r_gi σ3 a0 7)) C (r_atT s5 g2) fa_X6_24 rfl dX6_countIdle_25 ?_
    refine r_icmp_le (tgt := 48) C dX6_countIdle_28 (by decide) (fun c6 => ?_) (fun c6 => ?_)
    · have h := h.1 c6
      exact r_vretQ C E rfl (Nat.zero_le _) (Nat.zero_le _) dX6_countIdle_48 (s5.trans hs) h
    · have h := h.2 c6
      refine r_aload_n C dX6_countIdle_31 rfl (j := 0) rfl ?_
      refine r_get (v := .int (r_gi σ3 a0 5)) C (r_atT s5 g2) fa_X6_18 rfl dX6_countIdle_32 ?_
      refine r_if_le (tgt := 48) C dX6_countIdle_35 (by decide) (fun c7 => ?_) (fun c7 => ?_)
      · have h := h.1 c7
        exact r_vretQ C E rfl (Nat.zero_le _) (Nat.zero_le _) dX6_countIdle_48 (s5.trans hs) h
      · have h := h.2 c7
        refine r_aload_n C dX6_countIdle_38 rfl (j := 0) rfl ?_
        refine r_dup C dX6_countIdle_39 rfl ?_
        refine r_get (v := .int (r_gi σ3 a0 5)) C (r_atT s5 g2) fa_X6_18 rfl dX6_countIdle_40 ?_
        refine r_iconst (v := 1) C dX6_countIdle_43 (by decide) ?_
        refine r_isub C dX6_countIdle_44 ?_
        refine r_putI C (r_atT s5 g2) fa_X6_18 rfl rfl rfl dX6_countIdle_45 ?_
        refine r_nam (fun σ8 e9 => ?_)
        have h := h σ8 e9
        have s10 : σ8.1 = σ.1 := by rw [e9]; exact s5
        exact r_vretQ C E rfl (Nat.zero_le _) (Nat.zero_le _) dX6_countIdle_48 (s10.trans hs) h
  · have h := h.1 c1
    refine r_aload_n C dX6_countIdle_4 rfl (j := 0) rfl ?_
    refine r_iconst (v := 0) C dX6_countIdle_5 (by decide) ?_
    obtain ⟨g11, h⟩ := h
    refine r_putI C (r_atT rfl g11) fa_X6_21 rfl rfl rfl dX6_countIdle_6 ?_
    refine r_nam (fun σ12 e13 => ?_)
    have h := h σ12 e13
    have s14 : σ12.1 = σ.1 := by rw [e13]; exact rfl
    exact r_vretQ C E rfl (Nat.zero_le _) (Nat.zero_le _) dX6_countIdle_9 (s14.trans hs) h
