theorem w_X2_make_0 {X : r_X} {w : r_V} {B : Nat} {l : Launch} {Q : r_S → Prop} {σ0 : r_S} (C : r_C X w B 4 cX2_make RX2) (E : r_E X l tX2_make) {σ : r_S} (hs : σ.1 = σ0.1) {a0 : Nat} {x1 x2 x3 : Int32}
    (h : r_at σ a0 = some (.inl 2) ∧ (∀ σ2 : r_S, σ2 = r_ui σ a0 0 x1 → (∀ σ5 : r_S, σ5 = r_ui σ2 a0 1 x2 → (∀ σ8 : r_S, σ8 = r_ui σ5 a0 2 x3 → (∀ σ11 : r_S, σ11 = r_ui σ8 a0 3 0 → (r_at σ (r_gr σ11 a0 4) = some (.inl 5) ∧ (∀ σ15 : r_S, σ15 = r_ui σ11 (r_gr σ11 a0 4) 1 0 → (∃ n18, r_at σ (r_gr σ15 a0 5) = some (.inr (1, n18)) ∧ (∃ Q20 : r_S → Prop, r_M l w B tJ7_fill_d0a16 [Value.ref (B + (r_gr σ15 a0 5)), Value.long 0] σ15 (r_QV σ15 Q20) ∧ (∀ σ22 : r_S, Q20 σ22 → (Q σ22))))))))))) :
    r_W X w B 4 0 0 (r_Z X w B tX2_make (r_QV σ0 Q)) 0 [(0, Value.ref (B + a0)), (1, Value.int x1), (2, Value.int x2), (3, Value.int x3)] [] σ := by
  refine r_aload_n C dX2_make_0 rfl (j := 0) rfl ?_
  refine r_iload_n C dX2_make_1 rfl (j := 1) rfl ?_
  obtain ⟨g1, h⟩ := h
  refine r_putI C (r_atT rfl g1) fa_X2_9 rfl rfl rfl dX2_make_2 ?_
  refine r_nam (fun σ2 e3 => ?_)
  have h := h σ2 e3
  have s4 : σ2.1 = σ.1 := by rw [e3]; exact rfl
  refine r_aload_n C dX2_make_5 rfl (j := 0) rfl ?_
  refine r_iload_n C dX2_make_6 rfl (j := 2) rfl ?_
  refine r_putI C (r_atT s4 g1) fa_X2_15 rfl rfl rfl dX2_make_7 ?_
  refine r_nam (fun σ5 e6 => ?_)
  have h := h σ5 e6
  have s7 : σ5.1 = σ.1 := by rw [e6]; exact s4
  refine r_aload_n C dX2_make_10 rfl (j := 0) rfl ?_
  refine r_iload_n C dX2_make_11 rfl (j := 3) rfl ?_
  refine r_putI C (r_atT s7 g1) fa_X2_18 rfl rfl rfl dX2_make_12 ?_
  refine r_nam (fun σ8 e9 => ?_)
  have h := h σ8 e9
  have s10 : σ8.1 = σ.1 := by rw [e9]; exact s7
  refine r_aload_n C dX2_make_15 rfl (j := 0) rfl ?_
  refine r_iconst (v := 0) C dX2_make_16 (by decide) ?_
  refine r_putI C (r_atT s10 g1) fa_X2_21 rfl rfl rfl dX2_make_17 ?_
  refine r_nam (fun σ11 e12 => ?_)
  have h := h σ11 e12
  have s13 : σ11.1 = σ.1 := by rw [e12]; exact s10
  refine r_aload_n C dX2_make_20 rfl (j := 0) rfl ?_
  obtain ⟨g14, h⟩ := h
  refine r_getR C (r_atT s13 g1) fa_X2_29 rfl (r_atN g14) dX2_make_21 ?_
  refine r_iconst (v := 0) C dX2_make_24 (by decide) ?_
  refine r_putI C (r_atT s13 g14) fa_X2_37 rfl rfl rfl dX2_make_25 ?_
  refine r_nam (fun σ15 e16 => ?_)
  have h := h σ15 e16
  have s17 : σ15.1 = σ.1 := by rw [e16]; exact s13
  refine r_aload_n C dX2_make_28 rfl (j := 0) rfl ?_
  obtain ⟨n18, g19, h⟩ := h
  refine r_getR C (r_atT s17 g1) fa_X2_33 rfl (r_atN g19) dX2_make_29 ?_
  refine r_lconst (v := 0) C dX2_make_32 (by decide) ?_
  obtain ⟨Q20, m21, h⟩ := h
  refine r_callSV (rest := []) C E [Value.ref (B + (r_gr σ15 a0 5)), Value.long 0] ky_J7_fill_d0a16 kl_X2_40 ks_J7_fill_d0a16 ⟨Nat.le_of_ble_eq_true rfl, Nat.le_of_ble_eq_true rfl⟩ ⟨rfl, rfl⟩ m21 rfl rfl (Nat.le_of_ble_eq_true rfl) (Nat.zero_le _) (Nat.zero_le _) dX2_make_33 (fun σ22 s23 q25 => ?_)
  have h := h σ22 q25
  have s23 := s23.trans s17
  exact r_vretQ C E rfl (Nat.zero_le _) (Nat.zero_le _) dX2_make_36 (s23.trans hs) h
theorem w_X2_length_0 {X : r_X} {w : r_V} {B : Nat} {l : Launch} {Q : Int32 → r_S → Prop} {σ0 : r_S} (C : r_C X w B 1 cX2_length RX2) (E : r_E X l tX2_length) {σ : r_S} (hs : σ.1 = σ0.1) {a0 : Nat}
    (h : r_at σ a0 = some (.inl 2) ∧ (((r_gi σ a0 0) = 3 → (Q (r_gi σ a0 2) σ)) ∧ (¬ (r_gi σ a0 0) = 3 → (Q 2 σ)))) :
    r_W X w B 1 0 0 (r_Z X w B tX2_length (r_QI σ0 Q)) 0 [(0, Value.ref (B + a0))] [] σ := by
  refine r_aload_n C dX2_length_0 rfl (j := 0) rfl ?_
  obtain ⟨g1, h⟩ := h
  refine r_get (v := .int (r_gi σ a0 0)) C (r_atT rfl g1) fa_X2_9 rfl dX2_length_1 ?_
  refine r_iconst (v := 3) C dX2_length_4 (by decide) ?_
  refine r_icmp_ne (tgt := 15) C dX2_length_5 (by decide) (fun c2 => ?_) (fun c2 => ?_)
  · have h := h.2 c2
    refine r_iconst (v := 2) C dX2_length_15 (by decide) ?_
    exact r_iretQ C E rfl (Nat.zero_le _) (Nat.zero_le _) dX2_length_16 ((rfl : σ.1 = σ.1).trans hs) h
  · have h := h.1 c2
    refine r_aload_n C dX2_length_8 rfl (j := 0) rfl ?_
    refine r_get (v := .int (r_gi σ a0 2)) C (r_atT rfl g1) fa_X2_18 rfl dX2_length_9 ?_
    refine r_goto (tgt := 16) C dX2_length_12 (by decide) ?_
    exact r_iretQ C E rfl (Nat.zero_le _) (Nat.zero_le _) dX2_length_16 ((rfl : σ.1 = σ.1).trans hs) h
theorem w_X2_isOver_0 {X : r_X} {w : r_V} {B : Nat} {l : Launch} {Q : Int32 → r_S → Prop} {σ0 : r_S} (C : r_C X w B 1 cX2_isOver RX2) (E : r_E X l tX2_isOver) {σ : r_S} (hs : σ.1 = σ0.1) {a0 : Nat}
    (h : r_at σ a0 = some (.inl 2) ∧ (((r_gi σ a0 0) = 0 → (Q 0 σ)) ∧ (¬ (r_gi σ a0 0) = 0 → (∃ Q3 : Int32 → r_S → Prop, r_M l w B tX2_length [Value.ref (B + a0)] σ (r_QI σ Q3) ∧ (∀ (z7 : Int32) (σ5 : r_S), Q3 z7 σ5 → (((r_gi σ a0 3) < z7 → (Q 0 σ5)) ∧ (¬ (r_gi σ a0 3) < z7 → (Q 1 σ5)))))))) :
    r_W X w B 1 0 0 (r_Z X w B tX2_isOver (r_QI σ0 Q)) 0 [(0, Value.ref (B + a0))] [] σ := by
  refine r_aload_n C dX2_isOver_0 rfl (j := 0) rfl ?_
  obtain ⟨g1, h⟩ := h
  refine r_get (v := .int (r_gi σ a0 0)) C (r_atT rfl g1) fa_X2_9 rfl dX2_isOver_1 ?_
  refine r_if_eq (tgt := 22) C dX2_isOver_4 (by decide) (fun c2 => ?_) (fun c2 => ?_)
  · have h := h.1 c2
    refine r_iconst (v := 0) C dX2_isOver_22 (by decide) ?_
    exact r_zretQ C E rfl (by decide) (Nat.zero_le _) (Nat.zero_le _) dX2_isOver_23 ((rfl : σ.1 = σ.1).trans hs) h
  · have h := h.2 c2
    refine r_aload_n C dX2_isOver_7 rfl (j := 0) rfl ?_
    refine r_get (v := .int (r_gi σ a0 3)) C (r_atT rfl g1) fa_X2_21 rfl dX2_isOver_8 ?_
    refine r_aload_n C dX2_isOver_11 rfl (j := 0) rfl ?_
    obtain ⟨Q3, m4, h⟩ := h
    refine r_callVI (rest := [Value.int (r_gi σ a0 3)]) C E [] (r_atT rfl g1) rfl ky_X2_length kl_X2_46 ki_X2_length kx_X2_length ⟨Nat.le_of_ble_eq_true rfl, Nat.le_of_ble_eq_true rfl⟩ ⟨rfl, rfl⟩ m4 rfl rfl (Nat.le_of_ble_eq_true rfl) (Nat.zero_le _) (Nat.zero_le _) dX2_isOver_12 (fun z7 σ5 s6 q8 => ?_)
    have h := h z7 σ5 q8
    have s6 := s6.trans rfl
    refine r_icmp_lt (tgt := 22) C dX2_isOver_15 (by decide) (fun c9 => ?_) (fun c9 => ?_)
    · have h := h.1 c9
      refine r_iconst (v := 0) C dX2_isOver_22 (by decide) ?_
      exact r_zretQ C E rfl (by decide) (Nat.zero_le _) (Nat.zero_le _) dX2_isOver_23 (s6.trans hs) h
    · have h := h.2 c9
      refine r_iconst (v := 1) C dX2_isOver_18 (by decide) ?_
      refine r_goto (tgt := 23) C dX2_isOver_19 (by decide) ?_
      exact r_zretQ C E rfl (by decide) (Nat.zero_le _) (Nat.zero_le _) dX2_isOver_23 (s6.trans hs) h
theorem w_X2_left_0 {X : r_X} {w : r_V} {B : Nat} {l : Launch} {Q : Int32 → r_S → Prop} {σ0 : r_S} (C : r_C X w B 1 cX2_left RX2) (E : r_E X l tX2_left) {σ : r_S} (hs : σ.1 = σ0.1) {a0 : Nat}
    (h : r_at σ a0 = some (.inl 2) ∧ (∀ z2 : Int32, z2 = r_gi σ a0 0 → ((z2 = 1 → (Q (7 + (r_gi σ a0 2)) σ)) ∧ (¬ z2 = 1 → ((z2 = 2 → (Q (4 + (r_gi σ a0 2)) σ)) ∧ (¬ z2 = 2 → ((z2 = 3 → (Q 3 σ)) ∧ (¬ z2 = 3 → (Q 0 σ))))))))) :
    r_W X w B 1 0 0 (r_Z X w B tX2_left (r_QI σ0 Q)) 0 [(0, Value.ref (B + a0))] [] σ := by
  refine r_aload_n C dX2_left_0 rfl (j := 0) rfl ?_
  obtain ⟨g1, h⟩ := h
  refine r_get (v := .int (r_gi σ a0 0)) C (r_atT rfl g1) fa_X2_9 rfl dX2_left_1 ?_
  refine r_topi (fun z2 e3 => ?_)
  have h := h z2 e3
  by_cases c4 : z2 = 1
  · have h := h.1 c4
    refine r_tableIn (tgt := 32) (off := 28) C dX2_left_4 (by rw [c4]; decide) (by rw [c4]; decide) (by rw [c4]; rfl) (by decide) ?_
    refine r_bipush (v := 7) C dX2_left_32 (by decide) ?_
    refine r_aload_n C dX2_left_34 rfl (j := 0) rfl ?_
    refine r_get (v := .int (r_gi σ a0 2)) C (r_atT rfl g1) fa_X2_18 rfl dX2_left_35 ?_
    refine r_iadd C dX2_left_38 ?_
    exact r_iretQ C E rfl (Nat.zero_le _) (Nat.zero_le _) dX2_left_39 ((rfl : σ.1 = σ.1).trans hs) h
  have h := h.2 c4
  have c4 := r_neT c4
  by_cases c5 : z2 = 2
  · have h := h.1 c5
    refine r_tableIn (tgt := 40) (off := 36) C dX2_left_4 (by rw [c5]; decide) (by rw [c5]; decide) (by rw [c5]; rfl) (by decide) ?_
    refine r_iconst (v := 4) C dX2_left_40 (by decide) ?_
    refine r_aload_n C dX2_left_41 rfl (j := 0) rfl ?_
    refine r_get (v := .int (r_gi σ a0 2)) C (r_atT rfl g1) fa_X2_18 rfl dX2_left_42 ?_
    refine r_iadd C dX2_left_45 ?_
    exact r_iretQ C E rfl (Nat.zero_le _) (Nat.zero_le _) dX2_left_46 ((rfl : σ.1 = σ.1).trans hs) h
  have h := h.2 c5
  have c5 := r_neT c5
  by_cases c6 : z2 = 3
  · have h := h.1 c6
    refine r_tableIn (tgt := 47) (off := 43) C dX2_left_4 (by rw [c6]; decide) (by rw [c6]; decide) (by rw [c6]; rfl) (by decide) ?_
    refine r_iconst (v := 3) C dX2_left_47 (by decide) ?_
    exact r_iretQ C E rfl (Nat.zero_le _) (Nat.zero_le _) dX2_left_48 ((rfl : σ.1 = σ.1).trans hs) h
  have h := h.2 c6
  have c6 := r_neT c6
  refine r_tableOut (tgt := 49) C dX2_left_4 (by simp at *; omega) (by decide) ?_
  refine r_iconst (v := 0) C dX2_left_49 (by decide) ?_
  exact r_iretQ C E rfl (Nat.zero_le _) (Nat.zero_le _) dX2_left_50 ((rfl : σ.1 = σ.1).trans hs) h
theorem w_X2_markGood_0 {X : r_X} {w : r_V} {B : Nat} {l : Launch} {Q : r_S → Prop} {σ0 : r_S} (C : r_C X w B 2 cX2_markGood RX2) (E : r_E X l tX2_markGood) {σ : r_S} (hs : σ.1 = σ0.1) {a0 : Nat} {x1 : Int32}
    (h : r_at σ a0 = some (.inl 2) ∧ (∃ n2, r_at σ (r_gr σ a0 5) = some (.inr (1, n2)) ∧ (vp_in x1 n2 ∧ (∀ σ5 : r_S, σ5 = r_ul σ (r_gr σ a0 5) (x1.toNatClampNeg) ((r_gl σ (r_gr σ a0 5) x1.toNatClampNeg) ||| ((1 : Int64) <<< ((r_gi σ a0 3).toInt64 &&& 63))) → (Q σ5))))) :
    r_W X w B 2 0 0 (r_Z X w B tX2_markGood (r_QV σ0 Q)) 0 [(0, Value.ref (B + a0)), (1, Value.int x1)] [] σ := by
  refine r_aload_n C dX2_markGood_0 rfl (j := 0) rfl ?_
  obtain ⟨g1, h⟩ := h
  obtain ⟨n2, g3, h⟩ := h
  refine r_getR C (r_atT rfl g1) fa_X2_33 rfl (r_atN g3) dX2_markGood_1 ?_
  refine r_iload_n C dX2_markGood_4 rfl (j := 1) rfl ?_
  refine r_dup2_11 C dX2_markGood_5 rfl rfl ?_
  obtain ⟨g4, h⟩ := h
  refine r_lald C (r_atT rfl g3) ⟨rfl, fun _ => rfl⟩ g4 dX2_markGood_6 ?_
  refine r_lconst (v := 1) C dX2_markGood_7 (by decide) ?_
  refine r_aload_n C dX2_markGood_8 rfl (j := 0) rfl ?_
  refine r_get (v := .int (r_gi σ a0 3)) C (r_atT rfl g1) fa_X2_21 rfl dX2_markGood_9 ?_
  refine r_lshl (v := (1 : Int64) <<< ((r_gi σ a0 3).toInt64 &&& 63)) C dX2_markGood_12 rfl ?_
  refine r_lor C dX2_markGood_13 ?_
  refine r_last C (r_atT rfl g3) ⟨rfl, fun _ => rfl⟩ g4 dX2_markGood_14 ?_
  refine r_nam (fun σ5 e6 => ?_)
  have h := h σ5 e6
  have s7 : σ5.1 = σ.1 := by rw [e6]; exact rfl
  exact r_vretQ C E rfl (Nat.zero_le _) (Nat.zero_le _) dX2_markGood_15 (s7.trans hs) h
theorem w_X2_areGood_0 {X : r_X} {w : r_V} {B : Nat} {l : Launch} {Q : Int32 → r_S → Prop} {σ0 : r_S} (C : r_C X w B 6 cX2_areGood RX2) (E : r_E X l tX2_areGood) {σ : r_S} (hs : σ.1 = σ0.1) {a0 : Nat} {x1 x2 x3 : Int32}
    (h : ∀ y1 : Int64, y1 = (((1 : Int64) <<< (x3.toInt64 &&& 63)) - 1) <<< (x2.toInt64 &&& 63) → (r_at σ a0 = some (.inl 2) ∧ (∃ n4, r_at σ (r_gr σ a0 5) = some (.inr (1, n4)) ∧ (vp_in x1 n4 ∧ ((((r_gl σ (r_gr σ a0 5) x1.toNatClampNeg) &&& y1) = y1 → (Q 1 σ)) ∧ (¬ ((r_gl σ (r_gr σ a0 5) x1.toNatClampNeg) &&& y1) = y1 → (Q 0 σ))))))) :
    r_W X w B 6 0 0 (r_Z X w B tX2_areGood (r_QI σ0 Q)) 0 [(0, Value.ref (B + a0)), (1, Value.int x1), (2, Value.int x2), (3, Value.int x3)] [] σ := by
  refine r_lconst (v := 1) C dX2_areGood_0 (by decide) ?_
  refine r_iload_n C dX2_areGood_1 rfl (j := 3) rfl ?_
  refine r_lshl (v := (1 : Int64) <<< (x3.toInt64 &&& 63)) C dX2_areGood_2 rfl ?_
  refine r_lconst (v := 1) C dX2_areGood_3 (by decide) ?_
  refine r_lsub C dX2_areGood_4 ?_
  refine r_iload_n C dX2_areGood_5 rfl (j := 2) rfl ?_
  refine r_lshl (v := (((1 : Int64) <<< (x3.toInt64 &&& 63)) - 1) <<< (x2.toInt64 &&& 63)) C dX2_areGood_6 rfl ?_
  refine r_topl (fun y1 e2 => ?_)
  have h := h y1 e2
  refine r_lstore (lv' := [(4, Value.long y1), (0, Value.ref (B + a0)), (1, Value.int x1), (2, Value.int x2), (3, Value.int x3)]) C dX2_areGood_7 (by decide) rfl ?_
  refine r_aload_n C dX2_areGood_9 rfl (j := 1) rfl ?_
  obtain ⟨g3, h⟩ := h
  obtain ⟨n4, g5, h⟩ := h
  refine r_getR C (r_atT rfl g3) fa_X2_33 rfl (r_atN g5) dX2_areGood_10 ?_
  refine r_iload_n C dX2_areGood_13 rfl (j := 2) rfl ?_
  obtain ⟨g6, h⟩ := h
  refine r_lald C (r_atT rfl g5) ⟨rfl, fun _ => rfl⟩ g6 dX2_areGood_14 ?_
  refine r_lload C dX2_areGood_15 (j := 0) rfl ?_
  refine r_land C dX2_areGood_17 ?_
  refine r_lload C dX2_areGood_18 (j := 0) rfl ?_
  refine r_lcmp C dX2_areGood_20 ?_
  refine r_if_ne (tgt := 28) C dX2_areGood_21 (by decide) (fun c7 => ?_) (fun c7 => ?_)
  · have h := h.2 (fun q => c7 (lgc_eq.mpr q))
    refine r_iconst (v := 0) C dX2_areGood_28 (by decide) ?_
    exact r_zretQ C E rfl (by decide) (Nat.zero_le _) (Nat.zero_le _) dX2_areGood_29 ((rfl : σ.1 = σ.1).trans hs) h
  · have h := h.1 (lgc_eq.mp c7)
    refine r_iconst (v := 1) C dX2_areGood_24 (by decide) ?_
    refine r_goto (tgt := 29) C dX2_areGood_25 (by decide) ?_
    exact r_zretQ C E rfl (by decide) (Nat.zero_le _) (Nat.zero_le _) dX2_areGood_29 ((rfl : σ.1 = σ.1).trans hs) h
theorem w_X2_isReceivedAt_0 {X : r_X} {w : r_V} {B : Nat} {l : Launch} {Q : Int32 → r_S → Prop} {σ0 : r_S} (C : r_C X w B 2 cX2_isReceivedAt RX2) (E : r_E X l tX2_isReceivedAt) {σ : r_S} (hs : σ.1 = σ0.1) {a0 : Nat} {x1 : Int32}
    (h : r_at σ a0 = some (.inl 2) ∧ (((r_gi σ a0 0) = 3 → (∃ Q10 : Int32 → r_S → Prop, r_M l w B tX2_areGood [Value.ref (B + a0), Value.int x1, Value.int 0, Value.int 1] σ (r_QI σ Q10) ∧ (∀ (z14 : Int32) (σ12 : r_S), Q10 z14 σ12 → ((z14 = 0 ∨ z14 = 1) ∧ (Q z14 σ12))))) ∧ (¬ (r_gi σ a0 0) = 3 → (∃ Q3 : Int32 → r_S → Prop, r_M l w B tX2_areGood [Value.ref (B + a0), Value.int x1, Value.int 0, Value.int 2] σ (r_QI σ Q3) ∧ (∀ (z7 : Int32) (σ5 : r_S), Q3 z7 σ5 → ((z7 = 0 ∨ z7 = 1) ∧ (Q z7 σ5))))))) :
    r_W X w B 2 0 0 (r_Z X w B tX2_isReceivedAt (r_QI σ0 Q)) 0 [(0, Value.ref (B + a0)), (1, Value.int x1)] [] σ := by
  refine r_aload_n C dX2_isReceivedAt_0 rfl (j := 0) rfl ?_
  refine r_iload_n C dX2_isReceivedAt_1 rfl (j := 1) rfl ?_
  refine r_iconst (v := 0) C dX2_isReceivedAt_2 (by decide) ?_
  refine r_aload_n C dX2_isReceivedAt_3 rfl (j := 0) rfl ?_
  obtain ⟨g1, h⟩ := h
  refine r_get (v := .int (r_gi σ a0 0)) C (r_atT rfl g1) fa_X2_9 rfl dX2_isReceivedAt_4 ?_
  refine r_iconst (v := 3) C dX2_isReceivedAt_7 (by decide) ?_
  refine r_icmp_ne (tgt := 15) C dX2_isReceivedAt_8 (by decide) (fun c2 => ?_) (fun c2 => ?_)
  · have h := h.2 c2
    refine r_iconst (v := 2) C dX2_isReceivedAt_15 (by decide) ?_
    obtain ⟨Q3, m4, h⟩ := h
    refine r_callVI (rest := []) C E [Value.int x1, Value.int 0, Value.int 2] (r_atT rfl g1) rfl ky_X2_areGood kl_X2_50 ki_X2_areGood kx_X2_areGood ⟨Nat.le_of_ble_eq_true rfl, Nat.le_of_ble_eq_true rfl⟩ ⟨rfl, rfl⟩ m4 rfl rfl (Nat.le_of_ble_eq_true rfl) (Nat.zero_le _) (Nat.zero_le _) dX2_isReceivedAt_16 (fun z7 σ5 s6 q8 => ?_)
    have h := h z7 σ5 q8
    have s6 := s6.trans rfl
    obtain ⟨g9, h⟩ := h
    exact r_zretQ C E rfl g9 (Nat.zero_le _) (Nat.zero_le _) dX2_isReceivedAt_19 (s6.trans hs) h
  · have h := h.1 c2
    refine r_iconst (v := 1) C dX2_isReceivedAt_11 (by decide) ?_
    refine r_goto (tgt := 16) C dX2_isReceivedAt_12 (by decide) ?_
    obtain ⟨Q10, m11, h⟩ := h
    refine r_callVI (rest := []) C E [Value.int x1, Value.int 0, Value.int 1] (r_atT rfl g1) rfl ky_X2_areGood kl_X2_50 ki_X2_areGood kx_X2_areGood ⟨Nat.le_of_ble_eq_true rfl, Nat.le_of_ble_eq_true rfl⟩ ⟨rfl, rfl⟩ m11 rfl rfl (Nat.le_of_ble_eq_true rfl) (Nat.zero_le _) (Nat.zero_le _) dX2_isReceivedAt_16 (fun z14 σ12 s13 q15 => ?_)
    have h := h z14 σ12 q15
    have s13 := s13.trans rfl
    obtain ⟨g16, h⟩ := h
    exact r_zretQ C E rfl g16 (Nat.zero_le _) (Nat.zero_le _) dX2_isReceivedAt_19 (s13.trans hs) h
