theorem w_X4_pairOf_0 {X : r_X} {w : r_V} {B : Nat} {l : Launch} {Q : Int32 → r_S → Prop} {σ0 : r_S} (C : r_C X w B 3 cX4_pairOf RX4) (E : r_E X l tX4_pairOf) {σ : r_S} (hs : σ.1 = σ0.1) {a0 : Nat} {x1 x2 : Int32}
    (h : Q ((x1 * 6) + x2) σ) :
    r_W X w B 3 0 0 (r_Z X w B tX4_pairOf (r_QI σ0 Q)) 0 [(0, Value.ref (B + a0)), (1, Value.int x1), (2, Value.int x2)] [] σ := by
  refine r_iload_n C dX4_pairOf_0 rfl (j := 1) rfl ?_
  refine r_bipush (v := 6) C dX4_pairOf_1 (by decide) ?_
  refine r_imul C dX4_pairOf_3 ?_
  refine r_iload_n C dX4_pairOf_4 rfl (j := 2) rfl ?_
  refine r_iadd C dX4_pairOf_5 ?_
  exact r_iretQ C E rfl (Nat.zero_le _) (Nat.zero_le _) dX4_pairOf_6 ((rfl : σ.1 = σ.1).trans hs) h
theorem w_X4_isFull_0 {X : r_X} {w : r_V} {B : Nat} {l : Launch} {Q : Int32 → r_S → Prop} {σ0 : r_S} (C : r_C X w B 1 cX4_isFull RX4) (E : r_E X l tX4_isFull) {σ : r_S} (hs : σ.1 = σ0.1) {a0 : Nat}
    (h : r_at σ a0 = some (.inl 4) ∧ (((r_gi σ a0 4) < 300 → (Q 0 σ)) ∧ (¬ (r_gi σ a0 4) < 300 → (Q 1 σ)))) :
    r_W X w B 1 0 0 (r_Z X w B tX4_isFull (r_QI σ0 Q)) 0 [(0, Value.ref (B + a0))] [] σ := by
  refine r_aload_n C dX4_isFull_0 rfl (j := 0) rfl ?_
  obtain ⟨g1, h⟩ := h
  refine r_get (v := .int (r_gi σ a0 4)) C (r_atT rfl g1) fa_X4_25 rfl dX4_isFull_1 ?_
  refine r_sipush (v := 300) C dX4_isFull_4 (by decide) ?_
  refine r_icmp_lt (tgt := 14) C dX4_isFull_7 (by decide) (fun c2 => ?_) (fun c2 => ?_)
  · have h := h.1 c2
    refine r_iconst (v := 0) C dX4_isFull_14 (by decide) ?_
    exact r_zretQ C E rfl (by decide) (Nat.zero_le _) (Nat.zero_le _) dX4_isFull_15 ((rfl : σ.1 = σ.1).trans hs) h
  · have h := h.2 c2
    refine r_iconst (v := 1) C dX4_isFull_10 (by decide) ?_
    refine r_goto (tgt := 15) C dX4_isFull_11 (by decide) ?_
    exact r_zretQ C E rfl (by decide) (Nat.zero_le _) (Nat.zero_le _) dX4_isFull_15 ((rfl : σ.1 = σ.1).trans hs) h
theorem w_X4_add_0 {X : r_X} {w : r_V} {B : Nat} {l : Launch} {Q : Int32 → r_S → Prop} {σ0 : r_S} (C : r_C X w B 4 cX4_add RX4) (E : r_E X l tX4_add) {σ : r_S} (hs : σ.1 = σ0.1) {a0 : Nat} {x1 x2 x3 : Int32}
    (h : r_at σ a0 = some (.inl 4) ∧ (∀ σ2 : r_S, σ2 = r_ui σ a0 4 ((r_gi σ a0 4) + 1) → (∃ n5, r_at σ (r_gr σ2 a0 0) = some (.inr (0, n5)) ∧ (∃ Q7 : Int32 → r_S → Prop, r_M l w B tX4_pairOf [Value.ref (B + a0), Value.int x1, Value.int x2] σ2 (r_QI σ2 Q7) ∧ (∀ (z11 : Int32) (σ9 : r_S), Q7 z11 σ9 → (vp_in (r_gi σ2 a0 4) n5 ∧ (∀ σ14 : r_S, σ14 = r_ui σ9 (r_gr σ2 a0 0) ((r_gi σ2 a0 4).toNatClampNeg) z11 → (∃ n17, r_at σ (r_gr σ14 a0 1) = some (.inr (0, n17)) ∧ (vp_in (r_gi σ14 a0 4) n17 ∧ (∀ σ20 : r_S, σ20 = r_ui σ14 (r_gr σ14 a0 1) ((r_gi σ14 a0 4).toNatClampNeg) x3 → (∃ n23, r_at σ (r_gr σ20 a0 2) = some (.inr (0, n23)) ∧ (∃ n25, r_at σ (r_gr σ20 a0 5) = some (.inr (0, n25)) ∧ (∃ n27, r_at σ (r_gr σ20 a0 0) = some (.inr (0, n27)) ∧ (vp_in (r_gi σ20 a0 4) n27 ∧ (vp_in (r_gi σ20 (r_gr σ20 a0 0) (r_gi σ20 a0 4).toNatClampNeg) n25 ∧ (vp_in (r_gi σ20 a0 4) n23 ∧ (∀ σ32 : r_S, σ32 = r_ui σ20 (r_gr σ20 a0 2) ((r_gi σ20 a0 4).toNatClampNeg) (r_gi σ20 (r_gr σ20 a0 5) (r_gi σ20 (r_gr σ20 a0 0) (r_gi σ20 a0 4).toNatClampNeg).toNatClampNeg) → (∃ n35, r_at σ (r_gr σ32 a0 5) = some (.inr (0, n35)) ∧ (∃ n37, r_at σ (r_gr σ32 a0 0) = some (.inr (0, n37)) ∧ (vp_in (r_gi σ32 a0 4) n37 ∧ (vp_in (r_gi σ32 (r_gr σ32 a0 0) (r_gi σ32 a0 4).toNatClampNeg) n35 ∧ (∀ σ41 : r_S, σ41 = r_ui σ32 (r_gr σ32 a0 5) ((r_gi σ32 (r_gr σ32 a0 0) (r_gi σ32 a0 4).toNatClampNeg).toNatClampNeg) ((r_gi σ32 (r_gr σ32 a0 5) (r_gi σ32 (r_gr σ32 a0 0) (r_gi σ32 a0 4).toNatClampNeg).toNatClampNeg) + 1) → (Q (r_gi σ41 a0 4) σ41))))))))))))))))))))))) :
    r_W X w B 4 0 0 (r_Z X w B tX4_add (r_QI σ0 Q)) 0 [(0, Value.ref (B + a0)), (1, Value.int x1), (2, Value.int x2), (3, Value.int x3)] [] σ := by
  refine r_aload_n C dX4_add_0 rfl (j := 0) rfl ?_
  refine r_dup C dX4_add_1 rfl ?_
  obtain ⟨g1, h⟩ := h
  refine r_get (v := .int (r_gi σ a0 4)) C (r_atT rfl g1) fa_X4_25 rfl dX4_add_2 ?_
  refine r_iconst (v := 1) C dX4_add_5 (by decide) ?_
  refine r_iadd C dX4_add_6 ?_
  refine r_putI C (r_atT rfl g1) fa_X4_25 rfl rfl rfl dX4_add_7 ?_
  refine r_nam (fun σ2 e3 => ?_)
  have h := h σ2 e3
  have s4 : σ2.1 = σ.1 := by rw [e3]; exact rfl
  refine r_aload_n C dX4_add_10 rfl (j := 0) rfl ?_
  obtain ⟨n5, g6, h⟩ := h
  refine r_getR C (r_atT s4 g1) fa_X4_9 rfl (r_atN g6) dX4_add_11 ?_
  refine r_aload_n C dX4_add_14 rfl (j := 0) rfl ?_
  refine r_get (v := .int (r_gi σ2 a0 4)) C (r_atT s4 g1) fa_X4_25 rfl dX4_add_15 ?_
  refine r_aload_n C dX4_add_18 rfl (j := 0) rfl ?_
  refine r_iload_n C dX4_add_19 rfl (j := 1) rfl ?_
  refine r_iload_n C dX4_add_20 rfl (j := 2) rfl ?_
  obtain ⟨Q7, m8, h⟩ := h
  refine r_callVI (rest := [Value.int (r_gi σ2 a0 4), Value.ref (B + (r_gr σ2 a0 0))]) C E [Value.int x1, Value.int x2] (r_atT s4 g1) rfl ky_X4_pairOf kl_X4_35 ki_X4_pairOf kx_X4_pairOf ⟨Nat.le_of_ble_eq_true rfl, Nat.le_of_ble_eq_true rfl⟩ ⟨rfl, rfl⟩ m8 rfl rfl (Nat.le_of_ble_eq_true rfl) (Nat.zero_le _) (Nat.zero_le _) dX4_add_21 (fun z11 σ9 s10 q12 => ?_)
  have h := h z11 σ9 q12
  have s10 := s10.trans s4
  obtain ⟨g13, h⟩ := h
  refine r_iast C (r_atT s10 g6) ⟨rfl, fun _ => rfl⟩ g13 dX4_add_24 ?_
  refine r_nam (fun σ14 e15 => ?_)
  have h := h σ14 e15
  have s16 : σ14.1 = σ.1 := by rw [e15]; exact s10
  refine r_aload_n C dX4_add_25 rfl (j := 0) rfl ?_
  obtain ⟨n17, g18, h⟩ := h
  refine r_getR C (r_atT s16 g1) fa_X4_15 rfl (r_atN g18) dX4_add_26 ?_
  refine r_aload_n C dX4_add_29 rfl (j := 0) rfl ?_
  refine r_get (v := .int (r_gi σ14 a0 4)) C (r_atT s16 g1) fa_X4_25 rfl dX4_add_30 ?_
  refine r_iload_n C dX4_add_33 rfl (j := 3) rfl ?_
  obtain ⟨g19, h⟩ := h
  refine r_iast C (r_atT s16 g18) ⟨rfl, fun _ => rfl⟩ g19 dX4_add_34 ?_
  refine r_nam (fun σ20 e21 => ?_)
  have h := h σ20 e21
  have s22 : σ20.1 = σ.1 := by rw [e21]; exact s16
  refine r_aload_n C dX4_add_35 rfl (j := 0) rfl ?_
  obtain ⟨n23, g24, h⟩ := h
  refine r_getR C (r_atT s22 g1) fa_X4_18 rfl (r_atN g24) dX4_add_36 ?_
  refine r_aload_n C dX4_add_39 rfl (j := 0) rfl ?_
  refine r_get (v := .int (r_gi σ20 a0 4)) C (r_atT s22 g1) fa_X4_25 rfl dX4_add_40 ?_
  refine r_aload_n C dX4_add_43 rfl (j := 0) rfl ?_
  obtain ⟨n25, g26, h⟩ := h
  refine r_getR C (r_atT s22 g1) fa_X4_29 rfl (r_atN g26) dX4_add_44 ?_
  refine r_aload_n C dX4_add_47 rfl (j := 0) rfl ?_
  obtain ⟨n27, g28, h⟩ := h
  refine r_getR C (r_atT s22 g1) fa_X4_9 rfl (r_atN g28) dX4_add_48 ?_
  refine r_aload_n C dX4_add_51 rfl (j := 0) rfl ?_
  refine r_get (v := .int (r_gi σ20 a0 4)) C (r_atT s22 g1) fa_X4_25 rfl dX4_add_52 ?_
  obtain ⟨g29, h⟩ := h
  refine r_iald C (r_atT s22 g28) ⟨rfl, fun _ => rfl⟩ g29 dX4_add_55 ?_
  obtain ⟨g30, h⟩ := h
  refine r_iald C (r_atT s22 g26) ⟨rfl, fun _ => rfl⟩ g30 dX4_add_56 ?_
  obtain ⟨g31, h⟩ := h
  refine r_iast C (r_atT s22 g24) ⟨rfl, fun _ => rfl⟩ g31 dX4_add_57 ?_
  refine r_nam (fun σ32 e33 => ?_)
  have h := h σ32 e33
  have s34 : σ32.1 = σ.1 := by rw [e33]; exact s22
  refine r_aload_n C dX4_add_58 rfl (j := 0) rfl ?_
  obtain ⟨n35, g36, h⟩ := h
  refine r_getR C (r_atT s34 g1) fa_X4_29 rfl (r_atN g36) dX4_add_59 ?_
  refine r_aload_n C dX4_add_62 rfl (j := 0) rfl ?_
  obtain ⟨n37, g38, h⟩ := h
  refine r_getR C (r_atT s34 g1) fa_X4_9 rfl (r_atN g38) dX4_add_63 ?_
  refine r_aload_n C dX4_add_66 rfl (j := 0) rfl ?_
  refine r_get (v := .int (r_gi σ32 a0 4)) C (r_atT s34 g1) fa_X4_25 rfl dX4_add_67 ?_
  obtain ⟨g39, h⟩ := h
  refine r_iald C (r_atT s34 g38) ⟨rfl, fun _ => rfl⟩ g39 dX4_add_70 ?_
  refine r_dup2_11 C dX4_add_71 rfl rfl ?_
  obtain ⟨g40, h⟩ := h
  refine r_iald C (r_atT s34 g36) ⟨rfl, fun _ => rfl⟩ g40 dX4_add_72 ?_
  refine r_iconst (v := 1) C dX4_add_73 (by decide) ?_
  refine r_iadd C dX4_add_74 ?_
  refine r_iast C (r_atT s34 g36) ⟨rfl, fun _ => rfl⟩ g40 dX4_add_75 ?_
  refine r_nam (fun σ41 e42 => ?_)
  have h := h σ41 e42
  have s43 : σ41.1 = σ.1 := by rw [e42]; exact s34
  refine r_aload_n C dX4_add_76 rfl (j := 0) rfl ?_
  refine r_get (v := .int (r_gi σ41 a0 4)) C (r_atT s43 g1) fa_X4_25 rfl dX4_add_77 ?_
  exact r_iretQ C E rfl (Nat.zero_le _) (Nat.zero_le _) dX4_add_80 (s43.trans hs) h
theorem w_X4_numberOf_0 {X : r_X} {w : r_V} {B : Nat} {l : Launch} {Q : Int32 → r_S → Prop} {σ0 : r_S} (C : r_C X w B 2 cX4_numberOf RX4) (E : r_E X l tX4_numberOf) {σ : r_S} (hs : σ.1 = σ0.1) {a0 : Nat} {x1 : Int32}
    (h : r_at σ a0 = some (.inl 4) ∧ (∃ n2, r_at σ (r_gr σ a0 2) = some (.inr (0, n2)) ∧ (vp_in x1 n2 ∧ (Q (r_gi σ (r_gr σ a0 2) x1.toNatClampNeg) σ)))) :
    r_W X w B 2 0 0 (r_Z X w B tX4_numberOf (r_QI σ0 Q)) 0 [(0, Value.ref (B + a0)), (1, Value.int x1)] [] σ := by
  refine r_aload_n C dX4_numberOf_0 rfl (j := 0) rfl ?_
  obtain ⟨g1, h⟩ := h
  obtain ⟨n2, g3, h⟩ := h
  refine r_getR C (r_atT rfl g1) fa_X4_18 rfl (r_atN g3) dX4_numberOf_1 ?_
  refine r_iload_n C dX4_numberOf_4 rfl (j := 1) rfl ?_
  obtain ⟨g4, h⟩ := h
  refine r_iald C (r_atT rfl g3) ⟨rfl, fun _ => rfl⟩ g4 dX4_numberOf_5 ?_
  exact r_iretQ C E rfl (Nat.zero_le _) (Nat.zero_le _) dX4_numberOf_6 ((rfl : σ.1 = σ.1).trans hs) h
theorem w_X4_receiverOf_0 {X : r_X} {w : r_V} {B : Nat} {l : Launch} {Q : Int32 → r_S → Prop} {σ0 : r_S} (C : r_C X w B 2 cX4_receiverOf RX4) (E : r_E X l tX4_receiverOf) {σ : r_S} (hs : σ.1 = σ0.1) {a0 a1 : Nat}
    (h : r_at σ a0 = some (.inl 4) ∧ (∃ n2, r_at σ (r_gr σ a0 0) = some (.inr (0, n2)) ∧ (r_at σ a1 = some (.inl 5) ∧ (∃ Q4 : Int32 → r_S → Prop, r_M l w B tX5_get [Value.ref (B + a1), Value.int 0] σ (r_QI σ Q4) ∧ (∀ (z8 : Int32) (σ6 : r_S), Q4 z8 σ6 → (vp_in z8 n2 ∧ (Q ((r_gi σ6 (r_gr σ a0 0) z8.toNatClampNeg) - (r_gi σ6 (r_gr σ a0 0) z8.toNatClampNeg) / 6 * 6) σ6))))))) :
    r_W X w B 2 0 0 (r_Z X w B tX4_receiverOf (r_QI σ0 Q)) 0 [(0, Value.ref (B + a0)), (1, Value.ref (B + a1))] [] σ := by
  refine r_aload_n C dX4_receiverOf_0 rfl (j := 0) rfl ?_
  obtain ⟨g1, h⟩ := h
  obtain ⟨n2, g3, h⟩ := h
  refine r_getR C (r_atT rfl g1) fa_X4_9 rfl (r_atN g3) dX4_receiverOf_1 ?_
  refine r_aload_n C dX4_receiverOf_4 rfl (j := 1) rfl ?_
  refine r_iconst (v := 0) C dX4_receiverOf_5 (by decide) ?_
  obtain ⟨g10, h⟩ := h
  obtain ⟨Q4, m5, h⟩ := h
  refine r_callVI (rest := [Value.ref (B + (r_gr σ a0 0))]) C E [Value.int 0] (r_atT rfl g10) rfl ky_X5_get kl_X4_39 ki_X5_get kx_X5_get ⟨Nat.le_of_ble_eq_true rfl, Nat.le_of_ble_eq_true rfl⟩ ⟨rfl, rfl⟩ m5 rfl rfl (Nat.le_of_ble_eq_true rfl) (Nat.zero_le _) (Nat.zero_le _) dX4_receiverOf_6 (fun z8 σ6 s7 q9 => ?_)
  have h := h z8 σ6 q9
  have s7 := s7.trans rfl
  obtain ⟨g11, h⟩ := h
  refine r_iald C (r_atT s7 g3) ⟨rfl, fun _ => rfl⟩ g11 dX4_receiverOf_9 ?_
  refine r_bipush (v := 6) C dX4_receiverOf_10 (by decide) ?_
  refine r_irem C dX4_receiverOf_12 (by decide) ?_
  exact r_iretQ C E rfl (Nat.zero_le _) (Nat.zero_le _) dX4_receiverOf_13 (s7.trans hs) h
theorem w_X4_dataSlotsOf_0 {X : r_X} {w : r_V} {B : Nat} {l : Launch} {Q : Int32 → r_S → Prop} {σ0 : r_S} (C : r_C X w B 4 cX4_dataSlotsOf RX4) (E : r_E X l tX4_dataSlotsOf) {σ : r_S} (hs : σ.1 = σ0.1) {a0 a1 : Nat}
    (h : r_W X w B 4 0 0 (r_Z X w B tX4_dataSlotsOf (r_QI σ0 Q)) 4 [(0, Value.ref (B + a0)), (1, Value.ref (B + a1)), (2, Value.int 1), (3, Value.int 0)] [] σ) :
    r_W X w B 4 0 0 (r_Z X w B tX4_dataSlotsOf (r_QI σ0 Q)) 0 [(0, Value.ref (B + a0)), (1, Value.ref (B + a1))] [] σ := by
  refine r_iconst (v := 1) C dX4_dataSlotsOf_0 (by decide) ?_
  refine r_istore_n (lv' := [(2, Value.int 1), (0, Value.ref (B + a0)), (1, Value.ref (B + a1))]) C dX4_dataSlotsOf_1 rfl (by decide) rfl ?_
  refine r_iconst (v := 0) C dX4_dataSlotsOf_2 (by decide) ?_
  refine r_istore_n (lv' := [(3, Value.int 0), (2, Value.int 1), (0, Value.ref (B + a0)), (1, Value.ref (B + a1))]) C dX4_dataSlotsOf_3 rfl (by decide) rfl ?_
  exact r_loc (by simp) h
theorem w_X4_dataSlotsOf_4 {X : r_X} {w : r_V} {B : Nat} {l : Launch} {Q : Int32 → r_S → Prop} {σ0 : r_S} (C : r_C X w B 4 cX4_dataSlotsOf RX4) (E : r_E X l tX4_dataSlotsOf) {σ : r_S} (hs : σ.1 = σ0.1) {a0 a1 : Nat} {x2 x3 : Int32}
    (h : r_at σ a1 = some (.inl 5) ∧ (((r_gi σ a1 1) ≤ x3 → (Q x2 σ)) ∧ (¬ (r_gi σ a1 1) ≤ x3 → (r_at σ a0 = some (.inl 4) ∧ (∃ n4, r_at σ (r_gr σ a0 1) = some (.inr (0, n4)) ∧ (∃ Q6 : Int32 → r_S → Prop, r_M l w B tX5_get [Value.ref (B + a1), Value.int x3] σ (r_QI σ Q6) ∧ (∀ (z10 : Int32) (σ8 : r_S), Q6 z10 σ8 → (vp_in z10 n4 ∧ (∀ z13 : Int32, z13 = x2 + (r_gi σ8 (r_gr σ a0 1) z10.toNatClampNeg) → (∀ z15 : Int32, z15 = x3 + 1 → (r_W X w B 4 0 0 (r_Z X w B tX4_dataSlotsOf (r_QI σ0 Q)) 4 [(0, Value.ref (B + a0)), (1, Value.ref (B + a1)), (2, Value.int z13), (3, Value.int z15)] [] σ8))))))))))) :
    r_W X w B 4 0 0 (r_Z X w B tX4_dataSlotsOf (r_QI σ0 Q)) 4 [(0, Value.ref (B + a0)), (1, Value.ref (B + a1)), (2, Value.int x2), (3, Value.int x3)] [] σ := by
  refine r_iload_n C dX4_dataSlotsOf_4 rfl (j := 3) rfl ?_
  refine r_aload_n C dX4_dataSlotsOf_5 rfl (j := 1) rfl ?_
  obtain ⟨g1, h⟩ := h
  refine r_get (v := .int (r_gi σ a1 1)) C (r_atT rfl g1) fa_X4_45 rfl dX4_dataSlotsOf_6 ?_
  refine r_icmp_ge (tgt := 31) C dX4_dataSlotsOf_9 (by decide) (fun c2 => ?_) (fun c2 => ?_)
  · have h := h.1 c2
    refine r_iload_n C dX4_dataSlotsOf_31 rfl (j := 2) rfl ?_
    exact r_iretQ C E rfl (Nat.zero_le _) (Nat.zero_le _) dX4_dataSlotsOf_32 ((rfl : σ.1 = σ.1).trans hs) h
  · have h := h.2 c2
    refine r_iload_n C dX4_dataSlotsOf_12 rfl (j := 2) rfl ?_
    refine r_aload_n C dX4_dataSlotsOf_13 rfl (j := 0) rfl ?_
    obtain ⟨g3, h⟩ := h
    obtain ⟨n4, g5, h⟩ := h
    refine r_getR C (r_atT rfl g3) fa_X4_15 rfl (r_atN g5) dX4_dataSlotsOf_14 ?_
    refine r_aload_n C dX4_dataSlotsOf_17 rfl (j := 1) rfl ?_
    refine r_iload_n C dX4_dataSlotsOf_18 rfl (j := 3) rfl ?_
    obtain ⟨Q6, m7, h⟩ := h
    refine r_callVI (rest := [Value.ref (B + (r_gr σ a0 1)), Value.int x2]) C E [Value.int x3] (r_atT rfl g1) rfl ky_X5_get kl_X4_39 ki_X5_get kx_X5_get ⟨Nat.le_of_ble_eq_true rfl, Nat.le_of_ble_eq_true rfl⟩ ⟨rfl, rfl⟩ m7 rfl rfl (Nat.le_of_ble_eq_true rfl) (Nat.zero_le _) (Nat.zero_le _) dX4_dataSlotsOf_19 (fun z10 σ8 s9 q11 => ?_)
    have h := h z10 σ8 q11
    have s9 := s9.trans rfl
    obtain ⟨g12, h⟩ := h
    refine r_iald C (r_atT s9 g5) ⟨rfl, fun _ => rfl⟩ g12 dX4_dataSlotsOf_22 ?_
    refine r_iadd C dX4_dataSlotsOf_23 ?_
    refine r_topi (fun z13 e14 => ?_)
    have h := h z13 e14
    refine r_istore_n (lv' := [(2, Value.int z13), (0, Value.ref (B + a0)), (1, Value.ref (B + a1)), (3, Value.int x3)]) C dX4_dataSlotsOf_24 rfl (by decide) rfl ?_
    obtain ⟨z15, e16⟩ : ∃ y : Int32, y = x3 + 1 := ⟨_, rfl⟩
    have h := h z15 e16
    refine r_iinc (v := z15) (lv' := [(3, Value.int z15), (2, Value.int z13), (0, Value.ref (B + a0)), (1, Value.ref (B + a1))]) C dX4_dataSlotsOf_25 (k := 3) rfl (by rw [e16]; rfl) (by decide) rfl ?_
    refine r_goto (tgt := 4) C dX4_dataSlotsOf_28 (by decide) ?_
    exact r_loc (by simp) h
theorem w_X4_copyFirstOfOneReceiver_0 {X : r_X} {w : r_V} {B : Nat} {l : Launch} {Q : r_S → Prop} {σ0 : r_S} (C : r_C X w B 4 cX4_copyFirstOfOneReceiver RX4) (E : r_E X l tX4_copyFirstOfOneReceiver) {σ : r_S} (hs : σ.1 = σ0.1) {a0 a1 a2 : Nat}
    (h : r_at σ a2 = some (.inl 5) ∧ (∀ σ2 : r_S, σ2 = r_ui σ a2 1 0 → (r_W X w B 4 0 0 (r_Z X w B tX4_copyFirstOfOneReceiver (r_QV σ0 Q)) 7 [(0, Value.ref (B + a0)), (1, Value.ref (B + a1)), (2, Value.ref (B + a2)), (3, Value.int 0)] [] σ2))) :
    r_W X w B 4 0 0 (r_Z X w B tX4_copyFirstOfOneReceiver (r_QV σ0 Q)) 0 [(0, Value.ref (B + a0)), (1, Value.ref (B + a1)), (2, Value.ref (B + a2))] [] σ := by
  refine r_aload_n C dX4_copyFirstOfOneReceiver_0 rfl (j := 2) rfl ?_
  refine r_iconst (v := 0) C dX4_copyFirstOfOneReceiver_1 (by decide) ?_
  obtain ⟨g1, h⟩ := h
  refine r_putI C (r_atT rfl g1) fa_X4_45 rfl rfl rfl dX4_copyFirstOfOneReceiver_2 ?_
  refine r_nam (fun σ2 e3 => ?_)
  have h := h σ2 e3
  have s4 : σ2.1 = σ.1 := by rw [e3]; exact rfl
  refine r_iconst (v := 0) C dX4_copyFirstOfOneReceiver_5 (by decide) ?_
  refine r_istore_n (lv' := [(3, Value.int 0), (0, Value.ref (B + a0)), (1, Value.ref (B + a1)), (2, Value.ref (B + a2))]) C dX4_copyFirstOfOneReceiver_6 rfl (by decide) rfl ?_
  exact r_loc (by simp) h
theorem w_X4_copyFirstOfOneReceiver_7 {X : r_X} {w : r_V} {B : Nat} {l : Launch} {Q : r_S → Prop} {σ0 : r_S} (C : r_C X w B 4 cX4_copyFirstOfOneReceiver RX4) (E : r_E X l tX4_copyFirstOfOneReceiver) {σ : r_S} (hs : σ.1 = σ0.1) {a0 a1 a2 : Nat} {x3 : Int32}
    (h : r_at σ a1 = some (.inl 5) ∧ (((r_gi σ a1 1) ≤ x3 → (Q σ)) ∧ (¬ (r_gi σ a1 1) ≤ x3 → (r_at σ a2 = some (.inl 5) ∧ (∃ Q3 : Int32 → r_S → Prop, r_M l w B tX5_isFull [Value.ref (B + a2)] σ (r_QI σ Q3) ∧ (∀ (z7 : Int32) (σ5 : r_S), Q3 z7 σ5 → ((z7 = 0 → (r_at σ a0 = some (.inl 4) ∧ (∃ n12, r_at σ (r_gr σ5 a0 0) = some (.inr (0, n12)) ∧ (∃ Q14 : Int32 → r_S → Prop, r_M l w B tX5_get [Value.ref (B + a1), Value.int x3] σ5 (r_QI σ5 Q14) ∧ (∀ (z18 : Int32) (σ16 : r_S), Q14 z18 σ16 → (vp_in z18 n12 ∧ (∃ n21, r_at σ (r_gr σ16 a0 0) = some (.inr (0, n21)) ∧ (∃ Q23 : Int32 → r_S → Prop, r_M l w B tX5_get [Value.ref (B + a1), Value.int 0] σ16 (r_QI σ16 Q23) ∧ (∀ (z27 : Int32) (σ25 : r_S), Q23 z27 σ25 → (vp_in z27 n21 ∧ (((r_gi σ16 (r_gr σ5 a0 0) z18.toNatClampNeg) = (r_gi σ25 (r_gr σ16 a0 0) z27.toNatClampNeg) → (∃ Q31 : Int32 → r_S → Prop, r_M l w B tX5_get [Value.ref (B + a1), Value.int x3] σ25 (r_QI σ25 Q31) ∧ (∀ (z35 : Int32) (σ33 : r_S), Q31 z35 σ33 → (∃ Q37 : r_S → Prop, r_M l w B tX5_add [Value.ref (B + a2), Value.int z35] σ33 (r_QV σ33 Q37) ∧ (∀ σ39 : r_S, Q37 σ39 → (∀ z43 : Int32, z43 = x3 + 1 → (r_W X w B 4 0 0 (r_Z X w B tX4_copyFirstOfOneReceiver (r_QV σ0 Q)) 7 [(0, Value.ref (B + a0)), (1, Value.ref (B + a1)), (2, Value.ref (B + a2)), (3, Value.int z43)] [] σ39))))))) ∧ (¬ (r_gi σ16 (r_gr σ5 a0 0) z18.toNatClampNeg) = (r_gi σ25 (r_gr σ16 a0 0) z27.toNatClampNeg) → (Q σ25))))))))))))) ∧ (¬ z7 = 0 → (Q σ5))))))))) :
    r_W X w B 4 0 0 (r_Z X w B tX4_copyFirstOfOneReceiver (r_QV σ0 Q)) 7 [(0, Value.ref (B + a0)), (1, Value.ref (B + a1)), (2, Value.ref (B + a2)), (3, Value.int x3)] [] σ := by
  refine r_iload_n C dX4_copyFirstOfOneReceiver_7 rfl (j := 3) rfl ?_
  refine r_aload_n C dX4_copyFirstOfOneReceiver_8 rfl (j := 1) rfl ?_
  obtain ⟨g1, h⟩ := h
  refine r_get (v := .int (r_gi σ a1 1)) C (r_atT rfl g1) fa_X4_45 rfl dX4_copyFirstOfOneReceiver_9 ?_
  refine r_icmp_ge (tgt := 60) C dX4_copyFirstOfOneReceiver_12 (by decide) (fun c2 => ?_) (fun c2 => ?_)
  · have h := h.1 c2
    exact r_vretQ C E rfl (Nat.zero_le _) (Nat.zero_le _) dX4_copyFirstOfOneReceiver_60 ((rfl : σ.1 = σ.1).trans hs) h
  · have h := h.2 c2
    refine r_aload_n C dX4_copyFirstOfOneReceiver_15 rfl (j := 2) rfl ?_
    obtain ⟨g9, h⟩ := h
    obtain ⟨Q3, m4, h⟩ := h
    refine r_callVI (rest := []) C E [] (r_atT rfl g9) rfl ky_X5_isFull kl_X4_46 ki_X5_isFull kx_X5_isFull ⟨Nat.le_of_ble_eq_true rfl, Nat.le_of_ble_eq_true rfl⟩ ⟨rfl, rfl⟩ m4 rfl rfl (Nat.le_of_ble_eq_true rfl) (Nat.zero_le _) (Nat.zero_le _) dX4_copyFirstOfOneReceiver_16 (fun z7 σ5 s6 q8 => ?_)
    have h := h z7 σ5 q8
    have s6 := s6.trans rfl
    refine r_if_ne (tgt := 60) C dX4_copyFirstOfOneReceiver_19 (by decide) (fun c10 => ?_) (fun c10 => ?_)
    · have h := h.2 c10
      exact r_vretQ C E rfl (Nat.zero_le _) (Nat.zero_le _) dX4_copyFirstOfOneReceiver_60 (s6.trans hs) h
    · have h := h.1 c10
      refine r_aload_n C dX4_copyFirstOfOneReceiver_22 rfl (j := 0) rfl ?_
      obtain ⟨g11, h⟩ := h
      obtain ⟨n12, g13, h⟩ := h
      refine r_getR C (r_atT s6 g11) fa_X4_9 rfl (r_atN g13) dX4_copyFirstOfOneReceiver_23 ?_
      refine r_aload_n C dX4_copyFirstOfOneReceiver_26 rfl (j := 1) rfl ?_
      refine r_iload_n C dX4_copyFirstOfOneReceiver_27 rfl (j := 3) rfl ?_
      obtain ⟨Q14, m15, h⟩ := h
      refine r_callVI (rest := [Value.ref (B + (r_gr σ5 a0 0))]) C E [Value.int x3] (r_atT s6 g1) rfl ky_X5_get kl_X4_39 ki_X5_get kx_X5_get ⟨Nat.le_of_ble_eq_true rfl, Nat.le_of_ble_eq_true rfl⟩ ⟨rfl, rfl⟩ m15 rfl rfl (Nat.le_of_ble_eq_true rfl) (Nat.zero_le _) (Nat.zero_le _) dX4_copyFirstOfOneReceiver_28 (fun z18 σ16 s17 q19 => ?_)
      have h := h z18 σ16 q19
      have s17 := s17.trans s6
      obtain ⟨g20, h⟩ := h
      refine r_iald C (r_atT s17 g13) ⟨rfl, fun _ => rfl⟩ g20 dX4_copyFirstOfOneReceiver_31 ?_
      refine r_aload_n C dX4_copyFirstOfOneReceiver_32 rfl (j := 0) rfl ?_
      obtain ⟨n21, g22, h⟩ := h
      refine r_getR C (r_atT s17 g11) fa_X4_9 rfl (r_atN g22) dX4_copyFirstOfOneReceiver_33 ?_
      refine r_aload_n C dX4_copyFirstOfOneReceiver_36 rfl (j := 1) rfl ?_
      refine r_iconst (v := 0) C dX4_copyFirstOfOneReceiver_37 (by decide) ?_
      obtain ⟨Q23, m24, h⟩ := h
      refine r_callVI (rest := [Value.ref (B + (r_gr σ16 a0 0)), Value.int (r_gi σ16 (r_gr σ5 a0 0) z18.toNatClampNeg)]) C E [Value.int 0] (r_atT s17 g1) rfl ky_X5_get kl_X4_39 ki_X5_get kx_X5_get ⟨Nat.le_of_ble_eq_true rfl, Nat.le_of_ble_eq_true rfl⟩ ⟨rfl, rfl⟩ m24 rfl rfl (Nat.le_of_ble_eq_true rfl) (Nat.zero_le _) (Nat.zero_le _) dX4_copyFirstOfOneReceiver_38 (fun z27 σ25 s26 q28 => ?_)
      have h := h z27 σ25 q28
      have s26 := s26.trans s17
      obtain ⟨g29, h⟩ := h
      refine r_iald C (r_atT s26 g22) ⟨rfl, fun _ => rfl⟩ g29 dX4_copyFirstOfOneReceiver_41 ?_
      refine r_icmp_ne (tgt := 60) C dX4_copyFirstOfOneReceiver_42 (by decide) (fun c30 => ?_) (fun c30 => ?_)
      · have h := h.2 c30
        exact r_vretQ C E rfl (Nat.zero_le _) (Nat.zero_le _) dX4_copyFirstOfOneReceiver_60 (s26.trans hs) h
      · have h := h.1 c30
        refine r_aload_n C dX4_copyFirstOfOneReceiver_45 rfl (j := 2) rfl ?_
        refine r_aload_n C dX4_copyFirstOfOneReceiver_46 rfl (j := 1) rfl ?_
        refine r_iload_n C dX4_copyFirstOfOneReceiver_47 rfl (j := 3) rfl ?_
        obtain ⟨Q31, m32, h⟩ := h
        refine r_callVI (rest := [Value.ref (B + a2)]) C E [Value.int x3] (r_atT s26 g1) rfl ky_X5_get kl_X4_39 ki_X5_get kx_X5_get ⟨Nat.le_of_ble_eq_true rfl, Nat.le_of_ble_eq_true rfl⟩ ⟨rfl, rfl⟩ m32 rfl rfl (Nat.le_of_ble_eq_true rfl) (Nat.zero_le _) (Nat.zero_le _) dX4_copyFirstOfOneReceiver_48 (fun z35 σ33 s34 q36 => ?_)
        have h := h z35 σ33 q36
        have s34 := s34.trans s26
        obtain ⟨Q37, m38, h⟩ := h
        refine r_callVV (rest := []) C E [Value.int z35] (r_atT s34 g9) rfl ky_X5_add kl_X4_50 ki_X5_add kx_X5_add ⟨Nat.le_of_ble_eq_true rfl, Nat.le_of_ble_eq_true rfl⟩ ⟨rfl, rfl⟩ m38 rfl rfl (Nat.le_of_ble_eq_true rfl) (Nat.zero_le _) (Nat.zero_le _) dX4_copyFirstOfOneReceiver_51 (fun σ39 s40 q42 => ?_)
        have h := h σ39 q42
        have s40 := s40.trans s34
        obtain ⟨z43, e44⟩ : ∃ y : Int32, y = x3 + 1 := ⟨_, rfl⟩
        have h := h z43 e44
        refine r_iinc (v := z43) (lv' := [(3, Value.int z43), (0, Value.ref (B + a0)), (1, Value.ref (B + a1)), (2, Value.ref (B + a2))]) C dX4_copyFirstOfOneReceiver_54 (k := 3) rfl (by rw [e44]; rfl) (by decide) rfl ?_
        refine r_goto (tgt := 7) C dX4_copyFirstOfOneReceiver_57 (by decide) ?_
        exact r_loc (by simp) h
theorem w_X4_copyGood_0 {X : r_X} {w : r_V} {B : Nat} {l : Launch} {Q : r_S → Prop} {σ0 : r_S} (C : r_C X w B 7 cX4_copyGood RX4) (E : r_E X l tX4_copyGood) {σ : r_S} (hs : σ.1 = σ0.1) {a0 a1 a3 : Nat} {x2 : Int32}
    (h : r_at σ a3 = some (.inl 5) ∧ (∀ σ2 : r_S, σ2 = r_ui σ a3 1 0 → (r_W X w B 7 0 0 (r_Z X w B tX4_copyGood (r_QV σ0 Q)) 11 [(0, Value.ref (B + a0)), (1, Value.ref (B + a1)), (2, Value.int x2), (3, Value.ref (B + a3)), (4, Value.int 1), (5, Value.int 0)] [] σ2))) :
    r_W X w B 7 0 0 (r_Z X w B tX4_copyGood (r_QV σ0 Q)) 0 [(0, Value.ref (B + a0)), (1, Value.ref (B + a1)), (2, Value.int x2), (3, Value.ref (B + a3))] [] σ := by
  refine r_aload_n C dX4_copyGood_0 rfl (j := 3) rfl ?_
  refine r_iconst (v := 0) C dX4_copyGood_1 (by decide) ?_
  obtain ⟨g1, h⟩ := h
  refine r_putI C (r_atT rfl g1) fa_X4_45 rfl rfl rfl dX4_copyGood_2 ?_
  refine r_nam (fun σ2 e3 => ?_)
  have h := h σ2 e3
  have s4 : σ2.1 = σ.1 := by rw [e3]; exact rfl
  refine r_iconst (v := 1) C dX4_copyGood_5 (by decide) ?_
  refine r_istore (lv' := [(4, Value.int 1), (0, Value.ref (B + a0)), (1, Value.ref (B + a1)), (2, Value.int x2), (3, Value.ref (B + a3))]) C dX4_copyGood_6 (by decide) rfl ?_
  refine r_iconst (v := 0) C dX4_copyGood_8 (by decide) ?_
  refine r_istore (lv' := [(5, Value.int 0), (4, Value.int 1), (0, Value.ref (B + a0)), (1, Value.ref (B + a1)), (2, Value.int x2), (3, Value.ref (B + a3))]) C dX4_copyGood_9 (by decide) rfl ?_
  exact r_loc (by simp) h
theorem w_X4_copyGood_11 {X : r_X} {w : r_V} {B : Nat} {l : Launch} {Q : r_S → Prop} {σ0 : r_S} (C : r_C X w B 7 cX4_copyGood RX4) (E : r_E X l tX4_copyGood) {σ : r_S} (hs : σ.1 = σ0.1) {a0 a1 a3 : Nat} {x2 x4 x5 : Int32}
    (h : r_at σ a1 = some (.inl 2) ∧ (r_at σ (r_gr σ a1 4) = some (.inl 5) ∧ (((r_gi σ (r_gr σ a1 4) 1) ≤ x5 → (Q σ)) ∧ (¬ (r_gi σ (r_gr σ a1 4) 1) ≤ x5 → (∃ Q4 : Int32 → r_S → Prop, r_M l w B tX5_get [Value.ref (B + (r_gr σ a1 4)), Value.int x5] σ (r_QI σ Q4) ∧ (∀ (z8 : Int32) (σ6 : r_S), Q4 z8 σ6 → (r_at σ a0 = some (.inl 4) ∧ (∃ n11, r_at σ (r_gr σ6 a0 1) = some (.inr (0, n11)) ∧ (vp_in z8 n11 ∧ (∃ Q14 : Int32 → r_S → Prop, r_M l w B tX2_areGood [Value.ref (B + a1), Value.int x2, Value.int x4, Value.int (r_gi σ6 (r_gr σ6 a0 1) z8.toNatClampNeg)] σ6 (r_QI σ6 Q14) ∧ (∀ (z18 : Int32) (σ16 : r_S), Q14 z18 σ16 → ((z18 = 0 → (r_W X w B 7 0 0 (r_Z X w B tX4_copyGood (r_QV σ0 Q)) 57 [(0, Value.ref (B + a0)), (1, Value.ref (B + a1)), (2, Value.int x2), (3, Value.ref (B + a3)), (4, Value.int x4), (5, Value.int x5), (6, Value.int z8)] [] σ16)) ∧ (¬ z18 = 0 → (r_at σ a3 = some (.inl 5) ∧ (∃ Q21 : r_S → Prop, r_M l w B tX5_add [Value.ref (B + a3), Value.int z8] σ16 (r_QV σ16 Q21) ∧ (∀ σ23 : r_S, Q21 σ23 → (r_W X w B 7 0 0 (r_Z X w B tX4_copyGood (r_QV σ0 Q)) 57 [(0, Value.ref (B + a0)), (1, Value.ref (B + a1)), (2, Value.int x2), (3, Value.ref (B + a3)), (4, Value.int x4), (5, Value.int x5), (6, Value.int z8)] [] σ23))))))))))))))))) :
    r_W X w B 7 0 0 (r_Z X w B tX4_copyGood (r_QV σ0 Q)) 11 [(0, Value.ref (B + a0)), (1, Value.ref (B + a1)), (2, Value.int x2), (3, Value.ref (B + a3)), (4, Value.int x4), (5, Value.int x5)] [] σ := by
  refine r_iload C dX4_copyGood_11 (j := 5) rfl ?_
  refine r_aload_n C dX4_copyGood_13 rfl (j := 1) rfl ?_
  obtain ⟨g1, h⟩ := h
  obtain ⟨g2, h⟩ := h
  refine r_getR C (r_atT rfl g1) fa_X4_54 rfl (r_atN g2) dX4_copyGood_14 ?_
  refine r_get (v := .int (r_gi σ (r_gr σ a1 4) 1)) C (r_atT rfl g2) fa_X4_45 rfl dX4_copyGood_17 ?_
  refine r_icmp_ge (tgt := 75) C dX4_copyGood_20 (by decide) (fun c3 => ?_) (fun c3 => ?_)
  · have h := h.1 c3
    exact r_vretQ C E rfl (Nat.zero_le _) (Nat.zero_le _) dX4_copyGood_75 ((rfl : σ.1 = σ.1).trans hs) h
  · have h := h.2 c3
    refine r_aload_n C dX4_copyGood_23 rfl (j := 1) rfl ?_
    refine r_getR C (r_atT rfl g1) fa_X4_54 rfl (r_atN g2) dX4_copyGood_24 ?_
    refine r_iload C dX4_copyGood_27 (j := 5) rfl ?_
    obtain ⟨Q4, m5, h⟩ := h
    refine r_callVI (rest := []) C E [Value.int x5] (r_atT rfl g2) rfl ky_X5_get kl_X4_39 ki_X5_get kx_X5_get ⟨Nat.le_of_ble_eq_true rfl, Nat.le_of_ble_eq_true rfl⟩ ⟨rfl, rfl⟩ m5 rfl rfl (Nat.le_of_ble_eq_true rfl) (Nat.zero_le _) (Nat.zero_le _) dX4_copyGood_29 (fun z8 σ6 s7 q9 => ?_)
    have h := h z8 σ6 q9
    have s7 := s7.trans rfl
    refine r_istore (lv' := [(6, Value.int z8), (0, Value.ref (B + a0)), (1, Value.ref (B + a1)), (2, Value.int x2), (3, Value.ref (B + a3)), (4, Value.int x4), (5, Value.int x5)]) C dX4_copyGood_32 (by decide) rfl ?_
    refine r_aload_n C dX4_copyGood_34 rfl (j := 2) rfl ?_
    refine r_iload_n C dX4_copyGood_35 rfl (j := 3) rfl ?_
    refine r_iload C dX4_copyGood_36 (j := 5) rfl ?_
    refine r_aload_n C dX4_copyGood_38 rfl (j := 1) rfl ?_
    obtain ⟨g10, h⟩ := h
    obtain ⟨n11, g12, h⟩ := h
    refine r_getR C (r_atT s7 g10) fa_X4_15 rfl (r_atN g12) dX4_copyGood_39 ?_
    refine r_iload C dX4_copyGood_42 (j := 0) rfl ?_
    obtain ⟨g13, h⟩ := h
    refine r_iald C (r_atT s7 g12) ⟨rfl, fun _ => rfl⟩ g13 dX4_copyGood_44 ?_
    obtain ⟨Q14, m15, h⟩ := h
    refine r_callVI (rest := []) C E [Value.int x2, Value.int x4, Value.int (r_gi σ6 (r_gr σ6 a0 1) z8.toNatClampNeg)] (r_atT s7 g1) rfl ky_X2_areGood kl_X4_60 ki_X2_areGood kx_X2_areGood ⟨Nat.le_of_ble_eq_true rfl, Nat.le_of_ble_eq_true rfl⟩ ⟨rfl, rfl⟩ m15 rfl rfl (Nat.le_of_ble_eq_true rfl) (Nat.zero_le _) (Nat.zero_le _) dX4_copyGood_45 (fun z18 σ16 s17 q19 => ?_)
    have h := h z18 σ16 q19
    have s17 := s17.trans s7
    refine r_if_eq (tgt := 57) C dX4_copyGood_48 (by decide) (fun c20 => ?_) (fun c20 => ?_)
    · have h := h.1 c20
      exact r_loc (by simp) h
    · have h := h.2 c20
      refine r_aload_n C dX4_copyGood_51 rfl (j := 4) rfl ?_
      refine r_iload C dX4_copyGood_52 (j := 0) rfl ?_
      obtain ⟨g27, h⟩ := h
      obtain ⟨Q21, m22, h⟩ := h
      refine r_callVV (rest := []) C E [Value.int z8] (r_atT s17 g27) rfl ky_X5_add kl_X4_50 ki_X5_add kx_X5_add ⟨Nat.le_of_ble_eq_true rfl, Nat.le_of_ble_eq_true rfl⟩ ⟨rfl, rfl⟩ m22 rfl rfl (Nat.le_of_ble_eq_true rfl) (Nat.zero_le _) (Nat.zero_le _) dX4_copyGood_54 (fun σ23 s24 q26 => ?_)
      have h := h σ23 q26
      have s24 := s24.trans s17
      exact r_loc (by simp) h
theorem w_X4_copyGood_57 {X : r_X} {w : r_V} {B : Nat} {l : Launch} {Q : r_S → Prop} {σ0 : r_S} (C : r_C X w B 7 cX4_copyGood RX4) (E : r_E X l tX4_copyGood) {σ : r_S} (hs : σ.1 = σ0.1) {a0 a1 a3 : Nat} {x2 x4 x5 x6 : Int32}
    (h : r_at σ a0 = some (.inl 4) ∧ (∃ n2, r_at σ (r_gr σ a0 1) = some (.inr (0, n2)) ∧ (vp_in x6 n2 ∧ (∀ z5 : Int32, z5 = x4 + (r_gi σ (r_gr σ a0 1) x6.toNatClampNeg) → (∀ z7 : Int32, z7 = x5 + 1 → (r_W X w B 7 0 0 (r_Z X w B tX4_copyGood (r_QV σ0 Q)) 11 [(0, Value.ref (B + a0)), (1, Value.ref (B + a1)), (2, Value.int x2), (3, Value.ref (B + a3)), (4, Value.int z5), (5, Value.int z7)] [] σ)))))) :
    r_W X w B 7 0 0 (r_Z X w B tX4_copyGood (r_QV σ0 Q)) 57 [(0, Value.ref (B + a0)), (1, Value.ref (B + a1)), (2, Value.int x2), (3, Value.ref (B + a3)), (4, Value.int x4), (5, Value.int x5), (6, Value.int x6)] [] σ := by
  refine r_iload C dX4_copyGood_57 (j := 4) rfl ?_
  refine r_aload_n C dX4_copyGood_59 rfl (j := 0) rfl ?_
  obtain ⟨g1, h⟩ := h
  obtain ⟨n2, g3, h⟩ := h
  refine r_getR C (r_atT rfl g1) fa_X4_15 rfl (r_atN g3) dX4_copyGood_60 ?_
  refine r_iload C dX4_copyGood_63 (j := 6) rfl ?_
  obtain ⟨g4, h⟩ := h
  refine r_iald C (r_atT rfl g3) ⟨rfl, fun _ => rfl⟩ g4 dX4_copyGood_65 ?_
  refine r_iadd C dX4_copyGood_66 ?_
  refine r_topi (fun z5 e6 => ?_)
  have h := h z5 e6
  refine r_istore (lv' := [(4, Value.int z5), (0, Value.ref (B + a0)), (1, Value.ref (B + a1)), (2, Value.int x2), (3, Value.ref (B + a3)), (5, Value.int x5), (6, Value.int x6)]) C dX4_copyGood_67 (by decide) rfl ?_
  obtain ⟨z7, e8⟩ : ∃ y : Int32, y = x5 + 1 := ⟨_, rfl⟩
  have h := h z7 e8
  refine r_iinc (v := z7) (lv' := [(5, Value.int z7), (4, Value.int z5), (0, Value.ref (B + a0)), (1, Value.ref (B + a1)), (2, Value.int x2), (3, Value.ref (B + a3)), (6, Value.int x6)]) C dX4_copyGood_69 (k := 5) rfl (by rw [e8]; rfl) (by decide) rfl ?_
  refine r_goto (tgt := 11) C dX4_copyGood_72 (by decide) ?_
  exact r_loc (by simp) h
theorem w_X4_wantAtLeast_0 {X : r_X} {w : r_V} {B : Nat} {l : Launch} {Q : r_S → Prop} {σ0 : r_S} (C : r_C X w B 3 cX4_wantAtLeast RX4) (E : r_E X l tX4_wantAtLeast) {σ : r_S} (hs : σ.1 = σ0.1) {a0 : Nat} {x1 x2 : Int32}
    (h : r_at σ a0 = some (.inl 4) ∧ (∃ n2, r_at σ (r_gr σ a0 6) = some (.inr (0, n2)) ∧ (vp_in x1 n2 ∧ (∃ Q5 : Int32 → r_S → Prop, r_M l w B tJ9_max_7cf53 [Value.int (r_gi σ (r_gr σ a0 6) x1.toNatClampNeg), Value.int x2] σ (r_QI σ Q5) ∧ (∀ (z9 : Int32) (σ7 : r_S), Q5 z9 σ7 → (∀ σ11 : r_S, σ11 = r_ui σ7 (r_gr σ a0 6) (x1.toNatClampNeg) z9 → (Q σ11))))))) :
    r_W X w B 3 0 0 (r_Z X w B tX4_wantAtLeast (r_QV σ0 Q)) 0 [(0, Value.ref (B + a0)), (1, Value.int x1), (2, Value.int x2)] [] σ := by
  refine r_aload_n C dX4_wantAtLeast_0 rfl (j := 0) rfl ?_
  obtain ⟨g1, h⟩ := h
  obtain ⟨n2, g3, h⟩ := h
  refine r_getR C (r_atT rfl g1) fa_X4_32 rfl (r_atN g3) dX4_wantAtLeast_1 ?_
  refine r_iload_n C dX4_wantAtLeast_4 rfl (j := 1) rfl ?_
  refine r_aload_n C dX4_wantAtLeast_5 rfl (j := 0) rfl ?_
  refine r_getR C (r_atT rfl g1) fa_X4_32 rfl (r_atN g3) dX4_wantAtLeast_6 ?_
  refine r_iload_n C dX4_wantAtLeast_9 rfl (j := 1) rfl ?_
  obtain ⟨g4, h⟩ := h
  refine r_iald C (r_atT rfl g3) ⟨rfl, fun _ => rfl⟩ g4 dX4_wantAtLeast_10 ?_
  refine r_iload_n C dX4_wantAtLeast_11 rfl (j := 2) rfl ?_
  obtain ⟨Q5, m6, h⟩ := h
  refine r_callSI (rest := [Value.int x1, Value.ref (B + (r_gr σ a0 6))]) C E [Value.int (r_gi σ (r_gr σ a0 6) x1.toNatClampNeg), Value.int x2] ky_J9_max_7cf53 kl_X4_64 ks_J9_max_7cf53 ⟨Nat.le_of_ble_eq_true rfl, Nat.le_of_ble_eq_true rfl⟩ ⟨rfl, rfl⟩ m6 rfl rfl (Nat.le_of_ble_eq_true rfl) (Nat.zero_le _) (Nat.zero_le _) dX4_wantAtLeast_12 (fun z9 σ7 s8 q10 => ?_)
  have h := h z9 σ7 q10
  have s8 := s8.trans rfl
  refine r_iast C (r_atT s8 g3) ⟨rfl, fun _ => rfl⟩ g4 dX4_wantAtLeast_15 ?_
  refine r_nam (fun σ11 e12 => ?_)
  have h := h σ11 e12
  have s13 : σ11.1 = σ.1 := by rw [e12]; exact s8
  exact r_vretQ C E rfl (Nat.zero_le _) (Nat.zero_le _) dX4_wantAtLeast_16 (s13.trans hs) h
theorem w_X4_hold_0 {X : r_X} {w : r_V} {B : Nat} {l : Launch} {Q : r_S → Prop} {σ0 : r_S} (C : r_C X w B 3 cX4_hold RX4) (E : r_E X l tX4_hold) {σ : r_S} (hs : σ.1 = σ0.1) {a0 : Nat} {x1 x2 : Int32}
    (h : r_at σ a0 = some (.inl 4) ∧ (∃ n2, r_at σ (r_gr σ a0 2) = some (.inr (0, n2)) ∧ (vp_in x2 n2 ∧ (∃ n5, r_at σ (r_gr σ a0 6) = some (.inr (0, n5)) ∧ (vp_in x1 n5 ∧ (((r_gi σ (r_gr σ a0 2) x2.toNatClampNeg) < (r_gi σ (r_gr σ a0 6) x1.toNatClampNeg) → (Q σ)) ∧ (¬ (r_gi σ (r_gr σ a0 2) x2.toNatClampNeg) < (r_gi σ (r_gr σ a0 6) x1.toNatClampNeg) → (∃ n9, r_at σ (r_gr σ a0 3) = some (.inr (2, n9)) ∧ (vp_in x2 n9 ∧ (∀ σ12 : r_S, σ12 = r_ui σ (r_gr σ a0 3) (x2.toNatClampNeg) 1 → (Q σ12))))))))))) :
    r_W X w B 3 0 0 (r_Z X w B tX4_hold (r_QV σ0 Q)) 0 [(0, Value.ref (B + a0)), (1, Value.int x1), (2, Value.int x2)] [] σ := by
  refine r_aload_n C dX4_hold_0 rfl (j := 0) rfl ?_
  obtain ⟨g1, h⟩ := h
  obtain ⟨n2, g3, h⟩ := h
  refine r_getR C (r_atT rfl g1) fa_X4_18 rfl (r_atN g3) dX4_hold_1 ?_
  refine r_iload_n C dX4_hold_4 rfl (j := 2) rfl ?_
  obtain ⟨g4, h⟩ := h
  refine r_iald C (r_atT rfl g3) ⟨rfl, fun _ => rfl⟩ g4 dX4_hold_5 ?_
  refine r_aload_n C dX4_hold_6 rfl (j := 0) rfl ?_
  obtain ⟨n5, g6, h⟩ := h
  refine r_getR C (r_atT rfl g1) fa_X4_32 rfl (r_atN g6) dX4_hold_7 ?_
  refine r_iload_n C dX4_hold_10 rfl (j := 1) rfl ?_
  obtain ⟨g7, h⟩ := h
  refine r_iald C (r_atT rfl g6) ⟨rfl, fun _ => rfl⟩ g7 dX4_hold_11 ?_
  refine r_icmp_lt (tgt := 22) C dX4_hold_12 (by decide) (fun c8 => ?_) (fun c8 => ?_)
  · have h := h.1 c8
    exact r_vretQ C E rfl (Nat.zero_le _) (Nat.zero_le _) dX4_hold_22 ((rfl : σ.1 = σ.1).trans hs) h
  · have h := h.2 c8
    refine r_aload_n C dX4_hold_15 rfl (j := 0) rfl ?_
    obtain ⟨n9, g10, h⟩ := h
    refine r_getR C (r_atT rfl g1) fa_X4_21 rfl (r_atN g10) dX4_hold_16 ?_
    refine r_iload_n C dX4_hold_19 rfl (j := 2) rfl ?_
    refine r_iconst (v := 1) C dX4_hold_20 (by decide) ?_
    obtain ⟨g11, h⟩ := h
    refine r_zast C (r_atT rfl g10) ⟨rfl, fun _ => rfl⟩ g11 (by decide) dX4_hold_21 ?_
    refine r_nam (fun σ12 e13 => ?_)
    have h := h σ12 e13
    have s14 : σ12.1 = σ.1 := by rw [e13]; exact rfl
    exact r_vretQ C E rfl (Nat.zero_le _) (Nat.zero_le _) dX4_hold_22 (s14.trans hs) h
theorem w_X4_releases_0 {X : r_X} {w : r_V} {B : Nat} {l : Launch} {Q : Int32 → r_S → Prop} {σ0 : r_S} (C : r_C X w B 3 cX4_releases RX4) (E : r_E X l tX4_releases) {σ : r_S} (hs : σ.1 = σ0.1) {a0 : Nat} {x1 x2 : Int32}
    (h : r_at σ a0 = some (.inl 4) ∧ (∃ n2, r_at σ (r_gr σ a0 3) = some (.inr (2, n2)) ∧ (vp_in x2 n2 ∧ (((r_gi σ (r_gr σ a0 3) x2.toNatClampNeg) = 0 → (Q 0 σ)) ∧ (¬ (r_gi σ (r_gr σ a0 3) x2.toNatClampNeg) = 0 → (∃ n6, r_at σ (r_gr σ a0 0) = some (.inr (0, n6)) ∧ (vp_in x2 n6 ∧ (((r_gi σ (r_gr σ a0 0) x2.toNatClampNeg) = x1 → (∃ n10, r_at σ (r_gr σ a0 2) = some (.inr (0, n10)) ∧ (vp_in x2 n10 ∧ (∃ n13, r_at σ (r_gr σ a0 6) = some (.inr (0, n13)) ∧ (vp_in x1 n13 ∧ (((r_gi σ (r_gr σ a0 2) x2.toNatClampNeg) ≤ (r_gi σ (r_gr σ a0 6) x1.toNatClampNeg) → (∀ σ17 : r_S, σ17 = r_ui σ (r_gr σ a0 3) (x2.toNatClampNeg) 0 → (∃ n20, r_at σ (r_gr σ17 a0 2) = some (.inr (0, n20)) ∧ (vp_in x2 n20 ∧ (∃ n23, r_at σ (r_gr σ17 a0 6) = some (.inr (0, n23)) ∧ (vp_in x1 n23 ∧ (((r_gi σ17 (r_gr σ17 a0 2) x2.toNatClampNeg) = (r_gi σ17 (r_gr σ17 a0 6) x1.toNatClampNeg) → (∀ σ27 : r_S, σ27 = r_ui σ17 (r_gr σ17 a0 6) (x1.toNatClampNeg) ((r_gi σ17 (r_gr σ17 a0 6) x1.toNatClampNeg) + 1) → (Q 1 σ27))) ∧ (¬ (r_gi σ17 (r_gr σ17 a0 2) x2.toNatClampNeg) = (r_gi σ17 (r_gr σ17 a0 6) x1.toNatClampNeg) → (Q 1 σ17))))))))) ∧ (¬ (r_gi σ (r_gr σ a0 2) x2.toNatClampNeg) ≤ (r_gi σ (r_gr σ a0 6) x1.toNatClampNeg) → (Q 0 σ)))))))) ∧ (¬ (r_gi σ (r_gr σ a0 0) x2.toNatClampNeg) = x1 → (Q 0 σ)))))))))) :
    r_W X w B 3 0 0 (r_Z X w B tX4_releases (r_QI σ0 Q)) 0 [(0, Value.ref (B + a0)), (1, Value.int x1), (2, Value.int x2)] [] σ := by
  refine r_aload_n C dX4_releases_0 rfl (j := 0) rfl ?_
  obtain ⟨g1, h⟩ := h
  obtain ⟨n2, g3, h⟩ := h
  refine r_getR C (r_atT rfl g1) fa_X4_21 rfl (r_atN g3) dX4_releases_1 ?_
  refine r_iload_n C dX4_releases_4 rfl (j := 2) rfl ?_
  obtain ⟨g4, h⟩ := h
  refine r_zald C (r_atT rfl g3) ⟨rfl, fun _ => rfl⟩ g4 dX4_releases_5 ?_
  refine r_if_eq (tgt := 34) C dX4_releases_6 (by decide) (fun c5 => ?_) (fun c5 => ?_)
  · have h := h.1 c5
    refine r_iconst (v := 0) C dX4_releases_34 (by decide) ?_
    exact r_zretQ C E rfl (by decide) (Nat.zero_le _) (Nat.zero_le _) dX4_releases_35 ((rfl : σ.1 = σ.1).trans hs) h
  · have h := h.2 c5
    refine r_aload_n C dX4_releases_9 rfl (j := 0) rfl ?_
    obtain ⟨n6, g7, h⟩ := h
    refine r_getR C (r_atT rfl g1) fa_X4_9 rfl (r_atN g7) dX4_releases_10 ?_
    refine r_iload_n C dX4_releases_13 rfl (j := 2) rfl ?_
    obtain ⟨g8, h⟩ := h
    refine r_iald C (r_atT rfl g7) ⟨rfl, fun _ => rfl⟩ g8 dX4_releases_14 ?_
    refine r_iload_n C dX4_releases_15 rfl (j := 1) rfl ?_
    refine r_icmp_ne (tgt := 34) C dX4_releases_16 (by decide) (fun c9 => ?_) (fun c9 => ?_)
    · have h := h.2 c9
      refine r_iconst (v := 0) C dX4_releases_34 (by decide) ?_
      exact r_zretQ C E rfl (by decide) (Nat.zero_le _) (Nat.zero_le _) dX4_releases_35 ((rfl : σ.1 = σ.1).trans hs) h
    · have h := h.1 c9
      refine r_aload_n C dX4_releases_19 rfl (j := 0) rfl ?_
      obtain ⟨n10, g11, h⟩ := h
      refine r_getR C (r_atT rfl g1) fa_X4_18 rfl (r_atN g11) dX4_releases_20 ?_
      refine r_iload_n C dX4_releases_23 rfl (j := 2) rfl ?_
      obtain ⟨g12, h⟩ := h
      refine r_iald C (r_atT rfl g11) ⟨rfl, fun _ => rfl⟩ g12 dX4_releases_24 ?_
      refine r_aload_n C dX4_releases_25 rfl (j := 0) rfl ?_
      obtain ⟨n13, g14, h⟩ := h
      refine r_getR C (r_atT rfl g1) fa_X4_32 rfl (r_atN g14) dX4_releases_26 ?_
      refine r_iload_n C dX4_releases_29 rfl (j := 1) rfl ?_
      obtain ⟨g15, h⟩ := h
      refine r_iald C (r_atT rfl g14) ⟨rfl, fun _ => rfl⟩ g15 dX4_releases_30 ?_
      refine r_icmp_le (tgt := 36) C dX4_releases_31 (by decide) (fun c16 => ?_) (fun c16 => ?_)
      · have h := h.1 c16
        refine r_aload_n C dX4_releases_36 rfl (j := 0) rfl ?_
        refine r_getR C (r_atT rfl g1) fa_X4_21 rfl (r_atN g3) dX4_releases_37 ?_
        refine r_iload_n C dX4_releases_40 rfl (j := 2) rfl ?_
        refine r_iconst (v := 0) C dX4_releases_41 (by decide) ?_
        refine r_zast C (r_atT rfl g3) ⟨rfl, fun _ => rfl⟩ g4 (by decide) dX4_releases_42 ?_
        refine r_nam (fun σ17 e18 => ?_)
        have h := h σ17 e18
        have s19 : σ17.1 = σ.1 := by rw [e18]; exact rfl
        refine r_aload_n C dX4_releases_43 rfl (j := 0) rfl ?_
        obtain ⟨n20, g21, h⟩ := h
        refine r_getR C (r_atT s19 g1) fa_X4_18 rfl (r_atN g21) dX4_releases_44 ?_
        refine r_iload_n C dX4_releases_47 rfl (j := 2) rfl ?_
        obtain ⟨g22, h⟩ := h
        refine r_iald C (r_atT s19 g21) ⟨rfl, fun _ => rfl⟩ g22 dX4_releases_48 ?_
        refine r_aload_n C dX4_releases_49 rfl (j := 0) rfl ?_
        obtain ⟨n23, g24, h⟩ := h
        refine r_getR C (r_atT s19 g1) fa_X4_32 rfl (r_atN g24) dX4_releases_50 ?_
        refine r_iload_n C dX4_releases_53 rfl (j := 1) rfl ?_
        obtain ⟨g25, h⟩ := h
        refine r_iald C (r_atT s19 g24) ⟨rfl, fun _ => rfl⟩ g25 dX4_releases_54 ?_
        refine r_icmp_ne (tgt := 68) C dX4_releases_55 (by decide) (fun c26 => ?_) (fun c26 => ?_)
        · have h := h.2 c26
          refine r_iconst (v := 1) C dX4_releases_68 (by decide) ?_
          exact r_zretQ C E rfl (by decide) (Nat.zero_le _) (Nat.zero_le _) dX4_releases_69 (s19.trans hs) h
        · have h := h.1 c26
          refine r_aload_n C dX4_releases_58 rfl (j := 0) rfl ?_
          refine r_getR C (r_atT s19 g1) fa_X4_32 rfl (r_atN g24) dX4_releases_59 ?_
          refine r_iload_n C dX4_releases_62 rfl (j := 1) rfl ?_
          refine r_dup2_11 C dX4_releases_63 rfl rfl ?_
          refine r_iald C (r_atT s19 g24) ⟨rfl, fun _ => rfl⟩ g25 dX4_releases_64 ?_
          refine r_iconst (v := 1) C dX4_releases_65 (by decide) ?_
          refine r_iadd C dX4_releases_66 ?_
          refine r_iast C (r_atT s19 g24) ⟨rfl, fun _ => rfl⟩ g25 dX4_releases_67 ?_
          refine r_nam (fun σ27 e28 => ?_)
          have h := h σ27 e28
          have s29 : σ27.1 = σ.1 := by rw [e28]; exact s19
          refine r_iconst (v := 1) C dX4_releases_68 (by decide) ?_
          exact r_zretQ C E rfl (by decide) (Nat.zero_le _) (Nat.zero_le _) dX4_releases_69 (s29.trans hs) h
      · have h := h.2 c16
        refine r_iconst (v := 0) C dX4_releases_34 (by decide) ?_
        exact r_zretQ C E rfl (by decide) (Nat.zero_le _) (Nat.zero_le _) dX4_releases_35 ((rfl : σ.1 = σ.1).trans hs) h
