theorem w_X5_isFull_0 {X : r_X} {w : r_V} {B : Nat} {l : Launch} {Q : Int32 → r_S → Prop} {σ0 : r_S} (C : r_C X w B 1 cX5_isFull RX5) (E : r_E X l tX5_isFull) {σ : r_S} (hs : σ.1 = σ0.1) {a0 : Nat}
    (h : r_at σ a0 = some (.inl 5) ∧ (∃ n2, r_at σ (r_gr σ a0 0) = some (.inr (0, n2)) ∧ (((r_gi σ a0 1) < (nI n2) → (Q 0 σ)) ∧ (¬ (r_gi σ a0 1) < (nI n2) → (Q 1 σ))))) :
    r_W X w B 1 0 0 (r_Z X w B tX5_isFull (r_QI σ0 Q)) 0 [(0, Value.ref (B + a0))] [] σ := by
  refine r_aload_n C dX5_isFull_0 rfl (j := 0) rfl ?_
  obtain ⟨g1, h⟩ := h
  refine r_get (v := .int (r_gi σ a0 1)) C (r_atT rfl g1) fa_X5_7 rfl dX5_isFull_1 ?_
  refine r_aload_n C dX5_isFull_4 rfl (j := 0) rfl ?_
  obtain ⟨n2, g3, h⟩ := h
  refine r_getR C (r_atT rfl g1) fa_X5_13 rfl (r_atN g3) dX5_isFull_5 ?_
  refine r_alen (v := nI n2) C (r_atT rfl g3) ⟨rfl, fun _ => rfl⟩ rfl dX5_isFull_8 ?_
  refine r_icmp_lt (tgt := 16) C dX5_isFull_9 (by decide) (fun c4 => ?_) (fun c4 => ?_)
  · have h := h.1 c4
    refine r_iconst (v := 0) C dX5_isFull_16 (by decide) ?_
    exact r_zretQ C E rfl (by decide) (Nat.zero_le _) (Nat.zero_le _) dX5_isFull_17 ((rfl : σ.1 = σ.1).trans hs) h
  · have h := h.2 c4
    refine r_iconst (v := 1) C dX5_isFull_12 (by decide) ?_
    refine r_goto (tgt := 17) C dX5_isFull_13 (by decide) ?_
    exact r_zretQ C E rfl (by decide) (Nat.zero_le _) (Nat.zero_le _) dX5_isFull_17 ((rfl : σ.1 = σ.1).trans hs) h
theorem w_X5_get_0 {X : r_X} {w : r_V} {B : Nat} {l : Launch} {Q : Int32 → r_S → Prop} {σ0 : r_S} (C : r_C X w B 2 cX5_get RX5) (E : r_E X l tX5_get) {σ : r_S} (hs : σ.1 = σ0.1) {a0 : Nat} {x1 : Int32}
    (h : (x1 < 0 → (Q 0 σ)) ∧ (¬ x1 < 0 → (r_at σ a0 = some (.inl 5) ∧ (((r_gi σ a0 1) ≤ x1 → (Q 0 σ)) ∧ (¬ (r_gi σ a0 1) ≤ x1 → (∃ n4, r_at σ (r_gr σ a0 0) = some (.inr (0, n4)) ∧ (vp_in x1 n4 ∧ (Q (r_gi σ (r_gr σ a0 0) x1.toNatClampNeg) σ)))))))) :
    r_W X w B 2 0 0 (r_Z X w B tX5_get (r_QI σ0 Q)) 0 [(0, Value.ref (B + a0)), (1, Value.int x1)] [] σ := by
  refine r_iload_n C dX5_get_0 rfl (j := 1) rfl ?_
  refine r_if_lt (tgt := 21) C dX5_get_1 (by decide) (fun c1 => ?_) (fun c1 => ?_)
  · have h := h.1 c1
    refine r_iconst (v := 0) C dX5_get_21 (by decide) ?_
    exact r_iretQ C E rfl (Nat.zero_le _) (Nat.zero_le _) dX5_get_22 ((rfl : σ.1 = σ.1).trans hs) h
  · have h := h.2 c1
    refine r_iload_n C dX5_get_4 rfl (j := 1) rfl ?_
    refine r_aload_n C dX5_get_5 rfl (j := 0) rfl ?_
    obtain ⟨g2, h⟩ := h
    refine r_get (v := .int (r_gi σ a0 1)) C (r_atT rfl g2) fa_X5_7 rfl dX5_get_6 ?_
    refine r_icmp_ge (tgt := 21) C dX5_get_9 (by decide) (fun c3 => ?_) (fun c3 => ?_)
    · have h := h.1 c3
      refine r_iconst (v := 0) C dX5_get_21 (by decide) ?_
      exact r_iretQ C E rfl (Nat.zero_le _) (Nat.zero_le _) dX5_get_22 ((rfl : σ.1 = σ.1).trans hs) h
    · have h := h.2 c3
      refine r_aload_n C dX5_get_12 rfl (j := 0) rfl ?_
      obtain ⟨n4, g5, h⟩ := h
      refine r_getR C (r_atT rfl g2) fa_X5_13 rfl (r_atN g5) dX5_get_13 ?_
      refine r_iload_n C dX5_get_16 rfl (j := 1) rfl ?_
      obtain ⟨g6, h⟩ := h
      refine r_iald C (r_atT rfl g5) ⟨rfl, fun _ => rfl⟩ g6 dX5_get_17 ?_
      refine r_goto (tgt := 22) C dX5_get_18 (by decide) ?_
      exact r_iretQ C E rfl (Nat.zero_le _) (Nat.zero_le _) dX5_get_22 ((rfl : σ.1 = σ.1).trans hs) h
theorem w_X5_add_0 {X : r_X} {w : r_V} {B : Nat} {l : Launch} {Q : r_S → Prop} {σ0 : r_S} (C : r_C X w B 2 cX5_add RX5) (E : r_E X l tX5_add) {σ : r_S} (hs : σ.1 = σ0.1) {a0 : Nat} {x1 : Int32}
    (h : r_at σ a0 = some (.inl 5) ∧ (∃ Q1 : Int32 → r_S → Prop, r_M l w B tX5_isFull [Value.ref (B + a0)] σ (r_QI σ Q1) ∧ (∀ (z5 : Int32) (σ3 : r_S), Q1 z5 σ3 → ((z5 = 0 → (∃ n9, r_at σ (r_gr σ3 a0 0) = some (.inr (0, n9)) ∧ (vp_in (r_gi σ3 a0 1) n9 ∧ (∀ σ12 : r_S, σ12 = r_ui σ3 (r_gr σ3 a0 0) ((r_gi σ3 a0 1).toNatClampNeg) x1 → (∀ σ15 : r_S, σ15 = r_ui σ12 a0 1 ((r_gi σ12 a0 1) + 1) → (Q σ15)))))) ∧ (¬ z5 = 0 → (Q σ3)))))) :
    r_W X w B 2 0 0 (r_Z X w B tX5_add (r_QV σ0 Q)) 0 [(0, Value.ref (B + a0)), (1, Value.int x1)] [] σ := by
  refine r_aload_n C dX5_add_0 rfl (j := 0) rfl ?_
  obtain ⟨g7, h⟩ := h
  obtain ⟨Q1, m2, h⟩ := h
  refine r_callVI (rest := []) C E [] (r_atT rfl g7) rfl ky_X5_isFull kl_X5_17 ki_X5_isFull kx_X5_isFull ⟨Nat.le_of_ble_eq_true rfl, Nat.le_of_ble_eq_true rfl⟩ ⟨rfl, rfl⟩ m2 rfl rfl (Nat.le_of_ble_eq_true rfl) (Nat.zero_le _) (Nat.zero_le _) dX5_add_1 (fun z5 σ3 s4 q6 => ?_)
  have h := h z5 σ3 q6
  have s4 := s4.trans rfl
  refine r_if_ne (tgt := 27) C dX5_add_4 (by decide) (fun c8 => ?_) (fun c8 => ?_)
  · have h := h.2 c8
    exact r_vretQ C E rfl (Nat.zero_le _) (Nat.zero_le _) dX5_add_27 (s4.trans hs) h
  · have h := h.1 c8
    refine r_aload_n C dX5_add_7 rfl (j := 0) rfl ?_
    obtain ⟨n9, g10, h⟩ := h
    refine r_getR C (r_atT s4 g7) fa_X5_13 rfl (r_atN g10) dX5_add_8 ?_
    refine r_aload_n C dX5_add_11 rfl (j := 0) rfl ?_
    refine r_get (v := .int (r_gi σ3 a0 1)) C (r_atT s4 g7) fa_X5_7 rfl dX5_add_12 ?_
    refine r_iload_n C dX5_add_15 rfl (j := 1) rfl ?_
    obtain ⟨g11, h⟩ := h
    refine r_iast C (r_atT s4 g10) ⟨rfl, fun _ => rfl⟩ g11 dX5_add_16 ?_
    refine r_nam (fun σ12 e13 => ?_)
    have h := h σ12 e13
    have s14 : σ12.1 = σ.1 := by rw [e13]; exact s4
    refine r_aload_n C dX5_add_17 rfl (j := 0) rfl ?_
    refine r_dup C dX5_add_18 rfl ?_
    refine r_get (v := .int (r_gi σ12 a0 1)) C (r_atT s14 g7) fa_X5_7 rfl dX5_add_19 ?_
    refine r_iconst (v := 1) C dX5_add_22 (by decide) ?_
    refine r_iadd C dX5_add_23 ?_
    refine r_putI C (r_atT s14 g7) fa_X5_7 rfl rfl rfl dX5_add_24 ?_
    refine r_nam (fun σ15 e16 => ?_)
    have h := h σ15 e16
    have s17 : σ15.1 = σ.1 := by rw [e16]; exact s14
    exact r_vretQ C E rfl (Nat.zero_le _) (Nat.zero_le _) dX5_add_27 (s17.trans hs) h
theorem w_X5_copy_0 {X : r_X} {w : r_V} {B : Nat} {l : Launch} {Q : r_S → Prop} {σ0 : r_S} (C : r_C X w B 3 cX5_copy RX5) (E : r_E X l tX5_copy) {σ : r_S} (hs : σ.1 = σ0.1) {a0 a1 : Nat}
    (h : r_at σ a0 = some (.inl 5) ∧ (∀ σ2 : r_S, σ2 = r_ui σ a0 1 0 → (r_W X w B 3 0 0 (r_Z X w B tX5_copy (r_QV σ0 Q)) 7 [(0, Value.ref (B + a0)), (1, Value.ref (B + a1)), (2, Value.int 0)] [] σ2))) :
    r_W X w B 3 0 0 (r_Z X w B tX5_copy (r_QV σ0 Q)) 0 [(0, Value.ref (B + a0)), (1, Value.ref (B + a1))] [] σ := by
  refine r_aload_n C dX5_copy_0 rfl (j := 0) rfl ?_
  refine r_iconst (v := 0) C dX5_copy_1 (by decide) ?_
  obtain ⟨g1, h⟩ := h
  refine r_putI C (r_atT rfl g1) fa_X5_7 rfl rfl rfl dX5_copy_2 ?_
  refine r_nam (fun σ2 e3 => ?_)
  have h := h σ2 e3
  have s4 : σ2.1 = σ.1 := by rw [e3]; exact rfl
  refine r_iconst (v := 0) C dX5_copy_5 (by decide) ?_
  refine r_istore_n (lv' := [(2, Value.int 0), (0, Value.ref (B + a0)), (1, Value.ref (B + a1))]) C dX5_copy_6 rfl (by decide) rfl ?_
  exact r_loc (by simp) h
theorem w_X5_copy_7 {X : r_X} {w : r_V} {B : Nat} {l : Launch} {Q : r_S → Prop} {σ0 : r_S} (C : r_C X w B 3 cX5_copy RX5) (E : r_E X l tX5_copy) {σ : r_S} (hs : σ.1 = σ0.1) {a0 a1 : Nat} {x2 : Int32}
    (h : r_at σ a1 = some (.inl 5) ∧ (((r_gi σ a1 1) ≤ x2 → (Q σ)) ∧ (¬ (r_gi σ a1 1) ≤ x2 → (∃ n3, r_at σ (r_gr σ a1 0) = some (.inr (0, n3)) ∧ (vp_in x2 n3 ∧ (r_at σ a0 = some (.inl 5) ∧ (∃ Q6 : r_S → Prop, r_M l w B tX5_add [Value.ref (B + a0), Value.int (r_gi σ (r_gr σ a1 0) x2.toNatClampNeg)] σ (r_QV σ Q6) ∧ (∀ σ8 : r_S, Q6 σ8 → (∀ z13 : Int32, z13 = x2 + 1 → (r_W X w B 3 0 0 (r_Z X w B tX5_copy (r_QV σ0 Q)) 7 [(0, Value.ref (B + a0)), (1, Value.ref (B + a1)), (2, Value.int z13)] [] σ8)))))))))) :
    r_W X w B 3 0 0 (r_Z X w B tX5_copy (r_QV σ0 Q)) 7 [(0, Value.ref (B + a0)), (1, Value.ref (B + a1)), (2, Value.int x2)] [] σ := by
  refine r_iload_n C dX5_copy_7 rfl (j := 2) rfl ?_
  refine r_aload_n C dX5_copy_8 rfl (j := 1) rfl ?_
  obtain ⟨g1, h⟩ := h
  refine r_get (v := .int (r_gi σ a1 1)) C (r_atT rfl g1) fa_X5_7 rfl dX5_copy_9 ?_
  refine r_icmp_ge (tgt := 31) C dX5_copy_12 (by decide) (fun c2 => ?_) (fun c2 => ?_)
  · have h := h.1 c2
    exact r_vretQ C E rfl (Nat.zero_le _) (Nat.zero_le _) dX5_copy_31 ((rfl : σ.1 = σ.1).trans hs) h
  · have h := h.2 c2
    refine r_aload_n C dX5_copy_15 rfl (j := 0) rfl ?_
    refine r_aload_n C dX5_copy_16 rfl (j := 1) rfl ?_
    obtain ⟨n3, g4, h⟩ := h
    refine r_getR C (r_atT rfl g1) fa_X5_13 rfl (r_atN g4) dX5_copy_17 ?_
    refine r_iload_n C dX5_copy_20 rfl (j := 2) rfl ?_
    obtain ⟨g5, h⟩ := h
    refine r_iald C (r_atT rfl g4) ⟨rfl, fun _ => rfl⟩ g5 dX5_copy_21 ?_
    obtain ⟨g12, h⟩ := h
    obtain ⟨Q6, m7, h⟩ := h
    refine r_callVV (rest := []) C E [Value.int (r_gi σ (r_gr σ a1 0) x2.toNatClampNeg)] (r_atT rfl g12) rfl ky_X5_add kl_X5_21 ki_X5_add kx_X5_add ⟨Nat.le_of_ble_eq_true rfl, Nat.le_of_ble_eq_true rfl⟩ ⟨rfl, rfl⟩ m7 rfl rfl (Nat.le_of_ble_eq_true rfl) (Nat.zero_le _) (Nat.zero_le _) dX5_copy_22 (fun σ8 s9 q11 => ?_)
    have h := h σ8 q11
    have s9 := s9.trans rfl
    obtain ⟨z13, e14⟩ : ∃ y : Int32, y = x2 + 1 := ⟨_, rfl⟩
    have h := h z13 e14
    refine r_iinc (v := z13) (lv' := [(2, Value.int z13), (0, Value.ref (B + a0)), (1, Value.ref (B + a1))]) C dX5_copy_25 (k := 2) rfl (by rw [e14]; rfl) (by decide) rfl ?_
    refine r_goto (tgt := 7) C dX5_copy_28 (by decide) ?_
    exact r_loc (by simp) h
theorem w_X5_drop_0 {X : r_X} {w : r_V} {B : Nat} {l : Launch} {Q : r_S → Prop} {σ0 : r_S} (C : r_C X w B 4 cX5_drop RX5) (E : r_E X l tX5_drop) {σ : r_S} (hs : σ.1 = σ0.1) {a0 : Nat} {x1 : Int32}
    (h : r_W X w B 4 0 0 (r_Z X w B tX5_drop (r_QV σ0 Q)) 4 [(0, Value.ref (B + a0)), (1, Value.int x1), (2, Value.int 0), (3, Value.int 0)] [] σ) :
    r_W X w B 4 0 0 (r_Z X w B tX5_drop (r_QV σ0 Q)) 0 [(0, Value.ref (B + a0)), (1, Value.int x1)] [] σ := by
  refine r_iconst (v := 0) C dX5_drop_0 (by decide) ?_
  refine r_istore_n (lv' := [(2, Value.int 0), (0, Value.ref (B + a0)), (1, Value.int x1)]) C dX5_drop_1 rfl (by decide) rfl ?_
  refine r_iconst (v := 0) C dX5_drop_2 (by decide) ?_
  refine r_istore_n (lv' := [(3, Value.int 0), (2, Value.int 0), (0, Value.ref (B + a0)), (1, Value.int x1)]) C dX5_drop_3 rfl (by decide) rfl ?_
  exact r_loc (by simp) h
theorem w_X5_drop_4 {X : r_X} {w : r_V} {B : Nat} {l : Launch} {Q : r_S → Prop} {σ0 : r_S} (C : r_C X w B 4 cX5_drop RX5) (E : r_E X l tX5_drop) {σ : r_S} (hs : σ.1 = σ0.1) {a0 : Nat} {x1 x2 x3 : Int32}
    (h : r_at σ a0 = some (.inl 5) ∧ (((r_gi σ a0 1) ≤ x3 → (∀ σ3 : r_S, σ3 = r_ui σ a0 1 x2 → (Q σ3))) ∧ (¬ (r_gi σ a0 1) ≤ x3 → (∃ n6, r_at σ (r_gr σ a0 0) = some (.inr (0, n6)) ∧ (vp_in x3 n6 ∧ (((r_gi σ (r_gr σ a0 0) x3.toNatClampNeg) = x1 → (∀ z10 : Int32, z10 = x3 + 1 → (r_W X w B 4 0 0 (r_Z X w B tX5_drop (r_QV σ0 Q)) 4 [(0, Value.ref (B + a0)), (1, Value.int x1), (2, Value.int x2), (3, Value.int z10)] [] σ))) ∧ (¬ (r_gi σ (r_gr σ a0 0) x3.toNatClampNeg) = x1 → (vp_in x2 n6 ∧ (∀ σ13 : r_S, σ13 = r_ui σ (r_gr σ a0 0) (x2.toNatClampNeg) (r_gi σ (r_gr σ a0 0) x3.toNatClampNeg) → (∀ z16 : Int32, z16 = x2 + 1 → (∀ z18 : Int32, z18 = x3 + 1 → (r_W X w B 4 0 0 (r_Z X w B tX5_drop (r_QV σ0 Q)) 4 [(0, Value.ref (B + a0)), (1, Value.int x1), (2, Value.int z16), (3, Value.int z18)] [] σ13)))))))))))) :
    r_W X w B 4 0 0 (r_Z X w B tX5_drop (r_QV σ0 Q)) 4 [(0, Value.ref (B + a0)), (1, Value.int x1), (2, Value.int x2), (3, Value.int x3)] [] σ := by
  refine r_iload_n C dX5_drop_4 rfl (j := 3) rfl ?_
  refine r_aload_n C dX5_drop_5 rfl (j := 0) rfl ?_
  obtain ⟨g1, h⟩ := h
  refine r_get (v := .int (r_gi σ a0 1)) C (r_atT rfl g1) fa_X5_7 rfl dX5_drop_6 ?_
  refine r_icmp_ge (tgt := 43) C dX5_drop_9 (by decide) (fun c2 => ?_) (fun c2 => ?_)
  · have h := h.1 c2
    refine r_aload_n C dX5_drop_43 rfl (j := 0) rfl ?_
    refine r_iload_n C dX5_drop_44 rfl (j := 2) rfl ?_
    refine r_putI C (r_atT rfl g1) fa_X5_7 rfl rfl rfl dX5_drop_45 ?_
    refine r_nam (fun σ3 e4 => ?_)
    have h := h σ3 e4
    have s5 : σ3.1 = σ.1 := by rw [e4]; exact rfl
    exact r_vretQ C E rfl (Nat.zero_le _) (Nat.zero_le _) dX5_drop_48 (s5.trans hs) h
  · have h := h.2 c2
    refine r_aload_n C dX5_drop_12 rfl (j := 0) rfl ?_
    obtain ⟨n6, g7, h⟩ := h
    refine r_getR C (r_atT rfl g1) fa_X5_13 rfl (r_atN g7) dX5_drop_13 ?_
    refine r_iload_n C dX5_drop_16 rfl (j := 3) rfl ?_
    obtain ⟨g8, h⟩ := h
    refine r_iald C (r_atT rfl g7) ⟨rfl, fun _ => rfl⟩ g8 dX5_drop_17 ?_
    refine r_iload_n C dX5_drop_18 rfl (j := 1) rfl ?_
    refine r_icmp_eq (tgt := 37) C dX5_drop_19 (by decide) (fun c9 => ?_) (fun c9 => ?_)
    · have h := h.1 c9
      obtain ⟨z10, e11⟩ : ∃ y : Int32, y = x3 + 1 := ⟨_, rfl⟩
      have h := h z10 e11
      refine r_iinc (v := z10) (lv' := [(3, Value.int z10), (0, Value.ref (B + a0)), (1, Value.int x1), (2, Value.int x2)]) C dX5_drop_37 (k := 3) rfl (by rw [e11]; rfl) (by decide) rfl ?_
      refine r_goto (tgt := 4) C dX5_drop_40 (by decide) ?_
      exact r_loc (by simp) h
    · have h := h.2 c9
      refine r_aload_n C dX5_drop_22 rfl (j := 0) rfl ?_
      refine r_getR C (r_atT rfl g1) fa_X5_13 rfl (r_atN g7) dX5_drop_23 ?_
      refine r_iload_n C dX5_drop_26 rfl (j := 2) rfl ?_
      refine r_aload_n C dX5_drop_27 rfl (j := 0) rfl ?_
      refine r_getR C (r_atT rfl g1) fa_X5_13 rfl (r_atN g7) dX5_drop_28 ?_
      refine r_iload_n C dX5_drop_31 rfl (j := 3) rfl ?_
      refine r_iald C (r_atT rfl g7) ⟨rfl, fun _ => rfl⟩ g8 dX5_drop_32 ?_
      obtain ⟨g12, h⟩ := h
      refine r_iast C (r_atT rfl g7) ⟨rfl, fun _ => rfl⟩ g12 dX5_drop_33 ?_
      refine r_nam (fun σ13 e14 => ?_)
      have h := h σ13 e14
      have s15 : σ13.1 = σ.1 := by rw [e14]; exact rfl
      obtain ⟨z16, e17⟩ : ∃ y : Int32, y = x2 + 1 := ⟨_, rfl⟩
      have h := h z16 e17
      refine r_iinc (v := z16) (lv' := [(2, Value.int z16), (0, Value.ref (B + a0)), (1, Value.int x1), (3, Value.int x3)]) C dX5_drop_34 (k := 2) rfl (by rw [e17]; rfl) (by decide) rfl ?_
      obtain ⟨z18, e19⟩ : ∃ y : Int32, y = x3 + 1 := ⟨_, rfl⟩
      have h := h z18 e19
      refine r_iinc (v := z18) (lv' := [(3, Value.int z18), (2, Value.int z16), (0, Value.ref (B + a0)), (1, Value.int x1)]) C dX5_drop_37 (k := 3) rfl (by rw [e19]; rfl) (by decide) rfl ?_
      refine r_goto (tgt := 4) C dX5_drop_40 (by decide) ?_
      exact r_loc (by simp) h
