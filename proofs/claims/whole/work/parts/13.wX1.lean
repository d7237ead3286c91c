theorem w_X1_told_0 {X : r_X} {w : r_V} {B : Nat} {l : Launch} {Q : Int32 → r_S → Prop} {σ0 : r_S} (C : r_C X w B 1 cX1_told RX1) (E : r_E X l tX1_told) {σ : r_S} (hs : σ.1 = σ0.1) {a0 : Nat}
    (h : r_at σ a0 = some (.inl 1) ∧ (∃ Q2 : Int32 → r_S → Prop, r_M l w B tJ9_min_7cf53 [Value.int (r_gi σ a0 3), Value.int 700] σ (r_QI σ Q2) ∧ (∀ (z6 : Int32) (σ4 : r_S), Q2 z6 σ4 → (Q z6 σ4)))) :
    r_W X w B 1 0 0 (r_Z X w B tX1_told (r_QI σ0 Q)) 0 [(0, Value.ref (B + a0))] [] σ := by
  refine r_aload_n C dX1_told_0 rfl (j := 0) rfl ?_
  obtain ⟨g1, h⟩ := h
  refine r_get (v := .int (r_gi σ a0 3)) C (r_atT rfl g1) fa_X1_21 rfl dX1_told_1 ?_
  refine r_sipush (v := 700) C dX1_told_4 (by decide) ?_
  obtain ⟨Q2, m3, h⟩ := h
  refine r_callSI (rest := []) C E [Value.int (r_gi σ a0 3), Value.int 700] ky_J9_min_7cf53 kl_X1_25 ks_J9_min_7cf53 ⟨Nat.le_of_ble_eq_true rfl, Nat.le_of_ble_eq_true rfl⟩ ⟨rfl, rfl⟩ m3 rfl rfl (Nat.le_of_ble_eq_true rfl) (Nat.zero_le _) (Nat.zero_le _) dX1_told_7 (fun z6 σ4 s5 q7 => ?_)
  have h := h z6 σ4 q7
  have s5 := s5.trans rfl
  exact r_iretQ C E rfl (Nat.zero_le _) (Nat.zero_le _) dX1_told_10 (s5.trans hs) h
theorem w_X1_add_0 {X : r_X} {w : r_V} {B : Nat} {l : Launch} {Q : r_S → Prop} {σ0 : r_S} (C : r_C X w B 5 cX1_add RX1) (E : r_E X l tX1_add) {σ : r_S} (hs : σ.1 = σ0.1) {a0 : Nat} {x1 x2 : Int32} {y3 : Int64}
    (h : r_at σ a0 = some (.inl 1) ∧ ((700 ≤ (r_gi σ a0 3) → (∀ σ3 : r_S, σ3 = r_ui σ a0 3 ((r_gi σ a0 3) + 1) → (Q σ3))) ∧ (¬ 700 ≤ (r_gi σ a0 3) → (∃ n6, r_at σ (r_gr σ a0 0) = some (.inr (0, n6)) ∧ (vp_in (r_gi σ a0 3) n6 ∧ (∀ σ9 : r_S, σ9 = r_ui σ (r_gr σ a0 0) ((r_gi σ a0 3).toNatClampNeg) x1 → (∃ n12, r_at σ (r_gr σ9 a0 1) = some (.inr (0, n12)) ∧ (vp_in (r_gi σ9 a0 3) n12 ∧ (∀ σ15 : r_S, σ15 = r_ui σ9 (r_gr σ9 a0 1) ((r_gi σ9 a0 3).toNatClampNeg) x2 → (∃ n18, r_at σ (r_gr σ15 a0 2) = some (.inr (0, n18)) ∧ (vp_in (r_gi σ15 a0 3) n18 ∧ (∀ σ21 : r_S, σ21 = r_ui σ15 (r_gr σ15 a0 2) ((r_gi σ15 a0 3).toNatClampNeg) y3.toInt32 → (∀ σ24 : r_S, σ24 = r_ui σ21 a0 3 ((r_gi σ21 a0 3) + 1) → (Q σ24)))))))))))))) :
    r_W X w B 5 0 0 (r_Z X w B tX1_add (r_QV σ0 Q)) 0 [(0, Value.ref (B + a0)), (1, Value.int x1), (2, Value.int x2), (3, Value.long y3)] [] σ := by
  refine r_aload_n C dX1_add_0 rfl (j := 0) rfl ?_
  obtain ⟨g1, h⟩ := h
  refine r_get (v := .int (r_gi σ a0 3)) C (r_atT rfl g1) fa_X1_21 rfl dX1_add_1 ?_
  refine r_sipush (v := 700) C dX1_add_4 (by decide) ?_
  refine r_icmp_ge (tgt := 41) C dX1_add_7 (by decide) (fun c2 => ?_) (fun c2 => ?_)
  · have h := h.1 c2
    refine r_aload_n C dX1_add_41 rfl (j := 0) rfl ?_
    refine r_dup C dX1_add_42 rfl ?_
    refine r_get (v := .int (r_gi σ a0 3)) C (r_atT rfl g1) fa_X1_21 rfl dX1_add_43 ?_
    refine r_iconst (v := 1) C dX1_add_46 (by decide) ?_
    refine r_iadd C dX1_add_47 ?_
    refine r_putI C (r_atT rfl g1) fa_X1_21 rfl rfl rfl dX1_add_48 ?_
    refine r_nam (fun σ3 e4 => ?_)
    have h := h σ3 e4
    have s5 : σ3.1 = σ.1 := by rw [e4]; exact rfl
    exact r_vretQ C E rfl (Nat.zero_le _) (Nat.zero_le _) dX1_add_51 (s5.trans hs) h
  · have h := h.2 c2
    refine r_aload_n C dX1_add_10 rfl (j := 0) rfl ?_
    obtain ⟨n6, g7, h⟩ := h
    refine r_getR C (r_atT rfl g1) fa_X1_9 rfl (r_atN g7) dX1_add_11 ?_
    refine r_aload_n C dX1_add_14 rfl (j := 0) rfl ?_
    refine r_get (v := .int (r_gi σ a0 3)) C (r_atT rfl g1) fa_X1_21 rfl dX1_add_15 ?_
    refine r_iload_n C dX1_add_18 rfl (j := 1) rfl ?_
    obtain ⟨g8, h⟩ := h
    refine r_iast C (r_atT rfl g7) ⟨rfl, fun _ => rfl⟩ g8 dX1_add_19 ?_
    refine r_nam (fun σ9 e10 => ?_)
    have h := h σ9 e10
    have s11 : σ9.1 = σ.1 := by rw [e10]; exact rfl
    refine r_aload_n C dX1_add_20 rfl (j := 0) rfl ?_
    obtain ⟨n12, g13, h⟩ := h
    refine r_getR C (r_atT s11 g1) fa_X1_15 rfl (r_atN g13) dX1_add_21 ?_
    refine r_aload_n C dX1_add_24 rfl (j := 0) rfl ?_
    refine r_get (v := .int (r_gi σ9 a0 3)) C (r_atT s11 g1) fa_X1_21 rfl dX1_add_25 ?_
    refine r_iload_n C dX1_add_28 rfl (j := 2) rfl ?_
    obtain ⟨g14, h⟩ := h
    refine r_iast C (r_atT s11 g13) ⟨rfl, fun _ => rfl⟩ g14 dX1_add_29 ?_
    refine r_nam (fun σ15 e16 => ?_)
    have h := h σ15 e16
    have s17 : σ15.1 = σ.1 := by rw [e16]; exact s11
    refine r_aload_n C dX1_add_30 rfl (j := 0) rfl ?_
    obtain ⟨n18, g19, h⟩ := h
    refine r_getR C (r_atT s17 g1) fa_X1_18 rfl (r_atN g19) dX1_add_31 ?_
    refine r_aload_n C dX1_add_34 rfl (j := 0) rfl ?_
    refine r_get (v := .int (r_gi σ15 a0 3)) C (r_atT s17 g1) fa_X1_21 rfl dX1_add_35 ?_
    refine r_lload_n C dX1_add_38 rfl (j := 3) rfl ?_
    refine r_l2i (v := y3.toInt32) C dX1_add_39 rfl ?_
    obtain ⟨g20, h⟩ := h
    refine r_iast C (r_atT s17 g19) ⟨rfl, fun _ => rfl⟩ g20 dX1_add_40 ?_
    refine r_nam (fun σ21 e22 => ?_)
    have h := h σ21 e22
    have s23 : σ21.1 = σ.1 := by rw [e22]; exact s17
    refine r_aload_n C dX1_add_41 rfl (j := 0) rfl ?_
    refine r_dup C dX1_add_42 rfl ?_
    refine r_get (v := .int (r_gi σ21 a0 3)) C (r_atT s23 g1) fa_X1_21 rfl dX1_add_43 ?_
    refine r_iconst (v := 1) C dX1_add_46 (by decide) ?_
    refine r_iadd C dX1_add_47 ?_
    refine r_putI C (r_atT s23 g1) fa_X1_21 rfl rfl rfl dX1_add_48 ?_
    refine r_nam (fun σ24 e25 => ?_)
    have h := h σ24 e25
    have s26 : σ24.1 = σ.1 := by rw [e25]; exact s23
    exact r_vretQ C E rfl (Nat.zero_le _) (Nat.zero_le _) dX1_add_51 (s26.trans hs) h
