theorem c_X0_init_0 {X : r_X} {w : r_V} {B : Nat} {l : Launch} {Q : r_S → Prop} {σ0 : r_S} (C : r_C X w B 1 cX0_init RX0) (E : r_E X l tX0_init) {σ : r_S} (hs : r_Ex σ0 σ) {a0 : Nat}
    (h : ∀ b4 : Nat, b4 = σ.1.length + 1 → (∀ σ1 : r_S, σ1 = r_push σ (.inr (0, 400)) → (r_at σ1 a0 = some (.inl 0) ∧ (∀ σ8 : r_S, σ8 = r_ur σ1 a0 0 b4 → (∀ σ12 : r_S, σ12 = r_ui σ8 a0 1 0 → (∀ σ16 : r_S, σ16 = r_ui σ12 a0 2 0 → (Q σ16))))))) :
    r_W X w B 1 0 0 (r_Z X w B tX0_init (r_QN σ0 Q)) 0 [(0, Value.ref (B + a0))] [] σ := by
  refine r_aload_n C dX0_init_0 rfl (j := 0) rfl ?_
  refine r_objInit C E kl_X0_3 ki_obj kk_obj dX0_init_1 (Nat.le_of_ble_eq_true rfl) (Nat.le_of_ble_eq_true rfl) ?_
  refine r_aload_n C dX0_init_4 rfl (j := 0) rfl ?_
  refine r_sipush (v := 400) C dX0_init_5 (by decide) ?_
  refine r_newa C E (ti := 0) ⟨rfl, fun _ => rfl⟩ rfl ka_int (n := 400) (by decide) (by decide) (by decide) rfl (Nat.le_of_ble_eq_true rfl) (Nat.le_of_ble_eq_true rfl) dX0_init_8 ?_
  refine r_wid (c2 := 1) (s2 := 400) (by first | exact Nat.le_refl _ | (simp; done) | omega) (by first | exact Nat.le_refl _ | (simp; done) | omega) ?_
  refine r_topa (fun b4 e5 => ?_)
  have h := h b4 e5
  refine r_nam (fun σ1 e2 => ?_)
  have h := h σ1 e2
  have s3 : r_Ex σ σ1 := (r_Ex.of_eq rfl : r_Ex σ σ).trans (by rw [e2]; exact r_Ex.push)
  have g6 : r_at σ1 b4 = some (.inr (0, 400)) := by rw [e2, e5]; exact r_at_new
  obtain ⟨g7, h⟩ := h
  refine r_putFR C E rfl g7 fa_X0_9 rfl rfl (r_atN g6) dX0_init_10 ?_
  refine r_nam (fun σ8 e9 => ?_)
  have h := h σ8 e9
  have s10 : r_Ex σ σ8 := s3.trans (r_Ex.of_eq (by rw [e9]; rfl))
  have g11 : r_at σ8 a0 = some (.inl 0) := by rw [e9]; exact g7
  refine r_aload_n C dX0_init_13 rfl (j := 0) rfl ?_
  refine r_iconst (v := 0) C dX0_init_14 (by decide) ?_
  refine r_putI C g11 fa_X0_15 rfl rfl rfl dX0_init_15 ?_
  refine r_nam (fun σ12 e13 => ?_)
  have h := h σ12 e13
  have s14 : r_Ex σ σ12 := s10.trans (r_Ex.of_eq (by rw [e13]; rfl))
  have g15 : r_at σ12 a0 = some (.inl 0) := by rw [e13]; exact g11
  refine r_aload_n C dX0_init_18 rfl (j := 0) rfl ?_
  refine r_iconst (v := 0) C dX0_init_19 (by decide) ?_
  refine r_putI C g15 fa_X0_19 rfl rfl rfl dX0_init_20 ?_
  refine r_nam (fun σ16 e17 => ?_)
  have h := h σ16 e17
  have s18 : r_Ex σ σ16 := s14.trans (r_Ex.of_eq (by rw [e17]; rfl))
  have g19 : r_at σ16 a0 = some (.inl 0) := by rw [e17]; exact g15
  exact r_vretN C E rfl (Nat.le_of_ble_eq_true rfl) (Nat.le_of_ble_eq_true rfl) dX0_init_23 (hs.trans s18) h
theorem c_X1_init_0 {X : r_X} {w : r_V} {B : Nat} {l : Launch} {Q : r_S → Prop} {σ0 : r_S} (C : r_C X w B 1 cX1_init RX1) (E : r_E X l tX1_init) {σ : r_S} (hs : r_Ex σ0 σ) {a0 : Nat}
    (h : ∀ b4 : Nat, b4 = σ.1.length + 1 → (∀ σ1 : r_S, σ1 = r_push σ (.inr (0, 700)) → (r_at σ1 a0 = some (.inl 1) ∧ (∀ σ8 : r_S, σ8 = r_ur σ1 a0 0 b4 → (∀ b15 : Nat, b15 = σ8.1.length + 1 → (∀ σ12 : r_S, σ12 = r_push σ8 (.inr (0, 700)) → (∀ σ19 : r_S, σ19 = r_ur σ12 a0 1 b15 → (∀ b26 : Nat, b26 = σ19.1.length + 1 → (∀ σ23 : r_S, σ23 = r_push σ19 (.inr (0, 700)) → (∀ σ30 : r_S, σ30 = r_ur σ23 a0 2 b26 → (∀ σ34 : r_S, σ34 = r_ui σ30 a0 3 0 → (Q σ34)))))))))))) :
    r_W X w B 1 0 0 (r_Z X w B tX1_init (r_QN σ0 Q)) 0 [(0, Value.ref (B + a0))] [] σ := by
  refine r_aload_n C dX1_init_0 rfl (j := 0) rfl ?_
  refine r_objInit C E kl_X1_3 ki_obj kk_obj dX1_init_1 (Nat.le_of_ble_eq_true rfl) (Nat.le_of_ble_eq_true rfl) ?_
  refine r_aload_n C dX1_init_4 rfl (j := 0) rfl ?_
  refine r_sipush (v := 700) C dX1_init_5 (by decide) ?_
  refine r_newa C E (ti := 0) ⟨rfl, fun _ => rfl⟩ rfl ka_int (n := 700) (by decide) (by decide) (by decide) rfl (Nat.le_of_ble_eq_true rfl) (Nat.le_of_ble_eq_true rfl) dX1_init_8 ?_
  refine r_wid (c2 := 1) (s2 := 700) (by first | exact Nat.le_refl _ | (simp; done) | omega) (by first | exact Nat.le_refl _ | (simp; done) | omega) ?_
  refine r_topa (fun b4 e5 => ?_)
  have h := h b4 e5
  refine r_nam (fun σ1 e2 => ?_)
  have h := h σ1 e2
  have s3 : r_Ex σ σ1 := (r_Ex.of_eq rfl : r_Ex σ σ).trans (by rw [e2]; exact r_Ex.push)
  have g6 : r_at σ1 b4 = some (.inr (0, 700)) := by rw [e2, e5]; exact r_at_new
  obtain ⟨g7, h⟩ := h
  refine r_putFR C E rfl g7 fa_X1_9 rfl rfl (r_atN g6) dX1_init_10 ?_
  refine r_nam (fun σ8 e9 => ?_)
  have h := h σ8 e9
  have s10 : r_Ex σ σ8 := s3.trans (r_Ex.of_eq (by rw [e9]; rfl))
  have g11 : r_at σ8 a0 = some (.inl 1) := by rw [e9]; exact g7
  refine r_aload_n C dX1_init_13 rfl (j := 0) rfl ?_
  refine r_sipush (v := 700) C dX1_init_14 (by decide) ?_
  refine r_newa C E (ti := 0) ⟨rfl, fun _ => rfl⟩ rfl ka_int (n := 700) (by decide) (by decide) (by decide) rfl (Nat.le_of_ble_eq_true rfl) (Nat.le_of_ble_eq_true rfl) dX1_init_17 ?_
  refine r_wid (c2 := 2) (s2 := 1400) (by first | exact Nat.le_refl _ | (simp; done) | omega) (by first | exact Nat.le_refl _ | (simp; done) | omega) ?_
  refine r_topa (fun b15 e16 => ?_)
  have h := h b15 e16
  refine r_nam (fun σ12 e13 => ?_)
  have h := h σ12 e13
  have s14 : r_Ex σ σ12 := s10.trans (by rw [e13]; exact r_Ex.push)
  have g17 : r_at σ12 a0 = some (.inl 1) := by rw [e13]; exact r_at_ext r_Ex.push g11
  have g18 : r_at σ12 b15 = some (.inr (0, 700)) := by rw [e13, e16]; exact r_at_new
  refine r_putFR C E rfl g17 fa_X1_15 rfl rfl (r_atN g18) dX1_init_19 ?_
  refine r_nam (fun σ19 e20 => ?_)
  have h := h σ19 e20
  have s21 : r_Ex σ σ19 := s14.trans (r_Ex.of_eq (by rw [e20]; rfl))
  have g22 : r_at σ19 a0 = some (.inl 1) := by rw [e20]; exact g17
  refine r_aload_n C dX1_init_22 rfl (j := 0) rfl ?_
  refine r_sipush (v := 700) C dX1_init_23 (by decide) ?_
  refine r_newa C E (ti := 0) ⟨rfl, fun _ => rfl⟩ rfl ka_int (n := 700) (by decide) (by decide) (by decide) rfl (Nat.le_of_ble_eq_true rfl) (Nat.le_of_ble_eq_true rfl) dX1_init_26 ?_
  refine r_wid (c2 := 3) (s2 := 2100) (by first | exact Nat.le_refl _ | (simp; done) | omega) (by first | exact Nat.le_refl _ | (simp; done) | omega) ?_
  refine r_topa (fun b26 e27 => ?_)
  have h := h b26 e27
  refine r_nam (fun σ23 e24 => ?_)
  have h := h σ23 e24
  have s25 : r_Ex σ σ23 := s21.trans (by rw [e24]; exact r_Ex.push)
  have g28 : r_at σ23 a0 = some (.inl 1) := by rw [e24]; exact r_at_ext r_Ex.push g22
  have g29 : r_at σ23 b26 = some (.inr (0, 700)) := by rw [e24, e27]; exact r_at_new
  refine r_putFR C E rfl g28 fa_X1_18 rfl rfl (r_atN g29) dX1_init_28 ?_
  refine r_nam (fun σ30 e31 => ?_)
  have h := h σ30 e31
  have s32 : r_Ex σ σ30 := s25.trans (r_Ex.of_eq (by rw [e31]; rfl))
  have g33 : r_at σ30 a0 = some (.inl 1) := by rw [e31]; exact g28
  refine r_aload_n C dX1_init_31 rfl (j := 0) rfl ?_
  refine r_iconst (v := 0) C dX1_init_32 (by decide) ?_
  refine r_putI C g33 fa_X1_21 rfl rfl rfl dX1_init_33 ?_
  refine r_nam (fun σ34 e35 => ?_)
  have h := h σ34 e35
  have s36 : r_Ex σ σ34 := s32.trans (r_Ex.of_eq (by rw [e35]; rfl))
  have g37 : r_at σ34 a0 = some (.inl 1) := by rw [e35]; exact g33
  exact r_vretN C E rfl (Nat.le_of_ble_eq_true rfl) (Nat.le_of_ble_eq_true rfl) dX1_init_36 (hs.trans s36) h
theorem c_X3_init_0 {X : r_X} {w : r_V} {B : Nat} {l : Launch} {Q : r_S → Prop} {σ0 : r_S} (C : r_C X w B 1 cX3_init RX3) (E : r_E X l tX3_init) {σ : r_S} (hs : r_Ex σ0 σ) {a0 : Nat}
    (h : ∀ b4 : Nat, b4 = σ.1.length + 1 → (∀ σ1 : r_S, σ1 = r_push σ (.inr (0, 40)) → (r_at σ1 a0 = some (.inl 3) ∧ (∀ σ8 : r_S, σ8 = r_ur σ1 a0 0 b4 → (∀ b15 : Nat, b15 = σ8.1.length + 1 → (∀ σ12 : r_S, σ12 = r_push σ8 (.inr (1, 40)) → (∀ σ19 : r_S, σ19 = r_ur σ12 a0 1 b15 → (∀ b26 : Nat, b26 = σ19.1.length + 1 → (∀ σ23 : r_S, σ23 = r_push σ19 (.inr (1, 40)) → (∀ σ30 : r_S, σ30 = r_ur σ23 a0 2 b26 → (∀ σ34 : r_S, σ34 = r_ui σ30 a0 3 0 → (Q σ34)))))))))))) :
    r_W X w B 1 0 0 (r_Z X w B tX3_init (r_QN σ0 Q)) 0 [(0, Value.ref (B + a0))] [] σ := by
  refine r_aload_n C dX3_init_0 rfl (j := 0) rfl ?_
  refine r_objInit C E kl_X3_3 ki_obj kk_obj dX3_init_1 (Nat.le_of_ble_eq_true rfl) (Nat.le_of_ble_eq_true rfl) ?_
  refine r_aload_n C dX3_init_4 rfl (j := 0) rfl ?_
  refine r_bipush (v := 40) C dX3_init_5 (by decide) ?_
  refine r_newa C E (ti := 0) ⟨rfl, fun _ => rfl⟩ rfl ka_int (n := 40) (by decide) (by decide) (by decide) rfl (Nat.le_of_ble_eq_true rfl) (Nat.le_of_ble_eq_true rfl) dX3_init_7 ?_
  refine r_wid (c2 := 1) (s2 := 40) (by first | exact Nat.le_refl _ | (simp; done) | omega) (by first | exact Nat.le_refl _ | (simp; done) | omega) ?_
  refine r_topa (fun b4 e5 => ?_)
  have h := h b4 e5
  refine r_nam (fun σ1 e2 => ?_)
  have h := h σ1 e2
  have s3 : r_Ex σ σ1 := (r_Ex.of_eq rfl : r_Ex σ σ).trans (by rw [e2]; exact r_Ex.push)
  have g6 : r_at σ1 b4 = some (.inr (0, 40)) := by rw [e2, e5]; exact r_at_new
  obtain ⟨g7, h⟩ := h
  refine r_putFR C E rfl g7 fa_X3_9 rfl rfl (r_atN g6) dX3_init_9 ?_
  refine r_nam (fun σ8 e9 => ?_)
  have h := h σ8 e9
  have s10 : r_Ex σ σ8 := s3.trans (r_Ex.of_eq (by rw [e9]; rfl))
  have g11 : r_at σ8 a0 = some (.inl 3) := by rw [e9]; exact g7
  refine r_aload_n C dX3_init_12 rfl (j := 0) rfl ?_
  refine r_bipush (v := 40) C dX3_init_13 (by decide) ?_
  refine r_newa C E (ti := 1) ⟨rfl, fun _ => rfl⟩ rfl ka_long (n := 40) (by decide) (by decide) (by decide) rfl (Nat.le_of_ble_eq_true rfl) (Nat.le_of_ble_eq_true rfl) dX3_init_15 ?_
  refine r_wid (c2 := 2) (s2 := 80) (by first | exact Nat.le_refl _ | (simp; done) | omega) (by first | exact Nat.le_refl _ | (simp; done) | omega) ?_
  refine r_topa (fun b15 e16 => ?_)
  have h := h b15 e16
  refine r_nam (fun σ12 e13 => ?_)
  have h := h σ12 e13
  have s14 : r_Ex σ σ12 := s10.trans (by rw [e13]; exact r_Ex.push)
  have g17 : r_at σ12 a0 = some (.inl 3) := by rw [e13]; exact r_at_ext r_Ex.push g11
  have g18 : r_at σ12 b15 = some (.inr (1, 40)) := by rw [e13, e16]; exact r_at_new
  refine r_putFR C E rfl g17 fa_X3_15 rfl rfl (r_atN g18) dX3_init_17 ?_
  refine r_nam (fun σ19 e20 => ?_)
  have h := h σ19 e20
  have s21 : r_Ex σ σ19 := s14.trans (r_Ex.of_eq (by rw [e20]; rfl))
  have g22 : r_at σ19 a0 = some (.inl 3) := by rw [e20]; exact g17
  refine r_aload_n C dX3_init_20 rfl (j := 0) rfl ?_
  refine r_bipush (v := 40) C dX3_init_21 (by decide) ?_
  refine r_newa C E (ti := 1) ⟨rfl, fun _ => rfl⟩ rfl ka_long (n := 40) (by decide) (by decide) (by decide) rfl (Nat.le_of_ble_eq_true rfl) (Nat.le_of_ble_eq_true rfl) dX3_init_23 ?_
  refine r_wid (c2 := 3) (s2 := 120) (by first | exact Nat.le_refl _ | (simp; done) | omega) (by first | exact Nat.le_refl _ | (simp; done) | omega) ?_
  refine r_topa (fun b26 e27 => ?_)
  have h := h b26 e27
  refine r_nam (fun σ23 e24 => ?_)
  have h := h σ23 e24
  have s25 : r_Ex σ σ23 := s21.trans (by rw [e24]; exact r_Ex.push)
  have g28 : r_at σ23 a0 = some (.inl 3) := by rw [e24]; exact r_at_ext r_Ex.push g22
  have g29 : r_at σ23 b26 = some (.inr (1, 40)) := by rw [e24, e27]; exact r_at_new
  refine r_putFR C E rfl g28 fa_X3_19 rfl rfl (r_atN g29) dX3_init_25 ?_
  refine r_nam (fun σ30 e31 => ?_)
  have h := h σ30 e31
  have s32 : r_Ex σ σ30 := s25.trans (r_Ex.of_eq (by rw [e31]; rfl))
  have g33 : r_at σ30 a0 = some (.inl 3) := by rw [e31]; exact g28
  refine r_aload_n C dX3_init_28 rfl (j := 0) rfl ?_
  refine r_iconst (v := 0) C dX3_init_29 (by decide) ?_
  refine r_putI C g33 fa_X3_22 rfl rfl rfl dX3_init_30 ?_
  refine r_nam (fun σ34 e35 => ?_)
  have h := h σ34 e35
  have s36 : r_Ex σ σ34 := s32.trans (r_Ex.of_eq (by rw [e35]; rfl))
  have g37 : r_at σ34 a0 = some (.inl 3) := by rw [e35]; exact g33
  exact r_vretN C E rfl (Nat.le_of_ble_eq_true rfl) (Nat.le_of_ble_eq_true rfl) dX3_init_33 (hs.trans s36) h
theorem c_X5_init_0 {X : r_X} {w : r_V} {B : Nat} {l : Launch} {Q : r_S → Prop} {σ0 : r_S} (C : r_C X w B 2 cX5_init RX5) (E : r_E X l tX5_init) {σ : r_S} (hs : r_Ex σ0 σ) {a0 : Nat} {x1 : Int32}
    (h : r_at σ a0 = some (.inl 5) ∧ (∀ σ2 : r_S, σ2 = r_ui σ a0 1 0 → (∃ n6, n6 ≤ 10 ∧ (x1 = nI n6 ∧ (∀ b12 : Nat, b12 = σ2.1.length + 1 → (∀ σ9 : r_S, σ9 = r_push σ2 (.inr (0, n6)) → (∀ σ16 : r_S, σ16 = r_ur σ9 a0 0 b12 → (Q σ16)))))))) :
    r_W X w B 2 0 0 (r_Z X w B tX5_init (r_QN σ0 Q)) 0 [(0, Value.ref (B + a0)), (1, Value.int x1)] [] σ := by
  refine r_aload_n C dX5_init_0 rfl (j := 0) rfl ?_
  refine r_objInit C E kl_X5_1 ki_obj kk_obj dX5_init_1 (Nat.le_of_ble_eq_true rfl) (Nat.le_of_ble_eq_true rfl) ?_
  refine r_aload_n C dX5_init_4 rfl (j := 0) rfl ?_
  refine r_iconst (v := 0) C dX5_init_5 (by decide) ?_
  obtain ⟨g1, h⟩ := h
  refine r_putI C g1 fa_X5_7 rfl rfl rfl dX5_init_6 ?_
  refine r_nam (fun σ2 e3 => ?_)
  have h := h σ2 e3
  have s4 : r_Ex σ σ2 := (r_Ex.of_eq rfl : r_Ex σ σ).trans (r_Ex.of_eq (by rw [e3]; rfl))
  have g5 : r_at σ2 a0 = some (.inl 5) := by rw [e3]; exact g1
  refine r_aload_n C dX5_init_9 rfl (j := 0) rfl ?_
  refine r_iload_n C dX5_init_10 rfl (j := 1) rfl ?_
  obtain ⟨n6, g7, g8, h⟩ := h
  rw [g8]
  refine r_newa C E (ti := 0) (ty := .int) ⟨rfl, fun _ => rfl⟩ rfl ka_int (n := n6) (nI_pos (by omega)) (nI_clamp (by omega)) (by show n6 * 4 ≤ 536870912; omega) rfl (Nat.le_of_ble_eq_true rfl) (Nat.le_trans (Nat.add_le_add_left g7 _) (Nat.le_of_ble_eq_true rfl)) dX5_init_11 ?_
  refine r_wid (c2 := 1) (s2 := 10) (by first | exact Nat.le_refl _ | omega) (Nat.add_le_add_left g7 _) ?_
  refine r_topa (fun b12 e13 => ?_)
  have h := h b12 e13
  refine r_nam (fun σ9 e10 => ?_)
  have h := h σ9 e10
  have s11 : r_Ex σ σ9 := s4.trans (by rw [e10]; exact r_Ex.push)
  have g14 : r_at σ9 a0 = some (.inl 5) := by rw [e10]; exact r_at_ext r_Ex.push g5
  have g15 : r_at σ9 b12 = some (.inr (0, n6)) := by rw [e10, e13]; exact r_at_new
  refine r_putFR C E rfl g14 fa_X5_13 rfl rfl (r_atN g15) dX5_init_13 ?_
  refine r_nam (fun σ16 e17 => ?_)
  have h := h σ16 e17
  have s18 : r_Ex σ σ16 := s11.trans (r_Ex.of_eq (by rw [e17]; rfl))
  have g19 : r_at σ16 a0 = some (.inl 5) := by rw [e17]; exact g14
  exact r_vretN C E rfl (Nat.le_of_ble_eq_true rfl) (Nat.le_of_ble_eq_true rfl) dX5_init_16 (hs.trans s18) h
theorem c_X4_init_0 {X : r_X} {w : r_V} {B : Nat} {l : Launch} {Q : r_S → Prop} {σ0 : r_S} (C : r_C X w B 1 cX4_init RX4) (E : r_E X l tX4_init) {σ : r_S} (hs : r_Ex σ0 σ) {a0 : Nat}
    (h : ∀ b4 : Nat, b4 = σ.1.length + 1 → (∀ σ1 : r_S, σ1 = r_push σ (.inr (0, 301)) → (r_at σ1 a0 = some (.inl 4) ∧ (∀ σ8 : r_S, σ8 = r_ur σ1 a0 0 b4 → (∀ b15 : Nat, b15 = σ8.1.length + 1 → (∀ σ12 : r_S, σ12 = r_push σ8 (.inr (0, 301)) → (∀ σ19 : r_S, σ19 = r_ur σ12 a0 1 b15 → (∀ b26 : Nat, b26 = σ19.1.length + 1 → (∀ σ23 : r_S, σ23 = r_push σ19 (.inr (0, 301)) → (∀ σ30 : r_S, σ30 = r_ur σ23 a0 2 b26 → (∀ b37 : Nat, b37 = σ30.1.length + 1 → (∀ σ34 : r_S, σ34 = r_push σ30 (.inr (2, 301)) → (∀ σ41 : r_S, σ41 = r_ur σ34 a0 3 b37 → (∀ σ45 : r_S, σ45 = r_ui σ41 a0 4 0 → (∀ b52 : Nat, b52 = σ45.1.length + 1 → (∀ σ49 : r_S, σ49 = r_push σ45 (.inr (0, 36)) → (∀ σ56 : r_S, σ56 = r_ur σ49 a0 5 b52 → (∀ b63 : Nat, b63 = σ56.1.length + 1 → (∀ σ60 : r_S, σ60 = r_push σ56 (.inr (0, 36)) → (∀ σ67 : r_S, σ67 = r_ur σ60 a0 6 b63 → (Q σ67))))))))))))))))))))) :
    r_W X w B 1 0 0 (r_Z X w B tX4_init (r_QN σ0 Q)) 0 [(0, Value.ref (B + a0))] [] σ := by
  refine r_aload_n C dX4_init_0 rfl (j := 0) rfl ?_
  refine r_objInit C E kl_X4_3 ki_obj kk_obj dX4_init_1 (Nat.le_of_ble_eq_true rfl) (Nat.le_of_ble_eq_true rfl) ?_
  refine r_aload_n C dX4_init_4 rfl (j := 0) rfl ?_
  refine r_sipush (v := 301) C dX4_init_5 (by decide) ?_
  refine r_newa C E (ti := 0) ⟨rfl, fun _ => rfl⟩ rfl ka_int (n := 301) (by decide) (by decide) (by decide) rfl (Nat.le_of_ble_eq_true rfl) (Nat.le_of_ble_eq_true rfl) dX4_init_8 ?_
  refine r_wid (c2 := 1) (s2 := 301) (by first | exact Nat.le_refl _ | (simp; done) | omega) (by first | exact Nat.le_refl _ | (simp; done) | omega) ?_
  refine r_topa (fun b4 e5 => ?_)
  have h := h b4 e5
  refine r_nam (fun σ1 e2 => ?_)
  have h := h σ1 e2
  have s3 : r_Ex σ σ1 := (r_Ex.of_eq rfl : r_Ex σ σ).trans (by rw [e2]; exact r_Ex.push)
  have g6 : r_at σ1 b4 = some (.inr (0, 301)) := by rw [e2, e5]; exact r_at_new
  obtain ⟨g7, h⟩ := h
  refine r_putFR C E rfl g7 fa_X4_9 rfl rfl (r_atN g6) dX4_init_10 ?_
  refine r_nam (fun σ8 e9 => ?_)
  have h := h σ8 e9
  have s10 : r_Ex σ σ8 := s3.trans (r_Ex.of_eq (by rw [e9]; rfl))
  have g11 : r_at σ8 a0 = some (.inl 4) := by rw [e9]; exact g7
  refine r_aload_n C dX4_init_13 rfl (j := 0) rfl ?_
  refine r_sipush (v := 301) C dX4_init_14 (by decide) ?_
  refine r_newa C E (ti := 0) ⟨rfl, fun _ => rfl⟩ rfl ka_int (n := 301) (by decide) (by decide) (by decide) rfl (Nat.le_of_ble_eq_true rfl) (Nat.le_of_ble_eq_true rfl) dX4_init_17 ?_
  refine r_wid (c2 := 2) (s2 := 602) (by first | exact Nat.le_refl _ | (simp; done) | omega) (by first | exact Nat.le_refl _ | (simp; done) | omega) ?_
  refine r_topa (fun b15 e16 => ?_)
  have h := h b15 e16
  refine r_nam (fun σ12 e13 => ?_)
  have h := h σ12 e13
  have s14 : r_Ex σ σ12 := s10.trans (by rw [e13]; exact r_Ex.push)
  have g17 : r_at σ12 a0 = some (.inl 4) := by rw [e13]; exact r_at_ext r_Ex.push g11
  have g18 : r_at σ12 b15 = some (.inr (0, 301)) := by rw [e13, e16]; exact r_at_new
  refine r_putFR C E rfl g17 fa_X4_15 rfl rfl (r_atN g18) dX4_init_19 ?_
  refine r_nam (fun σ19 e20 => ?_)
  have h := h σ19 e20
  have s21 : r_Ex σ σ19 := s14.trans (r_Ex.of_eq (by rw [e20]; rfl))
  have g22 : r_at σ19 a0 = some (.inl 4) := by rw [e20]; exact g17
  refine r_aload_n C dX4_init_22 rfl (j := 0) rfl ?_
  refine r_sipush (v := 301) C dX4_init_23 (by decide) ?_
  refine r_newa C E (ti := 0) ⟨rfl, fun _ => rfl⟩ rfl ka_int (n := 301) (by decide) (by decide) (by decide) rfl (Nat.le_of_ble_eq_true rfl) (Nat.le_of_ble_eq_true rfl) dX4_init_26 ?_
  refine r_wid (c2 := 3) (s2 := 903) (by first | exact Nat.le_refl _ | (simp; done) | omega) (by first | exact Nat.le_refl _ | (simp; done) | omega) ?_
  refine r_topa (fun b26 e27 => ?_)
  have h := h b26 e27
  refine r_nam (fun σ23 e24 => ?_)
  have h := h σ23 e24
  have s25 : r_Ex σ σ23 := s21.trans (by rw [e24]; exact r_Ex.push)
  have g28 : r_at σ23 a0 = some (.inl 4) := by rw [e24]; exact r_at_ext r_Ex.push g22
  have g29 : r_at σ23 b26 = some (.inr (0, 301)) := by rw [e24, e27]; exact r_at_new
  refine r_putFR C E rfl g28 fa_X4_18 rfl rfl (r_atN g29) dX4_init_28 ?_
  refine r_nam (fun σ30 e31 => ?_)
  have h := h σ30 e31
  have s32 : r_Ex σ σ30 := s25.trans (r_Ex.of_eq (by rw [e31]; rfl))
  have g33 : r_at σ30 a0 = some (.inl 4) := by rw [e31]; exact g28
  refine r_aload_n C dX4_init_31 rfl (j := 0) rfl ?_
  refine r_sipush (v := 301) C dX4_init_32 (by decide) ?_
  refine r_newa C E (ti := 2) ⟨rfl, fun _ => rfl⟩ rfl ka_boolean (n := 301) (by decide) (by decide) (by decide) rfl (Nat.le_of_ble_eq_true rfl) (Nat.le_of_ble_eq_true rfl) dX4_init_35 ?_
  refine r_wid (c2 := 4) (s2 := 1204) (by first | exact Nat.le_refl _ | (simp; done) | omega) (by first | exact Nat.le_refl _ | (simp; done) | omega) ?_
  refine r_topa (fun b37 e38 => ?_)
  have h := h b37 e38
  refine r_nam (fun σ34 e35 => ?_)
  have h := h σ34 e35
  have s36 : r_Ex σ σ34 := s32.trans (by rw [e35]; exact r_Ex.push)
  have g39 : r_at σ34 a0 = some (.inl 4) := by rw [e35]; exact r_at_ext r_Ex.push g33
  have g40 : r_at σ34 b37 = some (.inr (2, 301)) := by rw [e35, e38]; exact r_at_new
  refine r_putFR C E rfl g39 fa_X4_21 rfl rfl (r_atN g40) dX4_init_37 ?_
  refine r_nam (fun σ41 e42 => ?_)
  have h := h σ41 e42
  have s43 : r_Ex σ σ41 := s36.trans (r_Ex.of_eq (by rw [e42]; rfl))
  have g44 : r_at σ41 a0 = some (.inl 4) := by rw [e42]; exact g39
  refine r_aload_n C dX4_init_40 rfl (j := 0) rfl ?_
  refine r_iconst (v := 0) C dX4_init_41 (by decide) ?_
  refine r_putI C g44 fa_X4_25 rfl rfl rfl dX4_init_42 ?_
  refine r_nam (fun σ45 e46 => ?_)
  have h := h σ45 e46
  have s47 : r_Ex σ σ45 := s43.trans (r_Ex.of_eq (by rw [e46]; rfl))
  have g48 : r_at σ45 a0 = some (.inl 4) := by rw [e46]; exact g44
  refine r_aload_n C dX4_init_45 rfl (j := 0) rfl ?_
  refine r_bipush (v := 36) C dX4_init_46 (by decide) ?_
  refine r_newa C E (ti := 0) ⟨rfl, fun _ => rfl⟩ rfl ka_int (n := 36) (by decide) (by decide) (by decide) rfl (Nat.le_of_ble_eq_true rfl) (Nat.le_of_ble_eq_true rfl) dX4_init_48 ?_
  refine r_wid (c2 := 5) (s2 := 1240) (by first | exact Nat.le_refl _ | (simp; done) | omega) (by first | exact Nat.le_refl _ | (simp; done) | omega) ?_
  refine r_topa (fun b52 e53 => ?_)
  have h := h b52 e53
  refine r_nam (fun σ49 e50 => ?_)
  have h := h σ49 e50
  have s51 : r_Ex σ σ49 := s47.trans (by rw [e50]; exact r_Ex.push)
  have g54 : r_at σ49 a0 = some (.inl 4) := by rw [e50]; exact r_at_ext r_Ex.push g48
  have g55 : r_at σ49 b52 = some (.inr (0, 36)) := by rw [e50, e53]; exact r_at_new
  refine r_putFR C E rfl g54 fa_X4_29 rfl rfl (r_atN g55) dX4_init_50 ?_
  refine r_nam (fun σ56 e57 => ?_)
  have h := h σ56 e57
  have s58 : r_Ex σ σ56 := s51.trans (r_Ex.of_eq (by rw [e57]; rfl))
  have g59 : r_at σ56 a0 = some (.inl 4) := by rw [e57]; exact g54
  refine r_aload_n C dX4_init_53 rfl (j := 0) rfl ?_
  refine r_bipush (v := 36) C dX4_init_54 (by decide) ?_
  refine r_newa C E (ti := 0) ⟨rfl, fun _ => rfl⟩ rfl ka_int (n := 36) (by decide) (by decide) (by decide) rfl (Nat.le_of_ble_eq_true rfl) (Nat.le_of_ble_eq_true rfl) dX4_init_56 ?_
  refine r_wid (c2 := 6) (s2 := 1276) (by first | exact Nat.le_refl _ | (simp; done) | omega) (by first | exact Nat.le_refl _ | (simp; done) | omega) ?_
  refine r_topa (fun b63 e64 => ?_)
  have h := h b63 e64
  refine r_nam (fun σ60 e61 => ?_)
  have h := h σ60 e61
  have s62 : r_Ex σ σ60 := s58.trans (by rw [e61]; exact r_Ex.push)
  have g65 : r_at σ60 a0 = some (.inl 4) := by rw [e61]; exact r_at_ext r_Ex.push g59
  have g66 : r_at σ60 b63 = some (.inr (0, 36)) := by rw [e61, e64]; exact r_at_new
  refine r_putFR C E rfl g65 fa_X4_32 rfl rfl (r_atN g66) dX4_init_58 ?_
  refine r_nam (fun σ67 e68 => ?_)
  have h := h σ67 e68
  have s69 : r_Ex σ σ67 := s62.trans (r_Ex.of_eq (by rw [e68]; rfl))
  have g70 : r_at σ67 a0 = some (.inl 4) := by rw [e68]; exact g65
  exact r_vretN C E rfl (Nat.le_of_ble_eq_true rfl) (Nat.le_of_ble_eq_true rfl) dX4_init_61 (hs.trans s69) h
theorem c_X2_init_0 {X : r_X} {w : r_V} {B : Nat} {l : Launch} {Q : r_S → Prop} {σ0 : r_S} (C : r_C X w B 2 cX2_init RX2) (E : r_E X l tX2_init) {σ : r_S} (hs : r_Ex σ0 σ) {a0 : Nat} {x1 : Int32}
    (h : r_at σ a0 = some (.inl 2) ∧ (∀ σ2 : r_S, σ2 = r_ui σ a0 0 0 → (∀ σ6 : r_S, σ6 = r_ui σ2 a0 1 0 → (∀ σ10 : r_S, σ10 = r_ui σ6 a0 2 0 → (∀ σ14 : r_S, σ14 = r_ui σ10 a0 3 0 → (∀ b21 : Nat, b21 = σ14.1.length + 1 → (∀ σ18 : r_S, σ18 = r_push σ14 (.inl 5) → (∃ Q25 : r_S → Prop, r_M l w B tX5_init [Value.ref (B + b21), Value.int 4] σ18 (r_QN σ18 Q25) ∧ (∀ σ27 : r_S, Q25 σ27 → (∀ σ33 : r_S, σ33 = r_ur σ27 a0 4 b21 → (∃ n37, n37 ≤ 6 ∧ (x1 = nI n37 ∧ (∀ b43 : Nat, b43 = σ33.1.length + 1 → (∀ σ40 : r_S, σ40 = r_push σ33 (.inr (1, n37)) → (∀ σ47 : r_S, σ47 = r_ur σ40 a0 5 b43 → (Q σ47)))))))))))))))) :
    r_W X w B 2 0 0 (r_Z X w B tX2_init (r_QN σ0 Q)) 0 [(0, Value.ref (B + a0)), (1, Value.int x1)] [] σ := by
  refine r_aload_n C dX2_init_0 rfl (j := 0) rfl ?_
  refine r_objInit C E kl_X2_3 ki_obj kk_obj dX2_init_1 (Nat.le_of_ble_eq_true rfl) (Nat.le_of_ble_eq_true rfl) ?_
  refine r_aload_n C dX2_init_4 rfl (j := 0) rfl ?_
  refine r_iconst (v := 0) C dX2_init_5 (by decide) ?_
  obtain ⟨g1, h⟩ := h
  refine r_putI C g1 fa_X2_9 rfl rfl rfl dX2_init_6 ?_
  refine r_nam (fun σ2 e3 => ?_)
  have h := h σ2 e3
  have s4 : r_Ex σ σ2 := (r_Ex.of_eq rfl : r_Ex σ σ).trans (r_Ex.of_eq (by rw [e3]; rfl))
  have g5 : r_at σ2 a0 = some (.inl 2) := by rw [e3]; exact g1
  refine r_aload_n C dX2_init_9 rfl (j := 0) rfl ?_
  refine r_iconst (v := 0) C dX2_init_10 (by decide) ?_
  refine r_putI C g5 fa_X2_15 rfl rfl rfl dX2_init_11 ?_
  refine r_nam (fun σ6 e7 => ?_)
  have h := h σ6 e7
  have s8 : r_Ex σ σ6 := s4.trans (r_Ex.of_eq (by rw [e7]; rfl))
  have g9 : r_at σ6 a0 = some (.inl 2) := by rw [e7]; exact g5
  refine r_aload_n C dX2_init_14 rfl (j := 0) rfl ?_
  refine r_iconst (v := 0) C dX2_init_15 (by decide) ?_
  refine r_putI C g9 fa_X2_18 rfl rfl rfl dX2_init_16 ?_
  refine r_nam (fun σ10 e11 => ?_)
  have h := h σ10 e11
  have s12 : r_Ex σ σ10 := s8.trans (r_Ex.of_eq (by rw [e11]; rfl))
  have g13 : r_at σ10 a0 = some (.inl 2) := by rw [e11]; exact g9
  refine r_aload_n C dX2_init_19 rfl (j := 0) rfl ?_
  refine r_iconst (v := 0) C dX2_init_20 (by decide) ?_
  refine r_putI C g13 fa_X2_21 rfl rfl rfl dX2_init_21 ?_
  refine r_nam (fun σ14 e15 => ?_)
  have h := h σ14 e15
  have s16 : r_Ex σ σ14 := s12.trans (r_Ex.of_eq (by rw [e15]; rfl))
  have g17 : r_at σ14 a0 = some (.inl 2) := by rw [e15]; exact g13
  refine r_aload_n C dX2_init_24 rfl (j := 0) rfl ?_
  refine r_new C E cl_X5 (by decide) kc_X2_24 kt_X5 kn_X5 (Nat.le_of_ble_eq_true rfl) (Nat.le_of_ble_eq_true rfl) dX2_init_25 ?_
  refine r_wid (c2 := 1) (s2 := 2) (by first | exact Nat.le_refl _ | (simp; done) | omega) (by first | exact Nat.le_refl _ | (simp; done) | omega) ?_
  refine r_topa (fun b21 e22 => ?_)
  have h := h b21 e22
  refine r_nam (fun σ18 e19 => ?_)
  have h := h σ18 e19
  have s20 : r_Ex σ σ18 := s16.trans (by rw [e19]; exact r_Ex.push)
  have g23 : r_at σ18 a0 = some (.inl 2) := by rw [e19]; exact r_at_ext r_Ex.push g17
  have g24 : r_at σ18 b21 = some (.inl 5) := by rw [e19, e22]; exact r_at_new
  refine r_dup C dX2_init_28 rfl ?_
  refine r_iconst (v := 4) C dX2_init_29 (by decide) ?_
  obtain ⟨Q25, m26, h⟩ := h
  refine r_callN (rest := [Value.ref (B + b21), Value.ref (B + a0)]) C E [Value.int 4] ky_X5_init rfl rfl kl_X2_26 ki_X5_init ⟨Nat.le_of_ble_eq_true rfl, Nat.le_of_ble_eq_true rfl⟩ m26 rfl rfl (Nat.le_of_ble_eq_true rfl) (Nat.le_of_ble_eq_true rfl) (Nat.le_of_ble_eq_true rfl) dX2_init_30 (fun σ27 s28 q29 => ?_)
  refine r_wid (c2 := 2) (s2 := 12) (by first | exact Nat.le_refl _ | (simp; done) | omega) (by first | exact Nat.le_refl _ | (simp; done) | omega) ?_
  have h := h σ27 q29
  have g30 : r_at σ27 a0 = some (.inl 2) := r_at_ext s28 g23
  have g31 : r_at σ27 b21 = some (.inl 5) := r_at_ext s28 g24
  have s32 := s20.trans s28
  refine r_putFR C E rfl g30 fa_X2_29 rfl rfl (r_atN g31) dX2_init_33 ?_
  refine r_nam (fun σ33 e34 => ?_)
  have h := h σ33 e34
  have s35 : r_Ex σ σ33 := s32.trans (r_Ex.of_eq (by rw [e34]; rfl))
  have g36 : r_at σ33 a0 = some (.inl 2) := by rw [e34]; exact g30
  refine r_aload_n C dX2_init_36 rfl (j := 0) rfl ?_
  refine r_iload_n C dX2_init_37 rfl (j := 1) rfl ?_
  obtain ⟨n37, g38, g39, h⟩ := h
  rw [g39]
  refine r_newa C E (ti := 1) (ty := .long) ⟨rfl, fun _ => rfl⟩ rfl ka_long (n := n37) (nI_pos (by omega)) (nI_clamp (by omega)) (by show n37 * 8 ≤ 536870912; omega) rfl (Nat.le_of_ble_eq_true rfl) (Nat.le_trans (Nat.add_le_add_left g38 _) (Nat.le_of_ble_eq_true rfl)) dX2_init_38 ?_
  refine r_wid (c2 := 3) (s2 := 18) (by first | exact Nat.le_refl _ | omega) (Nat.add_le_add_left g38 _) ?_
  refine r_topa (fun b43 e44 => ?_)
  have h := h b43 e44
  refine r_nam (fun σ40 e41 => ?_)
  have h := h σ40 e41
  have s42 : r_Ex σ σ40 := s35.trans (by rw [e41]; exact r_Ex.push)
  have g45 : r_at σ40 a0 = some (.inl 2) := by rw [e41]; exact r_at_ext r_Ex.push g36
  have g46 : r_at σ40 b43 = some (.inr (1, n37)) := by rw [e41, e44]; exact r_at_new
  refine r_putFR C E rfl g45 fa_X2_33 rfl rfl (r_atN g46) dX2_init_40 ?_
  refine r_nam (fun σ47 e48 => ?_)
  have h := h σ47 e48
  have s49 : r_Ex σ σ47 := s42.trans (r_Ex.of_eq (by rw [e48]; rfl))
  have g50 : r_at σ47 a0 = some (.inl 2) := by rw [e48]; exact g45
  exact r_vretN C E rfl (Nat.le_of_ble_eq_true rfl) (Nat.le_of_ble_eq_true rfl) dX2_init_43 (hs.trans s49) h
theorem c_X6_init_0 {X : r_X} {w : r_V} {B : Nat} {l : Launch} {Q : r_S → Prop} {σ0 : r_S} (C : r_C X w B 3 cX6_init RX6) (E : r_E X l tX6_init) {σ : r_S} (hs : r_Ex σ0 σ) {a0 : Nat} {x1 x2 : Int32}
    (h : r_at σ a0 = some (.inl 6) ∧ (∀ σ2 : r_S, σ2 = r_ui σ a0 3 3 → (∀ σ6 : r_S, σ6 = r_ui σ2 a0 4 0 → (∀ σ10 : r_S, σ10 = r_ui σ6 a0 5 0 → (∀ σ14 : r_S, σ14 = r_ui σ10 a0 6 0 → (∀ σ18 : r_S, σ18 = r_ui σ14 a0 7 3 → (∀ σ22 : r_S, σ22 = r_ul σ18 a0 8 0 → (∀ σ26 : r_S, σ26 = r_ui σ22 a0 9 0 → (∀ σ30 : r_S, σ30 = r_ui σ26 a0 10 0 → (∀ σ34 : r_S, σ34 = r_ul σ30 a0 11 0 → (∀ σ38 : r_S, σ38 = r_ul σ34 a0 12 0 → (∀ b45 : Nat, b45 = σ38.1.length + 1 → (∀ σ42 : r_S, σ42 = r_push σ38 (.inl 5) → (∃ Q49 : r_S → Prop, r_M l w B tX5_init [Value.ref (B + b45), Value.int 10] σ42 (r_QN σ42 Q49) ∧ (∀ σ51 : r_S, Q49 σ51 → (∀ σ57 : r_S, σ57 = r_ur σ51 a0 15 b45 → (∀ b64 : Nat, b64 = σ57.1.length + 1 → (∀ σ61 : r_S, σ61 = r_push σ57 (.inl 5) → (∃ Q68 : r_S → Prop, r_M l w B tX5_init [Value.ref (B + b64), Value.int 4] σ61 (r_QN σ61 Q68) ∧ (∀ σ70 : r_S, Q68 σ70 → (∀ σ76 : r_S, σ76 = r_ur σ70 a0 16 b64 → (∀ b83 : Nat, b83 = σ76.1.length + 1 → (∀ σ80 : r_S, σ80 = r_push σ76 (.inr (0, 5)) → (∀ σ87 : r_S, σ87 = r_ur σ80 a0 17 b83 → (∀ σ91 : r_S, σ91 = r_ui σ87 a0 18 0 → (∀ σ95 : r_S, σ95 = r_ul σ91 a0 19 (-1) → (∀ σ99 : r_S, σ99 = r_ui σ95 a0 0 x1 → (∀ σ103 : r_S, σ103 = r_ui σ99 a0 1 ((1 : Int32) <<< (x1 &&& 31)) → (∀ σ107 : r_S, σ107 = r_ui σ103 a0 2 ((((1 : Int32) <<< (x2 &&& 31)) - 1) ^^^ (r_gi σ103 a0 1)) → (∀ b114 : Nat, b114 = σ107.1.length + 1 → (∀ σ111 : r_S, σ111 = r_push σ107 (.inl 2) → (∃ Q118 : r_S → Prop, r_M l w B tX2_init [Value.ref (B + b114), Value.int x2] σ111 (r_QN σ111 Q118) ∧ (∀ σ120 : r_S, Q118 σ120 → (∀ σ126 : r_S, σ126 = r_ur σ120 a0 13 b114 → (∀ b133 : Nat, b133 = σ126.1.length + 1 → (∀ σ130 : r_S, σ130 = r_push σ126 (.inl 2) → (∃ Q137 : r_S → Prop, r_M l w B tX2_init [Value.ref (B + b133), Value.int x2] σ130 (r_QN σ130 Q137) ∧ (∀ σ139 : r_S, Q137 σ139 → (∀ σ145 : r_S, σ145 = r_ur σ139 a0 14 b133 → (Q σ145)))))))))))))))))))))))))))))))))))))))) :
    r_W X w B 3 0 0 (r_Z X w B tX6_init (r_QN σ0 Q)) 0 [(0, Value.ref (B + a0)), (1, Value.int x1), (2, Value.int x2)] [] σ := by
  refine r_aload_n C dX6_init_0 rfl (j := 0) rfl ?_
  refine r_objInit C E kl_X6_3 ki_obj kk_obj dX6_init_1 (Nat.le_of_ble_eq_true rfl) (Nat.le_of_ble_eq_true rfl) ?_
  refine r_aload_n C dX6_init_4 rfl (j := 0) rfl ?_
  refine r_iconst (v := 3) C dX6_init_5 (by decide) ?_
  obtain ⟨g1, h⟩ := h
  refine r_putI C g1 fa_X6_9 rfl rfl rfl dX6_init_6 ?_
  refine r_nam (fun σ2 e3 => ?_)
  have h := h σ2 e3
  have s4 : r_Ex σ σ2 := (r_Ex.of_eq rfl : r_Ex σ σ).trans (r_Ex.of_eq (by rw [e3]; rfl))
  have g5 : r_at σ2 a0 = some (.inl 6) := by rw [e3]; exact g1
  refine r_aload_n C dX6_init_9 rfl (j := 0) rfl ?_
  refine r_iconst (v := 0) C dX6_init_10 (by decide) ?_
  refine r_putI C g5 fa_X6_15 rfl rfl rfl dX6_init_11 ?_
  refine r_nam (fun σ6 e7 => ?_)
  have h := h σ6 e7
  have s8 : r_Ex σ σ6 := s4.trans (r_Ex.of_eq (by rw [e7]; rfl))
  have g9 : r_at σ6 a0 = some (.inl 6) := by rw [e7]; exact g5
  refine r_aload_n C dX6_init_14 rfl (j := 0) rfl ?_
  refine r_iconst (v := 0) C dX6_init_15 (by decide) ?_
  refine r_putI C g9 fa_X6_18 rfl rfl rfl dX6_init_16 ?_
  refine r_nam (fun σ10 e11 => ?_)
  have h := h σ10 e11
  have s12 : r_Ex σ σ10 := s8.trans (r_Ex.of_eq (by rw [e11]; rfl))
  have g13 : r_at σ10 a0 = some (.inl 6) := by rw [e11]; exact g9
  refine r_aload_n C dX6_init_19 rfl (j := 0) rfl ?_
  refine r_iconst (v := 0) C dX6_init_20 (by decide) ?_
  refine r_putI C g13 fa_X6_21 rfl rfl rfl dX6_init_21 ?_
  refine r_nam (fun σ14 e15 => ?_)
  have h := h σ14 e15
  have s16 : r_Ex σ σ14 := s12.trans (r_Ex.of_eq (by rw [e15]; rfl))
  have g17 : r_at σ14 a0 = some (.inl 6) := by rw [e15]; exact g13
  refine r_aload_n C dX6_init_24 rfl (j := 0) rfl ?_
  refine r_iconst (v := 3) C dX6_init_25 (by decide) ?_
  refine r_putI C g17 fa_X6_24 rfl rfl rfl dX6_init_26 ?_
  refine r_nam (fun σ18 e19 => ?_)
  have h := h σ18 e19
  have s20 : r_Ex σ σ18 := s16.trans (r_Ex.of_eq (by rw [e19]; rfl))
  have g21 : r_at σ18 a0 = some (.inl 6) := by rw [e19]; exact g17
  refine r_aload_n C dX6_init_29 rfl (j := 0) rfl ?_
  refine r_lconst (v := 0) C dX6_init_30 (by decide) ?_
  refine r_putL C g21 fa_X6_27 rfl dX6_init_31 ?_
  refine r_nam (fun σ22 e23 => ?_)
  have h := h σ22 e23
  have s24 : r_Ex σ σ22 := s20.trans (r_Ex.of_eq (by rw [e23]; rfl))
  have g25 : r_at σ22 a0 = some (.inl 6) := by rw [e23]; exact g21
  refine r_aload_n C dX6_init_34 rfl (j := 0) rfl ?_
  refine r_iconst (v := 0) C dX6_init_35 (by decide) ?_
  refine r_putI C g25 fa_X6_31 rfl rfl rfl dX6_init_36 ?_
  refine r_nam (fun σ26 e27 => ?_)
  have h := h σ26 e27
  have s28 : r_Ex σ σ26 := s24.trans (r_Ex.of_eq (by rw [e27]; rfl))
  have g29 : r_at σ26 a0 = some (.inl 6) := by rw [e27]; exact g25
  refine r_aload_n C dX6_init_39 rfl (j := 0) rfl ?_
  refine r_iconst (v := 0) C dX6_init_40 (by decide) ?_
  refine r_putI C g29 fa_X6_34 rfl rfl rfl dX6_init_41 ?_
  refine r_nam (fun σ30 e31 => ?_)
  have h := h σ30 e31
  have s32 : r_Ex σ σ30 := s28.trans (r_Ex.of_eq (by rw [e31]; rfl))
  have g33 : r_at σ30 a0 = some (.inl 6) := by rw [e31]; exact g29
  refine r_aload_n C dX6_init_44 rfl (j := 0) rfl ?_
  refine r_lconst (v := 0) C dX6_init_45 (by decide) ?_
  refine r_putL C g33 fa_X6_37 rfl dX6_init_46 ?_
  refine r_nam (fun σ34 e35 => ?_)
  have h := h σ34 e35
  have s36 : r_Ex σ σ34 := s32.trans (r_Ex.of_eq (by rw [e35]; rfl))
  have g37 : r_at σ34 a0 = some (.inl 6) := by rw [e35]; exact g33
  refine r_aload_n C dX6_init_49 rfl (j := 0) rfl ?_
  refine r_lconst (v := 0) C dX6_init_50 (by decide) ?_
  refine r_putL C g37 fa_X6_40 rfl dX6_init_51 ?_
  refine r_nam (fun σ38 e39 => ?_)
  have h := h σ38 e39
  have s40 : r_Ex σ σ38 := s36.trans (r_Ex.of_eq (by rw [e39]; rfl))
  have g41 : r_at σ38 a0 = some (.inl 6) := by rw [e39]; exact g37
  refine r_aload_n C dX6_init_54 rfl (j := 0) rfl ?_
  refine r_new C E cl_X5 (by decide) kc_X6_43 kt_X5 kn_X5 (Nat.le_of_ble_eq_true rfl) (Nat.le_of_ble_eq_true rfl) dX6_init_55 ?_
  refine r_wid (c2 := 1) (s2 := 2) (by first | exact Nat.le_refl _ | (simp; done) | omega) (by first | exact Nat.le_refl _ | (simp; done) | omega) ?_
  refine r_topa (fun b45 e46 => ?_)
  have h := h b45 e46
  refine r_nam (fun σ42 e43 => ?_)
  have h := h σ42 e43
  have s44 : r_Ex σ σ42 := s40.trans (by rw [e43]; exact r_Ex.push)
  have g47 : r_at σ42 a0 = some (.inl 6) := by rw [e43]; exact r_at_ext r_Ex.push g41
  have g48 : r_at σ42 b45 = some (.inl 5) := by rw [e43, e46]; exact r_at_new
  refine r_dup C dX6_init_58 rfl ?_
  refine r_bipush (v := 10) C dX6_init_59 (by decide) ?_
  obtain ⟨Q49, m50, h⟩ := h
  refine r_callN (rest := [Value.ref (B + b45), Value.ref (B + a0)]) C E [Value.int 10] ky_X5_init rfl rfl kl_X6_45 ki_X5_init ⟨Nat.le_of_ble_eq_true rfl, Nat.le_of_ble_eq_true rfl⟩ m50 rfl rfl (Nat.le_of_ble_eq_true rfl) (Nat.le_of_ble_eq_true rfl) (Nat.le_of_ble_eq_true rfl) dX6_init_61 (fun σ51 s52 q53 => ?_)
  refine r_wid (c2 := 2) (s2 := 12) (by first | exact Nat.le_refl _ | (simp; done) | omega) (by first | exact Nat.le_refl _ | (simp; done) | omega) ?_
  have h := h σ51 q53
  have g54 : r_at σ51 a0 = some (.inl 6) := r_at_ext s52 g47
  have g55 : r_at σ51 b45 = some (.inl 5) := r_at_ext s52 g48
  have s56 := s44.trans s52
  refine r_putFR C E rfl g54 fa_X6_48 rfl rfl (r_atN g55) dX6_init_64 ?_
  refine r_nam (fun σ57 e58 => ?_)
  have h := h σ57 e58
  have s59 : r_Ex σ σ57 := s56.trans (r_Ex.of_eq (by rw [e58]; rfl))
  have g60 : r_at σ57 a0 = some (.inl 6) := by rw [e58]; exact g54
  refine r_aload_n C dX6_init_67 rfl (j := 0) rfl ?_
  refine r_new C E cl_X5 (by decide) kc_X6_43 kt_X5 kn_X5 (Nat.le_of_ble_eq_true rfl) (Nat.le_of_ble_eq_true rfl) dX6_init_68 ?_
  refine r_wid (c2 := 3) (s2 := 14) (by first | exact Nat.le_refl _ | (simp; done) | omega) (by first | exact Nat.le_refl _ | (simp; done) | omega) ?_
  refine r_topa (fun b64 e65 => ?_)
  have h := h b64 e65
  refine r_nam (fun σ61 e62 => ?_)
  have h := h σ61 e62
  have s63 : r_Ex σ σ61 := s59.trans (by rw [e62]; exact r_Ex.push)
  have g66 : r_at σ61 a0 = some (.inl 6) := by rw [e62]; exact r_at_ext r_Ex.push g60
  have g67 : r_at σ61 b64 = some (.inl 5) := by rw [e62, e65]; exact r_at_new
  refine r_dup C dX6_init_71 rfl ?_
  refine r_iconst (v := 4) C dX6_init_72 (by decide) ?_
  obtain ⟨Q68, m69, h⟩ := h
  refine r_callN (rest := [Value.ref (B + b64), Value.ref (B + a0)]) C E [Value.int 4] ky_X5_init rfl rfl kl_X6_45 ki_X5_init ⟨Nat.le_of_ble_eq_true rfl, Nat.le_of_ble_eq_true rfl⟩ m69 rfl rfl (Nat.le_of_ble_eq_true rfl) (Nat.le_of_ble_eq_true rfl) (Nat.le_of_ble_eq_true rfl) dX6_init_73 (fun σ70 s71 q72 => ?_)
  refine r_wid (c2 := 4) (s2 := 24) (by first | exact Nat.le_refl _ | (simp; done) | omega) (by first | exact Nat.le_refl _ | (simp; done) | omega) ?_
  have h := h σ70 q72
  have g73 : r_at σ70 a0 = some (.inl 6) := r_at_ext s71 g66
  have g74 : r_at σ70 b64 = some (.inl 5) := r_at_ext s71 g67
  have s75 := s63.trans s71
  refine r_putFR C E rfl g73 fa_X6_52 rfl rfl (r_atN g74) dX6_init_76 ?_
  refine r_nam (fun σ76 e77 => ?_)
  have h := h σ76 e77
  have s78 : r_Ex σ σ76 := s75.trans (r_Ex.of_eq (by rw [e77]; rfl))
  have g79 : r_at σ76 a0 = some (.inl 6) := by rw [e77]; exact g73
  refine r_aload_n C dX6_init_79 rfl (j := 0) rfl ?_
  refine r_iconst (v := 5) C dX6_init_80 (by decide) ?_
  refine r_newa C E (ti := 0) ⟨rfl, fun _ => rfl⟩ rfl ka_int (n := 5) (by decide) (by decide) (by decide) rfl (Nat.le_of_ble_eq_true rfl) (Nat.le_of_ble_eq_true rfl) dX6_init_81 ?_
  refine r_wid (c2 := 5) (s2 := 29) (by first | exact Nat.le_refl _ | (simp; done) | omega) (by first | exact Nat.le_refl _ | (simp; done) | omega) ?_
  refine r_topa (fun b83 e84 => ?_)
  have h := h b83 e84
  refine r_nam (fun σ80 e81 => ?_)
  have h := h σ80 e81
  have s82 : r_Ex σ σ80 := s78.trans (by rw [e81]; exact r_Ex.push)
  have g85 : r_at σ80 a0 = some (.inl 6) := by rw [e81]; exact r_at_ext r_Ex.push g79
  have g86 : r_at σ80 b83 = some (.inr (0, 5)) := by rw [e81, e84]; exact r_at_new
  refine r_putFR C E rfl g85 fa_X6_55 rfl rfl (r_atN g86) dX6_init_83 ?_
  refine r_nam (fun σ87 e88 => ?_)
  have h := h σ87 e88
  have s89 : r_Ex σ σ87 := s82.trans (r_Ex.of_eq (by rw [e88]; rfl))
  have g90 : r_at σ87 a0 = some (.inl 6) := by rw [e88]; exact g85
  refine r_aload_n C dX6_init_86 rfl (j := 0) rfl ?_
  refine r_iconst (v := 0) C dX6_init_87 (by decide) ?_
  refine r_putI C g90 fa_X6_59 rfl rfl rfl dX6_init_88 ?_
  refine r_nam (fun σ91 e92 => ?_)
  have h := h σ91 e92
  have s93 : r_Ex σ σ91 := s89.trans (r_Ex.of_eq (by rw [e92]; rfl))
  have g94 : r_at σ91 a0 = some (.inl 6) := by rw [e92]; exact g90
  refine r_aload_n C dX6_init_91 rfl (j := 0) rfl ?_
  refine r_ldc2 (v := (-1)) C kj_X6_63 dX6_init_92 ?_
  refine r_putL C g94 fa_X6_65 rfl dX6_init_95 ?_
  refine r_nam (fun σ95 e96 => ?_)
  have h := h σ95 e96
  have s97 : r_Ex σ σ95 := s93.trans (r_Ex.of_eq (by rw [e96]; rfl))
  have g98 : r_at σ95 a0 = some (.inl 6) := by rw [e96]; exact g94
  refine r_aload_n C dX6_init_98 rfl (j := 0) rfl ?_
  refine r_iload_n C dX6_init_99 rfl (j := 1) rfl ?_
  refine r_putFI C E rfl g98 fa_X6_68 rfl rfl rfl rfl dX6_init_100 ?_
  refine r_nam (fun σ99 e100 => ?_)
  have h := h σ99 e100
  have s101 : r_Ex σ σ99 := s97.trans (r_Ex.of_eq (by rw [e100]; rfl))
  have g102 : r_at σ99 a0 = some (.inl 6) := by rw [e100]; exact g98
  refine r_aload_n C dX6_init_103 rfl (j := 0) rfl ?_
  refine r_iconst (v := 1) C dX6_init_104 (by decide) ?_
  refine r_iload_n C dX6_init_105 rfl (j := 1) rfl ?_
  refine r_ishl C dX6_init_106 ?_
  refine r_putFI C E rfl g102 fa_X6_71 rfl rfl rfl rfl dX6_init_107 ?_
  refine r_nam (fun σ103 e104 => ?_)
  have h := h σ103 e104
  have s105 : r_Ex σ σ103 := s101.trans (r_Ex.of_eq (by rw [e104]; rfl))
  have g106 : r_at σ103 a0 = some (.inl 6) := by rw [e104]; exact g102
  refine r_aload_n C dX6_init_110 rfl (j := 0) rfl ?_
  refine r_iconst (v := 1) C dX6_init_111 (by decide) ?_
  refine r_iload_n C dX6_init_112 rfl (j := 2) rfl ?_
  refine r_ishl C dX6_init_113 ?_
  refine r_iconst (v := 1) C dX6_init_114 (by decide) ?_
  refine r_isub C dX6_init_115 ?_
  refine r_aload_n C dX6_init_116 rfl (j := 0) rfl ?_
  refine r_get (v := .int (r_gi σ103 a0 1)) C g106 fa_X6_71 rfl dX6_init_117 ?_
  refine r_ixor C dX6_init_120 ?_
  refine r_putI C g106 fa_X6_74 rfl rfl rfl dX6_init_121 ?_
  refine r_nam (fun σ107 e108 => ?_)
  have h := h σ107 e108
  have s109 : r_Ex σ σ107 := s105.trans (r_Ex.of_eq (by rw [e108]; rfl))
  have g110 : r_at σ107 a0 = some (.inl 6) := by rw [e108]; exact g106
  refine r_aload_n C dX6_init_124 rfl (j := 0) rfl ?_
  refine r_new C E cl_X2 (by decide) kc_X6_77 kt_X2 kn_X2 (Nat.le_of_ble_eq_true rfl) (Nat.le_of_ble_eq_true rfl) dX6_init_125 ?_
  refine r_wid (c2 := 6) (s2 := 35) (by first | exact Nat.le_refl _ | (simp; done) | omega) (by first | exact Nat.le_refl _ | (simp; done) | omega) ?_
  refine r_topa (fun b114 e115 => ?_)
  have h := h b114 e115
  refine r_nam (fun σ111 e112 => ?_)
  have h := h σ111 e112
  have s113 : r_Ex σ σ111 := s109.trans (by rw [e112]; exact r_Ex.push)
  have g116 : r_at σ111 a0 = some (.inl 6) := by rw [e112]; exact r_at_ext r_Ex.push g110
  have g117 : r_at σ111 b114 = some (.inl 2) := by rw [e112, e115]; exact r_at_new
  refine r_dup C dX6_init_128 rfl ?_
  refine r_iload_n C dX6_init_129 rfl (j := 2) rfl ?_
  obtain ⟨Q118, m119, h⟩ := h
  refine r_callN (rest := [Value.ref (B + b114), Value.ref (B + a0)]) C E [Value.int x2] ky_X2_init rfl rfl kl_X6_79 ki_X2_init ⟨Nat.le_of_ble_eq_true rfl, Nat.le_of_ble_eq_true rfl⟩ m119 rfl rfl (Nat.le_of_ble_eq_true rfl) (Nat.le_of_ble_eq_true rfl) (Nat.le_of_ble_eq_true rfl) dX6_init_130 (fun σ120 s121 q122 => ?_)
  refine r_wid (c2 := 9) (s2 := 53) (by first | exact Nat.le_refl _ | (simp; done) | omega) (by first | exact Nat.le_refl _ | (simp; done) | omega) ?_
  have h := h σ120 q122
  have g123 : r_at σ120 a0 = some (.inl 6) := r_at_ext s121 g116
  have g124 : r_at σ120 b114 = some (.inl 2) := r_at_ext s121 g117
  have s125 := s113.trans s121
  refine r_putR C g123 fa_X6_80 rfl (r_atN g124) dX6_init_133 ?_
  refine r_nam (fun σ126 e127 => ?_)
  have h := h σ126 e127
  have s128 : r_Ex σ σ126 := s125.trans (r_Ex.of_eq (by rw [e127]; rfl))
  have g129 : r_at σ126 a0 = some (.inl 6) := by rw [e127]; exact g123
  refine r_aload_n C dX6_init_136 rfl (j := 0) rfl ?_
  refine r_new C E cl_X2 (by decide) kc_X6_77 kt_X2 kn_X2 (Nat.le_of_ble_eq_true rfl) (Nat.le_of_ble_eq_true rfl) dX6_init_137 ?_
  refine r_wid (c2 := 10) (s2 := 59) (by first | exact Nat.le_refl _ | (simp; done) | omega) (by first | exact Nat.le_refl _ | (simp; done) | omega) ?_
  refine r_topa (fun b133 e134 => ?_)
  have h := h b133 e134
  refine r_nam (fun σ130 e131 => ?_)
  have h := h σ130 e131
  have s132 : r_Ex σ σ130 := s128.trans (by rw [e131]; exact r_Ex.push)
  have g135 : r_at σ130 a0 = some (.inl 6) := by rw [e131]; exact r_at_ext r_Ex.push g129
  have g136 : r_at σ130 b133 = some (.inl 2) := by rw [e131, e134]; exact r_at_new
  refine r_dup C dX6_init_140 rfl ?_
  refine r_iload_n C dX6_init_141 rfl (j := 2) rfl ?_
  obtain ⟨Q137, m138, h⟩ := h
  refine r_callN (rest := [Value.ref (B + b133), Value.ref (B + a0)]) C E [Value.int x2] ky_X2_init rfl rfl kl_X6_79 ki_X2_init ⟨Nat.le_of_ble_eq_true rfl, Nat.le_of_ble_eq_true rfl⟩ m138 rfl rfl (Nat.le_of_ble_eq_true rfl) (Nat.le_of_ble_eq_true rfl) (Nat.le_of_ble_eq_true rfl) dX6_init_142 (fun σ139 s140 q141 => ?_)
  refine r_wid (c2 := 13) (s2 := 77) (by first | exact Nat.le_refl _ | (simp; done) | omega) (by first | exact Nat.le_refl _ | (simp; done) | omega) ?_
  have h := h σ139 q141
  have g142 : r_at σ139 a0 = some (.inl 6) := r_at_ext s140 g135
  have g143 : r_at σ139 b133 = some (.inl 2) := r_at_ext s140 g136
  have s144 := s132.trans s140
  refine r_putR C g142 fa_X6_84 rfl (r_atN g143) dX6_init_145 ?_
  refine r_nam (fun σ145 e146 => ?_)
  have h := h σ145 e146
  have s147 : r_Ex σ σ145 := s144.trans (r_Ex.of_eq (by rw [e146]; rfl))
  have g148 : r_at σ145 a0 = some (.inl 6) := by rw [e146]; exact g142
  exact r_vretN C E rfl (Nat.le_of_ble_eq_true rfl) (Nat.le_of_ble_eq_true rfl) dX6_init_148 (hs.trans s147) h
theorem c_X7_init_0 {X : r_X} {w : r_V} {B : Nat} {l : Launch} {Q : r_S → Prop} {σ0 : r_S} (C : r_C X w B 4 cX7_init RX7) (E : r_E X l tX7_init) {σ : r_S} (hs : r_Ex σ0 σ) {a0 : Nat} {x1 : Int32}
    (h : ∀ b4 : Nat, b4 = σ.1.length + 1 → (∀ σ1 : r_S, σ1 = r_push σ (.inl 0) → (∃ Q7 : r_S → Prop, r_M l w B tX0_init [Value.ref (B + b4)] σ1 (r_QN σ1 Q7) ∧ (∀ σ9 : r_S, Q7 σ9 → (r_at σ9 a0 = some (.inl 7) ∧ (∀ σ15 : r_S, σ15 = r_ur σ9 a0 1 b4 → (∀ b22 : Nat, b22 = σ15.1.length + 1 → (∀ σ19 : r_S, σ19 = r_push σ15 (.inl 4) → (∃ Q26 : r_S → Prop, r_M l w B tX4_init [Value.ref (B + b22)] σ19 (r_QN σ19 Q26) ∧ (∀ σ28 : r_S, Q26 σ28 → (∀ σ34 : r_S, σ34 = r_ur σ28 a0 2 b22 → (∀ b41 : Nat, b41 = σ34.1.length + 1 → (∀ σ38 : r_S, σ38 = r_push σ34 (.inl 3) → (∃ Q45 : r_S → Prop, r_M l w B tX3_init [Value.ref (B + b41)] σ38 (r_QN σ38 Q45) ∧ (∀ σ47 : r_S, Q45 σ47 → (∀ σ53 : r_S, σ53 = r_ur σ47 a0 3 b41 → (∀ b60 : Nat, b60 = σ53.1.length + 1 → (∀ σ57 : r_S, σ57 = r_push σ53 (.inl 1) → (∃ Q64 : r_S → Prop, r_M l w B tX1_init [Value.ref (B + b60)] σ57 (r_QN σ57 Q64) ∧ (∀ σ66 : r_S, Q64 σ66 → (∀ σ72 : r_S, σ72 = r_ur σ66 a0 4 b60 → (∀ b79 : Nat, b79 = σ72.1.length + 1 → (∀ σ76 : r_S, σ76 = r_push σ72 (.inl 5) → (∃ Q83 : r_S → Prop, r_M l w B tX5_init [Value.ref (B + b79), Value.int 4] σ76 (r_QN σ76 Q83) ∧ (∀ σ85 : r_S, Q83 σ85 → (∀ σ91 : r_S, σ91 = r_ur σ85 a0 5 b79 → (∀ σ95 : r_S, σ95 = r_ui σ91 a0 6 20 → (∀ σ99 : r_S, σ99 = r_ul σ95 a0 7 0 → (∀ σ103 : r_S, σ103 = r_ui σ99 a0 8 0 → (∃ Q107 : Int32 → r_S → Prop, r_M l w B tJ9_min_7cf53 [Value.int 6, Value.int x1] σ103 (r_QI σ103 Q107) ∧ (∀ (z112 : Int32) (σ109 : r_S), Q107 z112 σ109 → (∃ Q115 : Int32 → r_S → Prop, r_M l w B tJ9_max_7cf53 [Value.int 2, Value.int z112] σ109 (r_QI σ109 Q115) ∧ (∀ (z120 : Int32) (σ117 : r_S), Q115 z120 σ117 → (∃ n123, n123 ≤ 6 ∧ (z120 = nI n123 ∧ (∀ b129 : Nat, b129 = σ117.1.length + 1 → (∀ σ126 : r_S, σ126 = r_push σ117 (.inr (3, n123)) → (∀ σ133 : r_S, σ133 = r_ur σ126 a0 0 b129 → (r_W X w B 4 20 3932 (r_Z X w B tX7_init (r_QN σ0 Q)) 97 [(0, Value.ref (B + a0)), (2, Value.int (nI n123)), (3, Value.int 0)] [] σ133))))))))))))))))))))))))))))))))))))))) :
    r_W X w B 4 0 0 (r_Z X w B tX7_init (r_QN σ0 Q)) 0 [(0, Value.ref (B + a0)), (1, Value.int x1)] [] σ := by
  refine r_aload_n C dX7_init_0 rfl (j := 0) rfl ?_
  refine r_objInit C E kl_X7_1 ki_obj kk_obj dX7_init_1 (Nat.le_of_ble_eq_true rfl) (Nat.le_of_ble_eq_true rfl) ?_
  refine r_aload_n C dX7_init_4 rfl (j := 0) rfl ?_
  refine r_new C E cl_X0 (by decide) kc_X7_7 kt_X0 kn_X0 (Nat.le_of_ble_eq_true rfl) (Nat.le_of_ble_eq_true rfl) dX7_init_5 ?_
  refine r_wid (c2 := 1) (s2 := 3) (by first | exact Nat.le_refl _ | (simp; done) | omega) (by first | exact Nat.le_refl _ | (simp; done) | omega) ?_
  refine r_topa (fun b4 e5 => ?_)
  have h := h b4 e5
  refine r_nam (fun σ1 e2 => ?_)
  have h := h σ1 e2
  have s3 : r_Ex σ σ1 := (r_Ex.of_eq rfl : r_Ex σ σ).trans (by rw [e2]; exact r_Ex.push)
  have g6 : r_at σ1 b4 = some (.inl 0) := by rw [e2, e5]; exact r_at_new
  refine r_dup C dX7_init_8 rfl ?_
  obtain ⟨Q7, m8, h⟩ := h
  refine r_callNN (rest := [Value.ref (B + b4), Value.ref (B + a0)]) C E [] ky_X0_init rfl rfl (fun U hN => hN.1) ki_X0_init ⟨Nat.le_of_ble_eq_true rfl, Nat.le_of_ble_eq_true rfl⟩ m8 rfl rfl (Nat.le_of_ble_eq_true rfl) (Nat.le_of_ble_eq_true rfl) (Nat.le_of_ble_eq_true rfl) dX7_init_9 (fun σ9 s10 q11 => ?_)
  refine r_wid (c2 := 2) (s2 := 403) (by first | exact Nat.le_refl _ | (simp; done) | omega) (by first | exact Nat.le_refl _ | (simp; done) | omega) ?_
  have h := h σ9 q11
  have g12 : r_at σ9 b4 = some (.inl 0) := r_at_ext s10 g6
  have s13 := s3.trans s10
  obtain ⟨g14, h⟩ := h
  refine r_putFR C E rfl g14 fa_X7_10 rfl rfl (r_atN g12) dX7_init_12 ?_
  refine r_nam (fun σ15 e16 => ?_)
  have h := h σ15 e16
  have s17 : r_Ex σ σ15 := s13.trans (r_Ex.of_eq (by rw [e16]; rfl))
  have g18 : r_at σ15 a0 = some (.inl 7) := by rw [e16]; exact g14
  refine r_aload_n C dX7_init_15 rfl (j := 0) rfl ?_
  refine r_new C E cl_X4 (by decide) kc_X7_16 kt_X4 kn_X4 (Nat.le_of_ble_eq_true rfl) (Nat.le_of_ble_eq_true rfl) dX7_init_16 ?_
  refine r_wid (c2 := 3) (s2 := 410) (by first | exact Nat.le_refl _ | (simp; done) | omega) (by first | exact Nat.le_refl _ | (simp; done) | omega) ?_
  refine r_topa (fun b22 e23 => ?_)
  have h := h b22 e23
  refine r_nam (fun σ19 e20 => ?_)
  have h := h σ19 e20
  have s21 : r_Ex σ σ19 := s17.trans (by rw [e20]; exact r_Ex.push)
  have g24 : r_at σ19 a0 = some (.inl 7) := by rw [e20]; exact r_at_ext r_Ex.push g18
  have g25 : r_at σ19 b22 = some (.inl 4) := by rw [e20, e23]; exact r_at_new
  refine r_dup C dX7_init_19 rfl ?_
  obtain ⟨Q26, m27, h⟩ := h
  refine r_callNN (rest := [Value.ref (B + b22), Value.ref (B + a0)]) C E [] ky_X4_init rfl rfl (fun U hN => hN.2.1) ki_X4_init ⟨Nat.le_of_ble_eq_true rfl, Nat.le_of_ble_eq_true rfl⟩ m27 rfl rfl (Nat.le_of_ble_eq_true rfl) (Nat.le_of_ble_eq_true rfl) (Nat.le_of_ble_eq_true rfl) dX7_init_20 (fun σ28 s29 q30 => ?_)
  refine r_wid (c2 := 9) (s2 := 1686) (by first | exact Nat.le_refl _ | (simp; done) | omega) (by first | exact Nat.le_refl _ | (simp; done) | omega) ?_
  have h := h σ28 q30
  have g31 : r_at σ28 a0 = some (.inl 7) := r_at_ext s29 g24
  have g32 : r_at σ28 b22 = some (.inl 4) := r_at_ext s29 g25
  have s33 := s21.trans s29
  refine r_putFR C E rfl g31 fa_X7_19 rfl rfl (r_atN g32) dX7_init_23 ?_
  refine r_nam (fun σ34 e35 => ?_)
  have h := h σ34 e35
  have s36 : r_Ex σ σ34 := s33.trans (r_Ex.of_eq (by rw [e35]; rfl))
  have g37 : r_at σ34 a0 = some (.inl 7) := by rw [e35]; exact g31
  refine r_aload_n C dX7_init_26 rfl (j := 0) rfl ?_
  refine r_new C E cl_X3 (by decide) kc_X7_23 kt_X3 kn_X3 (Nat.le_of_ble_eq_true rfl) (Nat.le_of_ble_eq_true rfl) dX7_init_27 ?_
  refine r_wid (c2 := 10) (s2 := 1690) (by first | exact Nat.le_refl _ | (simp; done) | omega) (by first | exact Nat.le_refl _ | (simp; done) | omega) ?_
  refine r_topa (fun b41 e42 => ?_)
  have h := h b41 e42
  refine r_nam (fun σ38 e39 => ?_)
  have h := h σ38 e39
  have s40 : r_Ex σ σ38 := s36.trans (by rw [e39]; exact r_Ex.push)
  have g43 : r_at σ38 a0 = some (.inl 7) := by rw [e39]; exact r_at_ext r_Ex.push g37
  have g44 : r_at σ38 b41 = some (.inl 3) := by rw [e39, e42]; exact r_at_new
  refine r_dup C dX7_init_30 rfl ?_
  obtain ⟨Q45, m46, h⟩ := h
  refine r_callNN (rest := [Value.ref (B + b41), Value.ref (B + a0)]) C E [] ky_X3_init rfl rfl (fun U hN => hN.2.2.1) ki_X3_init ⟨Nat.le_of_ble_eq_true rfl, Nat.le_of_ble_eq_true rfl⟩ m46 rfl rfl (Nat.le_of_ble_eq_true rfl) (Nat.le_of_ble_eq_true rfl) (Nat.le_of_ble_eq_true rfl) dX7_init_31 (fun σ47 s48 q49 => ?_)
  refine r_wid (c2 := 13) (s2 := 1810) (by first | exact Nat.le_refl _ | (simp; done) | omega) (by first | exact Nat.le_refl _ | (simp; done) | omega) ?_
  have h := h σ47 q49
  have g50 : r_at σ47 a0 = some (.inl 7) := r_at_ext s48 g43
  have g51 : r_at σ47 b41 = some (.inl 3) := r_at_ext s48 g44
  have s52 := s40.trans s48
  refine r_putFR C E rfl g50 fa_X7_26 rfl rfl (r_atN g51) dX7_init_34 ?_
  refine r_nam (fun σ53 e54 => ?_)
  have h := h σ53 e54
  have s55 : r_Ex σ σ53 := s52.trans (r_Ex.of_eq (by rw [e54]; rfl))
  have g56 : r_at σ53 a0 = some (.inl 7) := by rw [e54]; exact g50
  refine r_aload_n C dX7_init_37 rfl (j := 0) rfl ?_
  refine r_new C E cl_X1 (by decide) kc_X7_30 kt_X1 kn_X1 (Nat.le_of_ble_eq_true rfl) (Nat.le_of_ble_eq_true rfl) dX7_init_38 ?_
  refine r_wid (c2 := 14) (s2 := 1814) (by first | exact Nat.le_refl _ | (simp; done) | omega) (by first | exact Nat.le_refl _ | (simp; done) | omega) ?_
  refine r_topa (fun b60 e61 => ?_)
  have h := h b60 e61
  refine r_nam (fun σ57 e58 => ?_)
  have h := h σ57 e58
  have s59 : r_Ex σ σ57 := s55.trans (by rw [e58]; exact r_Ex.push)
  have g62 : r_at σ57 a0 = some (.inl 7) := by rw [e58]; exact r_at_ext r_Ex.push g56
  have g63 : r_at σ57 b60 = some (.inl 1) := by rw [e58, e61]; exact r_at_new
  refine r_dup C dX7_init_41 rfl ?_
  obtain ⟨Q64, m65, h⟩ := h
  refine r_callNN (rest := [Value.ref (B + b60), Value.ref (B + a0)]) C E [] ky_X1_init rfl rfl (fun U hN => hN.2.2.2.1) ki_X1_init ⟨Nat.le_of_ble_eq_true rfl, Nat.le_of_ble_eq_true rfl⟩ m65 rfl rfl (Nat.le_of_ble_eq_true rfl) (Nat.le_of_ble_eq_true rfl) (Nat.le_of_ble_eq_true rfl) dX7_init_42 (fun σ66 s67 q68 => ?_)
  refine r_wid (c2 := 17) (s2 := 3914) (by first | exact Nat.le_refl _ | (simp; done) | omega) (by first | exact Nat.le_refl _ | (simp; done) | omega) ?_
  have h := h σ66 q68
  have g69 : r_at σ66 a0 = some (.inl 7) := r_at_ext s67 g62
  have g70 : r_at σ66 b60 = some (.inl 1) := r_at_ext s67 g63
  have s71 := s59.trans s67
  refine r_putFR C E rfl g69 fa_X7_33 rfl rfl (r_atN g70) dX7_init_45 ?_
  refine r_nam (fun σ72 e73 => ?_)
  have h := h σ72 e73
  have s74 : r_Ex σ σ72 := s71.trans (r_Ex.of_eq (by rw [e73]; rfl))
  have g75 : r_at σ72 a0 = some (.inl 7) := by rw [e73]; exact g69
  refine r_aload_n C dX7_init_48 rfl (j := 0) rfl ?_
  refine r_new C E cl_X5 (by decide) kc_X7_37 kt_X5 kn_X5 (Nat.le_of_ble_eq_true rfl) (Nat.le_of_ble_eq_true rfl) dX7_init_49 ?_
  refine r_wid (c2 := 18) (s2 := 3916) (by first | exact Nat.le_refl _ | (simp; done) | omega) (by first | exact Nat.le_refl _ | (simp; done) | omega) ?_
  refine r_topa (fun b79 e80 => ?_)
  have h := h b79 e80
  refine r_nam (fun σ76 e77 => ?_)
  have h := h σ76 e77
  have s78 : r_Ex σ σ76 := s74.trans (by rw [e77]; exact r_Ex.push)
  have g81 : r_at σ76 a0 = some (.inl 7) := by rw [e77]; exact r_at_ext r_Ex.push g75
  have g82 : r_at σ76 b79 = some (.inl 5) := by rw [e77, e80]; exact r_at_new
  refine r_dup C dX7_init_52 rfl ?_
  refine r_iconst (v := 4) C dX7_init_53 (by decide) ?_
  obtain ⟨Q83, m84, h⟩ := h
  refine r_callN (rest := [Value.ref (B + b79), Value.ref (B + a0)]) C E [Value.int 4] ky_X5_init rfl rfl kl_X7_39 ki_X5_init ⟨Nat.le_of_ble_eq_true rfl, Nat.le_of_ble_eq_true rfl⟩ m84 rfl rfl (Nat.le_of_ble_eq_true rfl) (Nat.le_of_ble_eq_true rfl) (Nat.le_of_ble_eq_true rfl) dX7_init_54 (fun σ85 s86 q87 => ?_)
  refine r_wid (c2 := 19) (s2 := 3926) (by first | exact Nat.le_refl _ | (simp; done) | omega) (by first | exact Nat.le_refl _ | (simp; done) | omega) ?_
  have h := h σ85 q87
  have g88 : r_at σ85 a0 = some (.inl 7) := r_at_ext s86 g81
  have g89 : r_at σ85 b79 = some (.inl 5) := r_at_ext s86 g82
  have s90 := s78.trans s86
  refine r_putFR C E rfl g88 fa_X7_42 rfl rfl (r_atN g89) dX7_init_57 ?_
  refine r_nam (fun σ91 e92 => ?_)
  have h := h σ91 e92
  have s93 : r_Ex σ σ91 := s90.trans (r_Ex.of_eq (by rw [e92]; rfl))
  have g94 : r_at σ91 a0 = some (.inl 7) := by rw [e92]; exact g88
  refine r_aload_n C dX7_init_60 rfl (j := 0) rfl ?_
  refine r_bipush (v := 20) C dX7_init_61 (by decide) ?_
  refine r_putI C g94 fa_X7_46 rfl rfl rfl dX7_init_63 ?_
  refine r_nam (fun σ95 e96 => ?_)
  have h := h σ95 e96
  have s97 : r_Ex σ σ95 := s93.trans (r_Ex.of_eq (by rw [e96]; rfl))
  have g98 : r_at σ95 a0 = some (.inl 7) := by rw [e96]; exact g94
  refine r_aload_n C dX7_init_66 rfl (j := 0) rfl ?_
  refine r_lconst (v := 0) C dX7_init_67 (by decide) ?_
  refine r_putL C g98 fa_X7_50 rfl dX7_init_68 ?_
  refine r_nam (fun σ99 e100 => ?_)
  have h := h σ99 e100
  have s101 : r_Ex σ σ99 := s97.trans (r_Ex.of_eq (by rw [e100]; rfl))
  have g102 : r_at σ99 a0 = some (.inl 7) := by rw [e100]; exact g98
  refine r_aload_n C dX7_init_71 rfl (j := 0) rfl ?_
  refine r_iconst (v := 0) C dX7_init_72 (by decide) ?_
  refine r_putI C g102 fa_X7_54 rfl rfl rfl dX7_init_73 ?_
  refine r_nam (fun σ103 e104 => ?_)
  have h := h σ103 e104
  have s105 : r_Ex σ σ103 := s101.trans (r_Ex.of_eq (by rw [e104]; rfl))
  have g106 : r_at σ103 a0 = some (.inl 7) := by rw [e104]; exact g102
  refine r_iconst (v := 2) C dX7_init_76 (by decide) ?_
  refine r_bipush (v := 6) C dX7_init_77 (by decide) ?_
  refine r_iload_n C dX7_init_79 rfl (j := 1) rfl ?_
  obtain ⟨Q107, m108, h⟩ := h
  refine r_callSI (rest := [Value.int 2]) C E [Value.int 6, Value.int x1] ky_J9_min_7cf53 kl_X7_57 ks_J9_min_7cf53 ⟨Nat.le_of_ble_eq_true rfl, Nat.le_of_ble_eq_true rfl⟩ ⟨rfl, rfl⟩ m108 rfl rfl (Nat.le_of_ble_eq_true rfl) (Nat.le_of_ble_eq_true rfl) (Nat.le_of_ble_eq_true rfl) dX7_init_80 (fun z112 σ109 s110 q111 => ?_)
  have h := h z112 σ109 q111
  have g113 : r_at σ109 a0 = some (.inl 7) := r_atT s110 g106
  have s114 := s105.trans (r_Ex.of_eq s110)
  obtain ⟨Q115, m116, h⟩ := h
  refine r_callSI (rest := []) C E [Value.int 2, Value.int z112] ky_J9_max_7cf53 kl_X7_63 ks_J9_max_7cf53 ⟨Nat.le_of_ble_eq_true rfl, Nat.le_of_ble_eq_true rfl⟩ ⟨rfl, rfl⟩ m116 rfl rfl (Nat.le_of_ble_eq_true rfl) (Nat.le_of_ble_eq_true rfl) (Nat.le_of_ble_eq_true rfl) dX7_init_83 (fun z120 σ117 s118 q119 => ?_)
  have h := h z120 σ117 q119
  have g121 : r_at σ117 a0 = some (.inl 7) := r_atT s118 g113
  have s122 := s114.trans (r_Ex.of_eq s118)
  refine r_istore_n (lv' := [(2, Value.int z120), (0, Value.ref (B + a0)), (1, Value.int x1)]) C dX7_init_86 rfl (by decide) rfl ?_
  refine r_aload_n C dX7_init_87 rfl (j := 1) rfl ?_
  refine r_iload_n C dX7_init_88 rfl (j := 0) rfl ?_
  obtain ⟨n123, g124, g125, h⟩ := h
  rw [g125]
  refine r_newq C E (ti := 3) ⟨rfl, fun _ => rfl⟩ kc_X7_66 (n := n123) (nI_pos (by omega)) (nI_clamp (by omega)) (by omega) (Nat.le_of_ble_eq_true rfl) (Nat.le_trans (Nat.add_le_add_left g124 _) (Nat.le_of_ble_eq_true rfl)) dX7_init_89 ?_
  refine r_wid (c2 := 20) (s2 := 3932) (by first | exact Nat.le_refl _ | omega) (Nat.add_le_add_left g124 _) ?_
  refine r_topa (fun b129 e130 => ?_)
  have h := h b129 e130
  refine r_nam (fun σ126 e127 => ?_)
  have h := h σ126 e127
  have s128 : r_Ex σ σ126 := s122.trans (by rw [e127]; exact r_Ex.push)
  have g131 : r_at σ126 a0 = some (.inl 7) := by rw [e127]; exact r_at_ext r_Ex.push g121
  have g132 : r_at σ126 b129 = some (.inr (3, n123)) := by rw [e127, e130]; exact r_at_new
  refine r_putFR C E rfl g131 fa_X7_68 rfl rfl (r_atN g132) dX7_init_92 ?_
  refine r_nam (fun σ133 e134 => ?_)
  have h := h σ133 e134
  have s135 : r_Ex σ σ133 := s128.trans (r_Ex.of_eq (by rw [e134]; rfl))
  have g136 : r_at σ133 a0 = some (.inl 7) := by rw [e134]; exact g131
  refine r_iconst (v := 0) C dX7_init_95 (by decide) ?_
  refine r_istore_n (lv' := [(3, Value.int 0), (2, Value.int (nI n123)), (0, Value.ref (B + a0)), (1, Value.int x1)]) C dX7_init_96 rfl (by decide) rfl ?_
  exact r_loc (by simp) h
theorem c_X7_init_97 {X : r_X} {w : r_V} {B : Nat} {l : Launch} {Q : r_S → Prop} {σ0 : r_S} (C : r_C X w B 4 cX7_init RX7) (E : r_E X l tX7_init) {σ : r_S} (hs : r_Ex σ0 σ) {a0 : Nat} {x2 x3 : Int32} {cs sl : Nat}
    (h : (x2 ≤ x3 → (cs ≤ tX7_init.2.2.2.2.cells ∧ (sl ≤ tX7_init.2.2.2.2.slots ∧ (Q σ)))) ∧ (¬ x2 ≤ x3 → (r_at σ a0 = some (.inl 7) ∧ (∃ n5, r_at σ (r_gr σ a0 0) = some (.inr (3, n5)) ∧ (∀ b7 : Nat, b7 = r_gr σ a0 0 → (cs + 1 ≤ tX7_init.2.2.2.2.cells ∧ (sl + 20 ≤ tX7_init.2.2.2.2.slots ∧ (∀ b15 : Nat, b15 = σ.1.length + 1 → (∀ σ12 : r_S, σ12 = r_push σ (.inl 6) → (∃ Q20 : r_S → Prop, r_M l w B tX6_init [Value.ref (B + b15), Value.int x3, Value.int x2] σ12 (r_QN σ12 Q20) ∧ (cs + 1 + 13 ≤ tX7_init.2.2.2.2.cells ∧ (sl + 20 + 77 ≤ tX7_init.2.2.2.2.slots ∧ (∀ σ22 : r_S, Q20 σ22 → (vp_in x3 n5 ∧ (∀ σ32 : r_S, σ32 = r_ur σ22 b7 (x3.toNatClampNeg) b15 → (∀ z38 : Int32, z38 = x3 + 1 → (r_W X w B 4 (cs + 14) (sl + 97) (r_Z X w B tX7_init (r_QN σ0 Q)) 97 [(0, Value.ref (B + a0)), (2, Value.int x2), (3, Value.int z38)] [] σ32))))))))))))))))) :
    r_W X w B 4 cs sl (r_Z X w B tX7_init (r_QN σ0 Q)) 97 [(0, Value.ref (B + a0)), (2, Value.int x2), (3, Value.int x3)] [] σ := by
  refine r_iload_n C dX7_init_97 rfl (j := 2) rfl ?_
  refine r_iload_n C dX7_init_98 rfl (j := 1) rfl ?_
  refine r_icmp_ge (tgt := 123) C dX7_init_99 (by decide) (fun c1 => ?_) (fun c1 => ?_)
  · have h := h.1 c1
    obtain ⟨g2, h⟩ := h
    obtain ⟨g3, h⟩ := h
    exact r_vretN C E rfl g2 g3 dX7_init_123 (hs.trans (r_Ex.of_eq rfl : r_Ex σ σ)) h
  · have h := h.2 c1
    refine r_aload_n C dX7_init_102 rfl (j := 0) rfl ?_
    obtain ⟨g4, h⟩ := h
    obtain ⟨n5, g6, h⟩ := h
    refine r_getR C g4 fa_X7_68 rfl (r_atN g6) dX7_init_103 ?_
    refine r_topa (fun b7 e8 => ?_)
    have h := h b7 e8
    have e8 : b7 = r_gr σ a0 0 := e8
    have g9 := g6; rw [← e8] at g9
    refine r_iload_n C dX7_init_106 rfl (j := 2) rfl ?_
    obtain ⟨g10, h⟩ := h
    obtain ⟨g11, h⟩ := h
    refine r_new C E cl_X6 (by decide) kc_X7_66 kt_X6 kn_X6 g10 g11 dX7_init_107 ?_
    refine r_wid (c2 := cs + 1) (s2 := sl + 20) (by first | exact Nat.le_refl _ | (simp; done) | omega) (by first | exact Nat.le_refl _ | (simp; done) | omega) ?_
    refine r_topa (fun b15 e16 => ?_)
    have h := h b15 e16
    refine r_nam (fun σ12 e13 => ?_)
    have h := h σ12 e13
    have s14 : r_Ex σ σ12 := (r_Ex.of_eq rfl : r_Ex σ σ).trans (by rw [e13]; exact r_Ex.push)
    have g17 : r_at σ12 a0 = some (.inl 7) := by rw [e13]; exact r_at_ext r_Ex.push g4
    have g18 : r_at σ12 b7 = some (.inr (3, n5)) := by rw [e13]; exact r_at_ext r_Ex.push g9
    have g19 : r_at σ12 b15 = some (.inl 6) := by rw [e13, e16]; exact r_at_new
    refine r_dup C dX7_init_110 rfl ?_
    refine r_iload_n C dX7_init_111 rfl (j := 2) rfl ?_
    refine r_iload_n C dX7_init_112 rfl (j := 1) rfl ?_
    obtain ⟨Q20, m21, h⟩ := h
    obtain ⟨g25, h⟩ := h
    obtain ⟨g26, h⟩ := h
    refine r_callN (rest := [Value.ref (B + b15), Value.int x3, Value.ref (B + b7)]) C E [Value.int x3, Value.int x2] ky_X6_init rfl rfl kl_X7_72 ki_X6_init ⟨Nat.le_of_ble_eq_true rfl, Nat.le_of_ble_eq_true rfl⟩ m21 rfl rfl (Nat.le_of_ble_eq_true rfl) g25 g26 dX7_init_113 (fun σ22 s23 q24 => ?_)
    refine r_wid (c2 := cs + 14) (s2 := sl + 97) (by first | exact Nat.le_refl _ | (simp; done) | omega) (by first | exact Nat.le_refl _ | (simp; done) | omega) ?_
    have h := h σ22 q24
    have g27 : r_at σ22 a0 = some (.inl 7) := r_at_ext s23 g17
    have g28 : r_at σ22 b7 = some (.inr (3, n5)) := r_at_ext s23 g18
    have g29 : r_at σ22 b15 = some (.inl 6) := r_at_ext s23 g19
    have s30 := s14.trans s23
    obtain ⟨g31, h⟩ := h
    refine r_aast C g28 ⟨rfl, fun _ => rfl⟩ g29 (r := (RX6, TX6, 20)) rfl g31 dX7_init_116 ?_
    refine r_nam (fun σ32 e33 => ?_)
    have h := h σ32 e33
    have s34 : r_Ex σ σ32 := s30.trans (r_Ex.of_eq (by rw [e33]; rfl))
    have g35 : r_at σ32 a0 = some (.inl 7) := by rw [e33]; exact g27
    have g36 : r_at σ32 b7 = some (.inr (3, n5)) := by rw [e33]; exact g28
    have g37 : r_at σ32 b15 = some (.inl 6) := by rw [e33]; exact g29
    obtain ⟨z38, e39⟩ : ∃ y : Int32, y = x3 + 1 := ⟨_, rfl⟩
    have h := h z38 e39
    refine r_iinc (v := z38) (lv' := [(3, Value.int z38), (0, Value.ref (B + a0)), (2, Value.int x2)]) C dX7_init_117 (k := 2) rfl (by rw [e39]; rfl) (by decide) rfl ?_
    refine r_goto (tgt := 97) C dX7_init_120 (by decide) ?_
    exact r_loc (by simp) h
set_option maxRecDepth 100000 in
theorem c_X8_init_0 {X : r_X} {w : r_V} {B : Nat} {l : Launch} {Q : r_S → Prop} {σ0 : r_S} (C : r_C X w B 3 cX8_init RX8) (E : r_E X l tX8_init) {σ : r_S} (hs : r_Ex σ0 σ) {a0 : Nat} {x1 : Int32}
    (h : r_at σ a0 = some (.inl 8) ∧ (∀ σ2 : r_S, σ2 = r_ui σ a0 3 20 → (∀ b9 : Nat, b9 = σ2.1.length + 1 → (∀ σ6 : r_S, σ6 = r_push σ2 (.inr (2, 36)) → (∀ σ13 : r_S, σ13 = r_ur σ6 a0 4 b9 → (∀ b20 : Nat, b20 = σ13.1.length + 1 → (∀ σ17 : r_S, σ17 = r_push σ13 (.inr (0, 301)) → (∀ σ24 : r_S, σ24 = r_ur σ17 a0 6 b20 → (∀ b31 : Nat, b31 = σ24.1.length + 1 → (∀ σ28 : r_S, σ28 = r_push σ24 (.inr (0, 301)) → (∀ σ35 : r_S, σ35 = r_ur σ28 a0 7 b31 → (∀ b42 : Nat, b42 = σ35.1.length + 1 → (∀ σ39 : r_S, σ39 = r_push σ35 (.inr (0, 301)) → (∀ σ46 : r_S, σ46 = r_ur σ39 a0 8 b42 → (∀ b53 : Nat, b53 = σ46.1.length + 1 → (∀ σ50 : r_S, σ50 = r_push σ46 (.inr (0, 301)) → (∀ σ57 : r_S, σ57 = r_ur σ50 a0 9 b53 → (∀ b64 : Nat, b64 = σ57.1.length + 1 → (∀ σ61 : r_S, σ61 = r_push σ57 (.inr (2, 301)) → (∀ σ68 : r_S, σ68 = r_ur σ61 a0 10 b64 → (∀ b75 : Nat, b75 = σ68.1.length + 1 → (∀ σ72 : r_S, σ72 = r_push σ68 (.inr (2, 301)) → (∀ σ79 : r_S, σ79 = r_ur σ72 a0 11 b75 → (∀ b86 : Nat, b86 = σ79.1.length + 1 → (∀ σ83 : r_S, σ83 = r_push σ79 (.inr (0, 36)) → (∀ σ90 : r_S, σ90 = r_ur σ83 a0 12 b86 → (∀ b97 : Nat, b97 = σ90.1.length + 1 → (∀ σ94 : r_S, σ94 = r_push σ90 (.inr (0, 36)) → (∀ σ101 : r_S, σ101 = r_ur σ94 a0 13 b97 → (∀ b108 : Nat, b108 = σ101.1.length + 1 → (∀ σ105 : r_S, σ105 = r_push σ101 (.inr (0, 400)) → (∀ σ112 : r_S, σ112 = r_ur σ105 a0 16 b108 → (∀ b119 : Nat, b119 = σ112.1.length + 1 → (∀ σ116 : r_S, σ116 = r_push σ112 (.inr (0, 40)) → (∀ σ123 : r_S, σ123 = r_ur σ116 a0 18 b119 → (∀ b130 : Nat, b130 = σ123.1.length + 1 → (∀ σ127 : r_S, σ127 = r_push σ123 (.inr (1, 40)) → (∀ σ134 : r_S, σ134 = r_ur σ127 a0 19 b130 → (∀ b141 : Nat, b141 = σ134.1.length + 1 → (∀ σ138 : r_S, σ138 = r_push σ134 (.inr (0, 40)) → (∀ σ145 : r_S, σ145 = r_ur σ138 a0 20 b141 → (∀ b152 : Nat, b152 = σ145.1.length + 1 → (∀ σ149 : r_S, σ149 = r_push σ145 (.inr (0, 700)) → (∀ σ156 : r_S, σ156 = r_ur σ149 a0 22 b152 → (∀ b163 : Nat, b163 = σ156.1.length + 1 → (∀ σ160 : r_S, σ160 = r_push σ156 (.inr (0, 700)) → (∀ σ167 : r_S, σ167 = r_ur σ160 a0 23 b163 → (∀ b174 : Nat, b174 = σ167.1.length + 1 → (∀ σ171 : r_S, σ171 = r_push σ167 (.inr (1, 700)) → (∀ σ178 : r_S, σ178 = r_ur σ171 a0 24 b174 → (∀ b185 : Nat, b185 = σ178.1.length + 1 → (∀ σ182 : r_S, σ182 = r_push σ178 (.inr (0, 6)) → (∀ σ189 : r_S, σ189 = r_ur σ182 a0 25 b185 → (∀ b196 : Nat, b196 = σ189.1.length + 1 → (∀ σ193 : r_S, σ193 = r_push σ189 (.inr (0, 6)) → (∀ σ200 : r_S, σ200 = r_ur σ193 a0 26 b196 → (∀ b207 : Nat, b207 = σ200.1.length + 1 → (∀ σ204 : r_S, σ204 = r_push σ200 (.inr (0, 6)) → (∀ σ211 : r_S, σ211 = r_ur σ204 a0 27 b207 → (∀ b218 : Nat, b218 = σ211.1.length + 1 → (∀ σ215 : r_S, σ215 = r_push σ211 (.inr (0, 6)) → (∀ σ222 : r_S, σ222 = r_ur σ215 a0 28 b218 → (∀ b229 : Nat, b229 = σ222.1.length + 1 → (∀ σ226 : r_S, σ226 = r_push σ222 (.inr (0, 6)) → (∀ σ233 : r_S, σ233 = r_ur σ226 a0 29 b229 → (∀ b240 : Nat, b240 = σ233.1.length + 1 → (∀ σ237 : r_S, σ237 = r_push σ233 (.inr (1, 6)) → (∀ σ244 : r_S, σ244 = r_ur σ237 a0 30 b240 → (∀ b251 : Nat, b251 = σ244.1.length + 1 → (∀ σ248 : r_S, σ248 = r_push σ244 (.inr (1, 6)) → (∀ σ255 : r_S, σ255 = r_ur σ248 a0 31 b251 → (∀ b262 : Nat, b262 = σ255.1.length + 1 → (∀ σ259 : r_S, σ259 = r_push σ255 (.inr (0, 6)) → (∀ σ266 : r_S, σ266 = r_ur σ259 a0 32 b262 → (∀ b273 : Nat, b273 = σ266.1.length + 1 → (∀ σ270 : r_S, σ270 = r_push σ266 (.inr (0, 6)) → (∀ σ277 : r_S, σ277 = r_ur σ270 a0 33 b273 → (∀ b284 : Nat, b284 = σ277.1.length + 1 → (∀ σ281 : r_S, σ281 = r_push σ277 (.inr (1, 6)) → (∀ σ288 : r_S, σ288 = r_ur σ281 a0 34 b284 → (∀ b295 : Nat, b295 = σ288.1.length + 1 → (∀ σ292 : r_S, σ292 = r_push σ288 (.inr (0, 6)) → (∀ σ299 : r_S, σ299 = r_ur σ292 a0 35 b295 → (∀ b306 : Nat, b306 = σ299.1.length + 1 → (∀ σ303 : r_S, σ303 = r_push σ299 (.inr (0, 6)) → (∀ σ310 : r_S, σ310 = r_ur σ303 a0 36 b306 → (∀ b317 : Nat, b317 = σ310.1.length + 1 → (∀ σ314 : r_S, σ314 = r_push σ310 (.inr (0, 6)) → (∀ σ321 : r_S, σ321 = r_ur σ314 a0 37 b317 → (∀ b328 : Nat, b328 = σ321.1.length + 1 → (∀ σ325 : r_S, σ325 = r_push σ321 (.inr (0, 6)) → (∀ σ332 : r_S, σ332 = r_ur σ325 a0 38 b328 → (∀ b339 : Nat, b339 = σ332.1.length + 1 → (∀ σ336 : r_S, σ336 = r_push σ332 (.inr (2, 6)) → (∀ σ343 : r_S, σ343 = r_ur σ336 a0 39 b339 → (∀ b350 : Nat, b350 = σ343.1.length + 1 → (∀ σ347 : r_S, σ347 = r_push σ343 (.inr (1, 6)) → (∀ σ354 : r_S, σ354 = r_ur σ347 a0 40 b350 → (∀ b361 : Nat, b361 = σ354.1.length + 1 → (∀ σ358 : r_S, σ358 = r_push σ354 (.inr (0, 24)) → (∀ σ365 : r_S, σ365 = r_ur σ358 a0 41 b361 → (∀ b372 : Nat, b372 = σ365.1.length + 1 → (∀ σ369 : r_S, σ369 = r_push σ365 (.inr (0, 24)) → (∀ σ376 : r_S, σ376 = r_ur σ369 a0 42 b372 → (∀ b383 : Nat, b383 = σ376.1.length + 1 → (∀ σ380 : r_S, σ380 = r_push σ376 (.inr (0, 6)) → (∀ σ387 : r_S, σ387 = r_ur σ380 a0 43 b383 → (∀ b394 : Nat, b394 = σ387.1.length + 1 → (∀ σ391 : r_S, σ391 = r_push σ387 (.inr (0, 6)) → (∀ σ398 : r_S, σ398 = r_ur σ391 a0 44 b394 → (∀ b405 : Nat, b405 = σ398.1.length + 1 → (∀ σ402 : r_S, σ402 = r_push σ398 (.inr (0, 6)) → (∀ σ409 : r_S, σ409 = r_ur σ402 a0 45 b405 → (∀ b416 : Nat, b416 = σ409.1.length + 1 → (∀ σ413 : r_S, σ413 = r_push σ409 (.inr (0, 6)) → (∀ σ420 : r_S, σ420 = r_ur σ413 a0 46 b416 → (∀ b427 : Nat, b427 = σ420.1.length + 1 → (∀ σ424 : r_S, σ424 = r_push σ420 (.inr (1, 6)) → (∀ σ431 : r_S, σ431 = r_ur σ424 a0 47 b427 → (∀ b438 : Nat, b438 = σ431.1.length + 1 → (∀ σ435 : r_S, σ435 = r_push σ431 (.inr (1, 6)) → (∀ σ442 : r_S, σ442 = r_ur σ435 a0 48 b438 → (∀ b449 : Nat, b449 = σ442.1.length + 1 → (∀ σ446 : r_S, σ446 = r_push σ442 (.inr (0, 6)) → (∀ σ453 : r_S, σ453 = r_ur σ446 a0 49 b449 → (∀ b460 : Nat, b460 = σ453.1.length + 1 → (∀ σ457 : r_S, σ457 = r_push σ453 (.inr (0, 6)) → (∀ σ464 : r_S, σ464 = r_ur σ457 a0 50 b460 → (∀ b471 : Nat, b471 = σ464.1.length + 1 → (∀ σ468 : r_S, σ468 = r_push σ464 (.inr (1, 36)) → (∀ σ475 : r_S, σ475 = r_ur σ468 a0 51 b471 → ((2 ≤ x1 → ((x1 ≤ 6 → (∀ σ481 : r_S, σ481 = r_ui σ475 a0 1 x1 → (r_W X w B 3 43 4762 (r_Z X w B tX8_init (r_QN σ0 Q)) 391 [(0, Value.ref (B + a0)), (2, Value.int 0)] [] σ481))) ∧ (¬ x1 ≤ 6 → (∀ σ485 : r_S, σ485 = r_ui σ475 a0 1 6 → (r_W X w B 3 43 4762 (r_Z X w B tX8_init (r_QN σ0 Q)) 391 [(0, Value.ref (B + a0)), (2, Value.int 0)] [] σ485))))) ∧ (¬ 2 ≤ x1 → (∀ σ489 : r_S, σ489 = r_ui σ475 a0 1 2 → (r_W X w B 3 43 4762 (r_Z X w B tX8_init (r_QN σ0 Q)) 391 [(0, Value.ref (B + a0)), (2, Value.int 0)] [] σ489))))))))))))))))))))))))))))))))))))))))))))))))))))))))))))))))))))))))))))))))))))))))))))))))))))))))))))))))))))))))))))))))))))))) :
    r_W X w B 3 0 0 (r_Z X w B tX8_init (r_QN σ0 Q)) 0 [(0, Value.ref (B + a0)), (1, Value.int x1)] [] σ := by
  refine r_aload_n C dX8_init_0 rfl (j := 0) rfl ?_
  refine r_objInit C E kl_X8_1 ki_obj kk_obj dX8_init_1 (Nat.le_of_ble_eq_true rfl) (Nat.le_of_ble_eq_true rfl) ?_
  refine r_aload_n C dX8_init_4 rfl (j := 0) rfl ?_
  refine r_bipush (v := 20) C dX8_init_5 (by decide) ?_
  obtain ⟨g1, h⟩ := h
  refine r_putI C g1 fa_X8_7 rfl rfl rfl dX8_init_7 ?_
  refine r_nam (fun σ2 e3 => ?_)
  have h := h σ2 e3
  have s4 : r_Ex σ σ2 := (r_Ex.of_eq rfl : r_Ex σ σ).trans (r_Ex.of_eq (by rw [e3]; rfl))
  have g5 : r_at σ2 a0 = some (.inl 8) := by rw [e3]; exact g1
  refine r_aload_n C dX8_init_10 rfl (j := 0) rfl ?_
  refine r_bipush (v := 36) C dX8_init_11 (by decide) ?_
  refine r_newa C E (ti := 2) ⟨rfl, fun _ => rfl⟩ rfl ka_boolean (n := 36) (by decide) (by decide) (by decide) rfl (Nat.le_of_ble_eq_true rfl) (Nat.le_of_ble_eq_true rfl) dX8_init_13 ?_
  refine r_wid (c2 := 1) (s2 := 36) (by first | exact Nat.le_refl _ | (simp; done) | omega) (by first | exact Nat.le_refl _ | (simp; done) | omega) ?_
  refine r_topa (fun b9 e10 => ?_)
  have h := h b9 e10
  refine r_nam (fun σ6 e7 => ?_)
  have h := h σ6 e7
  have s8 : r_Ex σ σ6 := s4.trans (by rw [e7]; exact r_Ex.push)
  have g11 : r_at σ6 a0 = some (.inl 8) := by rw [e7]; exact r_at_ext r_Ex.push g5
  have g12 : r_at σ6 b9 = some (.inr (2, 36)) := by rw [e7, e10]; exact r_at_new
  refine r_putFR C E rfl g11 fa_X8_13 rfl rfl (r_atN g12) dX8_init_15 ?_
  refine r_nam (fun σ13 e14 => ?_)
  have h := h σ13 e14
  have s15 : r_Ex σ σ13 := s8.trans (r_Ex.of_eq (by rw [e14]; rfl))
  have g16 : r_at σ13 a0 = some (.inl 8) := by rw [e14]; exact g11
  refine r_aload_n C dX8_init_18 rfl (j := 0) rfl ?_
  refine r_sipush (v := 301) C dX8_init_19 (by decide) ?_
  refine r_newa C E (ti := 0) ⟨rfl, fun _ => rfl⟩ rfl ka_int (n := 301) (by decide) (by decide) (by decide) rfl (Nat.le_of_ble_eq_true rfl) (Nat.le_of_ble_eq_true rfl) dX8_init_22 ?_
  refine r_wid (c2 := 2) (s2 := 337) (by first | exact Nat.le_refl _ | (simp; done) | omega) (by first | exact Nat.le_refl _ | (simp; done) | omega) ?_
  refine r_topa (fun b20 e21 => ?_)
  have h := h b20 e21
  refine r_nam (fun σ17 e18 => ?_)
  have h := h σ17 e18
  have s19 : r_Ex σ σ17 := s15.trans (by rw [e18]; exact r_Ex.push)
  have g22 : r_at σ17 a0 = some (.inl 8) := by rw [e18]; exact r_at_ext r_Ex.push g16
  have g23 : r_at σ17 b20 = some (.inr (0, 301)) := by rw [e18, e21]; exact r_at_new
  refine r_putFR C E rfl g22 fa_X8_17 rfl rfl (r_atN g23) dX8_init_24 ?_
  refine r_nam (fun σ24 e25 => ?_)
  have h := h σ24 e25
  have s26 : r_Ex σ σ24 := s19.trans (r_Ex.of_eq (by rw [e25]; rfl))
  have g27 : r_at σ24 a0 = some (.inl 8) := by rw [e25]; exact g22
  refine r_aload_n C dX8_init_27 rfl (j := 0) rfl ?_
  refine r_sipush (v := 301) C dX8_init_28 (by decide) ?_
  refine r_newa C E (ti := 0) ⟨rfl, fun _ => rfl⟩ rfl ka_int (n := 301) (by decide) (by decide) (by decide) rfl (Nat.le_of_ble_eq_true rfl) (Nat.le_of_ble_eq_true rfl) dX8_init_31 ?_
  refine r_wid (c2 := 3) (s2 := 638) (by first | exact Nat.le_refl _ | (simp; done) | omega) (by first | exact Nat.le_refl _ | (simp; done) | omega) ?_
  refine r_topa (fun b31 e32 => ?_)
  have h := h b31 e32
  refine r_nam (fun σ28 e29 => ?_)
  have h := h σ28 e29
  have s30 : r_Ex σ σ28 := s26.trans (by rw [e29]; exact r_Ex.push)
  have g33 : r_at σ28 a0 = some (.inl 8) := by rw [e29]; exact r_at_ext r_Ex.push g27
  have g34 : r_at σ28 b31 = some (.inr (0, 301)) := by rw [e29, e32]; exact r_at_new
  refine r_putFR C E rfl g33 fa_X8_21 rfl rfl (r_atN g34) dX8_init_33 ?_
  refine r_nam (fun σ35 e36 => ?_)
  have h := h σ35 e36
  have s37 : r_Ex σ σ35 := s30.trans (r_Ex.of_eq (by rw [e36]; rfl))
  have g38 : r_at σ35 a0 = some (.inl 8) := by rw [e36]; exact g33
  refine r_aload_n C dX8_init_36 rfl (j := 0) rfl ?_
  refine r_sipush (v := 301) C dX8_init_37 (by decide) ?_
  refine r_newa C E (ti := 0) ⟨rfl, fun _ => rfl⟩ rfl ka_int (n := 301) (by decide) (by decide) (by decide) rfl (Nat.le_of_ble_eq_true rfl) (Nat.le_of_ble_eq_true rfl) dX8_init_40 ?_
  refine r_wid (c2 := 4) (s2 := 939) (by first | exact Nat.le_refl _ | (simp; done) | omega) (by first | exact Nat.le_refl _ | (simp; done) | omega) ?_
  refine r_topa (fun b42 e43 => ?_)
  have h := h b42 e43
  refine r_nam (fun σ39 e40 => ?_)
  have h := h σ39 e40
  have s41 : r_Ex σ σ39 := s37.trans (by rw [e40]; exact r_Ex.push)
  have g44 : r_at σ39 a0 = some (.inl 8) := by rw [e40]; exact r_at_ext r_Ex.push g38
  have g45 : r_at σ39 b42 = some (.inr (0, 301)) := by rw [e40, e43]; exact r_at_new
  refine r_putFR C E rfl g44 fa_X8_24 rfl rfl (r_atN g45) dX8_init_42 ?_
  refine r_nam (fun σ46 e47 => ?_)
  have h := h σ46 e47
  have s48 : r_Ex σ σ46 := s41.trans (r_Ex.of_eq (by rw [e47]; rfl))
  have g49 : r_at σ46 a0 = some (.inl 8) := by rw [e47]; exact g44
  refine r_aload_n C dX8_init_45 rfl (j := 0) rfl ?_
  refine r_sipush (v := 301) C dX8_init_46 (by decide) ?_
  refine r_newa C E (ti := 0) ⟨rfl, fun _ => rfl⟩ rfl ka_int (n := 301) (by decide) (by decide) (by decide) rfl (Nat.le_of_ble_eq_true rfl) (Nat.le_of_ble_eq_true rfl) dX8_init_49 ?_
  refine r_wid (c2 := 5) (s2 := 1240) (by first | exact Nat.le_refl _ | (simp; done) | omega) (by first | exact Nat.le_refl _ | (simp; done) | omega) ?_
  refine r_topa (fun b53 e54 => ?_)
  have h := h b53 e54
  refine r_nam (fun σ50 e51 => ?_)
  have h := h σ50 e51
  have s52 : r_Ex σ σ50 := s48.trans (by rw [e51]; exact r_Ex.push)
  have g55 : r_at σ50 a0 = some (.inl 8) := by rw [e51]; exact r_at_ext r_Ex.push g49
  have g56 : r_at σ50 b53 = some (.inr (0, 301)) := by rw [e51, e54]; exact r_at_new
  refine r_putFR C E rfl g55 fa_X8_27 rfl rfl (r_atN g56) dX8_init_51 ?_
  refine r_nam (fun σ57 e58 => ?_)
  have h := h σ57 e58
  have s59 : r_Ex σ σ57 := s52.trans (r_Ex.of_eq (by rw [e58]; rfl))
  have g60 : r_at σ57 a0 = some (.inl 8) := by rw [e58]; exact g55
  refine r_aload_n C dX8_init_54 rfl (j := 0) rfl ?_
  refine r_sipush (v := 301) C dX8_init_55 (by decide) ?_
  refine r_newa C E (ti := 2) ⟨rfl, fun _ => rfl⟩ rfl ka_boolean (n := 301) (by decide) (by decide) (by decide) rfl (Nat.le_of_ble_eq_true rfl) (Nat.le_of_ble_eq_true rfl) dX8_init_58 ?_
  refine r_wid (c2 := 6) (s2 := 1541) (by first | exact Nat.le_refl _ | (simp; done) | omega) (by first | exact Nat.le_refl _ | (simp; done) | omega) ?_
  refine r_topa (fun b64 e65 => ?_)
  have h := h b64 e65
  refine r_nam (fun σ61 e62 => ?_)
  have h := h σ61 e62
  have s63 : r_Ex σ σ61 := s59.trans (by rw [e62]; exact r_Ex.push)
  have g66 : r_at σ61 a0 = some (.inl 8) := by rw [e62]; exact r_at_ext r_Ex.push g60
  have g67 : r_at σ61 b64 = some (.inr (2, 301)) := by rw [e62, e65]; exact r_at_new
  refine r_putFR C E rfl g66 fa_X8_30 rfl rfl (r_atN g67) dX8_init_60 ?_
  refine r_nam (fun σ68 e69 => ?_)
  have h := h σ68 e69
  have s70 : r_Ex σ σ68 := s63.trans (r_Ex.of_eq (by rw [e69]; rfl))
  have g71 : r_at σ68 a0 = some (.inl 8) := by rw [e69]; exact g66
  refine r_aload_n C dX8_init_63 rfl (j := 0) rfl ?_
  refine r_sipush (v := 301) C dX8_init_64 (by decide) ?_
  refine r_newa C E (ti := 2) ⟨rfl, fun _ => rfl⟩ rfl ka_boolean (n := 301) (by decide) (by decide) (by decide) rfl (Nat.le_of_ble_eq_true rfl) (Nat.le_of_ble_eq_true rfl) dX8_init_67 ?_
  refine r_wid (c2 := 7) (s2 := 1842) (by first | exact Nat.le_refl _ | (simp; done) | omega) (by first | exact Nat.le_refl _ | (simp; done) | omega) ?_
  refine r_topa (fun b75 e76 => ?_)
  have h := h b75 e76
  refine r_nam (fun σ72 e73 => ?_)
  have h := h σ72 e73
  have s74 : r_Ex σ σ72 := s70.trans (by rw [e73]; exact r_Ex.push)
  have g77 : r_at σ72 a0 = some (.inl 8) := by rw [e73]; exact r_at_ext r_Ex.push g71
  have g78 : r_at σ72 b75 = some (.inr (2, 301)) := by rw [e73, e76]; exact r_at_new
  refine r_putFR C E rfl g77 fa_X8_33 rfl rfl (r_atN g78) dX8_init_69 ?_
  refine r_nam (fun σ79 e80 => ?_)
  have h := h σ79 e80
  have s81 : r_Ex σ σ79 := s74.trans (r_Ex.of_eq (by rw [e80]; rfl))
  have g82 : r_at σ79 a0 = some (.inl 8) := by rw [e80]; exact g77
  refine r_aload_n C dX8_init_72 rfl (j := 0) rfl ?_
  refine r_bipush (v := 36) C dX8_init_73 (by decide) ?_
  refine r_newa C E (ti := 0) ⟨rfl, fun _ => rfl⟩ rfl ka_int (n := 36) (by decide) (by decide) (by decide) rfl (Nat.le_of_ble_eq_true rfl) (Nat.le_of_ble_eq_true rfl) dX8_init_75 ?_
  refine r_wid (c2 := 8) (s2 := 1878) (by first | exact Nat.le_refl _ | (simp; done) | omega) (by first | exact Nat.le_refl _ | (simp; done) | omega) ?_
  refine r_topa (fun b86 e87 => ?_)
  have h := h b86 e87
  refine r_nam (fun σ83 e84 => ?_)
  have h := h σ83 e84
  have s85 : r_Ex σ σ83 := s81.trans (by rw [e84]; exact r_Ex.push)
  have g88 : r_at σ83 a0 = some (.inl 8) := by rw [e84]; exact r_at_ext r_Ex.push g82
  have g89 : r_at σ83 b86 = some (.inr (0, 36)) := by rw [e84, e87]; exact r_at_new
  refine r_putFR C E rfl g88 fa_X8_36 rfl rfl (r_atN g89) dX8_init_77 ?_
  refine r_nam (fun σ90 e91 => ?_)
  have h := h σ90 e91
  have s92 : r_Ex σ σ90 := s85.trans (r_Ex.of_eq (by rw [e91]; rfl))
  have g93 : r_at σ90 a0 = some (.inl 8) := by rw [e91]; exact g88
  refine r_aload_n C dX8_init_80 rfl (j := 0) rfl ?_
  refine r_bipush (v := 36) C dX8_init_81 (by decide) ?_
  refine r_newa C E (ti := 0) ⟨rfl, fun _ => rfl⟩ rfl ka_int (n := 36) (by decide) (by decide) (by decide) rfl (Nat.le_of_ble_eq_true rfl) (Nat.le_of_ble_eq_true rfl) dX8_init_83 ?_
  refine r_wid (c2 := 9) (s2 := 1914) (by first | exact Nat.le_refl _ | (simp; done) | omega) (by first | exact Nat.le_refl _ | (simp; done) | omega) ?_
  refine r_topa (fun b97 e98 => ?_)
  have h := h b97 e98
  refine r_nam (fun σ94 e95 => ?_)
  have h := h σ94 e95
  have s96 : r_Ex σ σ94 := s92.trans (by rw [e95]; exact r_Ex.push)
  have g99 : r_at σ94 a0 = some (.inl 8) := by rw [e95]; exact r_at_ext r_Ex.push g93
  have g100 : r_at σ94 b97 = some (.inr (0, 36)) := by rw [e95, e98]; exact r_at_new
  refine r_putFR C E rfl g99 fa_X8_39 rfl rfl (r_atN g100) dX8_init_85 ?_
  refine r_nam (fun σ101 e102 => ?_)
  have h := h σ101 e102
  have s103 : r_Ex σ σ101 := s96.trans (r_Ex.of_eq (by rw [e102]; rfl))
  have g104 : r_at σ101 a0 = some (.inl 8) := by rw [e102]; exact g99
  refine r_aload_n C dX8_init_88 rfl (j := 0) rfl ?_
  refine r_sipush (v := 400) C dX8_init_89 (by decide) ?_
  refine r_newa C E (ti := 0) ⟨rfl, fun _ => rfl⟩ rfl ka_int (n := 400) (by decide) (by decide) (by decide) rfl (Nat.le_of_ble_eq_true rfl) (Nat.le_of_ble_eq_true rfl) dX8_init_92 ?_
  refine r_wid (c2 := 10) (s2 := 2314) (by first | exact Nat.le_refl _ | (simp; done) | omega) (by first | exact Nat.le_refl _ | (simp; done) | omega) ?_
  refine r_topa (fun b108 e109 => ?_)
  have h := h b108 e109
  refine r_nam (fun σ105 e106 => ?_)
  have h := h σ105 e106
  have s107 : r_Ex σ σ105 := s103.trans (by rw [e106]; exact r_Ex.push)
  have g110 : r_at σ105 a0 = some (.inl 8) := by rw [e106]; exact r_at_ext r_Ex.push g104
  have g111 : r_at σ105 b108 = some (.inr (0, 400)) := by rw [e106, e109]; exact r_at_new
  refine r_putFR C E rfl g110 fa_X8_42 rfl rfl (r_atN g111) dX8_init_94 ?_
  refine r_nam (fun σ112 e113 => ?_)
  have h := h σ112 e113
  have s114 : r_Ex σ σ112 := s107.trans (r_Ex.of_eq (by rw [e113]; rfl))
  have g115 : r_at σ112 a0 = some (.inl 8) := by rw [e113]; exact g110
  refine r_aload_n C dX8_init_97 rfl (j := 0) rfl ?_
  refine r_bipush (v := 40) C dX8_init_98 (by decide) ?_
  refine r_newa C E (ti := 0) ⟨rfl, fun _ => rfl⟩ rfl ka_int (n := 40) (by decide) (by decide) (by decide) rfl (Nat.le_of_ble_eq_true rfl) (Nat.le_of_ble_eq_true rfl) dX8_init_100 ?_
  refine r_wid (c2 := 11) (s2 := 2354) (by first | exact Nat.le_refl _ | (simp; done) | omega) (by first | exact Nat.le_refl _ | (simp; done) | omega) ?_
  refine r_topa (fun b119 e120 => ?_)
  have h := h b119 e120
  refine r_nam (fun σ116 e117 => ?_)
  have h := h σ116 e117
  have s118 : r_Ex σ σ116 := s114.trans (by rw [e117]; exact r_Ex.push)
  have g121 : r_at σ116 a0 = some (.inl 8) := by rw [e117]; exact r_at_ext r_Ex.push g115
  have g122 : r_at σ116 b119 = some (.inr (0, 40)) := by rw [e117, e120]; exact r_at_new
  refine r_putFR C E rfl g121 fa_X8_45 rfl rfl (r_atN g122) dX8_init_102 ?_
  refine r_nam (fun σ123 e124 => ?_)
  have h := h σ123 e124
  have s125 : r_Ex σ σ123 := s118.trans (r_Ex.of_eq (by rw [e124]; rfl))
  have g126 : r_at σ123 a0 = some (.inl 8) := by rw [e124]; exact g121
  refine r_aload_n C dX8_init_105 rfl (j := 0) rfl ?_
  refine r_bipush (v := 40) C dX8_init_106 (by decide) ?_
  refine r_newa C E (ti := 1) ⟨rfl, fun _ => rfl⟩ rfl ka_long (n := 40) (by decide) (by decide) (by decide) rfl (Nat.le_of_ble_eq_true rfl) (Nat.le_of_ble_eq_true rfl) dX8_init_108 ?_
  refine r_wid (c2 := 12) (s2 := 2394) (by first | exact Nat.le_refl _ | (simp; done) | omega) (by first | exact Nat.le_refl _ | (simp; done) | omega) ?_
  refine r_topa (fun b130 e131 => ?_)
  have h := h b130 e131
  refine r_nam (fun σ127 e128 => ?_)
  have h := h σ127 e128
  have s129 : r_Ex σ σ127 := s125.trans (by rw [e128]; exact r_Ex.push)
  have g132 : r_at σ127 a0 = some (.inl 8) := by rw [e128]; exact r_at_ext r_Ex.push g126
  have g133 : r_at σ127 b130 = some (.inr (1, 40)) := by rw [e128, e131]; exact r_at_new
  refine r_putFR C E rfl g132 fa_X8_48 rfl rfl (r_atN g133) dX8_init_110 ?_
  refine r_nam (fun σ134 e135 => ?_)
  have h := h σ134 e135
  have s136 : r_Ex σ σ134 := s129.trans (r_Ex.of_eq (by rw [e135]; rfl))
  have g137 : r_at σ134 a0 = some (.inl 8) := by rw [e135]; exact g132
  refine r_aload_n C dX8_init_113 rfl (j := 0) rfl ?_
  refine r_bipush (v := 40) C dX8_init_114 (by decide) ?_
  refine r_newa C E (ti := 0) ⟨rfl, fun _ => rfl⟩ rfl ka_int (n := 40) (by decide) (by decide) (by decide) rfl (Nat.le_of_ble_eq_true rfl) (Nat.le_of_ble_eq_true rfl) dX8_init_116 ?_
  refine r_wid (c2 := 13) (s2 := 2434) (by first | exact Nat.le_refl _ | (simp; done) | omega) (by first | exact Nat.le_refl _ | (simp; done) | omega) ?_
  refine r_topa (fun b141 e142 => ?_)
  have h := h b141 e142
  refine r_nam (fun σ138 e139 => ?_)
  have h := h σ138 e139
  have s140 : r_Ex σ σ138 := s136.trans (by rw [e139]; exact r_Ex.push)
  have g143 : r_at σ138 a0 = some (.inl 8) := by rw [e139]; exact r_at_ext r_Ex.push g137
  have g144 : r_at σ138 b141 = some (.inr (0, 40)) := by rw [e139, e142]; exact r_at_new
  refine r_putFR C E rfl g143 fa_X8_52 rfl rfl (r_atN g144) dX8_init_118 ?_
  refine r_nam (fun σ145 e146 => ?_)
  have h := h σ145 e146
  have s147 : r_Ex σ σ145 := s140.trans (r_Ex.of_eq (by rw [e146]; rfl))
  have g148 : r_at σ145 a0 = some (.inl 8) := by rw [e146]; exact g143
  refine r_aload_n C dX8_init_121 rfl (j := 0) rfl ?_
  refine r_sipush (v := 700) C dX8_init_122 (by decide) ?_
  refine r_newa C E (ti := 0) ⟨rfl, fun _ => rfl⟩ rfl ka_int (n := 700) (by decide) (by decide) (by decide) rfl (Nat.le_of_ble_eq_true rfl) (Nat.le_of_ble_eq_true rfl) dX8_init_125 ?_
  refine r_wid (c2 := 14) (s2 := 3134) (by first | exact Nat.le_refl _ | (simp; done) | omega) (by first | exact Nat.le_refl _ | (simp; done) | omega) ?_
  refine r_topa (fun b152 e153 => ?_)
  have h := h b152 e153
  refine r_nam (fun σ149 e150 => ?_)
  have h := h σ149 e150
  have s151 : r_Ex σ σ149 := s147.trans (by rw [e150]; exact r_Ex.push)
  have g154 : r_at σ149 a0 = some (.inl 8) := by rw [e150]; exact r_at_ext r_Ex.push g148
  have g155 : r_at σ149 b152 = some (.inr (0, 700)) := by rw [e150, e153]; exact r_at_new
  refine r_putFR C E rfl g154 fa_X8_55 rfl rfl (r_atN g155) dX8_init_127 ?_
  refine r_nam (fun σ156 e157 => ?_)
  have h := h σ156 e157
  have s158 : r_Ex σ σ156 := s151.trans (r_Ex.of_eq (by rw [e157]; rfl))
  have g159 : r_at σ156 a0 = some (.inl 8) := by rw [e157]; exact g154
  refine r_aload_n C dX8_init_130 rfl (j := 0) rfl ?_
  refine r_sipush (v := 700) C dX8_init_131 (by decide) ?_
  refine r_newa C E (ti := 0) ⟨rfl, fun _ => rfl⟩ rfl ka_int (n := 700) (by decide) (by decide) (by decide) rfl (Nat.le_of_ble_eq_true rfl) (Nat.le_of_ble_eq_true rfl) dX8_init_134 ?_
  refine r_wid (c2 := 15) (s2 := 3834) (by first | exact Nat.le_refl _ | (simp; done) | omega) (by first | exact Nat.le_refl _ | (simp; done) | omega) ?_
  refine r_topa (fun b163 e164 => ?_)
  have h := h b163 e164
  refine r_nam (fun σ160 e161 => ?_)
  have h := h σ160 e161
  have s162 : r_Ex σ σ160 := s158.trans (by rw [e161]; exact r_Ex.push)
  have g165 : r_at σ160 a0 = some (.inl 8) := by rw [e161]; exact r_at_ext r_Ex.push g159
  have g166 : r_at σ160 b163 = some (.inr (0, 700)) := by rw [e161, e164]; exact r_at_new
  refine r_putFR C E rfl g165 fa_X8_58 rfl rfl (r_atN g166) dX8_init_136 ?_
  refine r_nam (fun σ167 e168 => ?_)
  have h := h σ167 e168
  have s169 : r_Ex σ σ167 := s162.trans (r_Ex.of_eq (by rw [e168]; rfl))
  have g170 : r_at σ167 a0 = some (.inl 8) := by rw [e168]; exact g165
  refine r_aload_n C dX8_init_139 rfl (j := 0) rfl ?_
  refine r_sipush (v := 700) C dX8_init_140 (by decide) ?_
  refine r_newa C E (ti := 1) ⟨rfl, fun _ => rfl⟩ rfl ka_long (n := 700) (by decide) (by decide) (by decide) rfl (Nat.le_of_ble_eq_true rfl) (Nat.le_of_ble_eq_true rfl) dX8_init_143 ?_
  refine r_wid (c2 := 16) (s2 := 4534) (by first | exact Nat.le_refl _ | (simp; done) | omega) (by first | exact Nat.le_refl _ | (simp; done) | omega) ?_
  refine r_topa (fun b174 e175 => ?_)
  have h := h b174 e175
  refine r_nam (fun σ171 e172 => ?_)
  have h := h σ171 e172
  have s173 : r_Ex σ σ171 := s169.trans (by rw [e172]; exact r_Ex.push)
  have g176 : r_at σ171 a0 = some (.inl 8) := by rw [e172]; exact r_at_ext r_Ex.push g170
  have g177 : r_at σ171 b174 = some (.inr (1, 700)) := by rw [e172, e175]; exact r_at_new
  refine r_putFR C E rfl g176 fa_X8_61 rfl rfl (r_atN g177) dX8_init_145 ?_
  refine r_nam (fun σ178 e179 => ?_)
  have h := h σ178 e179
  have s180 : r_Ex σ σ178 := s173.trans (r_Ex.of_eq (by rw [e179]; rfl))
  have g181 : r_at σ178 a0 = some (.inl 8) := by rw [e179]; exact g176
  refine r_aload_n C dX8_init_148 rfl (j := 0) rfl ?_
  refine r_bipush (v := 6) C dX8_init_149 (by decide) ?_
  refine r_newa C E (ti := 0) ⟨rfl, fun _ => rfl⟩ rfl ka_int (n := 6) (by decide) (by decide) (by decide) rfl (Nat.le_of_ble_eq_true rfl) (Nat.le_of_ble_eq_true rfl) dX8_init_151 ?_
  refine r_wid (c2 := 17) (s2 := 4540) (by first | exact Nat.le_refl _ | (simp; done) | omega) (by first | exact Nat.le_refl _ | (simp; done) | omega) ?_
  refine r_topa (fun b185 e186 => ?_)
  have h := h b185 e186
  refine r_nam (fun σ182 e183 => ?_)
  have h := h σ182 e183
  have s184 : r_Ex σ σ182 := s180.trans (by rw [e183]; exact r_Ex.push)
  have g187 : r_at σ182 a0 = some (.inl 8) := by rw [e183]; exact r_at_ext r_Ex.push g181
  have g188 : r_at σ182 b185 = some (.inr (0, 6)) := by rw [e183, e186]; exact r_at_new
  refine r_putFR C E rfl g187 fa_X8_64 rfl rfl (r_atN g188) dX8_init_153 ?_
  refine r_nam (fun σ189 e190 => ?_)
  have h := h σ189 e190
  have s191 : r_Ex σ σ189 := s184.trans (r_Ex.of_eq (by rw [e190]; rfl))
  have g192 : r_at σ189 a0 = some (.inl 8) := by rw [e190]; exact g187
  refine r_aload_n C dX8_init_156 rfl (j := 0) rfl ?_
  refine r_bipush (v := 6) C dX8_init_157 (by decide) ?_
  refine r_newa C E (ti := 0) ⟨rfl, fun _ => rfl⟩ rfl ka_int (n := 6) (by decide) (by decide) (by decide) rfl (Nat.le_of_ble_eq_true rfl) (Nat.le_of_ble_eq_true rfl) dX8_init_159 ?_
  refine r_wid (c2 := 18) (s2 := 4546) (by first | exact Nat.le_refl _ | (simp; done) | omega) (by first | exact Nat.le_refl _ | (simp; done) | omega) ?_
  refine r_topa (fun b196 e197 => ?_)
  have h := h b196 e197
  refine r_nam (fun σ193 e194 => ?_)
  have h := h σ193 e194
  have s195 : r_Ex σ σ193 := s191.trans (by rw [e194]; exact r_Ex.push)
  have g198 : r_at σ193 a0 = some (.inl 8) := by rw [e194]; exact r_at_ext r_Ex.push g192
  have g199 : r_at σ193 b196 = some (.inr (0, 6)) := by rw [e194, e197]; exact r_at_new
  refine r_putFR C E rfl g198 fa_X8_67 rfl rfl (r_atN g199) dX8_init_161 ?_
  refine r_nam (fun σ200 e201 => ?_)
  have h := h σ200 e201
  have s202 : r_Ex σ σ200 := s195.trans (r_Ex.of_eq (by rw [e201]; rfl))
  have g203 : r_at σ200 a0 = some (.inl 8) := by rw [e201]; exact g198
  refine r_aload_n C dX8_init_164 rfl (j := 0) rfl ?_
  refine r_bipush (v := 6) C dX8_init_165 (by decide) ?_
  refine r_newa C E (ti := 0) ⟨rfl, fun _ => rfl⟩ rfl ka_int (n := 6) (by decide) (by decide) (by decide) rfl (Nat.le_of_ble_eq_true rfl) (Nat.le_of_ble_eq_true rfl) dX8_init_167 ?_
  refine r_wid (c2 := 19) (s2 := 4552) (by first | exact Nat.le_refl _ | (simp; done) | omega) (by first | exact Nat.le_refl _ | (simp; done) | omega) ?_
  refine r_topa (fun b207 e208 => ?_)
  have h := h b207 e208
  refine r_nam (fun σ204 e205 => ?_)
  have h := h σ204 e205
  have s206 : r_Ex σ σ204 := s202.trans (by rw [e205]; exact r_Ex.push)
  have g209 : r_at σ204 a0 = some (.inl 8) := by rw [e205]; exact r_at_ext r_Ex.push g203
  have g210 : r_at σ204 b207 = some (.inr (0, 6)) := by rw [e205, e208]; exact r_at_new
  refine r_putFR C E rfl g209 fa_X8_70 rfl rfl (r_atN g210) dX8_init_169 ?_
  refine r_nam (fun σ211 e212 => ?_)
  have h := h σ211 e212
  have s213 : r_Ex σ σ211 := s206.trans (r_Ex.of_eq (by rw [e212]; rfl))
  have g214 : r_at σ211 a0 = some (.inl 8) := by rw [e212]; exact g209
  refine r_aload_n C dX8_init_172 rfl (j := 0) rfl ?_
  refine r_bipush (v := 6) C dX8_init_173 (by decide) ?_
  refine r_newa C E (ti := 0) ⟨rfl, fun _ => rfl⟩ rfl ka_int (n := 6) (by decide) (by decide) (by decide) rfl (Nat.le_of_ble_eq_true rfl) (Nat.le_of_ble_eq_true rfl) dX8_init_175 ?_
  refine r_wid (c2 := 20) (s2 := 4558) (by first | exact Nat.le_refl _ | (simp; done) | omega) (by first | exact Nat.le_refl _ | (simp; done) | omega) ?_
  refine r_topa (fun b218 e219 => ?_)
  have h := h b218 e219
  refine r_nam (fun σ215 e216 => ?_)
  have h := h σ215 e216
  have s217 : r_Ex σ σ215 := s213.trans (by rw [e216]; exact r_Ex.push)
  have g220 : r_at σ215 a0 = some (.inl 8) := by rw [e216]; exact r_at_ext r_Ex.push g214
  have g221 : r_at σ215 b218 = some (.inr (0, 6)) := by rw [e216, e219]; exact r_at_new
  refine r_putFR C E rfl g220 fa_X8_73 rfl rfl (r_atN g221) dX8_init_177 ?_
  refine r_nam (fun σ222 e223 => ?_)
  have h := h σ222 e223
  have s224 : r_Ex σ σ222 := s217.trans (r_Ex.of_eq (by rw [e223]; rfl))
  have g225 : r_at σ222 a0 = some (.inl 8) := by rw [e223]; exact g220
  refine r_aload_n C dX8_init_180 rfl (j := 0) rfl ?_
  refine r_bipush (v := 6) C dX8_init_181 (by decide) ?_
  refine r_newa C E (ti := 0) ⟨rfl, fun _ => rfl⟩ rfl ka_int (n := 6) (by decide) (by decide) (by decide) rfl (Nat.le_of_ble_eq_true rfl) (Nat.le_of_ble_eq_true rfl) dX8_init_183 ?_
  refine r_wid (c2 := 21) (s2 := 4564) (by first | exact Nat.le_refl _ | (simp; done) | omega) (by first | exact Nat.le_refl _ | (simp; done) | omega) ?_
  refine r_topa (fun b229 e230 => ?_)
  have h := h b229 e230
  refine r_nam (fun σ226 e227 => ?_)
  have h := h σ226 e227
  have s228 : r_Ex σ σ226 := s224.trans (by rw [e227]; exact r_Ex.push)
  have g231 : r_at σ226 a0 = some (.inl 8) := by rw [e227]; exact r_at_ext r_Ex.push g225
  have g232 : r_at σ226 b229 = some (.inr (0, 6)) := by rw [e227, e230]; exact r_at_new
  refine r_putFR C E rfl g231 fa_X8_76 rfl rfl (r_atN g232) dX8_init_185 ?_
  refine r_nam (fun σ233 e234 => ?_)
  have h := h σ233 e234
  have s235 : r_Ex σ σ233 := s228.trans (r_Ex.of_eq (by rw [e234]; rfl))
  have g236 : r_at σ233 a0 = some (.inl 8) := by rw [e234]; exact g231
  refine r_aload_n C dX8_init_188 rfl (j := 0) rfl ?_
  refine r_bipush (v := 6) C dX8_init_189 (by decide) ?_
  refine r_newa C E (ti := 1) ⟨rfl, fun _ => rfl⟩ rfl ka_long (n := 6) (by decide) (by decide) (by decide) rfl (Nat.le_of_ble_eq_true rfl) (Nat.le_of_ble_eq_true rfl) dX8_init_191 ?_
  refine r_wid (c2 := 22) (s2 := 4570) (by first | exact Nat.le_refl _ | (simp; done) | omega) (by first | exact Nat.le_refl _ | (simp; done) | omega) ?_
  refine r_topa (fun b240 e241 => ?_)
  have h := h b240 e241
  refine r_nam (fun σ237 e238 => ?_)
  have h := h σ237 e238
  have s239 : r_Ex σ σ237 := s235.trans (by rw [e238]; exact r_Ex.push)
  have g242 : r_at σ237 a0 = some (.inl 8) := by rw [e238]; exact r_at_ext r_Ex.push g236
  have g243 : r_at σ237 b240 = some (.inr (1, 6)) := by rw [e238, e241]; exact r_at_new
  refine r_putFR C E rfl g242 fa_X8_79 rfl rfl (r_atN g243) dX8_init_193 ?_
  refine r_nam (fun σ244 e245 => ?_)
  have h := h σ244 e245
  have s246 : r_Ex σ σ244 := s239.trans (r_Ex.of_eq (by rw [e245]; rfl))
  have g247 : r_at σ244 a0 = some (.inl 8) := by rw [e245]; exact g242
  refine r_aload_n C dX8_init_196 rfl (j := 0) rfl ?_
  refine r_bipush (v := 6) C dX8_init_197 (by decide) ?_
  refine r_newa C E (ti := 1) ⟨rfl, fun _ => rfl⟩ rfl ka_long (n := 6) (by decide) (by decide) (by decide) rfl (Nat.le_of_ble_eq_true rfl) (Nat.le_of_ble_eq_true rfl) dX8_init_199 ?_
  refine r_wid (c2 := 23) (s2 := 4576) (by first | exact Nat.le_refl _ | (simp; done) | omega) (by first | exact Nat.le_refl _ | (simp; done) | omega) ?_
  refine r_topa (fun b251 e252 => ?_)
  have h := h b251 e252
  refine r_nam (fun σ248 e249 => ?_)
  have h := h σ248 e249
  have s250 : r_Ex σ σ248 := s246.trans (by rw [e249]; exact r_Ex.push)
  have g253 : r_at σ248 a0 = some (.inl 8) := by rw [e249]; exact r_at_ext r_Ex.push g247
  have g254 : r_at σ248 b251 = some (.inr (1, 6)) := by rw [e249, e252]; exact r_at_new
  refine r_putFR C E rfl g253 fa_X8_82 rfl rfl (r_atN g254) dX8_init_201 ?_
  refine r_nam (fun σ255 e256 => ?_)
  have h := h σ255 e256
  have s257 : r_Ex σ σ255 := s250.trans (r_Ex.of_eq (by rw [e256]; rfl))
  have g258 : r_at σ255 a0 = some (.inl 8) := by rw [e256]; exact g253
  refine r_aload_n C dX8_init_204 rfl (j := 0) rfl ?_
  refine r_bipush (v := 6) C dX8_init_205 (by decide) ?_
  refine r_newa C E (ti := 0) ⟨rfl, fun _ => rfl⟩ rfl ka_int (n := 6) (by decide) (by decide) (by decide) rfl (Nat.le_of_ble_eq_true rfl) (Nat.le_of_ble_eq_true rfl) dX8_init_207 ?_
  refine r_wid (c2 := 24) (s2 := 4582) (by first | exact Nat.le_refl _ | (simp; done) | omega) (by first | exact Nat.le_refl _ | (simp; done) | omega) ?_
  refine r_topa (fun b262 e263 => ?_)
  have h := h b262 e263
  refine r_nam (fun σ259 e260 => ?_)
  have h := h σ259 e260
  have s261 : r_Ex σ σ259 := s257.trans (by rw [e260]; exact r_Ex.push)
  have g264 : r_at σ259 a0 = some (.inl 8) := by rw [e260]; exact r_at_ext r_Ex.push g258
  have g265 : r_at σ259 b262 = some (.inr (0, 6)) := by rw [e260, e263]; exact r_at_new
  refine r_putFR C E rfl g264 fa_X8_85 rfl rfl (r_atN g265) dX8_init_209 ?_
  refine r_nam (fun σ266 e267 => ?_)
  have h := h σ266 e267
  have s268 : r_Ex σ σ266 := s261.trans (r_Ex.of_eq (by rw [e267]; rfl))
  have g269 : r_at σ266 a0 = some (.inl 8) := by rw [e267]; exact g264
  refine r_aload_n C dX8_init_212 rfl (j := 0) rfl ?_
  refine r_bipush (v := 6) C dX8_init_213 (by decide) ?_
  refine r_newa C E (ti := 0) ⟨rfl, fun _ => rfl⟩ rfl ka_int (n := 6) (by decide) (by decide) (by decide) rfl (Nat.le_of_ble_eq_true rfl) (Nat.le_of_ble_eq_true rfl) dX8_init_215 ?_
  refine r_wid (c2 := 25) (s2 := 4588) (by first | exact Nat.le_refl _ | (simp; done) | omega) (by first | exact Nat.le_refl _ | (simp; done) | omega) ?_
  refine r_topa (fun b273 e274 => ?_)
  have h := h b273 e274
  refine r_nam (fun σ270 e271 => ?_)
  have h := h σ270 e271
  have s272 : r_Ex σ σ270 := s268.trans (by rw [e271]; exact r_Ex.push)
  have g275 : r_at σ270 a0 = some (.inl 8) := by rw [e271]; exact r_at_ext r_Ex.push g269
  have g276 : r_at σ270 b273 = some (.inr (0, 6)) := by rw [e271, e274]; exact r_at_new
  refine r_putFR C E rfl g275 fa_X8_88 rfl rfl (r_atN g276) dX8_init_217 ?_
  refine r_nam (fun σ277 e278 => ?_)
  have h := h σ277 e278
  have s279 : r_Ex σ σ277 := s272.trans (r_Ex.of_eq (by rw [e278]; rfl))
  have g280 : r_at σ277 a0 = some (.inl 8) := by rw [e278]; exact g275
  refine r_aload_n C dX8_init_220 rfl (j := 0) rfl ?_
  refine r_bipush (v := 6) C dX8_init_221 (by decide) ?_
  refine r_newa C E (ti := 1) ⟨rfl, fun _ => rfl⟩ rfl ka_long (n := 6) (by decide) (by decide) (by decide) rfl (Nat.le_of_ble_eq_true rfl) (Nat.le_of_ble_eq_true rfl) dX8_init_223 ?_
  refine r_wid (c2 := 26) (s2 := 4594) (by first | exact Nat.le_refl _ | (simp; done) | omega) (by first | exact Nat.le_refl _ | (simp; done) | omega) ?_
  refine r_topa (fun b284 e285 => ?_)
  have h := h b284 e285
  refine r_nam (fun σ281 e282 => ?_)
  have h := h σ281 e282
  have s283 : r_Ex σ σ281 := s279.trans (by rw [e282]; exact r_Ex.push)
  have g286 : r_at σ281 a0 = some (.inl 8) := by rw [e282]; exact r_at_ext r_Ex.push g280
  have g287 : r_at σ281 b284 = some (.inr (1, 6)) := by rw [e282, e285]; exact r_at_new
  refine r_putFR C E rfl g286 fa_X8_91 rfl rfl (r_atN g287) dX8_init_225 ?_
  refine r_nam (fun σ288 e289 => ?_)
  have h := h σ288 e289
  have s290 : r_Ex σ σ288 := s283.trans (r_Ex.of_eq (by rw [e289]; rfl))
  have g291 : r_at σ288 a0 = some (.inl 8) := by rw [e289]; exact g286
  refine r_aload_n C dX8_init_228 rfl (j := 0) rfl ?_
  refine r_bipush (v := 6) C dX8_init_229 (by decide) ?_
  refine r_newa C E (ti := 0) ⟨rfl, fun _ => rfl⟩ rfl ka_int (n := 6) (by decide) (by decide) (by decide) rfl (Nat.le_of_ble_eq_true rfl) (Nat.le_of_ble_eq_true rfl) dX8_init_231 ?_
  refine r_wid (c2 := 27) (s2 := 4600) (by first | exact Nat.le_refl _ | (simp; done) | omega) (by first | exact Nat.le_refl _ | (simp; done) | omega) ?_
  refine r_topa (fun b295 e296 => ?_)
  have h := h b295 e296
  refine r_nam (fun σ292 e293 => ?_)
  have h := h σ292 e293
  have s294 : r_Ex σ σ292 := s290.trans (by rw [e293]; exact r_Ex.push)
  have g297 : r_at σ292 a0 = some (.inl 8) := by rw [e293]; exact r_at_ext r_Ex.push g291
  have g298 : r_at σ292 b295 = some (.inr (0, 6)) := by rw [e293, e296]; exact r_at_new
  refine r_putFR C E rfl g297 fa_X8_94 rfl rfl (r_atN g298) dX8_init_233 ?_
  refine r_nam (fun σ299 e300 => ?_)
  have h := h σ299 e300
  have s301 : r_Ex σ σ299 := s294.trans (r_Ex.of_eq (by rw [e300]; rfl))
  have g302 : r_at σ299 a0 = some (.inl 8) := by rw [e300]; exact g297
  refine r_aload_n C dX8_init_236 rfl (j := 0) rfl ?_
  refine r_bipush (v := 6) C dX8_init_237 (by decide) ?_
  refine r_newa C E (ti := 0) ⟨rfl, fun _ => rfl⟩ rfl ka_int (n := 6) (by decide) (by decide) (by decide) rfl (Nat.le_of_ble_eq_true rfl) (Nat.le_of_ble_eq_true rfl) dX8_init_239 ?_
  refine r_wid (c2 := 28) (s2 := 4606) (by first | exact Nat.le_refl _ | (simp; done) | omega) (by first | exact Nat.le_refl _ | (simp; done) | omega) ?_
  refine r_topa (fun b306 e307 => ?_)
  have h := h b306 e307
  refine r_nam (fun σ303 e304 => ?_)
  have h := h σ303 e304
  have s305 : r_Ex σ σ303 := s301.trans (by rw [e304]; exact r_Ex.push)
  have g308 : r_at σ303 a0 = some (.inl 8) := by rw [e304]; exact r_at_ext r_Ex.push g302
  have g309 : r_at σ303 b306 = some (.inr (0, 6)) := by rw [e304, e307]; exact r_at_new
  refine r_putFR C E rfl g308 fa_X8_97 rfl rfl (r_atN g309) dX8_init_241 ?_
  refine r_nam (fun σ310 e311 => ?_)
  have h := h σ310 e311
  have s312 : r_Ex σ σ310 := s305.trans (r_Ex.of_eq (by rw [e311]; rfl))
  have g313 : r_at σ310 a0 = some (.inl 8) := by rw [e311]; exact g308
  refine r_aload_n C dX8_init_244 rfl (j := 0) rfl ?_
  refine r_bipush (v := 6) C dX8_init_245 (by decide) ?_
  refine r_newa C E (ti := 0) ⟨rfl, fun _ => rfl⟩ rfl ka_int (n := 6) (by decide) (by decide) (by decide) rfl (Nat.le_of_ble_eq_true rfl) (Nat.le_of_ble_eq_true rfl) dX8_init_247 ?_
  refine r_wid (c2 := 29) (s2 := 4612) (by first | exact Nat.le_refl _ | (simp; done) | omega) (by first | exact Nat.le_refl _ | (simp; done) | omega) ?_
  refine r_topa (fun b317 e318 => ?_)
  have h := h b317 e318
  refine r_nam (fun σ314 e315 => ?_)
  have h := h σ314 e315
  have s316 : r_Ex σ σ314 := s312.trans (by rw [e315]; exact r_Ex.push)
  have g319 : r_at σ314 a0 = some (.inl 8) := by rw [e315]; exact r_at_ext r_Ex.push g313
  have g320 : r_at σ314 b317 = some (.inr (0, 6)) := by rw [e315, e318]; exact r_at_new
  refine r_putFR C E rfl g319 fa_X8_100 rfl rfl (r_atN g320) dX8_init_249 ?_
  refine r_nam (fun σ321 e322 => ?_)
  have h := h σ321 e322
  have s323 : r_Ex σ σ321 := s316.trans (r_Ex.of_eq (by rw [e322]; rfl))
  have g324 : r_at σ321 a0 = some (.inl 8) := by rw [e322]; exact g319
  refine r_aload_n C dX8_init_252 rfl (j := 0) rfl ?_
  refine r_bipush (v := 6) C dX8_init_253 (by decide) ?_
  refine r_newa C E (ti := 0) ⟨rfl, fun _ => rfl⟩ rfl ka_int (n := 6) (by decide) (by decide) (by decide) rfl (Nat.le_of_ble_eq_true rfl) (Nat.le_of_ble_eq_true rfl) dX8_init_255 ?_
  refine r_wid (c2 := 30) (s2 := 4618) (by first | exact Nat.le_refl _ | (simp; done) | omega) (by first | exact Nat.le_refl _ | (simp; done) | omega) ?_
  refine r_topa (fun b328 e329 => ?_)
  have h := h b328 e329
  refine r_nam (fun σ325 e326 => ?_)
  have h := h σ325 e326
  have s327 : r_Ex σ σ325 := s323.trans (by rw [e326]; exact r_Ex.push)
  have g330 : r_at σ325 a0 = some (.inl 8) := by rw [e326]; exact r_at_ext r_Ex.push g324
  have g331 : r_at σ325 b328 = some (.inr (0, 6)) := by rw [e326, e329]; exact r_at_new
  refine r_putFR C E rfl g330 fa_X8_103 rfl rfl (r_atN g331) dX8_init_257 ?_
  refine r_nam (fun σ332 e333 => ?_)
  have h := h σ332 e333
  have s334 : r_Ex σ σ332 := s327.trans (r_Ex.of_eq (by rw [e333]; rfl))
  have g335 : r_at σ332 a0 = some (.inl 8) := by rw [e333]; exact g330
  refine r_aload_n C dX8_init_260 rfl (j := 0) rfl ?_
  refine r_bipush (v := 6) C dX8_init_261 (by decide) ?_
  refine r_newa C E (ti := 2) ⟨rfl, fun _ => rfl⟩ rfl ka_boolean (n := 6) (by decide) (by decide) (by decide) rfl (Nat.le_of_ble_eq_true rfl) (Nat.le_of_ble_eq_true rfl) dX8_init_263 ?_
  refine r_wid (c2 := 31) (s2 := 4624) (by first | exact Nat.le_refl _ | (simp; done) | omega) (by first | exact Nat.le_refl _ | (simp; done) | omega) ?_
  refine r_topa (fun b339 e340 => ?_)
  have h := h b339 e340
  refine r_nam (fun σ336 e337 => ?_)
  have h := h σ336 e337
  have s338 : r_Ex σ σ336 := s334.trans (by rw [e337]; exact r_Ex.push)
  have g341 : r_at σ336 a0 = some (.inl 8) := by rw [e337]; exact r_at_ext r_Ex.push g335
  have g342 : r_at σ336 b339 = some (.inr (2, 6)) := by rw [e337, e340]; exact r_at_new
  refine r_putFR C E rfl g341 fa_X8_106 rfl rfl (r_atN g342) dX8_init_265 ?_
  refine r_nam (fun σ343 e344 => ?_)
  have h := h σ343 e344
  have s345 : r_Ex σ σ343 := s338.trans (r_Ex.of_eq (by rw [e344]; rfl))
  have g346 : r_at σ343 a0 = some (.inl 8) := by rw [e344]; exact g341
  refine r_aload_n C dX8_init_268 rfl (j := 0) rfl ?_
  refine r_bipush (v := 6) C dX8_init_269 (by decide) ?_
  refine r_newa C E (ti := 1) ⟨rfl, fun _ => rfl⟩ rfl ka_long (n := 6) (by decide) (by decide) (by decide) rfl (Nat.le_of_ble_eq_true rfl) (Nat.le_of_ble_eq_true rfl) dX8_init_271 ?_
  refine r_wid (c2 := 32) (s2 := 4630) (by first | exact Nat.le_refl _ | (simp; done) | omega) (by first | exact Nat.le_refl _ | (simp; done) | omega) ?_
  refine r_topa (fun b350 e351 => ?_)
  have h := h b350 e351
  refine r_nam (fun σ347 e348 => ?_)
  have h := h σ347 e348
  have s349 : r_Ex σ σ347 := s345.trans (by rw [e348]; exact r_Ex.push)
  have g352 : r_at σ347 a0 = some (.inl 8) := by rw [e348]; exact r_at_ext r_Ex.push g346
  have g353 : r_at σ347 b350 = some (.inr (1, 6)) := by rw [e348, e351]; exact r_at_new
  refine r_putFR C E rfl g352 fa_X8_109 rfl rfl (r_atN g353) dX8_init_273 ?_
  refine r_nam (fun σ354 e355 => ?_)
  have h := h σ354 e355
  have s356 : r_Ex σ σ354 := s349.trans (r_Ex.of_eq (by rw [e355]; rfl))
  have g357 : r_at σ354 a0 = some (.inl 8) := by rw [e355]; exact g352
  refine r_aload_n C dX8_init_276 rfl (j := 0) rfl ?_
  refine r_bipush (v := 24) C dX8_init_277 (by decide) ?_
  refine r_newa C E (ti := 0) ⟨rfl, fun _ => rfl⟩ rfl ka_int (n := 24) (by decide) (by decide) (by decide) rfl (Nat.le_of_ble_eq_true rfl) (Nat.le_of_ble_eq_true rfl) dX8_init_279 ?_
  refine r_wid (c2 := 33) (s2 := 4654) (by first | exact Nat.le_refl _ | (simp; done) | omega) (by first | exact Nat.le_refl _ | (simp; done) | omega) ?_
  refine r_topa (fun b361 e362 => ?_)
  have h := h b361 e362
  refine r_nam (fun σ358 e359 => ?_)
  have h := h σ358 e359
  have s360 : r_Ex σ σ358 := s356.trans (by rw [e359]; exact r_Ex.push)
  have g363 : r_at σ358 a0 = some (.inl 8) := by rw [e359]; exact r_at_ext r_Ex.push g357
  have g364 : r_at σ358 b361 = some (.inr (0, 24)) := by rw [e359, e362]; exact r_at_new
  refine r_putFR C E rfl g363 fa_X8_112 rfl rfl (r_atN g364) dX8_init_281 ?_
  refine r_nam (fun σ365 e366 => ?_)
  have h := h σ365 e366
  have s367 : r_Ex σ σ365 := s360.trans (r_Ex.of_eq (by rw [e366]; rfl))
  have g368 : r_at σ365 a0 = some (.inl 8) := by rw [e366]; exact g363
  refine r_aload_n C dX8_init_284 rfl (j := 0) rfl ?_
  refine r_bipush (v := 24) C dX8_init_285 (by decide) ?_
  refine r_newa C E (ti := 0) ⟨rfl, fun _ => rfl⟩ rfl ka_int (n := 24) (by decide) (by decide) (by decide) rfl (Nat.le_of_ble_eq_true rfl) (Nat.le_of_ble_eq_true rfl) dX8_init_287 ?_
  refine r_wid (c2 := 34) (s2 := 4678) (by first | exact Nat.le_refl _ | (simp; done) | omega) (by first | exact Nat.le_refl _ | (simp; done) | omega) ?_
  refine r_topa (fun b372 e373 => ?_)
  have h := h b372 e373
  refine r_nam (fun σ369 e370 => ?_)
  have h := h σ369 e370
  have s371 : r_Ex σ σ369 := s367.trans (by rw [e370]; exact r_Ex.push)
  have g374 : r_at σ369 a0 = some (.inl 8) := by rw [e370]; exact r_at_ext r_Ex.push g368
  have g375 : r_at σ369 b372 = some (.inr (0, 24)) := by rw [e370, e373]; exact r_at_new
  refine r_putFR C E rfl g374 fa_X8_115 rfl rfl (r_atN g375) dX8_init_289 ?_
  refine r_nam (fun σ376 e377 => ?_)
  have h := h σ376 e377
  have s378 : r_Ex σ σ376 := s371.trans (r_Ex.of_eq (by rw [e377]; rfl))
  have g379 : r_at σ376 a0 = some (.inl 8) := by rw [e377]; exact g374
  refine r_aload_n C dX8_init_292 rfl (j := 0) rfl ?_
  refine r_bipush (v := 6) C dX8_init_293 (by decide) ?_
  refine r_newa C E (ti := 0) ⟨rfl, fun _ => rfl⟩ rfl ka_int (n := 6) (by decide) (by decide) (by decide) rfl (Nat.le_of_ble_eq_true rfl) (Nat.le_of_ble_eq_true rfl) dX8_init_295 ?_
  refine r_wid (c2 := 35) (s2 := 4684) (by first | exact Nat.le_refl _ | (simp; done) | omega) (by first | exact Nat.le_refl _ | (simp; done) | omega) ?_
  refine r_topa (fun b383 e384 => ?_)
  have h := h b383 e384
  refine r_nam (fun σ380 e381 => ?_)
  have h := h σ380 e381
  have s382 : r_Ex σ σ380 := s378.trans (by rw [e381]; exact r_Ex.push)
  have g385 : r_at σ380 a0 = some (.inl 8) := by rw [e381]; exact r_at_ext r_Ex.push g379
  have g386 : r_at σ380 b383 = some (.inr (0, 6)) := by rw [e381, e384]; exact r_at_new
  refine r_putFR C E rfl g385 fa_X8_118 rfl rfl (r_atN g386) dX8_init_297 ?_
  refine r_nam (fun σ387 e388 => ?_)
  have h := h σ387 e388
  have s389 : r_Ex σ σ387 := s382.trans (r_Ex.of_eq (by rw [e388]; rfl))
  have g390 : r_at σ387 a0 = some (.inl 8) := by rw [e388]; exact g385
  refine r_aload_n C dX8_init_300 rfl (j := 0) rfl ?_
  refine r_bipush (v := 6) C dX8_init_301 (by decide) ?_
  refine r_newa C E (ti := 0) ⟨rfl, fun _ => rfl⟩ rfl ka_int (n := 6) (by decide) (by decide) (by decide) rfl (Nat.le_of_ble_eq_true rfl) (Nat.le_of_ble_eq_true rfl) dX8_init_303 ?_
  refine r_wid (c2 := 36) (s2 := 4690) (by first | exact Nat.le_refl _ | (simp; done) | omega) (by first | exact Nat.le_refl _ | (simp; done) | omega) ?_
  refine r_topa (fun b394 e395 => ?_)
  have h := h b394 e395
  refine r_nam (fun σ391 e392 => ?_)
  have h := h σ391 e392
  have s393 : r_Ex σ σ391 := s389.trans (by rw [e392]; exact r_Ex.push)
  have g396 : r_at σ391 a0 = some (.inl 8) := by rw [e392]; exact r_at_ext r_Ex.push g390
  have g397 : r_at σ391 b394 = some (.inr (0, 6)) := by rw [e392, e395]; exact r_at_new
  refine r_putFR C E rfl g396 fa_X8_121 rfl rfl (r_atN g397) dX8_init_305 ?_
  refine r_nam (fun σ398 e399 => ?_)
  have h := h σ398 e399
  have s400 : r_Ex σ σ398 := s393.trans (r_Ex.of_eq (by rw [e399]; rfl))
  have g401 : r_at σ398 a0 = some (.inl 8) := by rw [e399]; exact g396
  refine r_aload_n C dX8_init_308 rfl (j := 0) rfl ?_
  refine r_bipush (v := 6) C dX8_init_309 (by decide) ?_
  refine r_newa C E (ti := 0) ⟨rfl, fun _ => rfl⟩ rfl ka_int (n := 6) (by decide) (by decide) (by decide) rfl (Nat.le_of_ble_eq_true rfl) (Nat.le_of_ble_eq_true rfl) dX8_init_311 ?_
  refine r_wid (c2 := 37) (s2 := 4696) (by first | exact Nat.le_refl _ | (simp; done) | omega) (by first | exact Nat.le_refl _ | (simp; done) | omega) ?_
  refine r_topa (fun b405 e406 => ?_)
  have h := h b405 e406
  refine r_nam (fun σ402 e403 => ?_)
  have h := h σ402 e403
  have s404 : r_Ex σ σ402 := s400.trans (by rw [e403]; exact r_Ex.push)
  have g407 : r_at σ402 a0 = some (.inl 8) := by rw [e403]; exact r_at_ext r_Ex.push g401
  have g408 : r_at σ402 b405 = some (.inr (0, 6)) := by rw [e403, e406]; exact r_at_new
  refine r_putFR C E rfl g407 fa_X8_124 rfl rfl (r_atN g408) dX8_init_313 ?_
  refine r_nam (fun σ409 e410 => ?_)
  have h := h σ409 e410
  have s411 : r_Ex σ σ409 := s404.trans (r_Ex.of_eq (by rw [e410]; rfl))
  have g412 : r_at σ409 a0 = some (.inl 8) := by rw [e410]; exact g407
  refine r_aload_n C dX8_init_316 rfl (j := 0) rfl ?_
  refine r_bipush (v := 6) C dX8_init_317 (by decide) ?_
  refine r_newa C E (ti := 0) ⟨rfl, fun _ => rfl⟩ rfl ka_int (n := 6) (by decide) (by decide) (by decide) rfl (Nat.le_of_ble_eq_true rfl) (Nat.le_of_ble_eq_true rfl) dX8_init_319 ?_
  refine r_wid (c2 := 38) (s2 := 4702) (by first | exact Nat.le_refl _ | (simp; done) | omega) (by first | exact Nat.le_refl _ | (simp; done) | omega) ?_
  refine r_topa (fun b416 e417 => ?_)
  have h := h b416 e417
  refine r_nam (fun σ413 e414 => ?_)
  have h := h σ413 e414
  have s415 : r_Ex σ σ413 := s411.trans (by rw [e414]; exact r_Ex.push)
  have g418 : r_at σ413 a0 = some (.inl 8) := by rw [e414]; exact r_at_ext r_Ex.push g412
  have g419 : r_at σ413 b416 = some (.inr (0, 6)) := by rw [e414, e417]; exact r_at_new
  refine r_putFR C E rfl g418 fa_X8_127 rfl rfl (r_atN g419) dX8_init_321 ?_
  refine r_nam (fun σ420 e421 => ?_)
  have h := h σ420 e421
  have s422 : r_Ex σ σ420 := s415.trans (r_Ex.of_eq (by rw [e421]; rfl))
  have g423 : r_at σ420 a0 = some (.inl 8) := by rw [e421]; exact g418
  refine r_aload_n C dX8_init_324 rfl (j := 0) rfl ?_
  refine r_bipush (v := 6) C dX8_init_325 (by decide) ?_
  refine r_newa C E (ti := 1) ⟨rfl, fun _ => rfl⟩ rfl ka_long (n := 6) (by decide) (by decide) (by decide) rfl (Nat.le_of_ble_eq_true rfl) (Nat.le_of_ble_eq_true rfl) dX8_init_327 ?_
  refine r_wid (c2 := 39) (s2 := 4708) (by first | exact Nat.le_refl _ | (simp; done) | omega) (by first | exact Nat.le_refl _ | (simp; done) | omega) ?_
  refine r_topa (fun b427 e428 => ?_)
  have h := h b427 e428
  refine r_nam (fun σ424 e425 => ?_)
  have h := h σ424 e425
  have s426 : r_Ex σ σ424 := s422.trans (by rw [e425]; exact r_Ex.push)
  have g429 : r_at σ424 a0 = some (.inl 8) := by rw [e425]; exact r_at_ext r_Ex.push g423
  have g430 : r_at σ424 b427 = some (.inr (1, 6)) := by rw [e425, e428]; exact r_at_new
  refine r_putFR C E rfl g429 fa_X8_130 rfl rfl (r_atN g430) dX8_init_329 ?_
  refine r_nam (fun σ431 e432 => ?_)
  have h := h σ431 e432
  have s433 : r_Ex σ σ431 := s426.trans (r_Ex.of_eq (by rw [e432]; rfl))
  have g434 : r_at σ431 a0 = some (.inl 8) := by rw [e432]; exact g429
  refine r_aload_n C dX8_init_332 rfl (j := 0) rfl ?_
  refine r_bipush (v := 6) C dX8_init_333 (by decide) ?_
  refine r_newa C E (ti := 1) ⟨rfl, fun _ => rfl⟩ rfl ka_long (n := 6) (by decide) (by decide) (by decide) rfl (Nat.le_of_ble_eq_true rfl) (Nat.le_of_ble_eq_true rfl) dX8_init_335 ?_
  refine r_wid (c2 := 40) (s2 := 4714) (by first | exact Nat.le_refl _ | (simp; done) | omega) (by first | exact Nat.le_refl _ | (simp; done) | omega) ?_
  refine r_topa (fun b438 e439 => ?_)
  have h := h b438 e439
  refine r_nam (fun σ435 e436 => ?_)
  have h := h σ435 e436
  have s437 : r_Ex σ σ435 := s433.trans (by rw [e436]; exact r_Ex.push)
  have g440 : r_at σ435 a0 = some (.inl 8) := by rw [e436]; exact r_at_ext r_Ex.push g434
  have g441 : r_at σ435 b438 = some (.inr (1, 6)) := by rw [e436, e439]; exact r_at_new
  refine r_putFR C E rfl g440 fa_X8_133 rfl rfl (r_atN g441) dX8_init_337 ?_
  refine r_nam (fun σ442 e443 => ?_)
  have h := h σ442 e443
  have s444 : r_Ex σ σ442 := s437.trans (r_Ex.of_eq (by rw [e443]; rfl))
  have g445 : r_at σ442 a0 = some (.inl 8) := by rw [e443]; exact g440
  refine r_aload_n C dX8_init_340 rfl (j := 0) rfl ?_
  refine r_bipush (v := 6) C dX8_init_341 (by decide) ?_
  refine r_newa C E (ti := 0) ⟨rfl, fun _ => rfl⟩ rfl ka_int (n := 6) (by decide) (by decide) (by decide) rfl (Nat.le_of_ble_eq_true rfl) (Nat.le_of_ble_eq_true rfl) dX8_init_343 ?_
  refine r_wid (c2 := 41) (s2 := 4720) (by first | exact Nat.le_refl _ | (simp; done) | omega) (by first | exact Nat.le_refl _ | (simp; done) | omega) ?_
  refine r_topa (fun b449 e450 => ?_)
  have h := h b449 e450
  refine r_nam (fun σ446 e447 => ?_)
  have h := h σ446 e447
  have s448 : r_Ex σ σ446 := s444.trans (by rw [e447]; exact r_Ex.push)
  have g451 : r_at σ446 a0 = some (.inl 8) := by rw [e447]; exact r_at_ext r_Ex.push g445
  have g452 : r_at σ446 b449 = some (.inr (0, 6)) := by rw [e447, e450]; exact r_at_new
  refine r_putFR C E rfl g451 fa_X8_136 rfl rfl (r_atN g452) dX8_init_345 ?_
  refine r_nam (fun σ453 e454 => ?_)
  have h := h σ453 e454
  have s455 : r_Ex σ σ453 := s448.trans (r_Ex.of_eq (by rw [e454]; rfl))
  have g456 : r_at σ453 a0 = some (.inl 8) := by rw [e454]; exact g451
  refine r_aload_n C dX8_init_348 rfl (j := 0) rfl ?_
  refine r_bipush (v := 6) C dX8_init_349 (by decide) ?_
  refine r_newa C E (ti := 0) ⟨rfl, fun _ => rfl⟩ rfl ka_int (n := 6) (by decide) (by decide) (by decide) rfl (Nat.le_of_ble_eq_true rfl) (Nat.le_of_ble_eq_true rfl) dX8_init_351 ?_
  refine r_wid (c2 := 42) (s2 := 4726) (by first | exact Nat.le_refl _ | (simp; done) | omega) (by first | exact Nat.le_refl _ | (simp; done) | omega) ?_
  refine r_topa (fun b460 e461 => ?_)
  have h := h b460 e461
  refine r_nam (fun σ457 e458 => ?_)
  have h := h σ457 e458
  have s459 : r_Ex σ σ457 := s455.trans (by rw [e458]; exact r_Ex.push)
  have g462 : r_at σ457 a0 = some (.inl 8) := by rw [e458]; exact r_at_ext r_Ex.push g456
  have g463 : r_at σ457 b460 = some (.inr (0, 6)) := by rw [e458, e461]; exact r_at_new
  refine r_putFR C E rfl g462 fa_X8_139 rfl rfl (r_atN g463) dX8_init_353 ?_
  refine r_nam (fun σ464 e465 => ?_)
  have h := h σ464 e465
  have s466 : r_Ex σ σ464 := s459.trans (r_Ex.of_eq (by rw [e465]; rfl))
  have g467 : r_at σ464 a0 = some (.inl 8) := by rw [e465]; exact g462
  refine r_aload_n C dX8_init_356 rfl (j := 0) rfl ?_
  refine r_bipush (v := 36) C dX8_init_357 (by decide) ?_
  refine r_newa C E (ti := 1) ⟨rfl, fun _ => rfl⟩ rfl ka_long (n := 36) (by decide) (by decide) (by decide) rfl (Nat.le_of_ble_eq_true rfl) (Nat.le_of_ble_eq_true rfl) dX8_init_359 ?_
  refine r_wid (c2 := 43) (s2 := 4762) (by first | exact Nat.le_refl _ | (simp; done) | omega) (by first | exact Nat.le_refl _ | (simp; done) | omega) ?_
  refine r_topa (fun b471 e472 => ?_)
  have h := h b471 e472
  refine r_nam (fun σ468 e469 => ?_)
  have h := h σ468 e469
  have s470 : r_Ex σ σ468 := s466.trans (by rw [e469]; exact r_Ex.push)
  have g473 : r_at σ468 a0 = some (.inl 8) := by rw [e469]; exact r_at_ext r_Ex.push g467
  have g474 : r_at σ468 b471 = some (.inr (1, 36)) := by rw [e469, e472]; exact r_at_new
  refine r_putFR C E rfl g473 fa_X8_142 rfl rfl (r_atN g474) dX8_init_361 ?_
  refine r_nam (fun σ475 e476 => ?_)
  have h := h σ475 e476
  have s477 : r_Ex σ σ475 := s470.trans (r_Ex.of_eq (by rw [e476]; rfl))
  have g478 : r_at σ475 a0 = some (.inl 8) := by rw [e476]; exact g473
  refine r_aload_n C dX8_init_364 rfl (j := 0) rfl ?_
  refine r_iload_n C dX8_init_365 rfl (j := 1) rfl ?_
  refine r_iconst (v := 2) C dX8_init_366 (by decide) ?_
  refine r_icmp_ge (tgt := 374) C dX8_init_367 (by decide) (fun c479 => ?_) (fun c479 => ?_)
  · have h := h.1 c479
    refine r_iload_n C dX8_init_374 rfl (j := 1) rfl ?_
    refine r_bipush (v := 6) C dX8_init_375 (by decide) ?_
    refine r_icmp_le (tgt := 385) C dX8_init_377 (by decide) (fun c480 => ?_) (fun c480 => ?_)
    · have h := h.1 c480
      refine r_iload_n C dX8_init_385 rfl (j := 1) rfl ?_
      refine r_putFI C E rfl g478 fa_X8_145 rfl rfl rfl rfl dX8_init_386 ?_
      refine r_nam (fun σ481 e482 => ?_)
      have h := h σ481 e482
      have s483 : r_Ex σ σ481 := s477.trans (r_Ex.of_eq (by rw [e482]; rfl))
      have g484 : r_at σ481 a0 = some (.inl 8) := by rw [e482]; exact g478
      refine r_iconst (v := 0) C dX8_init_389 (by decide) ?_
      refine r_istore_n (lv' := [(2, Value.int 0), (0, Value.ref (B + a0)), (1, Value.int x1)]) C dX8_init_390 rfl (by decide) rfl ?_
      exact r_loc (by simp) h
    · have h := h.2 c480
      refine r_bipush (v := 6) C dX8_init_380 (by decide) ?_
      refine r_goto (tgt := 386) C dX8_init_382 (by decide) ?_
      refine r_putFI C E rfl g478 fa_X8_145 rfl rfl rfl rfl dX8_init_386 ?_
      refine r_nam (fun σ485 e486 => ?_)
      have h := h σ485 e486
      have s487 : r_Ex σ σ485 := s477.trans (r_Ex.of_eq (by rw [e486]; rfl))
      have g488 : r_at σ485 a0 = some (.inl 8) := by rw [e486]; exact g478
      refine r_iconst (v := 0) C dX8_init_389 (by decide) ?_
      refine r_istore_n (lv' := [(2, Value.int 0), (0, Value.ref (B + a0)), (1, Value.int x1)]) C dX8_init_390 rfl (by decide) rfl ?_
      exact r_loc (by simp) h
  · have h := h.2 c479
    refine r_iconst (v := 2) C dX8_init_370 (by decide) ?_
    refine r_goto (tgt := 386) C dX8_init_371 (by decide) ?_
    refine r_putFI C E rfl g478 fa_X8_145 rfl rfl rfl rfl dX8_init_386 ?_
    refine r_nam (fun σ489 e490 => ?_)
    have h := h σ489 e490
    have s491 : r_Ex σ σ489 := s477.trans (r_Ex.of_eq (by rw [e490]; rfl))
    have g492 : r_at σ489 a0 = some (.inl 8) := by rw [e490]; exact g478
    refine r_iconst (v := 0) C dX8_init_389 (by decide) ?_
    refine r_istore_n (lv' := [(2, Value.int 0), (0, Value.ref (B + a0)), (1, Value.int x1)]) C dX8_init_390 rfl (by decide) rfl ?_
    exact r_loc (by simp) h
set_option maxRecDepth 100000 in
theorem c_X8_init_391 {X : r_X} {w : r_V} {B : Nat} {l : Launch} {Q : r_S → Prop} {σ0 : r_S} (C : r_C X w B 3 cX8_init RX8) (E : r_E X l tX8_init) {σ : r_S} (hs : r_Ex σ0 σ) {a0 : Nat} {x2 : Int32} {cs sl : Nat}
    (h : (6 ≤ x2 → (cs ≤ tX8_init.2.2.2.2.cells ∧ (sl ≤ tX8_init.2.2.2.2.slots ∧ (Q σ)))) ∧ (¬ 6 ≤ x2 → (r_at σ a0 = some (.inl 8) ∧ (∃ n5, r_at σ (r_gr σ a0 25) = some (.inr (0, n5)) ∧ (∀ b7 : Nat, b7 = r_gr σ a0 25 → (vp_in x2 n5 ∧ (∀ σ11 : r_S, σ11 = r_ui σ b7 (x2.toNatClampNeg) 3 → (∃ n16, r_at σ11 (r_gr σ11 a0 29) = some (.inr (0, n16)) ∧ (∀ b18 : Nat, b18 = r_gr σ11 a0 29 → (vp_in x2 n16 ∧ (∀ σ22 : r_S, σ22 = r_ui σ11 b18 (x2.toNatClampNeg) 3 → (∃ n28, r_at σ22 (r_gr σ22 a0 31) = some (.inr (1, n28)) ∧ (∀ b30 : Nat, b30 = r_gr σ22 a0 31 → (vp_in x2 n28 ∧ (∀ σ34 : r_S, σ34 = r_ul σ22 b30 (x2.toNatClampNeg) (-1) → (∃ n41, r_at σ34 (r_gr σ34 a0 34) = some (.inr (1, n41)) ∧ (∀ b43 : Nat, b43 = r_gr σ34 a0 34 → (vp_in x2 n41 ∧ (∀ σ47 : r_S, σ47 = r_ul σ34 b43 (x2.toNatClampNeg) (-1) → (∃ n55, r_at σ47 (r_gr σ47 a0 40) = some (.inr (1, n55)) ∧ (∀ b57 : Nat, b57 = r_gr σ47 a0 40 → (vp_in x2 n55 ∧ (∀ σ61 : r_S, σ61 = r_ul σ47 b57 (x2.toNatClampNeg) (-1) → (∀ z70 : Int32, z70 = x2 + 1 → (r_W X w B 3 cs sl (r_Z X w B tX8_init (r_QN σ0 Q)) 391 [(0, Value.ref (B + a0)), (2, Value.int z70)] [] σ61))))))))))))))))))))))))) :
    r_W X w B 3 cs sl (r_Z X w B tX8_init (r_QN σ0 Q)) 391 [(0, Value.ref (B + a0)), (2, Value.int x2)] [] σ := by
  refine r_iload_n C dX8_init_391 rfl (j := 1) rfl ?_
  refine r_bipush (v := 6) C dX8_init_392 (by decide) ?_
  refine r_icmp_ge (tgt := 444) C dX8_init_394 (by decide) (fun c1 => ?_) (fun c1 => ?_)
  · have h := h.1 c1
    obtain ⟨g2, h⟩ := h
    obtain ⟨g3, h⟩ := h
    exact r_vretN C E rfl g2 g3 dX8_init_444 (hs.trans (r_Ex.of_eq rfl : r_Ex σ σ)) h
  · have h := h.2 c1
    refine r_aload_n C dX8_init_397 rfl (j := 0) rfl ?_
    obtain ⟨g4, h⟩ := h
    obtain ⟨n5, g6, h⟩ := h
    refine r_getR C g4 fa_X8_64 rfl (r_atN g6) dX8_init_398 ?_
    refine r_topa (fun b7 e8 => ?_)
    have h := h b7 e8
    have e8 : b7 = r_gr σ a0 25 := e8
    have g9 := g6; rw [← e8] at g9
    refine r_iload_n C dX8_init_401 rfl (j := 1) rfl ?_
    refine r_iconst (v := 3) C dX8_init_402 (by decide) ?_
    obtain ⟨g10, h⟩ := h
    refine r_iast C g9 ⟨rfl, fun _ => rfl⟩ g10 dX8_init_403 ?_
    refine r_nam (fun σ11 e12 => ?_)
    have h := h σ11 e12
    have s13 : r_Ex σ σ11 := (r_Ex.of_eq rfl : r_Ex σ σ).trans (r_Ex.of_eq (by rw [e12]; rfl))
    have g14 : r_at σ11 a0 = some (.inl 8) := by rw [e12]; exact g4
    have g15 : r_at σ11 b7 = some (.inr (0, n5)) := by rw [e12]; exact g9
    refine r_aload_n C dX8_init_404 rfl (j := 0) rfl ?_
    obtain ⟨n16, g17, h⟩ := h
    refine r_getR C g14 fa_X8_76 rfl (r_atN g17) dX8_init_405 ?_
    refine r_topa (fun b18 e19 => ?_)
    have h := h b18 e19
    have e19 : b18 = r_gr σ11 a0 29 := e19
    have g20 := g17; rw [← e19] at g20
    refine r_iload_n C dX8_init_408 rfl (j := 1) rfl ?_
    refine r_iconst (v := 3) C dX8_init_409 (by decide) ?_
    obtain ⟨g21, h⟩ := h
    refine r_iast C g20 ⟨rfl, fun _ => rfl⟩ g21 dX8_init_410 ?_
    refine r_nam (fun σ22 e23 => ?_)
    have h := h σ22 e23
    have s24 : r_Ex σ σ22 := s13.trans (r_Ex.of_eq (by rw [e23]; rfl))
    have g25 : r_at σ22 a0 = some (.inl 8) := by rw [e23]; exact g14
    have g26 : r_at σ22 b7 = some (.inr (0, n5)) := by rw [e23]; exact g15
    have g27 : r_at σ22 b18 = some (.inr (0, n16)) := by rw [e23]; exact g20
    refine r_aload_n C dX8_init_411 rfl (j := 0) rfl ?_
    obtain ⟨n28, g29, h⟩ := h
    refine r_getR C g25 fa_X8_82 rfl (r_atN g29) dX8_init_412 ?_
    refine r_topa (fun b30 e31 => ?_)
    have h := h b30 e31
    have e31 : b30 = r_gr σ22 a0 31 := e31
    have g32 := g29; rw [← e31] at g32
    refine r_iload_n C dX8_init_415 rfl (j := 1) rfl ?_
    refine r_ldc2 (v := (-1)) C kj_X8_148 dX8_init_416 ?_
    obtain ⟨g33, h⟩ := h
    refine r_last C g32 ⟨rfl, fun _ => rfl⟩ g33 dX8_init_419 ?_
    refine r_nam (fun σ34 e35 => ?_)
    have h := h σ34 e35
    have s36 : r_Ex σ σ34 := s24.trans (r_Ex.of_eq (by rw [e35]; rfl))
    have g37 : r_at σ34 a0 = some (.inl 8) := by rw [e35]; exact g25
    have g38 : r_at σ34 b7 = some (.inr (0, n5)) := by rw [e35]; exact g26
    have g39 : r_at σ34 b18 = some (.inr (0, n16)) := by rw [e35]; exact g27
    have g40 : r_at σ34 b30 = some (.inr (1, n28)) := by rw [e35]; exact g32
    refine r_aload_n C dX8_init_420 rfl (j := 0) rfl ?_
    obtain ⟨n41, g42, h⟩ := h
    refine r_getR C g37 fa_X8_91 rfl (r_atN g42) dX8_init_421 ?_
    refine r_topa (fun b43 e44 => ?_)
    have h := h b43 e44
    have e44 : b43 = r_gr σ34 a0 34 := e44
    have g45 := g42; rw [← e44] at g45
    refine r_iload_n C dX8_init_424 rfl (j := 1) rfl ?_
    refine r_ldc2 (v := (-1)) C kj_X8_148 dX8_init_425 ?_
    obtain ⟨g46, h⟩ := h
    refine r_last C g45 ⟨rfl, fun _ => rfl⟩ g46 dX8_init_428 ?_
    refine r_nam (fun σ47 e48 => ?_)
    have h := h σ47 e48
    have s49 : r_Ex σ σ47 := s36.trans (r_Ex.of_eq (by rw [e48]; rfl))
    have g50 : r_at σ47 a0 = some (.inl 8) := by rw [e48]; exact g37
    have g51 : r_at σ47 b7 = some (.inr (0, n5)) := by rw [e48]; exact g38
    have g52 : r_at σ47 b18 = some (.inr (0, n16)) := by rw [e48]; exact g39
    have g53 : r_at σ47 b30 = some (.inr (1, n28)) := by rw [e48]; exact g40
    have g54 : r_at σ47 b43 = some (.inr (1, n41)) := by rw [e48]; exact g45
    refine r_aload_n C dX8_init_429 rfl (j := 0) rfl ?_
    obtain ⟨n55, g56, h⟩ := h
    refine r_getR C g50 fa_X8_109 rfl (r_atN g56) dX8_init_430 ?_
    refine r_topa (fun b57 e58 => ?_)
    have h := h b57 e58
    have e58 : b57 = r_gr σ47 a0 40 := e58
    have g59 := g56; rw [← e58] at g59
    refine r_iload_n C dX8_init_433 rfl (j := 1) rfl ?_
    refine r_ldc2 (v := (-1)) C kj_X8_148 dX8_init_434 ?_
    obtain ⟨g60, h⟩ := h
    refine r_last C g59 ⟨rfl, fun _ => rfl⟩ g60 dX8_init_437 ?_
    refine r_nam (fun σ61 e62 => ?_)
    have h := h σ61 e62
    have s63 : r_Ex σ σ61 := s49.trans (r_Ex.of_eq (by rw [e62]; rfl))
    have g64 : r_at σ61 a0 = some (.inl 8) := by rw [e62]; exact g50
    have g65 : r_at σ61 b7 = some (.inr (0, n5)) := by rw [e62]; exact g51
    have g66 : r_at σ61 b18 = some (.inr (0, n16)) := by rw [e62]; exact g52
    have g67 : r_at σ61 b30 = some (.inr (1, n28)) := by rw [e62]; exact g53
    have g68 : r_at σ61 b43 = some (.inr (1, n41)) := by rw [e62]; exact g54
    have g69 : r_at σ61 b57 = some (.inr (1, n55)) := by rw [e62]; exact g59
    obtain ⟨z70, e71⟩ : ∃ y : Int32, y = x2 + 1 := ⟨_, rfl⟩
    have h := h z70 e71
    refine r_iinc (v := z70) (lv' := [(2, Value.int z70), (0, Value.ref (B + a0))]) C dX8_init_438 (k := 1) rfl (by rw [e71]; rfl) (by decide) rfl ?_
    refine r_goto (tgt := 391) C dX8_init_441 (by decide) ?_
    exact r_loc (by simp) h
