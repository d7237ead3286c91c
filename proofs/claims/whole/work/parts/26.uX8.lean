theorem u_X8_isStation_0 {X : r_X} {w : r_V} {B m : Nat} {l : Launch} {Q : Int32 → Mu → Prop} {σ0 : r_S} (C : r_C X w B 2 cX8_isStation RX8) (E : r_E X l tX8_isStation) {μ : Mu} {x1 : Int32}
    (h : ∀ z5 : Int32, z5 = (if x1 < 0 then (0 : Int32) else (if (μ.1 0 1) ≤ x1 then (0 : Int32) else (1 : Int32))) → ((z5 = 0 ∨ z5 = 1) ∧ (Q z5 μ))) :
    r_Wm X w B 2 m σ0 (r_Z X w B tX8_isStation (ZMI m σ0 Q)) 0 [(0, Value.ref (B + m)), (1, Value.int x1)] [] μ := by
  intro σ hs hM hF hμ
  subst hμ
  refine r_iload_n C dX8_isStation_0 rfl (j := 1) rfl ?_
  have k7 : ∀ z5 : Int32, z5 = (if x1 < 0 then (0 : Int32) else (if ((mu m σ).1 0 1) ≤ x1 then (0 : Int32) else (1 : Int32))) → r_W X w B 2 0 0 (r_Z X w B tX8_isStation (ZMI m σ0 Q)) 17 [(0, Value.ref (B + m)), (1, Value.int x1)] [Value.int z5] σ := by
    intro z5 e6
    have h := h z5 e6
    obtain ⟨g8, h⟩ := h
    exact r_zretQ C E rfl g8 (Nat.zero_le _) (Nat.zero_le _) dX8_isStation_17 hs ⟨hF, h⟩
  clear h
  refine r_if_lt (tgt := 16) C dX8_isStation_1 (by decide) (fun c1 => ?_) (fun c1 => ?_)
  · have c1 : x1 < 0 := c1
    refine r_iconst (v := 0) C dX8_isStation_16 (by decide) ?_
    exact k7 _ (by rw [if_pos c1] <;> rfl)
  · have c1 : ¬ x1 < 0 := c1
    refine r_iload_n C dX8_isStation_4 rfl (j := 1) rfl ?_
    refine r_aload_n C dX8_isStation_5 rfl (j := 0) rfl ?_
    refine r_get (v := .int ((mu m σ).1 0 1)) C hM.1 fa_X8_145 rfl dX8_isStation_6 ?_
    refine r_icmp_ge (tgt := 16) C dX8_isStation_9 (by decide) (fun c3 => ?_) (fun c3 => ?_)
    · have c3 : ((mu m σ).1 0 1) ≤ x1 := c3
      refine r_iconst (v := 0) C dX8_isStation_16 (by decide) ?_
      exact k7 _ (by rw [if_neg c1, if_pos c3] <;> rfl)
    · have c3 : ¬ ((mu m σ).1 0 1) ≤ x1 := c3
      refine r_iconst (v := 1) C dX8_isStation_12 (by decide) ?_
      refine r_goto (tgt := 17) C dX8_isStation_13 (by decide) ?_
      exact k7 _ (by rw [if_neg c1, if_neg c3] <;> rfl)
theorem u_X8_hears_0 {X : r_X} {w : r_V} {B m : Nat} {l : Launch} {Q : Int32 → Mu → Prop} {σ0 : r_S} (C : r_C X w B 3 cX8_hears RX8) (E : r_E X l tX8_hears) {μ : Mu} {x1 x2 : Int32}
    (h : ((x1 = x2 → True) ∧ (¬ x1 = x2 → (vp_in ((6 * x1) + x2) 36))) ∧ (∀ z7 : Int32, z7 = (if x1 = x2 then (0 : Int32) else (if (μ.1 1 (((6 * x1) + x2).toNatClampNeg)) = 0 then (1 : Int32) else (0 : Int32))) → ((z7 = 0 ∨ z7 = 1) ∧ (Q z7 μ)))) :
    r_Wm X w B 3 m σ0 (r_Z X w B tX8_hears (ZMI m σ0 Q)) 0 [(0, Value.ref (B + m)), (1, Value.int x1), (2, Value.int x2)] [] μ := by
  intro σ hs hM hF hμ
  subst hμ
  refine r_iload_n C dX8_hears_0 rfl (j := 1) rfl ?_
  refine r_iload_n C dX8_hears_1 rfl (j := 2) rfl ?_
  obtain ⟨g6, h⟩ := h
  have k9 : ∀ z7 : Int32, z7 = (if x1 = x2 then (0 : Int32) else (if ((mu m σ).1 1 (((6 * x1) + x2).toNatClampNeg)) = 0 then (1 : Int32) else (0 : Int32))) → r_W X w B 3 0 0 (r_Z X w B tX8_hears (ZMI m σ0 Q)) 24 [(0, Value.ref (B + m)), (1, Value.int x1), (2, Value.int x2)] [Value.int z7] σ := by
    intro z7 e8
    have h := h z7 e8
    obtain ⟨g10, h⟩ := h
    exact r_zretQ C E rfl g10 (Nat.zero_le _) (Nat.zero_le _) dX8_hears_24 hs ⟨hF, h⟩
  clear h
  refine r_icmp_eq (tgt := 23) C dX8_hears_2 (by decide) (fun c1 => ?_) (fun c1 => ?_)
  · have c1 : x1 = x2 := c1
    refine r_iconst (v := 0) C dX8_hears_23 (by decide) ?_
    exact k9 _ (by rw [if_pos c1] <;> rfl)
  · have c1 : ¬ x1 = x2 := c1
    have h := g6.2 c1
    refine r_aload_n C dX8_hears_5 rfl (j := 0) rfl ?_
    refine r_getA C hM (k := 4) (g := 1) (ti := 2) (n := 36) (by decide) fa_X8_13 rfl dX8_hears_6 ?_
    refine r_bipush (v := 6) C dX8_hears_9 (by decide) ?_
    refine r_iload_n C dX8_hears_11 rfl (j := 1) rfl ?_
    refine r_imul C dX8_hears_12 ?_
    refine r_iload_n C dX8_hears_13 rfl (j := 2) rfl ?_
    refine r_iadd C dX8_hears_14 ?_
    have g3 := h
    refine r_zald (ti := 2) (n := 36) C (hM.2 (4, 1, 2, 36) (by decide)).2 ⟨rfl, fun _ => rfl⟩ g3 dX8_hears_15 ?_
    refine r_if_ne (tgt := 23) C dX8_hears_16 (by decide) (fun c4 => ?_) (fun c4 => ?_)
    · have c4 : ¬ ((mu m σ).1 1 (((6 * x1) + x2).toNatClampNeg)) = 0 := c4
      refine r_iconst (v := 0) C dX8_hears_23 (by decide) ?_
      exact k9 _ (by rw [if_neg c1, if_neg c4] <;> rfl)
    · have c4 : ((mu m σ).1 1 (((6 * x1) + x2).toNatClampNeg)) = 0 := c4
      refine r_iconst (v := 1) C dX8_hears_19 (by decide) ?_
      refine r_goto (tgt := 24) C dX8_hears_20 (by decide) ?_
      exact k9 _ (by rw [if_neg c1, if_pos c4] <;> rfl)
theorem u_X8_hear_0 {X : r_X} {w : r_V} {B m : Nat} {l : Launch} {Q : Int32 → Mu → Prop} {σ0 : r_S} (C : r_C X w B 5 cX8_hear RX8) (E : r_E X l tX8_hear) {μ : Mu} {x1 x2 x3 : Int32}
    (h : ∀ μ1 : Mu, μ1 = ui μ 0 0 0 → (∃ Q7 : Int32 → Mu → Prop, r_MI l w B m tX8_isStation [Value.int x1] μ1 Q7 ∧ (∀ (z11 : Int32) (μ9 : Mu), Q7 z11 μ9 → ((z11 = 0 → (Q (-11) μ9)) ∧ (¬ z11 = 0 → (∃ Q17 : Int32 → Mu → Prop, r_MI l w B m tX8_isStation [Value.int x2] μ9 Q17 ∧ (∀ (z21 : Int32) (μ19 : Mu), Q17 z21 μ19 → ((z21 = 0 → (Q (-11) μ19)) ∧ (¬ z21 = 0 → ((x1 = x2 → (Q (-12) μ19)) ∧ (¬ x1 = x2 → (vp_in ((6 * x1) + x2) 36 ∧ (∀ z31 : Int32, z31 = (if (μ19.1 1 (((6 * x1) + x2).toNatClampNeg)) = x3 then (1 : Int32) else (0 : Int32)) → (∀ z36 : Int32, z36 = (if x3 = 0 then (1 : Int32) else (0 : Int32)) → ((z36 = 0 ∨ z36 = 1) ∧ (∀ μ40 : Mu, μ40 = ui μ19 1 (((6 * x1) + x2).toNatClampNeg) z36 → (Q z31 μ40))))))))))))))))) :
    r_Wm X w B 5 m σ0 (r_Z X w B tX8_hear (ZMI m σ0 Q)) 0 [(0, Value.ref (B + m)), (1, Value.int x1), (2, Value.int x2), (3, Value.int x3)] [] μ := by
  intro σ hs hM hF hμ
  subst hμ
  refine r_aload_n C dX8_hear_0 rfl (j := 0) rfl ?_
  refine r_iconst (v := 0) C dX8_hear_1 (by decide) ?_
  refine r_putI C hM.1 fa_X8_150 rfl rfl rfl dX8_hear_2 ?_
  refine r_nam (fun σ1 e2 => ?_)
  have u6 : mu m σ1 = ui (mu m σ) 0 0 0 := by rw [e2]; exact mu_ui (g := 0)
  have h := h (mu m σ1) u6
  have s3 : σ1.1 = σ0.1 := by rw [e2]; exact hs
  have M4 : Mo m σ1 := by rw [e2]; exact hM.fr rfl (fun _ _ => rfl)
  have F5 : Fr m σ0 σ1 := by rw [e2]; exact Fr.ui (g := 0) hF
  refine r_aload_n C dX8_hear_5 rfl (j := 0) rfl ?_
  refine r_iload_n C dX8_hear_6 rfl (j := 1) rfl ?_
  obtain ⟨Q7, m8, h⟩ := h
  refine r_callVI (rest := []) C E [Value.int x1] M4.1 rfl ky_X8_isStation kl_X8_153 ki_X8_isStation kx_X8_isStation ⟨Nat.le_of_ble_eq_true rfl, Nat.le_of_ble_eq_true rfl⟩ ⟨rfl, rfl⟩ (m8 σ1 M4 rfl) rfl rfl (Nat.le_of_ble_eq_true rfl) (Nat.zero_le _) (Nat.zero_le _) dX8_hear_7 (fun z11 σ9 s10 q12 => ?_)
  obtain ⟨f13, q12⟩ := q12
  have h := h z11 (mu m σ9) q12
  have M14 := M4.fr s10 f13.1
  have F15 := F5.trans f13
  have s10 := s10.trans s3
  refine r_if_eq (tgt := 21) C dX8_hear_10 (by decide) (fun c16 => ?_) (fun c16 => ?_)
  · have h := h.1 c16
    refine r_bipush (v := (-11)) C dX8_hear_21 (by decide) ?_
    exact r_iretQ C E rfl (Nat.zero_le _) (Nat.zero_le _) dX8_hear_23 s10 ⟨F15, h⟩
  · have h := h.2 c16
    refine r_aload_n C dX8_hear_13 rfl (j := 0) rfl ?_
    refine r_iload_n C dX8_hear_14 rfl (j := 2) rfl ?_
    obtain ⟨Q17, m18, h⟩ := h
    refine r_callVI (rest := []) C E [Value.int x2] M14.1 rfl ky_X8_isStation kl_X8_153 ki_X8_isStation kx_X8_isStation ⟨Nat.le_of_ble_eq_true rfl, Nat.le_of_ble_eq_true rfl⟩ ⟨rfl, rfl⟩ (m18 σ9 M14 rfl) rfl rfl (Nat.le_of_ble_eq_true rfl) (Nat.zero_le _) (Nat.zero_le _) dX8_hear_15 (fun z21 σ19 s20 q22 => ?_)
    obtain ⟨f23, q22⟩ := q22
    have h := h z21 (mu m σ19) q22
    have M24 := M14.fr s20 f23.1
    have F25 := F15.trans f23
    have s20 := s20.trans s10
    refine r_if_ne (tgt := 24) C dX8_hear_18 (by decide) (fun c26 => ?_) (fun c26 => ?_)
    · have h := h.2 c26
      refine r_iload_n C dX8_hear_24 rfl (j := 1) rfl ?_
      refine r_iload_n C dX8_hear_25 rfl (j := 2) rfl ?_
      refine r_icmp_ne (tgt := 32) C dX8_hear_26 (by decide) (fun c27 => ?_) (fun c27 => ?_)
      · have h := h.2 c27
        refine r_aload_n C dX8_hear_32 rfl (j := 0) rfl ?_
        refine r_getA C M24 (k := 4) (g := 1) (ti := 2) (n := 36) (by decide) fa_X8_13 rfl dX8_hear_33 ?_
        refine r_bipush (v := 6) C dX8_hear_36 (by decide) ?_
        refine r_iload_n C dX8_hear_38 rfl (j := 1) rfl ?_
        refine r_imul C dX8_hear_39 ?_
        refine r_iload_n C dX8_hear_40 rfl (j := 2) rfl ?_
        refine r_iadd C dX8_hear_41 ?_
        obtain ⟨g28, h⟩ := h
        refine r_zald (ti := 2) (n := 36) C (M24.2 (4, 1, 2, 36) (by decide)).2 ⟨rfl, fun _ => rfl⟩ g28 dX8_hear_42 ?_
        refine r_iload_n C dX8_hear_43 rfl (j := 3) rfl ?_
        have k33 : ∀ z31 : Int32, z31 = (if ((mu m σ19).1 1 (((6 * x1) + x2).toNatClampNeg)) = x3 then (1 : Int32) else (0 : Int32)) → r_W X w B 5 0 0 (r_Z X w B tX8_hear (ZMI m σ0 Q)) 52 [(0, Value.ref (B + m)), (1, Value.int x1), (2, Value.int x2), (3, Value.int x3)] [Value.int z31] σ19 := by
          intro z31 e32
          have h := h z31 e32
          refine r_istore (lv' := [(4, Value.int z31), (0, Value.ref (B + m)), (1, Value.int x1), (2, Value.int x2), (3, Value.int x3)]) C dX8_hear_52 (by decide) rfl ?_
          refine r_aload_n C dX8_hear_54 rfl (j := 1) rfl ?_
          refine r_getA C M24 (k := 4) (g := 1) (ti := 2) (n := 36) (by decide) fa_X8_13 rfl dX8_hear_55 ?_
          refine r_bipush (v := 6) C dX8_hear_58 (by decide) ?_
          refine r_iload_n C dX8_hear_60 rfl (j := 2) rfl ?_
          refine r_imul C dX8_hear_61 ?_
          refine r_iload_n C dX8_hear_62 rfl (j := 3) rfl ?_
          refine r_iadd C dX8_hear_63 ?_
          refine r_iload_n C dX8_hear_64 rfl (j := 4) rfl ?_
          have k38 : ∀ z36 : Int32, z36 = (if x3 = 0 then (1 : Int32) else (0 : Int32)) → r_W X w B 5 0 0 (r_Z X w B tX8_hear (ZMI m σ0 Q)) 73 [(4, Value.int z31), (0, Value.ref (B + m)), (1, Value.int x1), (2, Value.int x2), (3, Value.int x3)] [Value.int z36, Value.int ((6 * x1) + x2), Value.ref (B + (m + 1))] σ19 := by
            intro z36 e37
            have h := h z36 e37
            obtain ⟨g39, h⟩ := h
            refine r_zast (ti := 2) (n := 36) C (M24.2 (4, 1, 2, 36) (by decide)).2 ⟨rfl, fun _ => rfl⟩ g28 (by rcases g39 with e | e <;> rw [e] <;> decide) dX8_hear_73 ?_
            refine r_nam (fun σ40 e41 => ?_)
            have u45 : mu m σ40 = ui (mu m σ19) 1 (((6 * x1) + x2).toNatClampNeg) z36 := by rw [e41]; exact mu_ui (g := 1)
            have h := h (mu m σ40) u45
            have s42 : σ40.1 = σ0.1 := by rw [e41]; exact s20
            have M43 : Mo m σ40 := by rw [e41]; exact M24.fr rfl (fun _ _ => rfl)
            have F44 : Fr m σ0 σ40 := by rw [e41]; exact Fr.ui (g := 1) F25
            refine r_iload C dX8_hear_74 (j := 0) rfl ?_
            exact r_iretQ C E rfl (Nat.zero_le _) (Nat.zero_le _) dX8_hear_76 s42 ⟨F44, h⟩
          clear h
          refine r_if_ne (tgt := 72) C dX8_hear_65 (by decide) (fun c34 => ?_) (fun c34 => ?_)
          · have c34 : ¬ x3 = 0 := c34
            refine r_iconst (v := 0) C dX8_hear_72 (by decide) ?_
            exact k38 _ (by rw [if_neg c34] <;> rfl)
          · have c34 : x3 = 0 := c34
            refine r_iconst (v := 1) C dX8_hear_68 (by decide) ?_
            refine r_goto (tgt := 73) C dX8_hear_69 (by decide) ?_
            exact k38 _ (by rw [if_pos c34] <;> rfl)
        clear h
        refine r_icmp_ne (tgt := 51) C dX8_hear_44 (by decide) (fun c29 => ?_) (fun c29 => ?_)
        · have c29 : ¬ ((mu m σ19).1 1 (((6 * x1) + x2).toNatClampNeg)) = x3 := c29
          refine r_iconst (v := 0) C dX8_hear_51 (by decide) ?_
          exact k33 _ (by rw [if_neg c29] <;> rfl)
        · have c29 : ((mu m σ19).1 1 (((6 * x1) + x2).toNatClampNeg)) = x3 := c29
          refine r_iconst (v := 1) C dX8_hear_47 (by decide) ?_
          refine r_goto (tgt := 52) C dX8_hear_48 (by decide) ?_
          exact k33 _ (by rw [if_pos c29] <;> rfl)
      · have h := h.1 c27
        refine r_bipush (v := (-12)) C dX8_hear_29 (by decide) ?_
        exact r_iretQ C E rfl (Nat.zero_le _) (Nat.zero_le _) dX8_hear_31 s20 ⟨F25, h⟩
    · have h := h.1 c26
      refine r_bipush (v := (-11)) C dX8_hear_21 (by decide) ?_
      exact r_iretQ C E rfl (Nat.zero_le _) (Nat.zero_le _) dX8_hear_23 s20 ⟨F25, h⟩
theorem u_X8_coin_0 {X : r_X} {w : r_V} {B m : Nat} {l : Launch} {Q : Int32 → Mu → Prop} {σ0 : r_S} (C : r_C X w B 2 cX8_coin RX8) (E : r_E X l tX8_coin) {μ : Mu} {x1 : Int32}
    (h : ∀ μ1 : Mu, μ1 = ui μ 0 0 0 → ((0 ≤ x1 → ((400 ≤ (μ1.1 0 14) → (Q ((μ1.1 0 14) - (μ1.1 0 15)) μ1)) ∧ (¬ 400 ≤ (μ1.1 0 14) → (vp_in (μ1.1 0 14) 400 ∧ (∀ μ10 : Mu, μ10 = ui μ1 10 ((μ1.1 0 14).toNatClampNeg) x1 → (∀ μ16 : Mu, μ16 = ui μ10 0 14 ((μ10.1 0 14) + 1) → (Q ((μ16.1 0 14) - (μ16.1 0 15)) μ16))))))) ∧ (¬ 0 ≤ x1 → (Q (-12) μ1)))) :
    r_Wm X w B 2 m σ0 (r_Z X w B tX8_coin (ZMI m σ0 Q)) 0 [(0, Value.ref (B + m)), (1, Value.int x1)] [] μ := by
  intro σ hs hM hF hμ
  subst hμ
  refine r_aload_n C dX8_coin_0 rfl (j := 0) rfl ?_
  refine r_iconst (v := 0) C dX8_coin_1 (by decide) ?_
  refine r_putI C hM.1 fa_X8_150 rfl rfl rfl dX8_coin_2 ?_
  refine r_nam (fun σ1 e2 => ?_)
  have u6 : mu m σ1 = ui (mu m σ) 0 0 0 := by rw [e2]; exact mu_ui (g := 0)
  have h := h (mu m σ1) u6
  have s3 : σ1.1 = σ0.1 := by rw [e2]; exact hs
  have M4 : Mo m σ1 := by rw [e2]; exact hM.fr rfl (fun _ _ => rfl)
  have F5 : Fr m σ0 σ1 := by rw [e2]; exact Fr.ui (g := 0) hF
  refine r_iload_n C dX8_coin_5 rfl (j := 1) rfl ?_
  refine r_if_ge (tgt := 12) C dX8_coin_6 (by decide) (fun c7 => ?_) (fun c7 => ?_)
  · have h := h.1 c7
    refine r_aload_n C dX8_coin_12 rfl (j := 0) rfl ?_
    refine r_get (v := .int ((mu m σ1).1 0 14)) C M4.1 fa_X8_157 rfl dX8_coin_13 ?_
    refine r_sipush (v := 400) C dX8_coin_16 (by decide) ?_
    refine r_icmp_ge (tgt := 42) C dX8_coin_19 (by decide) (fun c8 => ?_) (fun c8 => ?_)
    · have h := h.1 c8
      refine r_aload_n C dX8_coin_42 rfl (j := 0) rfl ?_
      refine r_get (v := .int ((mu m σ1).1 0 14)) C M4.1 fa_X8_157 rfl dX8_coin_43 ?_
      refine r_aload_n C dX8_coin_46 rfl (j := 0) rfl ?_
      refine r_get (v := .int ((mu m σ1).1 0 15)) C M4.1 fa_X8_160 rfl dX8_coin_47 ?_
      refine r_isub C dX8_coin_50 ?_
      exact r_iretQ C E rfl (Nat.zero_le _) (Nat.zero_le _) dX8_coin_51 s3 ⟨F5, h⟩
    · have h := h.2 c8
      refine r_aload_n C dX8_coin_22 rfl (j := 0) rfl ?_
      refine r_getA C M4 (k := 16) (g := 10) (ti := 0) (n := 400) (by decide) fa_X8_42 rfl dX8_coin_23 ?_
      refine r_aload_n C dX8_coin_26 rfl (j := 0) rfl ?_
      refine r_get (v := .int ((mu m σ1).1 0 14)) C M4.1 fa_X8_157 rfl dX8_coin_27 ?_
      refine r_iload_n C dX8_coin_30 rfl (j := 1) rfl ?_
      obtain ⟨g9, h⟩ := h
      refine r_iast (ti := 0) (n := 400) C (M4.2 (16, 10, 0, 400) (by decide)).2 ⟨rfl, fun _ => rfl⟩ g9 dX8_coin_31 ?_
      refine r_nam (fun σ10 e11 => ?_)
      have u15 : mu m σ10 = ui (mu m σ1) 10 (((mu m σ1).1 0 14).toNatClampNeg) x1 := by rw [e11]; exact mu_ui (g := 10)
      have h := h (mu m σ10) u15
      have s12 : σ10.1 = σ0.1 := by rw [e11]; exact s3
      have M13 : Mo m σ10 := by rw [e11]; exact M4.fr rfl (fun _ _ => rfl)
      have F14 : Fr m σ0 σ10 := by rw [e11]; exact Fr.ui (g := 10) F5
      refine r_aload_n C dX8_coin_32 rfl (j := 0) rfl ?_
      refine r_dup C dX8_coin_33 rfl ?_
      refine r_get (v := .int ((mu m σ10).1 0 14)) C M13.1 fa_X8_157 rfl dX8_coin_34 ?_
      refine r_iconst (v := 1) C dX8_coin_37 (by decide) ?_
      refine r_iadd C dX8_coin_38 ?_
      refine r_putI C M13.1 fa_X8_157 rfl rfl rfl dX8_coin_39 ?_
      refine r_nam (fun σ16 e17 => ?_)
      have u21 : mu m σ16 = ui (mu m σ10) 0 14 (((mu m σ10).1 0 14) + 1) := by rw [e17]; exact mu_ui (g := 0)
      have h := h (mu m σ16) u21
      have s18 : σ16.1 = σ0.1 := by rw [e17]; exact s12
      have M19 : Mo m σ16 := by rw [e17]; exact M13.fr rfl (fun _ _ => rfl)
      have F20 : Fr m σ0 σ16 := by rw [e17]; exact Fr.ui (g := 0) F14
      refine r_aload_n C dX8_coin_42 rfl (j := 0) rfl ?_
      refine r_get (v := .int ((mu m σ16).1 0 14)) C M19.1 fa_X8_157 rfl dX8_coin_43 ?_
      refine r_aload_n C dX8_coin_46 rfl (j := 0) rfl ?_
      refine r_get (v := .int ((mu m σ16).1 0 15)) C M19.1 fa_X8_160 rfl dX8_coin_47 ?_
      refine r_isub C dX8_coin_50 ?_
      exact r_iretQ C E rfl (Nat.zero_le _) (Nat.zero_le _) dX8_coin_51 s18 ⟨F20, h⟩
  · have h := h.2 c7
    refine r_bipush (v := (-12)) C dX8_coin_9 (by decide) ?_
    exact r_iretQ C E rfl (Nat.zero_le _) (Nat.zero_le _) dX8_coin_11 s3 ⟨F5, h⟩
theorem u_X8_draw_0 {X : r_X} {w : r_V} {B m : Nat} {l : Launch} {Q : Mu → Prop} {σ0 : r_S} (C : r_C X w B 3 cX8_draw RX8) (E : r_E X l tX8_draw) {μ : Mu} {x1 : Int32}
    (h : (((μ.1 0 14) ≤ (μ.1 0 15) → True) ∧ (¬ (μ.1 0 14) ≤ (μ.1 0 15) → (vp_in (μ.1 0 15) 400))) ∧ (∀ z5 : Int32, z5 = (if (μ.1 0 14) ≤ (μ.1 0 15) then (0 : Int32) else (μ.1 10 ((μ.1 0 15).toNatClampNeg))) → (∀ z10 : Int32, z10 = (if (μ.1 0 14) ≤ (μ.1 0 15) then (μ.1 0 15) else ((μ.1 0 15) + 1)) → (∀ μ13 : Mu, μ13 = ui μ 0 15 z10 → (vp_in x1 6 ∧ (¬ ((μ13.1 17 x1.toNatClampNeg) + 1) = 0 ∧ (∀ μ21 : Mu, μ21 = ui μ13 19 x1.toNatClampNeg (z5 - z5 / ((μ13.1 17 x1.toNatClampNeg) + 1) * ((μ13.1 17 x1.toNatClampNeg) + 1)) → (Q μ21)))))))) :
    r_Wm X w B 3 m σ0 (r_Z X w B tX8_draw (ZMV m σ0 Q)) 0 [(0, Value.ref (B + m)), (1, Value.int x1)] [] μ := by
  intro σ hs hM hF hμ
  subst hμ
  refine r_aload_n C dX8_draw_0 rfl (j := 0) rfl ?_
  refine r_get (v := .int ((mu m σ).1 0 15)) C hM.1 fa_X8_160 rfl dX8_draw_1 ?_
  refine r_aload_n C dX8_draw_4 rfl (j := 0) rfl ?_
  refine r_get (v := .int ((mu m σ).1 0 14)) C hM.1 fa_X8_157 rfl dX8_draw_5 ?_
  obtain ⟨g4, h⟩ := h
  have k7 : ∀ z5 : Int32, z5 = (if ((mu m σ).1 0 14) ≤ ((mu m σ).1 0 15) then (0 : Int32) else ((mu m σ).1 10 (((mu m σ).1 0 15).toNatClampNeg))) → r_W X w B 3 0 0 (r_Z X w B tX8_draw (ZMV m σ0 Q)) 24 [(0, Value.ref (B + m)), (1, Value.int x1)] [Value.int z5] σ := by
    intro z5 e6
    have h := h z5 e6
    refine r_istore_n (lv' := [(2, Value.int z5), (0, Value.ref (B + m)), (1, Value.int x1)]) C dX8_draw_24 rfl (by decide) rfl ?_
    refine r_aload_n C dX8_draw_25 rfl (j := 1) rfl ?_
    refine r_aload_n C dX8_draw_26 rfl (j := 1) rfl ?_
    refine r_get (v := .int ((mu m σ).1 0 15)) C hM.1 fa_X8_160 rfl dX8_draw_27 ?_
    refine r_aload_n C dX8_draw_30 rfl (j := 1) rfl ?_
    refine r_get (v := .int ((mu m σ).1 0 14)) C hM.1 fa_X8_157 rfl dX8_draw_31 ?_
    have k12 : ∀ z10 : Int32, z10 = (if ((mu m σ).1 0 14) ≤ ((mu m σ).1 0 15) then ((mu m σ).1 0 15) else (((mu m σ).1 0 15) + 1)) → r_W X w B 3 0 0 (r_Z X w B tX8_draw (ZMV m σ0 Q)) 50 [(2, Value.int z5), (0, Value.ref (B + m)), (1, Value.int x1)] [Value.int z10, Value.ref (B + m)] σ := by
      intro z10 e11
      have h := h z10 e11
      refine r_putI C hM.1 fa_X8_160 rfl rfl rfl dX8_draw_50 ?_
      refine r_nam (fun σ13 e14 => ?_)
      have u18 : mu m σ13 = ui (mu m σ) 0 15 z10 := by rw [e14]; exact mu_ui (g := 0)
      have h := h (mu m σ13) u18
      have s15 : σ13.1 = σ0.1 := by rw [e14]; exact hs
      have M16 : Mo m σ13 := by rw [e14]; exact hM.fr rfl (fun _ _ => rfl)
      have F17 : Fr m σ0 σ13 := by rw [e14]; exact Fr.ui (g := 0) hF
      refine r_aload_n C dX8_draw_53 rfl (j := 1) rfl ?_
      refine r_getA C M16 (k := 27) (g := 19) (ti := 0) (n := 6) (by decide) fa_X8_70 rfl dX8_draw_54 ?_
      refine r_iload_n C dX8_draw_57 rfl (j := 2) rfl ?_
      refine r_iload_n C dX8_draw_58 rfl (j := 0) rfl ?_
      refine r_aload_n C dX8_draw_59 rfl (j := 1) rfl ?_
      refine r_getA C M16 (k := 25) (g := 17) (ti := 0) (n := 6) (by decide) fa_X8_64 rfl dX8_draw_60 ?_
      refine r_iload_n C dX8_draw_63 rfl (j := 2) rfl ?_
      obtain ⟨g19, h⟩ := h
      refine r_iald (ti := 0) (n := 6) C (M16.2 (25, 17, 0, 6) (by decide)).2 ⟨rfl, fun _ => rfl⟩ g19 dX8_draw_64 ?_
      refine r_iconst (v := 1) C dX8_draw_65 (by decide) ?_
      refine r_iadd C dX8_draw_66 ?_
      obtain ⟨g20, h⟩ := h
      refine r_irem C dX8_draw_67 g20 ?_
      refine r_iast (ti := 0) (n := 6) C (M16.2 (27, 19, 0, 6) (by decide)).2 ⟨rfl, fun _ => rfl⟩ g19 dX8_draw_68 ?_
      refine r_nam (fun σ21 e22 => ?_)
      have u26 : mu m σ21 = ui (mu m σ13) 19 x1.toNatClampNeg (z5 - z5 / (((mu m σ13).1 17 x1.toNatClampNeg) + 1) * (((mu m σ13).1 17 x1.toNatClampNeg) + 1)) := by rw [e22]; exact mu_ui (g := 19)
      have h := h (mu m σ21) u26
      have s23 : σ21.1 = σ0.1 := by rw [e22]; exact s15
      have M24 : Mo m σ21 := by rw [e22]; exact M16.fr rfl (fun _ _ => rfl)
      have F25 : Fr m σ0 σ21 := by rw [e22]; exact Fr.ui (g := 19) F17
      exact r_vretQ C E rfl (Nat.zero_le _) (Nat.zero_le _) dX8_draw_69 s23 ⟨F25, h⟩
    clear h
    refine r_icmp_ge (tgt := 46) C dX8_draw_34 (by decide) (fun c8 => ?_) (fun c8 => ?_)
    · have c8 : ((mu m σ).1 0 14) ≤ ((mu m σ).1 0 15) := c8
      refine r_aload_n C dX8_draw_46 rfl (j := 1) rfl ?_
      refine r_get (v := .int ((mu m σ).1 0 15)) C hM.1 fa_X8_160 rfl dX8_draw_47 ?_
      exact k12 _ (by rw [if_pos c8] <;> rfl)
    · have c8 : ¬ ((mu m σ).1 0 14) ≤ ((mu m σ).1 0 15) := c8
      refine r_aload_n C dX8_draw_37 rfl (j := 1) rfl ?_
      refine r_get (v := .int ((mu m σ).1 0 15)) C hM.1 fa_X8_160 rfl dX8_draw_38 ?_
      refine r_iconst (v := 1) C dX8_draw_41 (by decide) ?_
      refine r_iadd C dX8_draw_42 ?_
      refine r_goto (tgt := 50) C dX8_draw_43 (by decide) ?_
      exact k12 _ (by rw [if_neg c8] <;> rfl)
  clear h
  refine r_icmp_ge (tgt := 23) C dX8_draw_8 (by decide) (fun c1 => ?_) (fun c1 => ?_)
  · have c1 : ((mu m σ).1 0 14) ≤ ((mu m σ).1 0 15) := c1
    refine r_iconst (v := 0) C dX8_draw_23 (by decide) ?_
    exact k7 _ (by rw [if_pos c1] <;> rfl)
  · have c1 : ¬ ((mu m σ).1 0 14) ≤ ((mu m σ).1 0 15) := c1
    have h := g4.2 c1
    refine r_aload_n C dX8_draw_11 rfl (j := 0) rfl ?_
    refine r_getA C hM (k := 16) (g := 10) (ti := 0) (n := 400) (by decide) fa_X8_42 rfl dX8_draw_12 ?_
    refine r_aload_n C dX8_draw_15 rfl (j := 0) rfl ?_
    refine r_get (v := .int ((mu m σ).1 0 15)) C hM.1 fa_X8_160 rfl dX8_draw_16 ?_
    have g3 := h
    refine r_iald (ti := 0) (n := 400) C (hM.2 (16, 10, 0, 400) (by decide)).2 ⟨rfl, fun _ => rfl⟩ g3 dX8_draw_19 ?_
    refine r_goto (tgt := 24) C dX8_draw_20 (by decide) ?_
    exact k7 _ (by rw [if_neg c1] <;> rfl)
theorem u_X8_threshold_0 {X : r_X} {w : r_V} {B m : Nat} {l : Launch} {Q : Int32 → Mu → Prop} {σ0 : r_S} (C : r_C X w B 3 cX8_threshold RX8) (E : r_E X l tX8_threshold) {μ : Mu} {x1 : Int32}
    (h : ∀ μ1 : Mu, μ1 = ui μ 0 0 0 → ((x1 < 0 → (Q (-12) μ1)) ∧ (¬ x1 < 0 → ((x1 ≤ 100 → (∀ z9 : Int32, z9 = μ1.1 0 3 → (∀ μ11 : Mu, μ11 = ui μ1 0 3 x1 → (Q z9 μ11)))) ∧ (¬ x1 ≤ 100 → (Q (-12) μ1)))))) :
    r_Wm X w B 3 m σ0 (r_Z X w B tX8_threshold (ZMI m σ0 Q)) 0 [(0, Value.ref (B + m)), (1, Value.int x1)] [] μ := by
  intro σ hs hM hF hμ
  subst hμ
  refine r_aload_n C dX8_threshold_0 rfl (j := 0) rfl ?_
  refine r_iconst (v := 0) C dX8_threshold_1 (by decide) ?_
  refine r_putI C hM.1 fa_X8_150 rfl rfl rfl dX8_threshold_2 ?_
  refine r_nam (fun σ1 e2 => ?_)
  have u6 : mu m σ1 = ui (mu m σ) 0 0 0 := by rw [e2]; exact mu_ui (g := 0)
  have h := h (mu m σ1) u6
  have s3 : σ1.1 = σ0.1 := by rw [e2]; exact hs
  have M4 : Mo m σ1 := by rw [e2]; exact hM.fr rfl (fun _ _ => rfl)
  have F5 : Fr m σ0 σ1 := by rw [e2]; exact Fr.ui (g := 0) hF
  refine r_iload_n C dX8_threshold_5 rfl (j := 1) rfl ?_
  refine r_if_lt (tgt := 15) C dX8_threshold_6 (by decide) (fun c7 => ?_) (fun c7 => ?_)
  · have h := h.1 c7
    refine r_bipush (v := (-12)) C dX8_threshold_15 (by decide) ?_
    exact r_iretQ C E rfl (Nat.zero_le _) (Nat.zero_le _) dX8_threshold_17 s3 ⟨F5, h⟩
  · have h := h.2 c7
    refine r_iload_n C dX8_threshold_9 rfl (j := 1) rfl ?_
    refine r_bipush (v := 100) C dX8_threshold_10 (by decide) ?_
    refine r_icmp_le (tgt := 18) C dX8_threshold_12 (by decide) (fun c8 => ?_) (fun c8 => ?_)
    · have h := h.1 c8
      refine r_aload_n C dX8_threshold_18 rfl (j := 0) rfl ?_
      refine r_get (v := .int ((mu m σ1).1 0 3)) C M4.1 fa_X8_7 rfl dX8_threshold_19 ?_
      refine r_topi (fun z9 e10 => ?_)
      have h := h z9 e10
      refine r_istore_n (lv' := [(2, Value.int z9), (0, Value.ref (B + m)), (1, Value.int x1)]) C dX8_threshold_22 rfl (by decide) rfl ?_
      refine r_aload_n C dX8_threshold_23 rfl (j := 1) rfl ?_
      refine r_iload_n C dX8_threshold_24 rfl (j := 2) rfl ?_
      refine r_putI C M4.1 fa_X8_7 rfl rfl rfl dX8_threshold_25 ?_
      refine r_nam (fun σ11 e12 => ?_)
      have u16 : mu m σ11 = ui (mu m σ1) 0 3 x1 := by rw [e12]; exact mu_ui (g := 0)
      have h := h (mu m σ11) u16
      have s13 : σ11.1 = σ0.1 := by rw [e12]; exact s3
      have M14 : Mo m σ11 := by rw [e12]; exact M4.fr rfl (fun _ _ => rfl)
      have F15 : Fr m σ0 σ11 := by rw [e12]; exact Fr.ui (g := 0) F5
      refine r_iload_n C dX8_threshold_28 rfl (j := 0) rfl ?_
      exact r_iretQ C E rfl (Nat.zero_le _) (Nat.zero_le _) dX8_threshold_29 s13 ⟨F15, h⟩
    · have h := h.2 c8
      refine r_bipush (v := (-12)) C dX8_threshold_15 (by decide) ?_
      exact r_iretQ C E rfl (Nat.zero_le _) (Nat.zero_le _) dX8_threshold_17 s3 ⟨F5, h⟩
theorem u_X8_keeps_0 {X : r_X} {w : r_V} {B m : Nat} {l : Launch} {Q : Int32 → Mu → Prop} {σ0 : r_S} (C : r_C X w B 4 cX8_keeps RX8) (E : r_E X l tX8_keeps) {μ : Mu} {x1 : Int32}
    (h : r_Wm X w B 4 m σ0 (r_Z X w B tX8_keeps (ZMI m σ0 Q)) 4 [(0, Value.ref (B + m)), (1, Value.int x1), (2, Value.int 0), (3, Value.int 1)] [] μ) :
    r_Wm X w B 4 m σ0 (r_Z X w B tX8_keeps (ZMI m σ0 Q)) 0 [(0, Value.ref (B + m)), (1, Value.int x1)] [] μ := by
  intro σ hs hM hF hμ
  subst hμ
  refine r_iconst (v := 0) C dX8_keeps_0 (by decide) ?_
  refine r_istore_n (lv' := [(2, Value.int 0), (0, Value.ref (B + m)), (1, Value.int x1)]) C dX8_keeps_1 rfl (by decide) rfl ?_
  refine r_iconst (v := 1) C dX8_keeps_2 (by decide) ?_
  refine r_istore_n (lv' := [(3, Value.int 1), (2, Value.int 0), (0, Value.ref (B + m)), (1, Value.int x1)]) C dX8_keeps_3 rfl (by decide) rfl ?_
  exact r_loc (by simp) (h σ hs hM hF rfl)
theorem u_X8_keeps_4 {X : r_X} {w : r_V} {B m : Nat} {l : Launch} {Q : Int32 → Mu → Prop} {σ0 : r_S} (C : r_C X w B 4 cX8_keeps RX8) (E : r_E X l tX8_keeps) {μ : Mu} {x1 x2 x3 : Int32}
    (h : ((μ.1 0 5) < x3 → (Q x2 μ)) ∧ (¬ (μ.1 0 5) < x3 → (vp_in x3 301 ∧ (∀ z7 : Int32, z7 = (if (μ.1 2 x3.toNatClampNeg) = x1 then (if (μ.1 6 x3.toNatClampNeg) = 0 then x2 else (x2 + 1)) else x2) → (∀ z10 : Int32, z10 = x3 + 1 → (r_Wm X w B 4 m σ0 (r_Z X w B tX8_keeps (ZMI m σ0 Q)) 4 [(0, Value.ref (B + m)), (1, Value.int x1), (2, Value.int z7), (3, Value.int z10)] [] μ)))))) :
    r_Wm X w B 4 m σ0 (r_Z X w B tX8_keeps (ZMI m σ0 Q)) 4 [(0, Value.ref (B + m)), (1, Value.int x1), (2, Value.int x2), (3, Value.int x3)] [] μ := by
  intro σ hs hM hF hμ
  subst hμ
  refine r_iload_n C dX8_keeps_4 rfl (j := 3) rfl ?_
  refine r_aload_n C dX8_keeps_5 rfl (j := 0) rfl ?_
  refine r_get (v := .int ((mu m σ).1 0 5)) C hM.1 fa_X8_163 rfl dX8_keeps_6 ?_
  refine r_icmp_gt (tgt := 45) C dX8_keeps_9 (by decide) (fun c1 => ?_) (fun c1 => ?_)
  · have h := h.1 c1
    refine r_iload_n C dX8_keeps_45 rfl (j := 2) rfl ?_
    exact r_iretQ C E rfl (Nat.zero_le _) (Nat.zero_le _) dX8_keeps_46 hs ⟨hF, h⟩
  · have h := h.2 c1
    refine r_aload_n C dX8_keeps_12 rfl (j := 0) rfl ?_
    refine r_getA C hM (k := 6) (g := 2) (ti := 0) (n := 301) (by decide) fa_X8_17 rfl dX8_keeps_13 ?_
    refine r_iload_n C dX8_keeps_16 rfl (j := 3) rfl ?_
    obtain ⟨g2, h⟩ := h
    refine r_iald (ti := 0) (n := 301) C (hM.2 (6, 2, 0, 301) (by decide)).2 ⟨rfl, fun _ => rfl⟩ g2 dX8_keeps_17 ?_
    refine r_iload_n C dX8_keeps_18 rfl (j := 1) rfl ?_
    have k9 : ∀ z7 : Int32, z7 = (if ((mu m σ).1 2 x3.toNatClampNeg) = x1 then (if ((mu m σ).1 6 x3.toNatClampNeg) = 0 then x2 else (x2 + 1)) else x2) → r_W X w B 4 0 0 (r_Z X w B tX8_keeps (ZMI m σ0 Q)) 38 [(0, Value.ref (B + m)), (1, Value.int x1), (2, Value.int x2), (3, Value.int x3)] [Value.int z7] σ := by
      intro z7 e8
      have h := h z7 e8
      refine r_istore_n (lv' := [(2, Value.int z7), (0, Value.ref (B + m)), (1, Value.int x1), (3, Value.int x3)]) C dX8_keeps_38 rfl (by decide) rfl ?_
      obtain ⟨z10, e11⟩ : ∃ y : Int32, y = x3 + 1 := ⟨_, rfl⟩
      have h := h z10 e11
      refine r_iinc (v := z10) (lv' := [(3, Value.int z10), (2, Value.int z7), (0, Value.ref (B + m)), (1, Value.int x1)]) C dX8_keeps_39 (k := 3) rfl (by rw [e11]; rfl) (by decide) rfl ?_
      refine r_goto (tgt := 4) C dX8_keeps_42 (by decide) ?_
      exact r_loc (by simp) (h σ hs hM hF rfl)
    clear h
    refine r_icmp_ne (tgt := 37) C dX8_keeps_19 (by decide) (fun c3 => ?_) (fun c3 => ?_)
    · have c3 : ¬ ((mu m σ).1 2 x3.toNatClampNeg) = x1 := c3
      refine r_iload_n C dX8_keeps_37 rfl (j := 2) rfl ?_
      exact k9 _ (by rw [if_neg c3] <;> rfl)
    · have c3 : ((mu m σ).1 2 x3.toNatClampNeg) = x1 := c3
      refine r_aload_n C dX8_keeps_22 rfl (j := 0) rfl ?_
      refine r_getA C hM (k := 10) (g := 6) (ti := 2) (n := 301) (by decide) fa_X8_30 rfl dX8_keeps_23 ?_
      refine r_iload_n C dX8_keeps_26 rfl (j := 3) rfl ?_
      refine r_zald (ti := 2) (n := 301) C (hM.2 (10, 6, 2, 301) (by decide)).2 ⟨rfl, fun _ => rfl⟩ g2 dX8_keeps_27 ?_
      refine r_if_eq (tgt := 37) C dX8_keeps_28 (by decide) (fun c5 => ?_) (fun c5 => ?_)
      · have c5 : ((mu m σ).1 6 x3.toNatClampNeg) = 0 := c5
        refine r_iload_n C dX8_keeps_37 rfl (j := 2) rfl ?_
        exact k9 _ (by rw [if_pos c3, if_pos c5] <;> rfl)
      · have c5 : ¬ ((mu m σ).1 6 x3.toNatClampNeg) = 0 := c5
        refine r_iload_n C dX8_keeps_31 rfl (j := 2) rfl ?_
        refine r_iconst (v := 1) C dX8_keeps_32 (by decide) ?_
        refine r_iadd C dX8_keeps_33 ?_
        refine r_goto (tgt := 38) C dX8_keeps_34 (by decide) ?_
        exact k9 _ (by rw [if_pos c3, if_neg c5] <;> rfl)
theorem u_X8_offer_0 {X : r_X} {w : r_V} {B m : Nat} {l : Launch} {Q : Int32 → Mu → Prop} {σ0 : r_S} (C : r_C X w B 5 cX8_offer RX8) (E : r_E X l tX8_offer) {μ : Mu} {x1 x2 x3 : Int32}
    (h : ∀ μ1 : Mu, μ1 = ui μ 0 0 0 → (∃ Q7 : Int32 → Mu → Prop, r_MI l w B m tX8_isStation [Value.int x1] μ1 Q7 ∧ (∀ (z11 : Int32) (μ9 : Mu), Q7 z11 μ9 → ((z11 = 0 → (Q (-11) μ9)) ∧ (¬ z11 = 0 → (∃ Q17 : Int32 → Mu → Prop, r_MI l w B m tX8_isStation [Value.int x2] μ9 Q17 ∧ (∀ (z21 : Int32) (μ19 : Mu), Q17 z21 μ19 → ((z21 = 0 → (Q (-11) μ19)) ∧ (¬ z21 = 0 → ((x1 = x2 → (Q (-12) μ19)) ∧ (¬ x1 = x2 → ((x3 < 1 → (Q (-12) μ19)) ∧ (¬ x3 < 1 → ((x3 ≤ 8 → (∃ Q30 : Int32 → Mu → Prop, r_MI l w B m tX8_keeps [Value.int x1] μ19 Q30 ∧ (∀ (z34 : Int32) (μ32 : Mu), Q30 z34 μ32 → (((μ32.1 0 5) = 300 → (Q (-14) μ32)) ∧ (¬ (μ32.1 0 5) = 300 → ((z34 = 10 → (Q (-14) μ32)) ∧ (¬ z34 = 10 → (∀ μ41 : Mu, μ41 = ui μ32 0 5 ((μ32.1 0 5) + 1) → (vp_in (μ41.1 0 5) 301 ∧ (∀ μ48 : Mu, μ48 = ui μ41 2 ((μ41.1 0 5).toNatClampNeg) x1 → (vp_in (μ48.1 0 5) 301 ∧ (∀ μ55 : Mu, μ55 = ui μ48 3 ((μ48.1 0 5).toNatClampNeg) x2 → (vp_in (μ55.1 0 5) 301 ∧ (∀ μ62 : Mu, μ62 = ui μ55 4 ((μ55.1 0 5).toNatClampNeg) x3 → (vp_in ((6 * x1) + x2) 36 ∧ (vp_in (μ62.1 0 5) 301 ∧ (∀ μ70 : Mu, μ70 = ui μ62 5 ((μ62.1 0 5).toNatClampNeg) (μ62.1 8 (((6 * x1) + x2).toNatClampNeg)) → (∀ μ76 : Mu, μ76 = ui μ70 8 (((6 * x1) + x2).toNatClampNeg) ((μ70.1 8 (((6 * x1) + x2).toNatClampNeg)) + 1) → (vp_in (μ76.1 0 5) 301 ∧ (∀ μ83 : Mu, μ83 = ui μ76 6 ((μ76.1 0 5).toNatClampNeg) 1 → ((z34 = 0 → (∃ Q90 : Mu → Prop, r_MV l w B m tX8_draw [Value.int x1] μ83 Q90 ∧ (∀ μ92 : Mu, Q90 μ92 → (Q (μ92.1 0 5) μ92)))) ∧ (¬ z34 = 0 → (Q (μ83.1 0 5) μ83))))))))))))))))))))))) ∧ (¬ x3 ≤ 8 → (Q (-12) μ19)))))))))))))))) :
    r_Wm X w B 5 m σ0 (r_Z X w B tX8_offer (ZMI m σ0 Q)) 0 [(0, Value.ref (B + m)), (1, Value.int x1), (2, Value.int x2), (3, Value.int x3)] [] μ := by
  intro σ hs hM hF hμ
  subst hμ
  refine r_aload_n C dX8_offer_0 rfl (j := 0) rfl ?_
  refine r_iconst (v := 0) C dX8_offer_1 (by decide) ?_
  refine r_putI C hM.1 fa_X8_150 rfl rfl rfl dX8_offer_2 ?_
  refine r_nam (fun σ1 e2 => ?_)
  have u6 : mu m σ1 = ui (mu m σ) 0 0 0 := by rw [e2]; exact mu_ui (g := 0)
  have h := h (mu m σ1) u6
  have s3 : σ1.1 = σ0.1 := by rw [e2]; exact hs
  have M4 : Mo m σ1 := by rw [e2]; exact hM.fr rfl (fun _ _ => rfl)
  have F5 : Fr m σ0 σ1 := by rw [e2]; exact Fr.ui (g := 0) hF
  refine r_aload_n C dX8_offer_5 rfl (j := 0) rfl ?_
  refine r_iload_n C dX8_offer_6 rfl (j := 1) rfl ?_
  obtain ⟨Q7, m8, h⟩ := h
  refine r_callVI (rest := []) C E [Value.int x1] M4.1 rfl ky_X8_isStation kl_X8_153 ki_X8_isStation kx_X8_isStation ⟨Nat.le_of_ble_eq_true rfl, Nat.le_of_ble_eq_true rfl⟩ ⟨rfl, rfl⟩ (m8 σ1 M4 rfl) rfl rfl (Nat.le_of_ble_eq_true rfl) (Nat.zero_le _) (Nat.zero_le _) dX8_offer_7 (fun z11 σ9 s10 q12 => ?_)
  obtain ⟨f13, q12⟩ := q12
  have h := h z11 (mu m σ9) q12
  have M14 := M4.fr s10 f13.1
  have F15 := F5.trans f13
  have s10 := s10.trans s3
  refine r_if_eq (tgt := 21) C dX8_offer_10 (by decide) (fun c16 => ?_) (fun c16 => ?_)
  · have h := h.1 c16
    refine r_bipush (v := (-11)) C dX8_offer_21 (by decide) ?_
    exact r_iretQ C E rfl (Nat.zero_le _) (Nat.zero_le _) dX8_offer_23 s10 ⟨F15, h⟩
  · have h := h.2 c16
    refine r_aload_n C dX8_offer_13 rfl (j := 0) rfl ?_
    refine r_iload_n C dX8_offer_14 rfl (j := 2) rfl ?_
    obtain ⟨Q17, m18, h⟩ := h
    refine r_callVI (rest := []) C E [Value.int x2] M14.1 rfl ky_X8_isStation kl_X8_153 ki_X8_isStation kx_X8_isStation ⟨Nat.le_of_ble_eq_true rfl, Nat.le_of_ble_eq_true rfl⟩ ⟨rfl, rfl⟩ (m18 σ9 M14 rfl) rfl rfl (Nat.le_of_ble_eq_true rfl) (Nat.zero_le _) (Nat.zero_le _) dX8_offer_15 (fun z21 σ19 s20 q22 => ?_)
    obtain ⟨f23, q22⟩ := q22
    have h := h z21 (mu m σ19) q22
    have M24 := M14.fr s20 f23.1
    have F25 := F15.trans f23
    have s20 := s20.trans s10
    refine r_if_ne (tgt := 24) C dX8_offer_18 (by decide) (fun c26 => ?_) (fun c26 => ?_)
    · have h := h.2 c26
      refine r_iload_n C dX8_offer_24 rfl (j := 1) rfl ?_
      refine r_iload_n C dX8_offer_25 rfl (j := 2) rfl ?_
      refine r_icmp_eq (tgt := 40) C dX8_offer_26 (by decide) (fun c27 => ?_) (fun c27 => ?_)
      · have h := h.1 c27
        refine r_bipush (v := (-12)) C dX8_offer_40 (by decide) ?_
        exact r_iretQ C E rfl (Nat.zero_le _) (Nat.zero_le _) dX8_offer_42 s20 ⟨F25, h⟩
      · have h := h.2 c27
        refine r_iload_n C dX8_offer_29 rfl (j := 3) rfl ?_
        refine r_iconst (v := 1) C dX8_offer_30 (by decide) ?_
        refine r_icmp_lt (tgt := 40) C dX8_offer_31 (by decide) (fun c28 => ?_) (fun c28 => ?_)
        · have h := h.1 c28
          refine r_bipush (v := (-12)) C dX8_offer_40 (by decide) ?_
          exact r_iretQ C E rfl (Nat.zero_le _) (Nat.zero_le _) dX8_offer_42 s20 ⟨F25, h⟩
        · have h := h.2 c28
          refine r_iload_n C dX8_offer_34 rfl (j := 3) rfl ?_
          refine r_bipush (v := 8) C dX8_offer_35 (by decide) ?_
          refine r_icmp_le (tgt := 43) C dX8_offer_37 (by decide) (fun c29 => ?_) (fun c29 => ?_)
          · have h := h.1 c29
            refine r_aload_n C dX8_offer_43 rfl (j := 0) rfl ?_
            refine r_iload_n C dX8_offer_44 rfl (j := 1) rfl ?_
            obtain ⟨Q30, m31, h⟩ := h
            refine r_callVI (rest := []) C E [Value.int x1] M24.1 rfl ky_X8_keeps kl_X8_166 ki_X8_keeps kx_X8_keeps ⟨Nat.le_of_ble_eq_true rfl, Nat.le_of_ble_eq_true rfl⟩ ⟨rfl, rfl⟩ (m31 σ19 M24 rfl) rfl rfl (Nat.le_of_ble_eq_true rfl) (Nat.zero_le _) (Nat.zero_le _) dX8_offer_45 (fun z34 σ32 s33 q35 => ?_)
            obtain ⟨f36, q35⟩ := q35
            have h := h z34 (mu m σ32) q35
            have M37 := M24.fr s33 f36.1
            have F38 := F25.trans f36
            have s33 := s33.trans s20
            refine r_istore (lv' := [(4, Value.int z34), (0, Value.ref (B + m)), (1, Value.int x1), (2, Value.int x2), (3, Value.int x3)]) C dX8_offer_48 (by decide) rfl ?_
            refine r_aload_n C dX8_offer_50 rfl (j := 1) rfl ?_
            refine r_get (v := .int ((mu m σ32).1 0 5)) C M37.1 fa_X8_163 rfl dX8_offer_51 ?_
            refine r_sipush (v := 300) C dX8_offer_54 (by decide) ?_
            refine r_icmp_eq (tgt := 67) C dX8_offer_57 (by decide) (fun c39 => ?_) (fun c39 => ?_)
            · have h := h.1 c39
              refine r_bipush (v := (-14)) C dX8_offer_67 (by decide) ?_
              exact r_iretQ C E rfl (Nat.zero_le _) (Nat.zero_le _) dX8_offer_69 s33 ⟨F38, h⟩
            · have h := h.2 c39
              refine r_iload C dX8_offer_60 (j := 0) rfl ?_
              refine r_bipush (v := 10) C dX8_offer_62 (by decide) ?_
              refine r_icmp_ne (tgt := 70) C dX8_offer_64 (by decide) (fun c40 => ?_) (fun c40 => ?_)
              · have h := h.2 c40
                refine r_aload_n C dX8_offer_70 rfl (j := 1) rfl ?_
                refine r_dup C dX8_offer_71 rfl ?_
                refine r_get (v := .int ((mu m σ32).1 0 5)) C M37.1 fa_X8_163 rfl dX8_offer_72 ?_
                refine r_iconst (v := 1) C dX8_offer_75 (by decide) ?_
                refine r_iadd C dX8_offer_76 ?_
                refine r_putI C M37.1 fa_X8_163 rfl rfl rfl dX8_offer_77 ?_
                refine r_nam (fun σ41 e42 => ?_)
                have u46 : mu m σ41 = ui (mu m σ32) 0 5 (((mu m σ32).1 0 5) + 1) := by rw [e42]; exact mu_ui (g := 0)
                have h := h (mu m σ41) u46
                have s43 : σ41.1 = σ0.1 := by rw [e42]; exact s33
                have M44 : Mo m σ41 := by rw [e42]; exact M37.fr rfl (fun _ _ => rfl)
                have F45 : Fr m σ0 σ41 := by rw [e42]; exact Fr.ui (g := 0) F38
                refine r_aload_n C dX8_offer_80 rfl (j := 1) rfl ?_
                refine r_getA C M44 (k := 6) (g := 2) (ti := 0) (n := 301) (by decide) fa_X8_17 rfl dX8_offer_81 ?_
                refine r_aload_n C dX8_offer_84 rfl (j := 1) rfl ?_
                refine r_get (v := .int ((mu m σ41).1 0 5)) C M44.1 fa_X8_163 rfl dX8_offer_85 ?_
                refine r_iload_n C dX8_offer_88 rfl (j := 2) rfl ?_
                obtain ⟨g47, h⟩ := h
                refine r_iast (ti := 0) (n := 301) C (M44.2 (6, 2, 0, 301) (by decide)).2 ⟨rfl, fun _ => rfl⟩ g47 dX8_offer_89 ?_
                refine r_nam (fun σ48 e49 => ?_)
                have u53 : mu m σ48 = ui (mu m σ41) 2 (((mu m σ41).1 0 5).toNatClampNeg) x1 := by rw [e49]; exact mu_ui (g := 2)
                have h := h (mu m σ48) u53
                have s50 : σ48.1 = σ0.1 := by rw [e49]; exact s43
                have M51 : Mo m σ48 := by rw [e49]; exact M44.fr rfl (fun _ _ => rfl)
                have F52 : Fr m σ0 σ48 := by rw [e49]; exact Fr.ui (g := 2) F45
                refine r_aload_n C dX8_offer_90 rfl (j := 1) rfl ?_
                refine r_getA C M51 (k := 7) (g := 3) (ti := 0) (n := 301) (by decide) fa_X8_21 rfl dX8_offer_91 ?_
                refine r_aload_n C dX8_offer_94 rfl (j := 1) rfl ?_
                refine r_get (v := .int ((mu m σ48).1 0 5)) C M51.1 fa_X8_163 rfl dX8_offer_95 ?_
                refine r_iload_n C dX8_offer_98 rfl (j := 3) rfl ?_
                obtain ⟨g54, h⟩ := h
                refine r_iast (ti := 0) (n := 301) C (M51.2 (7, 3, 0, 301) (by decide)).2 ⟨rfl, fun _ => rfl⟩ g54 dX8_offer_99 ?_
                refine r_nam (fun σ55 e56 => ?_)
                have u60 : mu m σ55 = ui (mu m σ48) 3 (((mu m σ48).1 0 5).toNatClampNeg) x2 := by rw [e56]; exact mu_ui (g := 3)
                have h := h (mu m σ55) u60
                have s57 : σ55.1 = σ0.1 := by rw [e56]; exact s50
                have M58 : Mo m σ55 := by rw [e56]; exact M51.fr rfl (fun _ _ => rfl)
                have F59 : Fr m σ0 σ55 := by rw [e56]; exact Fr.ui (g := 3) F52
                refine r_aload_n C dX8_offer_100 rfl (j := 1) rfl ?_
                refine r_getA C M58 (k := 8) (g := 4) (ti := 0) (n := 301) (by decide) fa_X8_24 rfl dX8_offer_101 ?_
                refine r_aload_n C dX8_offer_104 rfl (j := 1) rfl ?_
                refine r_get (v := .int ((mu m σ55).1 0 5)) C M58.1 fa_X8_163 rfl dX8_offer_105 ?_
                refine r_iload_n C dX8_offer_108 rfl (j := 4) rfl ?_
                obtain ⟨g61, h⟩ := h
                refine r_iast (ti := 0) (n := 301) C (M58.2 (8, 4, 0, 301) (by decide)).2 ⟨rfl, fun _ => rfl⟩ g61 dX8_offer_109 ?_
                refine r_nam (fun σ62 e63 => ?_)
                have u67 : mu m σ62 = ui (mu m σ55) 4 (((mu m σ55).1 0 5).toNatClampNeg) x3 := by rw [e63]; exact mu_ui (g := 4)
                have h := h (mu m σ62) u67
                have s64 : σ62.1 = σ0.1 := by rw [e63]; exact s57
                have M65 : Mo m σ62 := by rw [e63]; exact M58.fr rfl (fun _ _ => rfl)
                have F66 : Fr m σ0 σ62 := by rw [e63]; exact Fr.ui (g := 4) F59
                refine r_aload_n C dX8_offer_110 rfl (j := 1) rfl ?_
                refine r_getA C M65 (k := 9) (g := 5) (ti := 0) (n := 301) (by decide) fa_X8_27 rfl dX8_offer_111 ?_
                refine r_aload_n C dX8_offer_114 rfl (j := 1) rfl ?_
                refine r_get (v := .int ((mu m σ62).1 0 5)) C M65.1 fa_X8_163 rfl dX8_offer_115 ?_
                refine r_aload_n C dX8_offer_118 rfl (j := 1) rfl ?_
                refine r_getA C M65 (k := 12) (g := 8) (ti := 0) (n := 36) (by decide) fa_X8_36 rfl dX8_offer_119 ?_
                refine r_bipush (v := 6) C dX8_offer_122 (by decide) ?_
                refine r_iload_n C dX8_offer_124 rfl (j := 2) rfl ?_
                refine r_imul C dX8_offer_125 ?_
                refine r_iload_n C dX8_offer_126 rfl (j := 3) rfl ?_
                refine r_iadd C dX8_offer_127 ?_
                obtain ⟨g68, h⟩ := h
                refine r_iald (ti := 0) (n := 36) C (M65.2 (12, 8, 0, 36) (by decide)).2 ⟨rfl, fun _ => rfl⟩ g68 dX8_offer_128 ?_
                obtain ⟨g69, h⟩ := h
                refine r_iast (ti := 0) (n := 301) C (M65.2 (9, 5, 0, 301) (by decide)).2 ⟨rfl, fun _ => rfl⟩ g69 dX8_offer_129 ?_
                refine r_nam (fun σ70 e71 => ?_)
                have u75 : mu m σ70 = ui (mu m σ62) 5 (((mu m σ62).1 0 5).toNatClampNeg) ((mu m σ62).1 8 (((6 * x1) + x2).toNatClampNeg)) := by rw [e71]; exact mu_ui (g := 5)
                have h := h (mu m σ70) u75
                have s72 : σ70.1 = σ0.1 := by rw [e71]; exact s64
                have M73 : Mo m σ70 := by rw [e71]; exact M65.fr rfl (fun _ _ => rfl)
                have F74 : Fr m σ0 σ70 := by rw [e71]; exact Fr.ui (g := 5) F66
                refine r_aload_n C dX8_offer_130 rfl (j := 1) rfl ?_
                refine r_getA C M73 (k := 12) (g := 8) (ti := 0) (n := 36) (by decide) fa_X8_36 rfl dX8_offer_131 ?_
                refine r_bipush (v := 6) C dX8_offer_134 (by decide) ?_
                refine r_iload_n C dX8_offer_136 rfl (j := 2) rfl ?_
                refine r_imul C dX8_offer_137 ?_
                refine r_iload_n C dX8_offer_138 rfl (j := 3) rfl ?_
                refine r_iadd C dX8_offer_139 ?_
                refine r_dup2_11 C dX8_offer_140 rfl rfl ?_
                refine r_iald (ti := 0) (n := 36) C (M73.2 (12, 8, 0, 36) (by decide)).2 ⟨rfl, fun _ => rfl⟩ g68 dX8_offer_141 ?_
                refine r_iconst (v := 1) C dX8_offer_142 (by decide) ?_
                refine r_iadd C dX8_offer_143 ?_
                refine r_iast (ti := 0) (n := 36) C (M73.2 (12, 8, 0, 36) (by decide)).2 ⟨rfl, fun _ => rfl⟩ g68 dX8_offer_144 ?_
                refine r_nam (fun σ76 e77 => ?_)
                have u81 : mu m σ76 = ui (mu m σ70) 8 (((6 * x1) + x2).toNatClampNeg) (((mu m σ70).1 8 (((6 * x1) + x2).toNatClampNeg)) + 1) := by rw [e77]; exact mu_ui (g := 8)
                have h := h (mu m σ76) u81
                have s78 : σ76.1 = σ0.1 := by rw [e77]; exact s72
                have M79 : Mo m σ76 := by rw [e77]; exact M73.fr rfl (fun _ _ => rfl)
                have F80 : Fr m σ0 σ76 := by rw [e77]; exact Fr.ui (g := 8) F74
                refine r_aload_n C dX8_offer_145 rfl (j := 1) rfl ?_
                refine r_getA C M79 (k := 10) (g := 6) (ti := 2) (n := 301) (by decide) fa_X8_30 rfl dX8_offer_146 ?_
                refine r_aload_n C dX8_offer_149 rfl (j := 1) rfl ?_
                refine r_get (v := .int ((mu m σ76).1 0 5)) C M79.1 fa_X8_163 rfl dX8_offer_150 ?_
                refine r_iconst (v := 1) C dX8_offer_153 (by decide) ?_
                obtain ⟨g82, h⟩ := h
                refine r_zast (ti := 2) (n := 301) C (M79.2 (10, 6, 2, 301) (by decide)).2 ⟨rfl, fun _ => rfl⟩ g82 (by decide) dX8_offer_154 ?_
                refine r_nam (fun σ83 e84 => ?_)
                have u88 : mu m σ83 = ui (mu m σ76) 6 (((mu m σ76).1 0 5).toNatClampNeg) 1 := by rw [e84]; exact mu_ui (g := 6)
                have h := h (mu m σ83) u88
                have s85 : σ83.1 = σ0.1 := by rw [e84]; exact s78
                have M86 : Mo m σ83 := by rw [e84]; exact M79.fr rfl (fun _ _ => rfl)
                have F87 : Fr m σ0 σ83 := by rw [e84]; exact Fr.ui (g := 6) F80
                refine r_iload C dX8_offer_155 (j := 0) rfl ?_
                refine r_if_ne (tgt := 165) C dX8_offer_157 (by decide) (fun c89 => ?_) (fun c89 => ?_)
                · have h := h.2 c89
                  refine r_aload_n C dX8_offer_165 rfl (j := 1) rfl ?_
                  refine r_get (v := .int ((mu m σ83).1 0 5)) C M86.1 fa_X8_163 rfl dX8_offer_166 ?_
                  exact r_iretQ C E rfl (Nat.zero_le _) (Nat.zero_le _) dX8_offer_169 s85 ⟨F87, h⟩
                · have h := h.1 c89
                  refine r_aload_n C dX8_offer_160 rfl (j := 1) rfl ?_
                  refine r_iload_n C dX8_offer_161 rfl (j := 2) rfl ?_
                  obtain ⟨Q90, m91, h⟩ := h
                  refine r_callVV (rest := []) C E [Value.int x1] M86.1 rfl ky_X8_draw kl_X8_170 ki_X8_draw kx_X8_draw ⟨Nat.le_of_ble_eq_true rfl, Nat.le_of_ble_eq_true rfl⟩ ⟨rfl, rfl⟩ (m91 σ83 M86 rfl) rfl rfl (Nat.le_of_ble_eq_true rfl) (Nat.zero_le _) (Nat.zero_le _) dX8_offer_162 (fun σ92 s93 q95 => ?_)
                  obtain ⟨f96, q95⟩ := q95
                  have h := h (mu m σ92) q95
                  have M97 := M86.fr s93 f96.1
                  have F98 := F87.trans f96
                  have s93 := s93.trans s85
                  refine r_aload_n C dX8_offer_165 rfl (j := 1) rfl ?_
                  refine r_get (v := .int ((mu m σ92).1 0 5)) C M97.1 fa_X8_163 rfl dX8_offer_166 ?_
                  exact r_iretQ C E rfl (Nat.zero_le _) (Nat.zero_le _) dX8_offer_169 s93 ⟨F98, h⟩
              · have h := h.1 c40
                refine r_bipush (v := (-14)) C dX8_offer_67 (by decide) ?_
                exact r_iretQ C E rfl (Nat.zero_le _) (Nat.zero_le _) dX8_offer_69 s33 ⟨F38, h⟩
          · have h := h.2 c29
            refine r_bipush (v := (-12)) C dX8_offer_40 (by decide) ?_
            exact r_iretQ C E rfl (Nat.zero_le _) (Nat.zero_le _) dX8_offer_42 s20 ⟨F25, h⟩
    · have h := h.1 c26
      refine r_bipush (v := (-11)) C dX8_offer_21 (by decide) ?_
      exact r_iretQ C E rfl (Nat.zero_le _) (Nat.zero_le _) dX8_offer_23 s20 ⟨F25, h⟩
theorem u_X8_noise_0 {X : r_X} {w : r_V} {B m : Nat} {l : Launch} {Q : Int32 → Mu → Prop} {σ0 : r_S} (C : r_C X w B 5 cX8_noise RX8) (E : r_E X l tX8_noise) {μ : Mu} {x1 x4 : Int32} {y2 : Int64}
    (h : ∀ μ1 : Mu, μ1 = ui μ 0 0 0 → (∃ Q7 : Int32 → Mu → Prop, r_MI l w B m tX8_isStation [Value.int x1] μ1 Q7 ∧ (∀ (z11 : Int32) (μ9 : Mu), Q7 z11 μ9 → ((z11 = 0 → (Q (-11) μ9)) ∧ (¬ z11 = 0 → ((y2 < (μ9.2 0 2) → (Q (-12) μ9)) ∧ (¬ y2 < (μ9.2 0 2) → ((1000000 < y2 → (Q (-12) μ9)) ∧ (¬ 1000000 < y2 → ((x4 < 1 → (Q (-12) μ9)) ∧ (¬ x4 < 1 → ((x4 ≤ 1000 → (((μ9.1 0 17) = 40 → (Q (-14) μ9)) ∧ (¬ (μ9.1 0 17) = 40 → (vp_in (μ9.1 0 17) 40 ∧ (∀ μ23 : Mu, μ23 = ui μ9 11 ((μ9.1 0 17).toNatClampNeg) x1 → (vp_in (μ23.1 0 17) 40 ∧ (∀ μ30 : Mu, μ30 = ul μ23 12 ((μ23.1 0 17).toNatClampNeg) y2 → (vp_in (μ30.1 0 17) 40 ∧ (∀ μ37 : Mu, μ37 = ui μ30 13 ((μ30.1 0 17).toNatClampNeg) x4 → (∀ μ43 : Mu, μ43 = ui μ37 0 17 ((μ37.1 0 17) + 1) → (Q (μ43.1 0 17) μ43))))))))))) ∧ (¬ x4 ≤ 1000 → (Q (-12) μ9)))))))))))))) :
    r_Wm X w B 5 m σ0 (r_Z X w B tX8_noise (ZMI m σ0 Q)) 0 [(0, Value.ref (B + m)), (1, Value.int x1), (2, Value.long y2), (4, Value.int x4)] [] μ := by
  intro σ hs hM hF hμ
  subst hμ
  refine r_aload_n C dX8_noise_0 rfl (j := 0) rfl ?_
  refine r_iconst (v := 0) C dX8_noise_1 (by decide) ?_
  refine r_putI C hM.1 fa_X8_150 rfl rfl rfl dX8_noise_2 ?_
  refine r_nam (fun σ1 e2 => ?_)
  have u6 : mu m σ1 = ui (mu m σ) 0 0 0 := by rw [e2]; exact mu_ui (g := 0)
  have h := h (mu m σ1) u6
  have s3 : σ1.1 = σ0.1 := by rw [e2]; exact hs
  have M4 : Mo m σ1 := by rw [e2]; exact hM.fr rfl (fun _ _ => rfl)
  have F5 : Fr m σ0 σ1 := by rw [e2]; exact Fr.ui (g := 0) hF
  refine r_aload_n C dX8_noise_5 rfl (j := 0) rfl ?_
  refine r_iload_n C dX8_noise_6 rfl (j := 1) rfl ?_
  obtain ⟨Q7, m8, h⟩ := h
  refine r_callVI (rest := []) C E [Value.int x1] M4.1 rfl ky_X8_isStation kl_X8_153 ki_X8_isStation kx_X8_isStation ⟨Nat.le_of_ble_eq_true rfl, Nat.le_of_ble_eq_true rfl⟩ ⟨rfl, rfl⟩ (m8 σ1 M4 rfl) rfl rfl (Nat.le_of_ble_eq_true rfl) (Nat.zero_le _) (Nat.zero_le _) dX8_noise_7 (fun z11 σ9 s10 q12 => ?_)
  obtain ⟨f13, q12⟩ := q12
  have h := h z11 (mu m σ9) q12
  have M14 := M4.fr s10 f13.1
  have F15 := F5.trans f13
  have s10 := s10.trans s3
  refine r_if_ne (tgt := 16) C dX8_noise_10 (by decide) (fun c16 => ?_) (fun c16 => ?_)
  · have h := h.2 c16
    refine r_lload_n C dX8_noise_16 rfl (j := 2) rfl ?_
    refine r_aload_n C dX8_noise_17 rfl (j := 0) rfl ?_
    refine r_get (v := .long ((mu m σ9).2 0 2)) C M14.1 fa_X8_174 rfl dX8_noise_18 ?_
    refine r_lcmp C dX8_noise_21 ?_
    refine r_if_lt (tgt := 47) C dX8_noise_22 (by decide) (fun c17 => ?_) (fun c17 => ?_)
    · have h := h.1 (lgc_lt.mp c17)
      refine r_bipush (v := (-12)) C dX8_noise_47 (by decide) ?_
      exact r_iretQ C E rfl (Nat.zero_le _) (Nat.zero_le _) dX8_noise_49 s10 ⟨F15, h⟩
    · have h := h.2 (fun q => c17 (lgc_lt.mpr q))
      refine r_lload_n C dX8_noise_25 rfl (j := 2) rfl ?_
      refine r_ldc2 (v := 1000000) C kj_X8_178 dX8_noise_26 ?_
      refine r_lcmp C dX8_noise_29 ?_
      refine r_if_gt (tgt := 47) C dX8_noise_30 (by decide) (fun c18 => ?_) (fun c18 => ?_)
      · have h := h.1 (lgc_gt.mp c18)
        refine r_bipush (v := (-12)) C dX8_noise_47 (by decide) ?_
        exact r_iretQ C E rfl (Nat.zero_le _) (Nat.zero_le _) dX8_noise_49 s10 ⟨F15, h⟩
      · have h := h.2 (fun q => c18 (lgc_gt.mpr q))
        refine r_iload C dX8_noise_33 (j := 3) rfl ?_
        refine r_iconst (v := 1) C dX8_noise_35 (by decide) ?_
        refine r_icmp_lt (tgt := 47) C dX8_noise_36 (by decide) (fun c19 => ?_) (fun c19 => ?_)
        · have h := h.1 c19
          refine r_bipush (v := (-12)) C dX8_noise_47 (by decide) ?_
          exact r_iretQ C E rfl (Nat.zero_le _) (Nat.zero_le _) dX8_noise_49 s10 ⟨F15, h⟩
        · have h := h.2 c19
          refine r_iload C dX8_noise_39 (j := 3) rfl ?_
          refine r_sipush (v := 1000) C dX8_noise_41 (by decide) ?_
          refine r_icmp_le (tgt := 50) C dX8_noise_44 (by decide) (fun c20 => ?_) (fun c20 => ?_)
          · have h := h.1 c20
            refine r_aload_n C dX8_noise_50 rfl (j := 0) rfl ?_
            refine r_get (v := .int ((mu m σ9).1 0 17)) C M14.1 fa_X8_180 rfl dX8_noise_51 ?_
            refine r_bipush (v := 40) C dX8_noise_54 (by decide) ?_
            refine r_icmp_ne (tgt := 62) C dX8_noise_56 (by decide) (fun c21 => ?_) (fun c21 => ?_)
            · have h := h.2 c21
              refine r_aload_n C dX8_noise_62 rfl (j := 0) rfl ?_
              refine r_getA C M14 (k := 18) (g := 11) (ti := 0) (n := 40) (by decide) fa_X8_45 rfl dX8_noise_63 ?_
              refine r_aload_n C dX8_noise_66 rfl (j := 0) rfl ?_
              refine r_get (v := .int ((mu m σ9).1 0 17)) C M14.1 fa_X8_180 rfl dX8_noise_67 ?_
              refine r_iload_n C dX8_noise_70 rfl (j := 1) rfl ?_
              obtain ⟨g22, h⟩ := h
              refine r_iast (ti := 0) (n := 40) C (M14.2 (18, 11, 0, 40) (by decide)).2 ⟨rfl, fun _ => rfl⟩ g22 dX8_noise_71 ?_
              refine r_nam (fun σ23 e24 => ?_)
              have u28 : mu m σ23 = ui (mu m σ9) 11 (((mu m σ9).1 0 17).toNatClampNeg) x1 := by rw [e24]; exact mu_ui (g := 11)
              have h := h (mu m σ23) u28
              have s25 : σ23.1 = σ0.1 := by rw [e24]; exact s10
              have M26 : Mo m σ23 := by rw [e24]; exact M14.fr rfl (fun _ _ => rfl)
              have F27 : Fr m σ0 σ23 := by rw [e24]; exact Fr.ui (g := 11) F15
              refine r_aload_n C dX8_noise_72 rfl (j := 0) rfl ?_
              refine r_getA C M26 (k := 19) (g := 12) (ti := 1) (n := 40) (by decide) fa_X8_48 rfl dX8_noise_73 ?_
              refine r_aload_n C dX8_noise_76 rfl (j := 0) rfl ?_
              refine r_get (v := .int ((mu m σ23).1 0 17)) C M26.1 fa_X8_180 rfl dX8_noise_77 ?_
              refine r_lload_n C dX8_noise_80 rfl (j := 2) rfl ?_
              obtain ⟨g29, h⟩ := h
              refine r_last (ti := 1) (n := 40) C (M26.2 (19, 12, 1, 40) (by decide)).2 ⟨rfl, fun _ => rfl⟩ g29 dX8_noise_81 ?_
              refine r_nam (fun σ30 e31 => ?_)
              have u35 : mu m σ30 = ul (mu m σ23) 12 (((mu m σ23).1 0 17).toNatClampNeg) y2 := by rw [e31]; exact mu_ul (g := 12)
              have h := h (mu m σ30) u35
              have s32 : σ30.1 = σ0.1 := by rw [e31]; exact s25
              have M33 : Mo m σ30 := by rw [e31]; exact M26.fr rfl (fun _ _ => rfl)
              have F34 : Fr m σ0 σ30 := by rw [e31]; exact Fr.ul (g := 12) F27
              refine r_aload_n C dX8_noise_82 rfl (j := 0) rfl ?_
              refine r_getA C M33 (k := 20) (g := 13) (ti := 0) (n := 40) (by decide) fa_X8_52 rfl dX8_noise_83 ?_
              refine r_aload_n C dX8_noise_86 rfl (j := 0) rfl ?_
              refine r_get (v := .int ((mu m σ30).1 0 17)) C M33.1 fa_X8_180 rfl dX8_noise_87 ?_
              refine r_iload C dX8_noise_90 (j := 3) rfl ?_
              obtain ⟨g36, h⟩ := h
              refine r_iast (ti := 0) (n := 40) C (M33.2 (20, 13, 0, 40) (by decide)).2 ⟨rfl, fun _ => rfl⟩ g36 dX8_noise_92 ?_
              refine r_nam (fun σ37 e38 => ?_)
              have u42 : mu m σ37 = ui (mu m σ30) 13 (((mu m σ30).1 0 17).toNatClampNeg) x4 := by rw [e38]; exact mu_ui (g := 13)
              have h := h (mu m σ37) u42
              have s39 : σ37.1 = σ0.1 := by rw [e38]; exact s32
              have M40 : Mo m σ37 := by rw [e38]; exact M33.fr rfl (fun _ _ => rfl)
              have F41 : Fr m σ0 σ37 := by rw [e38]; exact Fr.ui (g := 13) F34
              refine r_aload_n C dX8_noise_93 rfl (j := 0) rfl ?_
              refine r_dup C dX8_noise_94 rfl ?_
              refine r_get (v := .int ((mu m σ37).1 0 17)) C M40.1 fa_X8_180 rfl dX8_noise_95 ?_
              refine r_iconst (v := 1) C dX8_noise_98 (by decide) ?_
              refine r_iadd C dX8_noise_99 ?_
              refine r_putI C M40.1 fa_X8_180 rfl rfl rfl dX8_noise_100 ?_
              refine r_nam (fun σ43 e44 => ?_)
              have u48 : mu m σ43 = ui (mu m σ37) 0 17 (((mu m σ37).1 0 17) + 1) := by rw [e44]; exact mu_ui (g := 0)
              have h := h (mu m σ43) u48
              have s45 : σ43.1 = σ0.1 := by rw [e44]; exact s39
              have M46 : Mo m σ43 := by rw [e44]; exact M40.fr rfl (fun _ _ => rfl)
              have F47 : Fr m σ0 σ43 := by rw [e44]; exact Fr.ui (g := 0) F41
              refine r_aload_n C dX8_noise_103 rfl (j := 0) rfl ?_
              refine r_get (v := .int ((mu m σ43).1 0 17)) C M46.1 fa_X8_180 rfl dX8_noise_104 ?_
              exact r_iretQ C E rfl (Nat.zero_le _) (Nat.zero_le _) dX8_noise_107 s45 ⟨F47, h⟩
            · have h := h.1 c21
              refine r_bipush (v := (-14)) C dX8_noise_59 (by decide) ?_
              exact r_iretQ C E rfl (Nat.zero_le _) (Nat.zero_le _) dX8_noise_61 s10 ⟨F15, h⟩
          · have h := h.2 c20
            refine r_bipush (v := (-12)) C dX8_noise_47 (by decide) ?_
            exact r_iretQ C E rfl (Nat.zero_le _) (Nat.zero_le _) dX8_noise_49 s10 ⟨F15, h⟩
  · have h := h.1 c16
    refine r_bipush (v := (-11)) C dX8_noise_13 (by decide) ?_
    exact r_iretQ C E rfl (Nat.zero_le _) (Nat.zero_le _) dX8_noise_15 s10 ⟨F15, h⟩
theorem u_X8_hasNoise_0 {X : r_X} {w : r_V} {B m : Nat} {l : Launch} {Q : Int32 → Mu → Prop} {σ0 : r_S} (C : r_C X w B 6 cX8_hasNoise RX8) (E : r_E X l tX8_hasNoise) {μ : Mu} {x1 : Int32} {y2 : Int64}
    (h : r_Wm X w B 6 m σ0 (r_Z X w B tX8_hasNoise (ZMI m σ0 Q)) 6 [(0, Value.ref (B + m)), (1, Value.int x1), (2, Value.long y2), (4, Value.int 0), (5, Value.int 0)] [] μ) :
    r_Wm X w B 6 m σ0 (r_Z X w B tX8_hasNoise (ZMI m σ0 Q)) 0 [(0, Value.ref (B + m)), (1, Value.int x1), (2, Value.long y2)] [] μ := by
  intro σ hs hM hF hμ
  subst hμ
  refine r_iconst (v := 0) C dX8_hasNoise_0 (by decide) ?_
  refine r_istore (lv' := [(4, Value.int 0), (0, Value.ref (B + m)), (1, Value.int x1), (2, Value.long y2)]) C dX8_hasNoise_1 (by decide) rfl ?_
  refine r_iconst (v := 0) C dX8_hasNoise_3 (by decide) ?_
  refine r_istore (lv' := [(5, Value.int 0), (4, Value.int 0), (0, Value.ref (B + m)), (1, Value.int x1), (2, Value.long y2)]) C dX8_hasNoise_4 (by decide) rfl ?_
  exact r_loc (by simp) (h σ hs hM hF rfl)
theorem u_X8_hasNoise_6 {X : r_X} {w : r_V} {B m : Nat} {l : Launch} {Q : Int32 → Mu → Prop} {σ0 : r_S} (C : r_C X w B 6 cX8_hasNoise RX8) (E : r_E X l tX8_hasNoise) {μ : Mu} {x1 x4 x5 : Int32} {y2 : Int64}
    (h : ((μ.1 0 17) ≤ x5 → ((x4 = 0 ∨ x4 = 1) ∧ (Q x4 μ))) ∧ (¬ (μ.1 0 17) ≤ x5 → (((x4 = 0 → (vp_in x5 40)) ∧ (¬ x4 = 0 → True)) ∧ (∀ z13 : Int32, z13 = (if x4 = 0 then (if (μ.1 11 x5.toNatClampNeg) = x1 then (if y2 < (μ.2 12 x5.toNatClampNeg) then (0 : Int32) else (if ((μ.2 12 x5.toNatClampNeg) + ((μ.1 13 x5.toNatClampNeg).toInt64)) ≤ y2 then (0 : Int32) else (1 : Int32))) else (0 : Int32)) else (1 : Int32)) → (∀ z16 : Int32, z16 = x5 + 1 → (r_Wm X w B 6 m σ0 (r_Z X w B tX8_hasNoise (ZMI m σ0 Q)) 6 [(0, Value.ref (B + m)), (1, Value.int x1), (2, Value.long y2), (4, Value.int z13), (5, Value.int z16)] [] μ)))))) :
    r_Wm X w B 6 m σ0 (r_Z X w B tX8_hasNoise (ZMI m σ0 Q)) 6 [(0, Value.ref (B + m)), (1, Value.int x1), (2, Value.long y2), (4, Value.int x4), (5, Value.int x5)] [] μ := by
  intro σ hs hM hF hμ
  subst hμ
  refine r_iload C dX8_hasNoise_6 (j := 4) rfl ?_
  refine r_aload_n C dX8_hasNoise_8 rfl (j := 0) rfl ?_
  refine r_get (v := .int ((mu m σ).1 0 17)) C hM.1 fa_X8_180 rfl dX8_hasNoise_9 ?_
  refine r_icmp_ge (tgt := 77) C dX8_hasNoise_12 (by decide) (fun c1 => ?_) (fun c1 => ?_)
  · have h := h.1 c1
    refine r_iload C dX8_hasNoise_77 (j := 3) rfl ?_
    obtain ⟨g2, h⟩ := h
    exact r_zretQ C E rfl g2 (Nat.zero_le _) (Nat.zero_le _) dX8_hasNoise_79 hs ⟨hF, h⟩
  · have h := h.2 c1
    refine r_iload C dX8_hasNoise_15 (j := 3) rfl ?_
    obtain ⟨g12, h⟩ := h
    have k15 : ∀ z13 : Int32, z13 = (if x4 = 0 then (if ((mu m σ).1 11 x5.toNatClampNeg) = x1 then (if y2 < ((mu m σ).2 12 x5.toNatClampNeg) then (0 : Int32) else (if (((mu m σ).2 12 x5.toNatClampNeg) + (((mu m σ).1 13 x5.toNatClampNeg).toInt64)) ≤ y2 then (0 : Int32) else (1 : Int32))) else (0 : Int32)) else (1 : Int32)) → r_W X w B 6 0 0 (r_Z X w B tX8_hasNoise (ZMI m σ0 Q)) 69 [(0, Value.ref (B + m)), (1, Value.int x1), (2, Value.long y2), (4, Value.int x4), (5, Value.int x5)] [Value.int z13] σ := by
      intro z13 e14
      have h := h z13 e14
      refine r_istore (lv' := [(4, Value.int z13), (0, Value.ref (B + m)), (1, Value.int x1), (2, Value.long y2), (5, Value.int x5)]) C dX8_hasNoise_69 (by decide) rfl ?_
      obtain ⟨z16, e17⟩ : ∃ y : Int32, y = x5 + 1 := ⟨_, rfl⟩
      have h := h z16 e17
      refine r_iinc (v := z16) (lv' := [(5, Value.int z16), (4, Value.int z13), (0, Value.ref (B + m)), (1, Value.int x1), (2, Value.long y2)]) C dX8_hasNoise_71 (k := 4) rfl (by rw [e17]; rfl) (by decide) rfl ?_
      refine r_goto (tgt := 6) C dX8_hasNoise_74 (by decide) ?_
      exact r_loc (by simp) (h σ hs hM hF rfl)
    clear h
    refine r_if_ne (tgt := 64) C dX8_hasNoise_17 (by decide) (fun c3 => ?_) (fun c3 => ?_)
    · have c3 : ¬ x4 = 0 := c3
      refine r_iconst (v := 1) C dX8_hasNoise_64 (by decide) ?_
      refine r_goto (tgt := 69) C dX8_hasNoise_65 (by decide) ?_
      exact k15 _ (by rw [if_neg c3] <;> rfl)
    · have c3 : x4 = 0 := c3
      have h := g12.1 c3
      refine r_aload_n C dX8_hasNoise_20 rfl (j := 0) rfl ?_
      refine r_getA C hM (k := 18) (g := 11) (ti := 0) (n := 40) (by decide) fa_X8_45 rfl dX8_hasNoise_21 ?_
      refine r_iload C dX8_hasNoise_24 (j := 4) rfl ?_
      have g5 := h
      refine r_iald (ti := 0) (n := 40) C (hM.2 (18, 11, 0, 40) (by decide)).2 ⟨rfl, fun _ => rfl⟩ g5 dX8_hasNoise_26 ?_
      refine r_iload_n C dX8_hasNoise_27 rfl (j := 1) rfl ?_
      refine r_icmp_ne (tgt := 68) C dX8_hasNoise_28 (by decide) (fun c6 => ?_) (fun c6 => ?_)
      · have c6 : ¬ ((mu m σ).1 11 x5.toNatClampNeg) = x1 := c6
        refine r_iconst (v := 0) C dX8_hasNoise_68 (by decide) ?_
        exact k15 _ (by rw [if_pos c3, if_neg c6] <;> rfl)
      · have c6 : ((mu m σ).1 11 x5.toNatClampNeg) = x1 := c6
        refine r_lload_n C dX8_hasNoise_31 rfl (j := 2) rfl ?_
        refine r_aload_n C dX8_hasNoise_32 rfl (j := 0) rfl ?_
        refine r_getA C hM (k := 19) (g := 12) (ti := 1) (n := 40) (by decide) fa_X8_48 rfl dX8_hasNoise_33 ?_
        refine r_iload C dX8_hasNoise_36 (j := 4) rfl ?_
        refine r_lald (ti := 1) (n := 40) C (hM.2 (19, 12, 1, 40) (by decide)).2 ⟨rfl, fun _ => rfl⟩ g5 dX8_hasNoise_38 ?_
        refine r_lcmp C dX8_hasNoise_39 ?_
        refine r_if_lt (tgt := 68) C dX8_hasNoise_40 (by decide) (fun c8 => ?_) (fun c8 => ?_)
        · have c8 : y2 < ((mu m σ).2 12 x5.toNatClampNeg) := (lgc_lt.mp c8)
          refine r_iconst (v := 0) C dX8_hasNoise_68 (by decide) ?_
          exact k15 _ (by rw [if_pos c3, if_pos c6, if_pos c8] <;> rfl)
        · have c8 : ¬ y2 < ((mu m σ).2 12 x5.toNatClampNeg) := (fun q => c8 (lgc_lt.mpr q))
          refine r_lload_n C dX8_hasNoise_43 rfl (j := 2) rfl ?_
          refine r_aload_n C dX8_hasNoise_44 rfl (j := 0) rfl ?_
          refine r_getA C hM (k := 19) (g := 12) (ti := 1) (n := 40) (by decide) fa_X8_48 rfl dX8_hasNoise_45 ?_
          refine r_iload C dX8_hasNoise_48 (j := 4) rfl ?_
          refine r_lald (ti := 1) (n := 40) C (hM.2 (19, 12, 1, 40) (by decide)).2 ⟨rfl, fun _ => rfl⟩ g5 dX8_hasNoise_50 ?_
          refine r_aload_n C dX8_hasNoise_51 rfl (j := 0) rfl ?_
          refine r_getA C hM (k := 20) (g := 13) (ti := 0) (n := 40) (by decide) fa_X8_52 rfl dX8_hasNoise_52 ?_
          refine r_iload C dX8_hasNoise_55 (j := 4) rfl ?_
          refine r_iald (ti := 0) (n := 40) C (hM.2 (20, 13, 0, 40) (by decide)).2 ⟨rfl, fun _ => rfl⟩ g5 dX8_hasNoise_57 ?_
          refine r_i2l (v := ((mu m σ).1 13 x5.toNatClampNeg).toInt64) C dX8_hasNoise_58 rfl ?_
          refine r_ladd C dX8_hasNoise_59 ?_
          refine r_lcmp C dX8_hasNoise_60 ?_
          refine r_if_ge (tgt := 68) C dX8_hasNoise_61 (by decide) (fun c10 => ?_) (fun c10 => ?_)
          · have c10 : (((mu m σ).2 12 x5.toNatClampNeg) + (((mu m σ).1 13 x5.toNatClampNeg).toInt64)) ≤ y2 := (lgc_ge.mp c10)
            refine r_iconst (v := 0) C dX8_hasNoise_68 (by decide) ?_
            exact k15 _ (by rw [if_pos c3, if_pos c6, if_neg c8, if_pos c10] <;> rfl)
          · have c10 : ¬ (((mu m σ).2 12 x5.toNatClampNeg) + (((mu m σ).1 13 x5.toNatClampNeg).toInt64)) ≤ y2 := (fun q => c10 (lgc_ge.mpr q))
            refine r_iconst (v := 1) C dX8_hasNoise_64 (by decide) ?_
            refine r_goto (tgt := 69) C dX8_hasNoise_65 (by decide) ?_
            exact k15 _ (by rw [if_pos c3, if_pos c6, if_neg c8, if_neg c10] <;> rfl)
theorem u_X8_tell_0 {X : r_X} {w : r_V} {B m : Nat} {l : Launch} {Q : Mu → Prop} {σ0 : r_S} (C : r_C X w B 5 cX8_tell RX8) (E : r_E X l tX8_tell) {μ : Mu} {x1 x2 : Int32} {y3 : Int64}
    (h : (700 ≤ (μ.1 0 21) → (∀ μ2 : Mu, μ2 = ui μ 0 21 ((μ.1 0 21) + 1) → (Q μ2))) ∧ (¬ 700 ≤ (μ.1 0 21) → (vp_in (μ.1 0 21) 700 ∧ (∀ μ9 : Mu, μ9 = ui μ 14 ((μ.1 0 21).toNatClampNeg) x1 → (vp_in (μ9.1 0 21) 700 ∧ (∀ μ16 : Mu, μ16 = ui μ9 15 ((μ9.1 0 21).toNatClampNeg) x2 → (vp_in (μ16.1 0 21) 700 ∧ (∀ μ23 : Mu, μ23 = ul μ16 16 ((μ16.1 0 21).toNatClampNeg) y3 → (∀ μ29 : Mu, μ29 = ui μ23 0 21 ((μ23.1 0 21) + 1) → (Q μ29)))))))))) :
    r_Wm X w B 5 m σ0 (r_Z X w B tX8_tell (ZMV m σ0 Q)) 0 [(0, Value.ref (B + m)), (1, Value.int x1), (2, Value.int x2), (3, Value.long y3)] [] μ := by
  intro σ hs hM hF hμ
  subst hμ
  refine r_aload_n C dX8_tell_0 rfl (j := 0) rfl ?_
  refine r_get (v := .int ((mu m σ).1 0 21)) C hM.1 fa_X8_183 rfl dX8_tell_1 ?_
  refine r_sipush (v := 700) C dX8_tell_4 (by decide) ?_
  refine r_icmp_ge (tgt := 40) C dX8_tell_7 (by decide) (fun c1 => ?_) (fun c1 => ?_)
  · have h := h.1 c1
    refine r_aload_n C dX8_tell_40 rfl (j := 0) rfl ?_
    refine r_dup C dX8_tell_41 rfl ?_
    refine r_get (v := .int ((mu m σ).1 0 21)) C hM.1 fa_X8_183 rfl dX8_tell_42 ?_
    refine r_iconst (v := 1) C dX8_tell_45 (by decide) ?_
    refine r_iadd C dX8_tell_46 ?_
    refine r_putI C hM.1 fa_X8_183 rfl rfl rfl dX8_tell_47 ?_
    refine r_nam (fun σ2 e3 => ?_)
    have u7 : mu m σ2 = ui (mu m σ) 0 21 (((mu m σ).1 0 21) + 1) := by rw [e3]; exact mu_ui (g := 0)
    have h := h (mu m σ2) u7
    have s4 : σ2.1 = σ0.1 := by rw [e3]; exact hs
    have M5 : Mo m σ2 := by rw [e3]; exact hM.fr rfl (fun _ _ => rfl)
    have F6 : Fr m σ0 σ2 := by rw [e3]; exact Fr.ui (g := 0) hF
    exact r_vretQ C E rfl (Nat.zero_le _) (Nat.zero_le _) dX8_tell_50 s4 ⟨F6, h⟩
  · have h := h.2 c1
    refine r_aload_n C dX8_tell_10 rfl (j := 0) rfl ?_
    refine r_getA C hM (k := 22) (g := 14) (ti := 0) (n := 700) (by decide) fa_X8_55 rfl dX8_tell_11 ?_
    refine r_aload_n C dX8_tell_14 rfl (j := 0) rfl ?_
    refine r_get (v := .int ((mu m σ).1 0 21)) C hM.1 fa_X8_183 rfl dX8_tell_15 ?_
    refine r_iload_n C dX8_tell_18 rfl (j := 1) rfl ?_
    obtain ⟨g8, h⟩ := h
    refine r_iast (ti := 0) (n := 700) C (hM.2 (22, 14, 0, 700) (by decide)).2 ⟨rfl, fun _ => rfl⟩ g8 dX8_tell_19 ?_
    refine r_nam (fun σ9 e10 => ?_)
    have u14 : mu m σ9 = ui (mu m σ) 14 (((mu m σ).1 0 21).toNatClampNeg) x1 := by rw [e10]; exact mu_ui (g := 14)
    have h := h (mu m σ9) u14
    have s11 : σ9.1 = σ0.1 := by rw [e10]; exact hs
    have M12 : Mo m σ9 := by rw [e10]; exact hM.fr rfl (fun _ _ => rfl)
    have F13 : Fr m σ0 σ9 := by rw [e10]; exact Fr.ui (g := 14) hF
    refine r_aload_n C dX8_tell_20 rfl (j := 0) rfl ?_
    refine r_getA C M12 (k := 23) (g := 15) (ti := 0) (n := 700) (by decide) fa_X8_58 rfl dX8_tell_21 ?_
    refine r_aload_n C dX8_tell_24 rfl (j := 0) rfl ?_
    refine r_get (v := .int ((mu m σ9).1 0 21)) C M12.1 fa_X8_183 rfl dX8_tell_25 ?_
    refine r_iload_n C dX8_tell_28 rfl (j := 2) rfl ?_
    obtain ⟨g15, h⟩ := h
    refine r_iast (ti := 0) (n := 700) C (M12.2 (23, 15, 0, 700) (by decide)).2 ⟨rfl, fun _ => rfl⟩ g15 dX8_tell_29 ?_
    refine r_nam (fun σ16 e17 => ?_)
    have u21 : mu m σ16 = ui (mu m σ9) 15 (((mu m σ9).1 0 21).toNatClampNeg) x2 := by rw [e17]; exact mu_ui (g := 15)
    have h := h (mu m σ16) u21
    have s18 : σ16.1 = σ0.1 := by rw [e17]; exact s11
    have M19 : Mo m σ16 := by rw [e17]; exact M12.fr rfl (fun _ _ => rfl)
    have F20 : Fr m σ0 σ16 := by rw [e17]; exact Fr.ui (g := 15) F13
    refine r_aload_n C dX8_tell_30 rfl (j := 0) rfl ?_
    refine r_getA C M19 (k := 24) (g := 16) (ti := 1) (n := 700) (by decide) fa_X8_61 rfl dX8_tell_31 ?_
    refine r_aload_n C dX8_tell_34 rfl (j := 0) rfl ?_
    refine r_get (v := .int ((mu m σ16).1 0 21)) C M19.1 fa_X8_183 rfl dX8_tell_35 ?_
    refine r_lload_n C dX8_tell_38 rfl (j := 3) rfl ?_
    obtain ⟨g22, h⟩ := h
    refine r_last (ti := 1) (n := 700) C (M19.2 (24, 16, 1, 700) (by decide)).2 ⟨rfl, fun _ => rfl⟩ g22 dX8_tell_39 ?_
    refine r_nam (fun σ23 e24 => ?_)
    have u28 : mu m σ23 = ul (mu m σ16) 16 (((mu m σ16).1 0 21).toNatClampNeg) y3 := by rw [e24]; exact mu_ul (g := 16)
    have h := h (mu m σ23) u28
    have s25 : σ23.1 = σ0.1 := by rw [e24]; exact s18
    have M26 : Mo m σ23 := by rw [e24]; exact M19.fr rfl (fun _ _ => rfl)
    have F27 : Fr m σ0 σ23 := by rw [e24]; exact Fr.ul (g := 16) F20
    refine r_aload_n C dX8_tell_40 rfl (j := 0) rfl ?_
    refine r_dup C dX8_tell_41 rfl ?_
    refine r_get (v := .int ((mu m σ23).1 0 21)) C M26.1 fa_X8_183 rfl dX8_tell_42 ?_
    refine r_iconst (v := 1) C dX8_tell_45 (by decide) ?_
    refine r_iadd C dX8_tell_46 ?_
    refine r_putI C M26.1 fa_X8_183 rfl rfl rfl dX8_tell_47 ?_
    refine r_nam (fun σ29 e30 => ?_)
    have u34 : mu m σ29 = ui (mu m σ23) 0 21 (((mu m σ23).1 0 21) + 1) := by rw [e30]; exact mu_ui (g := 0)
    have h := h (mu m σ29) u34
    have s31 : σ29.1 = σ0.1 := by rw [e30]; exact s25
    have M32 : Mo m σ29 := by rw [e30]; exact M26.fr rfl (fun _ _ => rfl)
    have F33 : Fr m σ0 σ29 := by rw [e30]; exact Fr.ui (g := 0) F27
    exact r_vretQ C E rfl (Nat.zero_le _) (Nat.zero_le _) dX8_tell_50 s31 ⟨F33, h⟩
theorem u_X8_sends_0 {X : r_X} {w : r_V} {B m : Nat} {l : Launch} {Q : Int32 → Mu → Prop} {σ0 : r_S} (C : r_C X w B 4 cX8_sends RX8) (E : r_E X l tX8_sends) {μ : Mu} {x1 : Int32} {y2 : Int64}
    (h : vp_in x1 6 ∧ (∀ z8 : Int32, z8 = (if (μ.1 37 x1.toNatClampNeg) ≤ 0 then (0 : Int32) else (if y2 < (μ.2 39 x1.toNatClampNeg) then (0 : Int32) else (if (μ.2 40 x1.toNatClampNeg) < y2 then (0 : Int32) else (1 : Int32)))) → ((z8 = 0 ∨ z8 = 1) ∧ (Q z8 μ)))) :
    r_Wm X w B 4 m σ0 (r_Z X w B tX8_sends (ZMI m σ0 Q)) 0 [(0, Value.ref (B + m)), (1, Value.int x1), (2, Value.long y2)] [] μ := by
  intro σ hs hM hF hμ
  subst hμ
  refine r_aload_n C dX8_sends_0 rfl (j := 0) rfl ?_
  refine r_getA C hM (k := 45) (g := 37) (ti := 0) (n := 6) (by decide) fa_X8_124 rfl dX8_sends_1 ?_
  refine r_iload_n C dX8_sends_4 rfl (j := 1) rfl ?_
  obtain ⟨g1, h⟩ := h
  refine r_iald (ti := 0) (n := 6) C (hM.2 (45, 37, 0, 6) (by decide)).2 ⟨rfl, fun _ => rfl⟩ g1 dX8_sends_5 ?_
  have k10 : ∀ z8 : Int32, z8 = (if ((mu m σ).1 37 x1.toNatClampNeg) ≤ 0 then (0 : Int32) else (if y2 < ((mu m σ).2 39 x1.toNatClampNeg) then (0 : Int32) else (if ((mu m σ).2 40 x1.toNatClampNeg) < y2 then (0 : Int32) else (1 : Int32)))) → r_W X w B 4 0 0 (r_Z X w B tX8_sends (ZMI m σ0 Q)) 36 [(0, Value.ref (B + m)), (1, Value.int x1), (2, Value.long y2)] [Value.int z8] σ := by
    intro z8 e9
    have h := h z8 e9
    obtain ⟨g11, h⟩ := h
    exact r_zretQ C E rfl g11 (Nat.zero_le _) (Nat.zero_le _) dX8_sends_36 hs ⟨hF, h⟩
  clear h
  refine r_if_le (tgt := 35) C dX8_sends_6 (by decide) (fun c2 => ?_) (fun c2 => ?_)
  · have c2 : ((mu m σ).1 37 x1.toNatClampNeg) ≤ 0 := c2
    refine r_iconst (v := 0) C dX8_sends_35 (by decide) ?_
    exact k10 _ (by rw [if_pos c2] <;> rfl)
  · have c2 : ¬ ((mu m σ).1 37 x1.toNatClampNeg) ≤ 0 := c2
    refine r_aload_n C dX8_sends_9 rfl (j := 0) rfl ?_
    refine r_getA C hM (k := 47) (g := 39) (ti := 1) (n := 6) (by decide) fa_X8_130 rfl dX8_sends_10 ?_
    refine r_iload_n C dX8_sends_13 rfl (j := 1) rfl ?_
    refine r_lald (ti := 1) (n := 6) C (hM.2 (47, 39, 1, 6) (by decide)).2 ⟨rfl, fun _ => rfl⟩ g1 dX8_sends_14 ?_
    refine r_lload_n C dX8_sends_15 rfl (j := 2) rfl ?_
    refine r_lcmp C dX8_sends_16 ?_
    refine r_if_gt (tgt := 35) C dX8_sends_17 (by decide) (fun c4 => ?_) (fun c4 => ?_)
    · have c4 : y2 < ((mu m σ).2 39 x1.toNatClampNeg) := (lgc_gt.mp c4)
      refine r_iconst (v := 0) C dX8_sends_35 (by decide) ?_
      exact k10 _ (by rw [if_neg c2, if_pos c4] <;> rfl)
    · have c4 : ¬ y2 < ((mu m σ).2 39 x1.toNatClampNeg) := (fun q => c4 (lgc_gt.mpr q))
      refine r_lload_n C dX8_sends_20 rfl (j := 2) rfl ?_
      refine r_aload_n C dX8_sends_21 rfl (j := 0) rfl ?_
      refine r_getA C hM (k := 48) (g := 40) (ti := 1) (n := 6) (by decide) fa_X8_133 rfl dX8_sends_22 ?_
      refine r_iload_n C dX8_sends_25 rfl (j := 1) rfl ?_
      refine r_lald (ti := 1) (n := 6) C (hM.2 (48, 40, 1, 6) (by decide)).2 ⟨rfl, fun _ => rfl⟩ g1 dX8_sends_26 ?_
      refine r_lcmp C dX8_sends_27 ?_
      refine r_if_gt (tgt := 35) C dX8_sends_28 (by decide) (fun c6 => ?_) (fun c6 => ?_)
      · have c6 : ((mu m σ).2 40 x1.toNatClampNeg) < y2 := (lgc_gt.mp c6)
        refine r_iconst (v := 0) C dX8_sends_35 (by decide) ?_
        exact k10 _ (by rw [if_neg c2, if_neg c4, if_pos c6] <;> rfl)
      · have c6 : ¬ ((mu m σ).2 40 x1.toNatClampNeg) < y2 := (fun q => c6 (lgc_gt.mpr q))
        refine r_iconst (v := 1) C dX8_sends_31 (by decide) ?_
        refine r_goto (tgt := 36) C dX8_sends_32 (by decide) ?_
        exact k10 _ (by rw [if_neg c2, if_neg c4, if_neg c6] <;> rfl)
theorem u_X8_fail_0 {X : r_X} {w : r_V} {B m : Nat} {l : Launch} {Q : Mu → Prop} {σ0 : r_S} (C : r_C X w B 5 cX8_fail RX8) (E : r_E X l tX8_fail) {μ : Mu} {x1 : Int32} {y2 : Int64}
    (h : vp_in x1 6 ∧ (∀ μ2 : Mu, μ2 = ul μ 23 x1.toNatClampNeg (-1) → (∀ μ8 : Mu, μ8 = ui μ2 18 x1.toNatClampNeg ((μ2.1 18 x1.toNatClampNeg) + 1) → (((μ8.1 18 x1.toNatClampNeg) ≤ 4 → (∀ z17 : Int32, z17 = (if ((2 * (μ8.1 17 x1.toNatClampNeg)) + 1) ≤ 63 then ((2 * (μ8.1 17 x1.toNatClampNeg)) + 1) else (63 : Int32)) → (∀ μ20 : Mu, μ20 = ui μ8 17 x1.toNatClampNeg z17 → (r_Wm X w B 5 m σ0 (r_Z X w B tX8_fail (ZMV m σ0 Q)) 108 [(0, Value.ref (B + m)), (1, Value.int x1)] [] μ20)))) ∧ (¬ (μ8.1 18 x1.toNatClampNeg) ≤ 4 → (vp_in (4 * x1) 24 ∧ (∀ z27 : Int32, z27 = μ8.1 34 ((4 * x1).toNatClampNeg) → (vp_in z27 301 ∧ (∀ μ30 : Mu, μ30 = ui μ8 6 z27.toNatClampNeg 0 → (∃ Q36 : Mu → Prop, r_MV l w B m tX8_tell [Value.int z27, Value.int 2, Value.long y2] μ30 Q36 ∧ (∀ μ38 : Mu, Q36 μ38 → (∀ μ45 : Mu, μ45 = ui μ38 18 x1.toNatClampNeg 0 → (∀ μ51 : Mu, μ51 = ui μ45 17 x1.toNatClampNeg 3 → (r_Wm X w B 5 m σ0 (r_Z X w B tX8_fail (ZMV m σ0 Q)) 108 [(0, Value.ref (B + m)), (1, Value.int x1)] [] μ51)))))))))))))) :
    r_Wm X w B 5 m σ0 (r_Z X w B tX8_fail (ZMV m σ0 Q)) 0 [(0, Value.ref (B + m)), (1, Value.int x1), (2, Value.long y2)] [] μ := by
  intro σ hs hM hF hμ
  subst hμ
  refine r_aload_n C dX8_fail_0 rfl (j := 0) rfl ?_
  refine r_getA C hM (k := 31) (g := 23) (ti := 1) (n := 6) (by decide) fa_X8_82 rfl dX8_fail_1 ?_
  refine r_iload_n C dX8_fail_4 rfl (j := 1) rfl ?_
  refine r_ldc2 (v := (-1)) C kj_X8_148 dX8_fail_5 ?_
  obtain ⟨g1, h⟩ := h
  refine r_last (ti := 1) (n := 6) C (hM.2 (31, 23, 1, 6) (by decide)).2 ⟨rfl, fun _ => rfl⟩ g1 dX8_fail_8 ?_
  refine r_nam (fun σ2 e3 => ?_)
  have u7 : mu m σ2 = ul (mu m σ) 23 x1.toNatClampNeg (-1) := by rw [e3]; exact mu_ul (g := 23)
  have h := h (mu m σ2) u7
  have s4 : σ2.1 = σ0.1 := by rw [e3]; exact hs
  have M5 : Mo m σ2 := by rw [e3]; exact hM.fr rfl (fun _ _ => rfl)
  have F6 : Fr m σ0 σ2 := by rw [e3]; exact Fr.ul (g := 23) hF
  refine r_aload_n C dX8_fail_9 rfl (j := 0) rfl ?_
  refine r_getA C M5 (k := 26) (g := 18) (ti := 0) (n := 6) (by decide) fa_X8_67 rfl dX8_fail_10 ?_
  refine r_iload_n C dX8_fail_13 rfl (j := 1) rfl ?_
  refine r_dup2_11 C dX8_fail_14 rfl rfl ?_
  refine r_iald (ti := 0) (n := 6) C (M5.2 (26, 18, 0, 6) (by decide)).2 ⟨rfl, fun _ => rfl⟩ g1 dX8_fail_15 ?_
  refine r_iconst (v := 1) C dX8_fail_16 (by decide) ?_
  refine r_iadd C dX8_fail_17 ?_
  refine r_iast (ti := 0) (n := 6) C (M5.2 (26, 18, 0, 6) (by decide)).2 ⟨rfl, fun _ => rfl⟩ g1 dX8_fail_18 ?_
  refine r_nam (fun σ8 e9 => ?_)
  have u13 : mu m σ8 = ui (mu m σ2) 18 x1.toNatClampNeg (((mu m σ2).1 18 x1.toNatClampNeg) + 1) := by rw [e9]; exact mu_ui (g := 18)
  have h := h (mu m σ8) u13
  have s10 : σ8.1 = σ0.1 := by rw [e9]; exact s4
  have M11 : Mo m σ8 := by rw [e9]; exact M5.fr rfl (fun _ _ => rfl)
  have F12 : Fr m σ0 σ8 := by rw [e9]; exact Fr.ui (g := 18) F6
  refine r_aload_n C dX8_fail_19 rfl (j := 0) rfl ?_
  refine r_getA C M11 (k := 26) (g := 18) (ti := 0) (n := 6) (by decide) fa_X8_67 rfl dX8_fail_20 ?_
  refine r_iload_n C dX8_fail_23 rfl (j := 1) rfl ?_
  refine r_iald (ti := 0) (n := 6) C (M11.2 (26, 18, 0, 6) (by decide)).2 ⟨rfl, fun _ => rfl⟩ g1 dX8_fail_24 ?_
  refine r_iconst (v := 4) C dX8_fail_25 (by decide) ?_
  refine r_icmp_le (tgt := 72) C dX8_fail_26 (by decide) (fun c14 => ?_) (fun c14 => ?_)
  · have h := h.1 c14
    refine r_aload_n C dX8_fail_72 rfl (j := 0) rfl ?_
    refine r_getA C M11 (k := 25) (g := 17) (ti := 0) (n := 6) (by decide) fa_X8_64 rfl dX8_fail_73 ?_
    refine r_iload_n C dX8_fail_76 rfl (j := 1) rfl ?_
    refine r_iconst (v := 2) C dX8_fail_77 (by decide) ?_
    refine r_aload_n C dX8_fail_78 rfl (j := 0) rfl ?_
    refine r_getA C M11 (k := 25) (g := 17) (ti := 0) (n := 6) (by decide) fa_X8_64 rfl dX8_fail_79 ?_
    refine r_iload_n C dX8_fail_82 rfl (j := 1) rfl ?_
    refine r_iald (ti := 0) (n := 6) C (M11.2 (25, 17, 0, 6) (by decide)).2 ⟨rfl, fun _ => rfl⟩ g1 dX8_fail_83 ?_
    refine r_imul C dX8_fail_84 ?_
    refine r_iconst (v := 1) C dX8_fail_85 (by decide) ?_
    refine r_iadd C dX8_fail_86 ?_
    refine r_bipush (v := 63) C dX8_fail_87 (by decide) ?_
    have k19 : ∀ z17 : Int32, z17 = (if ((2 * ((mu m σ8).1 17 x1.toNatClampNeg)) + 1) ≤ 63 then ((2 * ((mu m σ8).1 17 x1.toNatClampNeg)) + 1) else (63 : Int32)) → r_W X w B 5 0 0 (r_Z X w B tX8_fail (ZMV m σ0 Q)) 107 [(0, Value.ref (B + m)), (1, Value.int x1), (2, Value.long y2)] [Value.int z17, Value.int x1, Value.ref (B + (m + 17))] σ8 := by
      intro z17 e18
      have h := h z17 e18
      refine r_iast (ti := 0) (n := 6) C (M11.2 (25, 17, 0, 6) (by decide)).2 ⟨rfl, fun _ => rfl⟩ g1 dX8_fail_107 ?_
      refine r_nam (fun σ20 e21 => ?_)
      have u25 : mu m σ20 = ui (mu m σ8) 17 x1.toNatClampNeg z17 := by rw [e21]; exact mu_ui (g := 17)
      have h := h (mu m σ20) u25
      have s22 : σ20.1 = σ0.1 := by rw [e21]; exact s10
      have M23 : Mo m σ20 := by rw [e21]; exact M11.fr rfl (fun _ _ => rfl)
      have F24 : Fr m σ0 σ20 := by rw [e21]; exact Fr.ui (g := 17) F12
      exact r_loc (by simp) (h σ20 s22 M23 F24 rfl)
    clear h
    refine r_icmp_le (tgt := 97) C dX8_fail_89 (by decide) (fun c15 => ?_) (fun c15 => ?_)
    · have c15 : ((2 * ((mu m σ8).1 17 x1.toNatClampNeg)) + 1) ≤ 63 := c15
      refine r_iconst (v := 2) C dX8_fail_97 (by decide) ?_
      refine r_aload_n C dX8_fail_98 rfl (j := 0) rfl ?_
      refine r_getA C M11 (k := 25) (g := 17) (ti := 0) (n := 6) (by decide) fa_X8_64 rfl dX8_fail_99 ?_
      refine r_iload_n C dX8_fail_102 rfl (j := 1) rfl ?_
      refine r_iald (ti := 0) (n := 6) C (M11.2 (25, 17, 0, 6) (by decide)).2 ⟨rfl, fun _ => rfl⟩ g1 dX8_fail_103 ?_
      refine r_imul C dX8_fail_104 ?_
      refine r_iconst (v := 1) C dX8_fail_105 (by decide) ?_
      refine r_iadd C dX8_fail_106 ?_
      exact k19 _ (by rw [if_pos c15] <;> rfl)
    · have c15 : ¬ ((2 * ((mu m σ8).1 17 x1.toNatClampNeg)) + 1) ≤ 63 := c15
      refine r_bipush (v := 63) C dX8_fail_92 (by decide) ?_
      refine r_goto (tgt := 107) C dX8_fail_94 (by decide) ?_
      exact k19 _ (by rw [if_neg c15] <;> rfl)
  · have h := h.2 c14
    refine r_aload_n C dX8_fail_29 rfl (j := 0) rfl ?_
    refine r_getA C M11 (k := 42) (g := 34) (ti := 0) (n := 24) (by decide) fa_X8_115 rfl dX8_fail_30 ?_
    refine r_iconst (v := 4) C dX8_fail_33 (by decide) ?_
    refine r_iload_n C dX8_fail_34 rfl (j := 1) rfl ?_
    refine r_imul C dX8_fail_35 ?_
    obtain ⟨g26, h⟩ := h
    refine r_iald (ti := 0) (n := 24) C (M11.2 (42, 34, 0, 24) (by decide)).2 ⟨rfl, fun _ => rfl⟩ g26 dX8_fail_36 ?_
    refine r_topi (fun z27 e28 => ?_)
    have h := h z27 e28
    refine r_istore (lv' := [(4, Value.int z27), (0, Value.ref (B + m)), (1, Value.int x1), (2, Value.long y2)]) C dX8_fail_37 (by decide) rfl ?_
    refine r_aload_n C dX8_fail_39 rfl (j := 1) rfl ?_
    refine r_getA C M11 (k := 10) (g := 6) (ti := 2) (n := 301) (by decide) fa_X8_30 rfl dX8_fail_40 ?_
    refine r_iload C dX8_fail_43 (j := 0) rfl ?_
    refine r_iconst (v := 0) C dX8_fail_45 (by decide) ?_
    obtain ⟨g29, h⟩ := h
    refine r_zast (ti := 2) (n := 301) C (M11.2 (10, 6, 2, 301) (by decide)).2 ⟨rfl, fun _ => rfl⟩ g29 (by decide) dX8_fail_46 ?_
    refine r_nam (fun σ30 e31 => ?_)
    have u35 : mu m σ30 = ui (mu m σ8) 6 z27.toNatClampNeg 0 := by rw [e31]; exact mu_ui (g := 6)
    have h := h (mu m σ30) u35
    have s32 : σ30.1 = σ0.1 := by rw [e31]; exact s10
    have M33 : Mo m σ30 := by rw [e31]; exact M11.fr rfl (fun _ _ => rfl)
    have F34 : Fr m σ0 σ30 := by rw [e31]; exact Fr.ui (g := 6) F12
    refine r_aload_n C dX8_fail_47 rfl (j := 1) rfl ?_
    refine r_iload C dX8_fail_48 (j := 0) rfl ?_
    refine r_iconst (v := 2) C dX8_fail_50 (by decide) ?_
    refine r_lload_n C dX8_fail_51 rfl (j := 3) rfl ?_
    obtain ⟨Q36, m37, h⟩ := h
    refine r_callVV (rest := []) C E [Value.int z27, Value.int 2, Value.long y2] M33.1 rfl ky_X8_tell kl_X8_186 ki_X8_tell kx_X8_tell ⟨Nat.le_of_ble_eq_true rfl, Nat.le_of_ble_eq_true rfl⟩ ⟨rfl, rfl⟩ (m37 σ30 M33 rfl) rfl rfl (Nat.le_of_ble_eq_true rfl) (Nat.zero_le _) (Nat.zero_le _) dX8_fail_52 (fun σ38 s39 q41 => ?_)
    obtain ⟨f42, q41⟩ := q41
    have h := h (mu m σ38) q41
    have M43 := M33.fr s39 f42.1
    have F44 := F34.trans f42
    have s39 := s39.trans s32
    refine r_aload_n C dX8_fail_55 rfl (j := 1) rfl ?_
    refine r_getA C M43 (k := 26) (g := 18) (ti := 0) (n := 6) (by decide) fa_X8_67 rfl dX8_fail_56 ?_
    refine r_iload_n C dX8_fail_59 rfl (j := 2) rfl ?_
    refine r_iconst (v := 0) C dX8_fail_60 (by decide) ?_
    refine r_iast (ti := 0) (n := 6) C (M43.2 (26, 18, 0, 6) (by decide)).2 ⟨rfl, fun _ => rfl⟩ g1 dX8_fail_61 ?_
    refine r_nam (fun σ45 e46 => ?_)
    have u50 : mu m σ45 = ui (mu m σ38) 18 x1.toNatClampNeg 0 := by rw [e46]; exact mu_ui (g := 18)
    have h := h (mu m σ45) u50
    have s47 : σ45.1 = σ0.1 := by rw [e46]; exact s39
    have M48 : Mo m σ45 := by rw [e46]; exact M43.fr rfl (fun _ _ => rfl)
    have F49 : Fr m σ0 σ45 := by rw [e46]; exact Fr.ui (g := 18) F44
    refine r_aload_n C dX8_fail_62 rfl (j := 1) rfl ?_
    refine r_getA C M48 (k := 25) (g := 17) (ti := 0) (n := 6) (by decide) fa_X8_64 rfl dX8_fail_63 ?_
    refine r_iload_n C dX8_fail_66 rfl (j := 2) rfl ?_
    refine r_iconst (v := 3) C dX8_fail_67 (by decide) ?_
    refine r_iast (ti := 0) (n := 6) C (M48.2 (25, 17, 0, 6) (by decide)).2 ⟨rfl, fun _ => rfl⟩ g1 dX8_fail_68 ?_
    refine r_nam (fun σ51 e52 => ?_)
    have u56 : mu m σ51 = ui (mu m σ45) 17 x1.toNatClampNeg 3 := by rw [e52]; exact mu_ui (g := 17)
    have h := h (mu m σ51) u56
    have s53 : σ51.1 = σ0.1 := by rw [e52]; exact s47
    have M54 : Mo m σ51 := by rw [e52]; exact M48.fr rfl (fun _ _ => rfl)
    have F55 : Fr m σ0 σ51 := by rw [e52]; exact Fr.ui (g := 17) F49
    refine r_goto (tgt := 108) C dX8_fail_69 (by decide) ?_
    exact r_loc (by simp) (h σ51 s53 M54 F55 rfl)
theorem u_X8_fail_108 {X : r_X} {w : r_V} {B m : Nat} {l : Launch} {Q : Mu → Prop} {σ0 : r_S} (C : r_C X w B 5 cX8_fail RX8) (E : r_E X l tX8_fail) {μ : Mu} {x1 : Int32}
    (h : ∃ Q1 : Int32 → Mu → Prop, r_MI l w B m tX8_keeps [Value.int x1] μ Q1 ∧ (∀ (z5 : Int32) (μ3 : Mu), Q1 z5 μ3 → ((z5 ≤ 0 → (Q μ3)) ∧ (¬ z5 ≤ 0 → (∃ Q11 : Mu → Prop, r_MV l w B m tX8_draw [Value.int x1] μ3 Q11 ∧ (∀ μ13 : Mu, Q11 μ13 → (Q μ13))))))) :
    r_Wm X w B 5 m σ0 (r_Z X w B tX8_fail (ZMV m σ0 Q)) 108 [(0, Value.ref (B + m)), (1, Value.int x1)] [] μ := by
  intro σ hs hM hF hμ
  subst hμ
  refine r_aload_n C dX8_fail_108 rfl (j := 0) rfl ?_
  refine r_iload_n C dX8_fail_109 rfl (j := 1) rfl ?_
  obtain ⟨Q1, m2, h⟩ := h
  refine r_callVI (rest := []) C E [Value.int x1] hM.1 rfl ky_X8_keeps kl_X8_166 ki_X8_keeps kx_X8_keeps ⟨Nat.le_of_ble_eq_true rfl, Nat.le_of_ble_eq_true rfl⟩ ⟨rfl, rfl⟩ (m2 σ hM rfl) rfl rfl (Nat.le_of_ble_eq_true rfl) (Nat.zero_le _) (Nat.zero_le _) dX8_fail_110 (fun z5 σ3 s4 q6 => ?_)
  obtain ⟨f7, q6⟩ := q6
  have h := h z5 (mu m σ3) q6
  have M8 := hM.fr s4 f7.1
  have F9 := hF.trans f7
  have s4 := s4.trans hs
  refine r_if_le (tgt := 121) C dX8_fail_113 (by decide) (fun c10 => ?_) (fun c10 => ?_)
  · have h := h.1 c10
    exact r_vretQ C E rfl (Nat.zero_le _) (Nat.zero_le _) dX8_fail_121 s4 ⟨F9, h⟩
  · have h := h.2 c10
    refine r_aload_n C dX8_fail_116 rfl (j := 0) rfl ?_
    refine r_iload_n C dX8_fail_117 rfl (j := 1) rfl ?_
    obtain ⟨Q11, m12, h⟩ := h
    refine r_callVV (rest := []) C E [Value.int x1] M8.1 rfl ky_X8_draw kl_X8_170 ki_X8_draw kx_X8_draw ⟨Nat.le_of_ble_eq_true rfl, Nat.le_of_ble_eq_true rfl⟩ ⟨rfl, rfl⟩ (m12 σ3 M8 rfl) rfl rfl (Nat.le_of_ble_eq_true rfl) (Nat.zero_le _) (Nat.zero_le _) dX8_fail_118 (fun σ13 s14 q16 => ?_)
    obtain ⟨f17, q16⟩ := q16
    have h := h (mu m σ13) q16
    have M18 := M8.fr s14 f17.1
    have F19 := F9.trans f17
    have s14 := s14.trans s4
    exact r_vretQ C E rfl (Nat.zero_le _) (Nat.zero_le _) dX8_fail_121 s14 ⟨F19, h⟩
theorem u_X8_begin_0 {X : r_X} {w : r_V} {B m : Nat} {l : Launch} {Q : Mu → Prop} {σ0 : r_S} (C : r_C X w B 9 cX8_begin RX8) (E : r_E X l tX8_begin) {μ : Mu} {x1 x2 x3 x4 x5 : Int32} {y6 : Int64}
    (h : vp_in x1 6 ∧ (∀ μ2 : Mu, μ2 = ui μ 37 x1.toNatClampNeg x2 → (∀ μ8 : Mu, μ8 = ui μ2 38 x1.toNatClampNeg x3 → (∀ μ14 : Mu, μ14 = ul μ8 39 x1.toNatClampNeg y6 → (∀ z22 : Int32, z22 = (if x2 = 3 then x4 else (2 : Int32)) → (∀ μ25 : Mu, μ25 = ul μ14 40 x1.toNatClampNeg ((y6 + z22.toInt64) - 1) → (∀ μ31 : Mu, μ31 = ui μ25 41 x1.toNatClampNeg x4 → (∀ μ37 : Mu, μ37 = ui μ31 42 x1.toNatClampNeg x5 → (vp_in (((4 * x1) + x2) - 1) 24 ∧ (∀ μ44 : Mu, μ44 = ui μ37 33 ((((4 * x1) + x2) - 1).toNatClampNeg) ((μ37.1 33 ((((4 * x1) + x2) - 1).toNatClampNeg)) + 1) → (r_Wm X w B 9 m σ0 (r_Z X w B tX8_begin (ZMV m σ0 Q)) 80 [(0, Value.ref (B + m)), (1, Value.int x1), (8, Value.int 0)] [] μ44))))))))))) :
    r_Wm X w B 9 m σ0 (r_Z X w B tX8_begin (ZMV m σ0 Q)) 0 [(0, Value.ref (B + m)), (1, Value.int x1), (2, Value.int x2), (3, Value.int x3), (4, Value.int x4), (5, Value.int x5), (6, Value.long y6)] [] μ := by
  intro σ hs hM hF hμ
  subst hμ
  refine r_aload_n C dX8_begin_0 rfl (j := 0) rfl ?_
  refine r_getA C hM (k := 45) (g := 37) (ti := 0) (n := 6) (by decide) fa_X8_124 rfl dX8_begin_1 ?_
  refine r_iload_n C dX8_begin_4 rfl (j := 1) rfl ?_
  refine r_iload_n C dX8_begin_5 rfl (j := 2) rfl ?_
  obtain ⟨g1, h⟩ := h
  refine r_iast (ti := 0) (n := 6) C (hM.2 (45, 37, 0, 6) (by decide)).2 ⟨rfl, fun _ => rfl⟩ g1 dX8_begin_6 ?_
  refine r_nam (fun σ2 e3 => ?_)
  have u7 : mu m σ2 = ui (mu m σ) 37 x1.toNatClampNeg x2 := by rw [e3]; exact mu_ui (g := 37)
  have h := h (mu m σ2) u7
  have s4 : σ2.1 = σ0.1 := by rw [e3]; exact hs
  have M5 : Mo m σ2 := by rw [e3]; exact hM.fr rfl (fun _ _ => rfl)
  have F6 : Fr m σ0 σ2 := by rw [e3]; exact Fr.ui (g := 37) hF
  refine r_aload_n C dX8_begin_7 rfl (j := 0) rfl ?_
  refine r_getA C M5 (k := 46) (g := 38) (ti := 0) (n := 6) (by decide) fa_X8_127 rfl dX8_begin_8 ?_
  refine r_iload_n C dX8_begin_11 rfl (j := 1) rfl ?_
  refine r_iload_n C dX8_begin_12 rfl (j := 3) rfl ?_
  refine r_iast (ti := 0) (n := 6) C (M5.2 (46, 38, 0, 6) (by decide)).2 ⟨rfl, fun _ => rfl⟩ g1 dX8_begin_13 ?_
  refine r_nam (fun σ8 e9 => ?_)
  have u13 : mu m σ8 = ui (mu m σ2) 38 x1.toNatClampNeg x3 := by rw [e9]; exact mu_ui (g := 38)
  have h := h (mu m σ8) u13
  have s10 : σ8.1 = σ0.1 := by rw [e9]; exact s4
  have M11 : Mo m σ8 := by rw [e9]; exact M5.fr rfl (fun _ _ => rfl)
  have F12 : Fr m σ0 σ8 := by rw [e9]; exact Fr.ui (g := 38) F6
  refine r_aload_n C dX8_begin_14 rfl (j := 0) rfl ?_
  refine r_getA C M11 (k := 47) (g := 39) (ti := 1) (n := 6) (by decide) fa_X8_130 rfl dX8_begin_15 ?_
  refine r_iload_n C dX8_begin_18 rfl (j := 1) rfl ?_
  refine r_lload C dX8_begin_19 (j := 6) rfl ?_
  refine r_last (ti := 1) (n := 6) C (M11.2 (47, 39, 1, 6) (by decide)).2 ⟨rfl, fun _ => rfl⟩ g1 dX8_begin_21 ?_
  refine r_nam (fun σ14 e15 => ?_)
  have u19 : mu m σ14 = ul (mu m σ8) 39 x1.toNatClampNeg y6 := by rw [e15]; exact mu_ul (g := 39)
  have h := h (mu m σ14) u19
  have s16 : σ14.1 = σ0.1 := by rw [e15]; exact s10
  have M17 : Mo m σ14 := by rw [e15]; exact M11.fr rfl (fun _ _ => rfl)
  have F18 : Fr m σ0 σ14 := by rw [e15]; exact Fr.ul (g := 39) F12
  refine r_aload_n C dX8_begin_22 rfl (j := 0) rfl ?_
  refine r_getA C M17 (k := 48) (g := 40) (ti := 1) (n := 6) (by decide) fa_X8_133 rfl dX8_begin_23 ?_
  refine r_iload_n C dX8_begin_26 rfl (j := 1) rfl ?_
  refine r_lload C dX8_begin_27 (j := 6) rfl ?_
  refine r_iload_n C dX8_begin_29 rfl (j := 2) rfl ?_
  refine r_iconst (v := 3) C dX8_begin_30 (by decide) ?_
  have k24 : ∀ z22 : Int32, z22 = (if x2 = 3 then x4 else (2 : Int32)) → r_W X w B 9 0 0 (r_Z X w B tX8_begin (ZMV m σ0 Q)) 40 [(0, Value.ref (B + m)), (1, Value.int x1), (2, Value.int x2), (3, Value.int x3), (4, Value.int x4), (5, Value.int x5), (6, Value.long y6)] [Value.int z22, Value.long y6, Value.int x1, Value.ref (B + (m + 40))] σ14 := by
    intro z22 e23
    have h := h z22 e23
    refine r_i2l (v := z22.toInt64) C dX8_begin_40 rfl ?_
    refine r_ladd C dX8_begin_41 ?_
    refine r_lconst (v := 1) C dX8_begin_42 (by decide) ?_
    refine r_lsub C dX8_begin_43 ?_
    refine r_last (ti := 1) (n := 6) C (M17.2 (48, 40, 1, 6) (by decide)).2 ⟨rfl, fun _ => rfl⟩ g1 dX8_begin_44 ?_
    refine r_nam (fun σ25 e26 => ?_)
    have u30 : mu m σ25 = ul (mu m σ14) 40 x1.toNatClampNeg ((y6 + z22.toInt64) - 1) := by rw [e26]; exact mu_ul (g := 40)
    have h := h (mu m σ25) u30
    have s27 : σ25.1 = σ0.1 := by rw [e26]; exact s16
    have M28 : Mo m σ25 := by rw [e26]; exact M17.fr rfl (fun _ _ => rfl)
    have F29 : Fr m σ0 σ25 := by rw [e26]; exact Fr.ul (g := 40) F18
    refine r_aload_n C dX8_begin_45 rfl (j := 0) rfl ?_
    refine r_getA C M28 (k := 49) (g := 41) (ti := 0) (n := 6) (by decide) fa_X8_136 rfl dX8_begin_46 ?_
    refine r_iload_n C dX8_begin_49 rfl (j := 1) rfl ?_
    refine r_iload C dX8_begin_50 (j := 4) rfl ?_
    refine r_iast (ti := 0) (n := 6) C (M28.2 (49, 41, 0, 6) (by decide)).2 ⟨rfl, fun _ => rfl⟩ g1 dX8_begin_52 ?_
    refine r_nam (fun σ31 e32 => ?_)
    have u36 : mu m σ31 = ui (mu m σ25) 41 x1.toNatClampNeg x4 := by rw [e32]; exact mu_ui (g := 41)
    have h := h (mu m σ31) u36
    have s33 : σ31.1 = σ0.1 := by rw [e32]; exact s27
    have M34 : Mo m σ31 := by rw [e32]; exact M28.fr rfl (fun _ _ => rfl)
    have F35 : Fr m σ0 σ31 := by rw [e32]; exact Fr.ui (g := 41) F29
    refine r_aload_n C dX8_begin_53 rfl (j := 0) rfl ?_
    refine r_getA C M34 (k := 50) (g := 42) (ti := 0) (n := 6) (by decide) fa_X8_139 rfl dX8_begin_54 ?_
    refine r_iload_n C dX8_begin_57 rfl (j := 1) rfl ?_
    refine r_iload C dX8_begin_58 (j := 5) rfl ?_
    refine r_iast (ti := 0) (n := 6) C (M34.2 (50, 42, 0, 6) (by decide)).2 ⟨rfl, fun _ => rfl⟩ g1 dX8_begin_60 ?_
    refine r_nam (fun σ37 e38 => ?_)
    have u42 : mu m σ37 = ui (mu m σ31) 42 x1.toNatClampNeg x5 := by rw [e38]; exact mu_ui (g := 42)
    have h := h (mu m σ37) u42
    have s39 : σ37.1 = σ0.1 := by rw [e38]; exact s33
    have M40 : Mo m σ37 := by rw [e38]; exact M34.fr rfl (fun _ _ => rfl)
    have F41 : Fr m σ0 σ37 := by rw [e38]; exact Fr.ui (g := 42) F35
    refine r_aload_n C dX8_begin_61 rfl (j := 0) rfl ?_
    refine r_getA C M40 (k := 41) (g := 33) (ti := 0) (n := 24) (by decide) fa_X8_112 rfl dX8_begin_62 ?_
    refine r_iconst (v := 4) C dX8_begin_65 (by decide) ?_
    refine r_iload_n C dX8_begin_66 rfl (j := 1) rfl ?_
    refine r_imul C dX8_begin_67 ?_
    refine r_iload_n C dX8_begin_68 rfl (j := 2) rfl ?_
    refine r_iadd C dX8_begin_69 ?_
    refine r_iconst (v := 1) C dX8_begin_70 (by decide) ?_
    refine r_isub C dX8_begin_71 ?_
    refine r_dup2_11 C dX8_begin_72 rfl rfl ?_
    obtain ⟨g43, h⟩ := h
    refine r_iald (ti := 0) (n := 24) C (M40.2 (41, 33, 0, 24) (by decide)).2 ⟨rfl, fun _ => rfl⟩ g43 dX8_begin_73 ?_
    refine r_iconst (v := 1) C dX8_begin_74 (by decide) ?_
    refine r_iadd C dX8_begin_75 ?_
    refine r_iast (ti := 0) (n := 24) C (M40.2 (41, 33, 0, 24) (by decide)).2 ⟨rfl, fun _ => rfl⟩ g43 dX8_begin_76 ?_
    refine r_nam (fun σ44 e45 => ?_)
    have u49 : mu m σ44 = ui (mu m σ37) 33 ((((4 * x1) + x2) - 1).toNatClampNeg) (((mu m σ37).1 33 ((((4 * x1) + x2) - 1).toNatClampNeg)) + 1) := by rw [e45]; exact mu_ui (g := 33)
    have h := h (mu m σ44) u49
    have s46 : σ44.1 = σ0.1 := by rw [e45]; exact s39
    have M47 : Mo m σ44 := by rw [e45]; exact M40.fr rfl (fun _ _ => rfl)
    have F48 : Fr m σ0 σ44 := by rw [e45]; exact Fr.ui (g := 33) F41
    refine r_iconst (v := 0) C dX8_begin_77 (by decide) ?_
    refine r_istore (lv' := [(8, Value.int 0), (0, Value.ref (B + m)), (1, Value.int x1), (2, Value.int x2), (3, Value.int x3), (4, Value.int x4), (5, Value.int x5), (6, Value.long y6)]) C dX8_begin_78 (by decide) rfl ?_
    exact r_loc (by simp) (h σ44 s46 M47 F48 rfl)
  clear h
  refine r_icmp_ne (tgt := 39) C dX8_begin_31 (by decide) (fun c20 => ?_) (fun c20 => ?_)
  · have c20 : ¬ x2 = 3 := c20
    refine r_iconst (v := 2) C dX8_begin_39 (by decide) ?_
    exact k24 _ (by rw [if_neg c20] <;> rfl)
  · have c20 : x2 = 3 := c20
    refine r_iload C dX8_begin_34 (j := 4) rfl ?_
    refine r_goto (tgt := 40) C dX8_begin_36 (by decide) ?_
    exact k24 _ (by rw [if_pos c20] <;> rfl)
theorem u_X8_begin_80 {X : r_X} {w : r_V} {B m : Nat} {l : Launch} {Q : Mu → Prop} {σ0 : r_S} (C : r_C X w B 9 cX8_begin RX8) (E : r_E X l tX8_begin) {μ : Mu} {x1 x8 : Int32}
    (h : ((μ.1 0 1) ≤ x8 → (Q μ)) ∧ (¬ (μ.1 0 1) ≤ x8 → (vp_in ((6 * x1) + x8) 36 ∧ (∀ μ3 : Mu, μ3 = ul μ 43 (((6 * x1) + x8).toNatClampNeg) 0 → (∀ z9 : Int32, z9 = x8 + 1 → (r_Wm X w B 9 m σ0 (r_Z X w B tX8_begin (ZMV m σ0 Q)) 80 [(0, Value.ref (B + m)), (1, Value.int x1), (8, Value.int z9)] [] μ3)))))) :
    r_Wm X w B 9 m σ0 (r_Z X w B tX8_begin (ZMV m σ0 Q)) 80 [(0, Value.ref (B + m)), (1, Value.int x1), (8, Value.int x8)] [] μ := by
  intro σ hs hM hF hμ
  subst hμ
  refine r_iload C dX8_begin_80 (j := 2) rfl ?_
  refine r_aload_n C dX8_begin_82 rfl (j := 0) rfl ?_
  refine r_get (v := .int ((mu m σ).1 0 1)) C hM.1 fa_X8_145 rfl dX8_begin_83 ?_
  refine r_icmp_ge (tgt := 108) C dX8_begin_86 (by decide) (fun c1 => ?_) (fun c1 => ?_)
  · have h := h.1 c1
    exact r_vretQ C E rfl (Nat.zero_le _) (Nat.zero_le _) dX8_begin_108 hs ⟨hF, h⟩
  · have h := h.2 c1
    refine r_aload_n C dX8_begin_89 rfl (j := 0) rfl ?_
    refine r_getA C hM (k := 51) (g := 43) (ti := 1) (n := 36) (by decide) fa_X8_142 rfl dX8_begin_90 ?_
    refine r_bipush (v := 6) C dX8_begin_93 (by decide) ?_
    refine r_iload_n C dX8_begin_95 rfl (j := 1) rfl ?_
    refine r_imul C dX8_begin_96 ?_
    refine r_iload C dX8_begin_97 (j := 2) rfl ?_
    refine r_iadd C dX8_begin_99 ?_
    refine r_lconst (v := 0) C dX8_begin_100 (by decide) ?_
    obtain ⟨g2, h⟩ := h
    refine r_last (ti := 1) (n := 36) C (hM.2 (51, 43, 1, 36) (by decide)).2 ⟨rfl, fun _ => rfl⟩ g2 dX8_begin_101 ?_
    refine r_nam (fun σ3 e4 => ?_)
    have u8 : mu m σ3 = ul (mu m σ) 43 (((6 * x1) + x8).toNatClampNeg) 0 := by rw [e4]; exact mu_ul (g := 43)
    have h := h (mu m σ3) u8
    have s5 : σ3.1 = σ0.1 := by rw [e4]; exact hs
    have M6 : Mo m σ3 := by rw [e4]; exact hM.fr rfl (fun _ _ => rfl)
    have F7 : Fr m σ0 σ3 := by rw [e4]; exact Fr.ul (g := 43) hF
    obtain ⟨z9, e10⟩ : ∃ y : Int32, y = x8 + 1 := ⟨_, rfl⟩
    have h := h z9 e10
    refine r_iinc (v := z9) (lv' := [(8, Value.int z9), (0, Value.ref (B + m)), (1, Value.int x1)]) C dX8_begin_102 (k := 2) rfl (by rw [e10]; rfl) (by decide) rfl ?_
    refine r_goto (tgt := 80) C dX8_begin_105 (by decide) ?_
    exact r_loc (by simp) (h σ3 s5 M6 F7 rfl)
theorem u_X8_attempt_0 {X : r_X} {w : r_V} {B m : Nat} {l : Launch} {Q : Mu → Prop} {σ0 : r_S} (C : r_C X w B 8 cX8_attempt RX8) (E : r_E X l tX8_attempt) {μ : Mu} {x1 : Int32} {y2 : Int64}
    (h : r_Wm X w B 8 m σ0 (r_Z X w B tX8_attempt (ZMV m σ0 Q)) 12 [(0, Value.ref (B + m)), (1, Value.int x1), (2, Value.long y2), (4, Value.int 0), (5, Value.int 1), (6, Value.int 1), (7, Value.int 1)] [] μ) :
    r_Wm X w B 8 m σ0 (r_Z X w B tX8_attempt (ZMV m σ0 Q)) 0 [(0, Value.ref (B + m)), (1, Value.int x1), (2, Value.long y2)] [] μ := by
  intro σ hs hM hF hμ
  subst hμ
  refine r_iconst (v := 0) C dX8_attempt_0 (by decide) ?_
  refine r_istore (lv' := [(4, Value.int 0), (0, Value.ref (B + m)), (1, Value.int x1), (2, Value.long y2)]) C dX8_attempt_1 (by decide) rfl ?_
  refine r_iconst (v := 1) C dX8_attempt_3 (by decide) ?_
  refine r_istore (lv' := [(5, Value.int 1), (4, Value.int 0), (0, Value.ref (B + m)), (1, Value.int x1), (2, Value.long y2)]) C dX8_attempt_4 (by decide) rfl ?_
  refine r_iconst (v := 1) C dX8_attempt_6 (by decide) ?_
  refine r_istore (lv' := [(6, Value.int 1), (5, Value.int 1), (4, Value.int 0), (0, Value.ref (B + m)), (1, Value.int x1), (2, Value.long y2)]) C dX8_attempt_7 (by decide) rfl ?_
  refine r_iconst (v := 1) C dX8_attempt_9 (by decide) ?_
  refine r_istore (lv' := [(7, Value.int 1), (6, Value.int 1), (5, Value.int 1), (4, Value.int 0), (0, Value.ref (B + m)), (1, Value.int x1), (2, Value.long y2)]) C dX8_attempt_10 (by decide) rfl ?_
  exact r_loc (by simp) (h σ hs hM hF rfl)
theorem u_X8_attempt_12 {X : r_X} {w : r_V} {B m : Nat} {l : Launch} {Q : Mu → Prop} {σ0 : r_S} (C : r_C X w B 8 cX8_attempt RX8) (E : r_E X l tX8_attempt) {μ : Mu} {x1 x4 x5 x6 x7 : Int32} {y2 : Int64}
    (h : ((μ.1 0 5) < x7 → (r_Wm X w B 8 m σ0 (r_Z X w B tX8_attempt (ZMV m σ0 Q)) 127 [(0, Value.ref (B + m)), (1, Value.int x1), (2, Value.long y2), (4, Value.int x4), (5, Value.int x5)] [] μ)) ∧ (¬ (μ.1 0 5) < x7 → ((x6 = 0 → (r_Wm X w B 8 m σ0 (r_Z X w B tX8_attempt (ZMV m σ0 Q)) 127 [(0, Value.ref (B + m)), (1, Value.int x1), (2, Value.long y2), (4, Value.int x4), (5, Value.int x5)] [] μ)) ∧ (¬ x6 = 0 → (vp_in x7 301 ∧ (((μ.1 2 x7.toNatClampNeg) = x1 → (((μ.1 6 x7.toNatClampNeg) = 0 → (∀ z6 : Int32, z6 = x7 + 1 → (r_Wm X w B 8 m σ0 (r_Z X w B tX8_attempt (ZMV m σ0 Q)) 12 [(0, Value.ref (B + m)), (1, Value.int x1), (2, Value.long y2), (4, Value.int x4), (5, Value.int x5), (6, Value.int x6), (7, Value.int z6)] [] μ))) ∧ (¬ (μ.1 6 x7.toNatClampNeg) = 0 → (((4 ≤ x4 → True) ∧ (¬ 4 ≤ x4 → (((x4 = 0 → True) ∧ (¬ x4 = 0 → (vp_in (4 * x1) 24 ∧ vp_in (μ.1 34 ((4 * x1).toNatClampNeg)) 301)))))) ∧ (∀ z17 : Int32, z17 = (if 4 ≤ x4 then (0 : Int32) else (if x4 = 0 then (1 : Int32) else (if (μ.1 3 x7.toNatClampNeg) = (μ.1 3 ((μ.1 34 ((4 * x1).toNatClampNeg)).toNatClampNeg)) then (1 : Int32) else (0 : Int32)))) → ((z17 = 0 → (∀ z21 : Int32, z21 = x7 + 1 → (r_Wm X w B 8 m σ0 (r_Z X w B tX8_attempt (ZMV m σ0 Q)) 12 [(0, Value.ref (B + m)), (1, Value.int x1), (2, Value.long y2), (4, Value.int x4), (5, Value.int x5), (6, Value.int z17), (7, Value.int z21)] [] μ))) ∧ (¬ z17 = 0 → (vp_in ((4 * x1) + x4) 24 ∧ (∀ μ24 : Mu, μ24 = ui μ 34 (((4 * x1) + x4).toNatClampNeg) x7 → (∀ z30 : Int32, z30 = x4 + 1 → (∀ z32 : Int32, z32 = x5 + (μ24.1 4 x7.toNatClampNeg) → (∀ z34 : Int32, z34 = x7 + 1 → (r_Wm X w B 8 m σ0 (r_Z X w B tX8_attempt (ZMV m σ0 Q)) 12 [(0, Value.ref (B + m)), (1, Value.int x1), (2, Value.long y2), (4, Value.int z30), (5, Value.int z32), (6, Value.int z17), (7, Value.int z34)] [] μ24))))))))))))) ∧ (¬ (μ.1 2 x7.toNatClampNeg) = x1 → (∀ z37 : Int32, z37 = x7 + 1 → (r_Wm X w B 8 m σ0 (r_Z X w B tX8_attempt (ZMV m σ0 Q)) 12 [(0, Value.ref (B + m)), (1, Value.int x1), (2, Value.long y2), (4, Value.int x4), (5, Value.int x5), (6, Value.int x6), (7, Value.int z37)] [] μ))))))))) :
    r_Wm X w B 8 m σ0 (r_Z X w B tX8_attempt (ZMV m σ0 Q)) 12 [(0, Value.ref (B + m)), (1, Value.int x1), (2, Value.long y2), (4, Value.int x4), (5, Value.int x5), (6, Value.int x6), (7, Value.int x7)] [] μ := by
  intro σ hs hM hF hμ
  subst hμ
  refine r_iload C dX8_attempt_12 (j := 6) rfl ?_
  refine r_aload_n C dX8_attempt_14 rfl (j := 0) rfl ?_
  refine r_get (v := .int ((mu m σ).1 0 5)) C hM.1 fa_X8_163 rfl dX8_attempt_15 ?_
  refine r_icmp_gt (tgt := 127) C dX8_attempt_18 (by decide) (fun c1 => ?_) (fun c1 => ?_)
  · have h := h.1 c1
    exact r_loc (by simp) (h σ hs hM hF rfl)
  · have h := h.2 c1
    refine r_iload C dX8_attempt_21 (j := 5) rfl ?_
    refine r_if_eq (tgt := 127) C dX8_attempt_23 (by decide) (fun c2 => ?_) (fun c2 => ?_)
    · have h := h.1 c2
      exact r_loc (by simp) (h σ hs hM hF rfl)
    · have h := h.2 c2
      refine r_aload_n C dX8_attempt_26 rfl (j := 0) rfl ?_
      refine r_getA C hM (k := 6) (g := 2) (ti := 0) (n := 301) (by decide) fa_X8_17 rfl dX8_attempt_27 ?_
      refine r_iload C dX8_attempt_30 (j := 6) rfl ?_
      obtain ⟨g3, h⟩ := h
      refine r_iald (ti := 0) (n := 301) C (hM.2 (6, 2, 0, 301) (by decide)).2 ⟨rfl, fun _ => rfl⟩ g3 dX8_attempt_32 ?_
      refine r_iload_n C dX8_attempt_33 rfl (j := 1) rfl ?_
      refine r_icmp_ne (tgt := 121) C dX8_attempt_34 (by decide) (fun c4 => ?_) (fun c4 => ?_)
      · have h := h.2 c4
        obtain ⟨z37, e38⟩ : ∃ y : Int32, y = x7 + 1 := ⟨_, rfl⟩
        have h := h z37 e38
        refine r_iinc (v := z37) (lv' := [(7, Value.int z37), (0, Value.ref (B + m)), (1, Value.int x1), (2, Value.long y2), (4, Value.int x4), (5, Value.int x5), (6, Value.int x6)]) C dX8_attempt_121 (k := 6) rfl (by rw [e38]; rfl) (by decide) rfl ?_
        refine r_goto (tgt := 12) C dX8_attempt_124 (by decide) ?_
        exact r_loc (by simp) (h σ hs hM hF rfl)
      · have h := h.1 c4
        refine r_aload_n C dX8_attempt_37 rfl (j := 0) rfl ?_
        refine r_getA C hM (k := 10) (g := 6) (ti := 2) (n := 301) (by decide) fa_X8_30 rfl dX8_attempt_38 ?_
        refine r_iload C dX8_attempt_41 (j := 6) rfl ?_
        refine r_zald (ti := 2) (n := 301) C (hM.2 (10, 6, 2, 301) (by decide)).2 ⟨rfl, fun _ => rfl⟩ g3 dX8_attempt_43 ?_
        refine r_if_eq (tgt := 121) C dX8_attempt_44 (by decide) (fun c5 => ?_) (fun c5 => ?_)
        · have h := h.1 c5
          obtain ⟨z6, e7⟩ : ∃ y : Int32, y = x7 + 1 := ⟨_, rfl⟩
          have h := h z6 e7
          refine r_iinc (v := z6) (lv' := [(7, Value.int z6), (0, Value.ref (B + m)), (1, Value.int x1), (2, Value.long y2), (4, Value.int x4), (5, Value.int x5), (6, Value.int x6)]) C dX8_attempt_121 (k := 6) rfl (by rw [e7]; rfl) (by decide) rfl ?_
          refine r_goto (tgt := 12) C dX8_attempt_124 (by decide) ?_
          exact r_loc (by simp) (h σ hs hM hF rfl)
        · have h := h.2 c5
          refine r_iload C dX8_attempt_47 (j := 3) rfl ?_
          refine r_iconst (v := 4) C dX8_attempt_49 (by decide) ?_
          obtain ⟨g16, h⟩ := h
          have k19 : ∀ z17 : Int32, z17 = (if 4 ≤ x4 then (0 : Int32) else (if x4 = 0 then (1 : Int32) else (if ((mu m σ).1 3 x7.toNatClampNeg) = ((mu m σ).1 3 (((mu m σ).1 34 ((4 * x1).toNatClampNeg)).toNatClampNeg)) then (1 : Int32) else (0 : Int32)))) → r_W X w B 8 0 0 (r_Z X w B tX8_attempt (ZMV m σ0 Q)) 86 [(0, Value.ref (B + m)), (1, Value.int x1), (2, Value.long y2), (4, Value.int x4), (5, Value.int x5), (6, Value.int x6), (7, Value.int x7)] [Value.int z17] σ := by
            intro z17 e18
            have h := h z17 e18
            refine r_istore (lv' := [(6, Value.int z17), (0, Value.ref (B + m)), (1, Value.int x1), (2, Value.long y2), (4, Value.int x4), (5, Value.int x5), (7, Value.int x7)]) C dX8_attempt_86 (by decide) rfl ?_
            refine r_iload C dX8_attempt_88 (j := 0) rfl ?_
            refine r_if_eq (tgt := 121) C dX8_attempt_90 (by decide) (fun c20 => ?_) (fun c20 => ?_)
            · have h := h.1 c20
              obtain ⟨z21, e22⟩ : ∃ y : Int32, y = x7 + 1 := ⟨_, rfl⟩
              have h := h z21 e22
              refine r_iinc (v := z21) (lv' := [(7, Value.int z21), (6, Value.int z17), (0, Value.ref (B + m)), (1, Value.int x1), (2, Value.long y2), (4, Value.int x4), (5, Value.int x5)]) C dX8_attempt_121 (k := 6) rfl (by rw [e22]; rfl) (by decide) rfl ?_
              refine r_goto (tgt := 12) C dX8_attempt_124 (by decide) ?_
              exact r_loc (by simp) (h σ hs hM hF rfl)
            · have h := h.2 c20
              refine r_aload_n C dX8_attempt_93 rfl (j := 1) rfl ?_
              refine r_getA C hM (k := 42) (g := 34) (ti := 0) (n := 24) (by decide) fa_X8_115 rfl dX8_attempt_94 ?_
              refine r_iconst (v := 4) C dX8_attempt_97 (by decide) ?_
              refine r_iload_n C dX8_attempt_98 rfl (j := 2) rfl ?_
              refine r_imul C dX8_attempt_99 ?_
              refine r_iload C dX8_attempt_100 (j := 4) rfl ?_
              refine r_iadd C dX8_attempt_102 ?_
              refine r_iload C dX8_attempt_103 (j := 6) rfl ?_
              obtain ⟨g23, h⟩ := h
              refine r_iast (ti := 0) (n := 24) C (hM.2 (42, 34, 0, 24) (by decide)).2 ⟨rfl, fun _ => rfl⟩ g23 dX8_attempt_105 ?_
              refine r_nam (fun σ24 e25 => ?_)
              have u29 : mu m σ24 = ui (mu m σ) 34 (((4 * x1) + x4).toNatClampNeg) x7 := by rw [e25]; exact mu_ui (g := 34)
              have h := h (mu m σ24) u29
              have s26 : σ24.1 = σ0.1 := by rw [e25]; exact hs
              have M27 : Mo m σ24 := by rw [e25]; exact hM.fr rfl (fun _ _ => rfl)
              have F28 : Fr m σ0 σ24 := by rw [e25]; exact Fr.ui (g := 34) hF
              obtain ⟨z30, e31⟩ : ∃ y : Int32, y = x4 + 1 := ⟨_, rfl⟩
              have h := h z30 e31
              refine r_iinc (v := z30) (lv' := [(4, Value.int z30), (6, Value.int z17), (0, Value.ref (B + m)), (1, Value.int x1), (2, Value.long y2), (5, Value.int x5), (7, Value.int x7)]) C dX8_attempt_106 (k := 4) rfl (by rw [e31]; rfl) (by decide) rfl ?_
              refine r_iload C dX8_attempt_109 (j := 5) rfl ?_
              refine r_aload_n C dX8_attempt_111 rfl (j := 2) rfl ?_
              refine r_getA C M27 (k := 8) (g := 4) (ti := 0) (n := 301) (by decide) fa_X8_24 rfl dX8_attempt_112 ?_
              refine r_iload C dX8_attempt_115 (j := 6) rfl ?_
              refine r_iald (ti := 0) (n := 301) C (M27.2 (8, 4, 0, 301) (by decide)).2 ⟨rfl, fun _ => rfl⟩ g3 dX8_attempt_117 ?_
              refine r_iadd C dX8_attempt_118 ?_
              refine r_topi (fun z32 e33 => ?_)
              have h := h z32 e33
              refine r_istore (lv' := [(5, Value.int z32), (4, Value.int z30), (6, Value.int z17), (0, Value.ref (B + m)), (1, Value.int x1), (2, Value.long y2), (7, Value.int x7)]) C dX8_attempt_119 (by decide) rfl ?_
              obtain ⟨z34, e35⟩ : ∃ y : Int32, y = x7 + 1 := ⟨_, rfl⟩
              have h := h z34 e35
              refine r_iinc (v := z34) (lv' := [(7, Value.int z34), (5, Value.int z32), (4, Value.int z30), (6, Value.int z17), (0, Value.ref (B + m)), (1, Value.int x1), (2, Value.long y2)]) C dX8_attempt_121 (k := 6) rfl (by rw [e35]; rfl) (by decide) rfl ?_
              refine r_goto (tgt := 12) C dX8_attempt_124 (by decide) ?_
              exact r_loc (by simp) (h σ24 s26 M27 F28 rfl)
          clear h
          refine r_icmp_ge (tgt := 85) C dX8_attempt_50 (by decide) (fun c8 => ?_) (fun c8 => ?_)
          · have c8 : 4 ≤ x4 := c8
            refine r_iconst (v := 0) C dX8_attempt_85 (by decide) ?_
            exact k19 _ (by rw [if_pos c8] <;> rfl)
          · have c8 : ¬ 4 ≤ x4 := c8
            have h := g16.2 c8
            refine r_iload C dX8_attempt_53 (j := 3) rfl ?_
            have g36 := h
            refine r_if_eq (tgt := 81) C dX8_attempt_55 (by decide) (fun c10 => ?_) (fun c10 => ?_)
            · have c10 : x4 = 0 := c10
              refine r_iconst (v := 1) C dX8_attempt_81 (by decide) ?_
              refine r_goto (tgt := 86) C dX8_attempt_82 (by decide) ?_
              exact k19 _ (by rw [if_neg c8, if_pos c10] <;> rfl)
            · have c10 : ¬ x4 = 0 := c10
              have h := g36.2 c10
              refine r_aload_n C dX8_attempt_58 rfl (j := 0) rfl ?_
              refine r_getA C hM (k := 7) (g := 3) (ti := 0) (n := 301) (by decide) fa_X8_21 rfl dX8_attempt_59 ?_
              refine r_iload C dX8_attempt_62 (j := 6) rfl ?_
              refine r_iald (ti := 0) (n := 301) C (hM.2 (7, 3, 0, 301) (by decide)).2 ⟨rfl, fun _ => rfl⟩ g3 dX8_attempt_64 ?_
              refine r_aload_n C dX8_attempt_65 rfl (j := 0) rfl ?_
              refine r_getA C hM (k := 7) (g := 3) (ti := 0) (n := 301) (by decide) fa_X8_21 rfl dX8_attempt_66 ?_
              refine r_aload_n C dX8_attempt_69 rfl (j := 0) rfl ?_
              refine r_getA C hM (k := 42) (g := 34) (ti := 0) (n := 24) (by decide) fa_X8_115 rfl dX8_attempt_70 ?_
              refine r_iconst (v := 4) C dX8_attempt_73 (by decide) ?_
              refine r_iload_n C dX8_attempt_74 rfl (j := 1) rfl ?_
              refine r_imul C dX8_attempt_75 ?_
              obtain ⟨g12, h⟩ := h
              refine r_iald (ti := 0) (n := 24) C (hM.2 (42, 34, 0, 24) (by decide)).2 ⟨rfl, fun _ => rfl⟩ g12 dX8_attempt_76 ?_
              have g13 := h
              refine r_iald (ti := 0) (n := 301) C (hM.2 (7, 3, 0, 301) (by decide)).2 ⟨rfl, fun _ => rfl⟩ g13 dX8_attempt_77 ?_
              refine r_icmp_ne (tgt := 85) C dX8_attempt_78 (by decide) (fun c14 => ?_) (fun c14 => ?_)
              · have c14 : ¬ ((mu m σ).1 3 x7.toNatClampNeg) = ((mu m σ).1 3 (((mu m σ).1 34 ((4 * x1).toNatClampNeg)).toNatClampNeg)) := c14
                refine r_iconst (v := 0) C dX8_attempt_85 (by decide) ?_
                exact k19 _ (by rw [if_neg c8, if_neg c10, if_neg c14] <;> rfl)
              · have c14 : ((mu m σ).1 3 x7.toNatClampNeg) = ((mu m σ).1 3 (((mu m σ).1 34 ((4 * x1).toNatClampNeg)).toNatClampNeg)) := c14
                refine r_iconst (v := 1) C dX8_attempt_81 (by decide) ?_
                refine r_goto (tgt := 86) C dX8_attempt_82 (by decide) ?_
                exact k19 _ (by rw [if_neg c8, if_neg c10, if_pos c14] <;> rfl)
theorem u_X8_attempt_127 {X : r_X} {w : r_V} {B m : Nat} {l : Launch} {Q : Mu → Prop} {σ0 : r_S} (C : r_C X w B 8 cX8_attempt RX8) (E : r_E X l tX8_attempt) {μ : Mu} {x1 x4 x5 : Int32} {y2 : Int64}
    (h : vp_in x1 6 ∧ (∀ μ2 : Mu, μ2 = ui μ 35 x1.toNatClampNeg x4 → (∀ μ8 : Mu, μ8 = ui μ2 36 x1.toNatClampNeg x5 → (∀ z16 : Int32, z16 = (if x5 < (μ8.1 0 3) then (3 : Int32) else (1 : Int32)) → (vp_in (4 * x1) 24 ∧ (vp_in (μ8.1 34 ((4 * x1).toNatClampNeg)) 301 ∧ (∃ Q21 : Mu → Prop, r_MV l w B m tX8_begin [Value.int x1, Value.int z16, Value.int (μ8.1 3 ((μ8.1 34 ((4 * x1).toNatClampNeg)).toNatClampNeg)), Value.int x5, Value.int 0, Value.long y2] μ8 Q21 ∧ (∀ μ23 : Mu, Q21 μ23 → (Q μ23))))))))) :
    r_Wm X w B 8 m σ0 (r_Z X w B tX8_attempt (ZMV m σ0 Q)) 127 [(0, Value.ref (B + m)), (1, Value.int x1), (2, Value.long y2), (4, Value.int x4), (5, Value.int x5)] [] μ := by
  intro σ hs hM hF hμ
  subst hμ
  refine r_aload_n C dX8_attempt_127 rfl (j := 0) rfl ?_
  refine r_getA C hM (k := 43) (g := 35) (ti := 0) (n := 6) (by decide) fa_X8_118 rfl dX8_attempt_128 ?_
  refine r_iload_n C dX8_attempt_131 rfl (j := 1) rfl ?_
  refine r_iload C dX8_attempt_132 (j := 3) rfl ?_
  obtain ⟨g1, h⟩ := h
  refine r_iast (ti := 0) (n := 6) C (hM.2 (43, 35, 0, 6) (by decide)).2 ⟨rfl, fun _ => rfl⟩ g1 dX8_attempt_134 ?_
  refine r_nam (fun σ2 e3 => ?_)
  have u7 : mu m σ2 = ui (mu m σ) 35 x1.toNatClampNeg x4 := by rw [e3]; exact mu_ui (g := 35)
  have h := h (mu m σ2) u7
  have s4 : σ2.1 = σ0.1 := by rw [e3]; exact hs
  have M5 : Mo m σ2 := by rw [e3]; exact hM.fr rfl (fun _ _ => rfl)
  have F6 : Fr m σ0 σ2 := by rw [e3]; exact Fr.ui (g := 35) hF
  refine r_aload_n C dX8_attempt_135 rfl (j := 0) rfl ?_
  refine r_getA C M5 (k := 44) (g := 36) (ti := 0) (n := 6) (by decide) fa_X8_121 rfl dX8_attempt_136 ?_
  refine r_iload_n C dX8_attempt_139 rfl (j := 1) rfl ?_
  refine r_iload C dX8_attempt_140 (j := 4) rfl ?_
  refine r_iast (ti := 0) (n := 6) C (M5.2 (44, 36, 0, 6) (by decide)).2 ⟨rfl, fun _ => rfl⟩ g1 dX8_attempt_142 ?_
  refine r_nam (fun σ8 e9 => ?_)
  have u13 : mu m σ8 = ui (mu m σ2) 36 x1.toNatClampNeg x5 := by rw [e9]; exact mu_ui (g := 36)
  have h := h (mu m σ8) u13
  have s10 : σ8.1 = σ0.1 := by rw [e9]; exact s4
  have M11 : Mo m σ8 := by rw [e9]; exact M5.fr rfl (fun _ _ => rfl)
  have F12 : Fr m σ0 σ8 := by rw [e9]; exact Fr.ui (g := 36) F6
  refine r_aload_n C dX8_attempt_143 rfl (j := 0) rfl ?_
  refine r_iload_n C dX8_attempt_144 rfl (j := 1) rfl ?_
  refine r_iload C dX8_attempt_145 (j := 4) rfl ?_
  refine r_aload_n C dX8_attempt_147 rfl (j := 0) rfl ?_
  refine r_get (v := .int ((mu m σ8).1 0 3)) C M11.1 fa_X8_7 rfl dX8_attempt_148 ?_
  have k18 : ∀ z16 : Int32, z16 = (if x5 < ((mu m σ8).1 0 3) then (3 : Int32) else (1 : Int32)) → r_W X w B 8 0 0 (r_Z X w B tX8_attempt (ZMV m σ0 Q)) 159 [(0, Value.ref (B + m)), (1, Value.int x1), (2, Value.long y2), (4, Value.int x4), (5, Value.int x5)] [Value.int z16, Value.int x1, Value.ref (B + m)] σ8 := by
    intro z16 e17
    have h := h z16 e17
    refine r_aload_n C dX8_attempt_159 rfl (j := 0) rfl ?_
    refine r_getA C M11 (k := 7) (g := 3) (ti := 0) (n := 301) (by decide) fa_X8_21 rfl dX8_attempt_160 ?_
    refine r_aload_n C dX8_attempt_163 rfl (j := 0) rfl ?_
    refine r_getA C M11 (k := 42) (g := 34) (ti := 0) (n := 24) (by decide) fa_X8_115 rfl dX8_attempt_164 ?_
    refine r_iconst (v := 4) C dX8_attempt_167 (by decide) ?_
    refine r_iload_n C dX8_attempt_168 rfl (j := 1) rfl ?_
    refine r_imul C dX8_attempt_169 ?_
    obtain ⟨g19, h⟩ := h
    refine r_iald (ti := 0) (n := 24) C (M11.2 (42, 34, 0, 24) (by decide)).2 ⟨rfl, fun _ => rfl⟩ g19 dX8_attempt_170 ?_
    obtain ⟨g20, h⟩ := h
    refine r_iald (ti := 0) (n := 301) C (M11.2 (7, 3, 0, 301) (by decide)).2 ⟨rfl, fun _ => rfl⟩ g20 dX8_attempt_171 ?_
    refine r_iload C dX8_attempt_172 (j := 4) rfl ?_
    refine r_iconst (v := 0) C dX8_attempt_174 (by decide) ?_
    refine r_lload_n C dX8_attempt_175 rfl (j := 2) rfl ?_
    obtain ⟨Q21, m22, h⟩ := h
    refine r_callVV (rest := []) C E [Value.int x1, Value.int z16, Value.int ((mu m σ8).1 3 (((mu m σ8).1 34 ((4 * x1).toNatClampNeg)).toNatClampNeg)), Value.int x5, Value.int 0, Value.long y2] M11.1 rfl ky_X8_begin kl_X8_190 ki_X8_begin kx_X8_begin ⟨Nat.le_of_ble_eq_true rfl, Nat.le_of_ble_eq_true rfl⟩ ⟨rfl, rfl⟩ (m22 σ8 M11 rfl) rfl rfl (Nat.le_of_ble_eq_true rfl) (Nat.zero_le _) (Nat.zero_le _) dX8_attempt_176 (fun σ23 s24 q26 => ?_)
    obtain ⟨f27, q26⟩ := q26
    have h := h (mu m σ23) q26
    have M28 := M11.fr s24 f27.1
    have F29 := F12.trans f27
    have s24 := s24.trans s10
    exact r_vretQ C E rfl (Nat.zero_le _) (Nat.zero_le _) dX8_attempt_179 s24 ⟨F29, h⟩
  clear h
  refine r_icmp_lt (tgt := 158) C dX8_attempt_151 (by decide) (fun c14 => ?_) (fun c14 => ?_)
  · have c14 : x5 < ((mu m σ8).1 0 3) := c14
    refine r_iconst (v := 3) C dX8_attempt_158 (by decide) ?_
    exact k18 _ (by rw [if_pos c14] <;> rfl)
  · have c14 : ¬ x5 < ((mu m σ8).1 0 3) := c14
    refine r_iconst (v := 1) C dX8_attempt_154 (by decide) ?_
    refine r_goto (tgt := 159) C dX8_attempt_155 (by decide) ?_
    exact k18 _ (by rw [if_neg c14] <;> rfl)
theorem u_X8_stepOne_0 {X : r_X} {w : r_V} {B m : Nat} {l : Launch} {Q : Mu → Prop} {σ0 : r_S} (C : r_C X w B 4 cX8_stepOne RX8) (E : r_E X l tX8_stepOne) {μ : Mu} {y1 : Int64}
    (h : r_Wm X w B 4 m σ0 (r_Z X w B tX8_stepOne (ZMV m σ0 Q)) 2 [(0, Value.ref (B + m)), (1, Value.long y1), (3, Value.int 0)] [] μ) :
    r_Wm X w B 4 m σ0 (r_Z X w B tX8_stepOne (ZMV m σ0 Q)) 0 [(0, Value.ref (B + m)), (1, Value.long y1)] [] μ := by
  intro σ hs hM hF hμ
  subst hμ
  refine r_iconst (v := 0) C dX8_stepOne_0 (by decide) ?_
  refine r_istore_n (lv' := [(3, Value.int 0), (0, Value.ref (B + m)), (1, Value.long y1)]) C dX8_stepOne_1 rfl (by decide) rfl ?_
  exact r_loc (by simp) (h σ hs hM hF rfl)
theorem u_X8_stepOne_2 {X : r_X} {w : r_V} {B m : Nat} {l : Launch} {Q : Mu → Prop} {σ0 : r_S} (C : r_C X w B 4 cX8_stepOne RX8) (E : r_E X l tX8_stepOne) {μ : Mu} {x3 : Int32} {y1 : Int64}
    (h : ((μ.1 0 1) ≤ x3 → (Q μ)) ∧ (¬ (μ.1 0 1) ≤ x3 → (vp_in x3 6 ∧ (((μ.2 23 x3.toNatClampNeg) = y1 → (∃ Q4 : Mu → Prop, r_MV l w B m tX8_fail [Value.int x3, Value.long y1] μ Q4 ∧ (∀ μ6 : Mu, Q4 μ6 → (r_Wm X w B 4 m σ0 (r_Z X w B tX8_stepOne (ZMV m σ0 Q)) 27 [(0, Value.ref (B + m)), (1, Value.long y1), (3, Value.int x3)] [] μ6)))) ∧ (¬ (μ.2 23 x3.toNatClampNeg) = y1 → (r_Wm X w B 4 m σ0 (r_Z X w B tX8_stepOne (ZMV m σ0 Q)) 27 [(0, Value.ref (B + m)), (1, Value.long y1), (3, Value.int x3)] [] μ)))))) :
    r_Wm X w B 4 m σ0 (r_Z X w B tX8_stepOne (ZMV m σ0 Q)) 2 [(0, Value.ref (B + m)), (1, Value.long y1), (3, Value.int x3)] [] μ := by
  intro σ hs hM hF hμ
  subst hμ
  refine r_iload_n C dX8_stepOne_2 rfl (j := 2) rfl ?_
  refine r_aload_n C dX8_stepOne_3 rfl (j := 0) rfl ?_
  refine r_get (v := .int ((mu m σ).1 0 1)) C hM.1 fa_X8_145 rfl dX8_stepOne_4 ?_
  refine r_icmp_ge (tgt := 166) C dX8_stepOne_7 (by decide) (fun c1 => ?_) (fun c1 => ?_)
  · have h := h.1 c1
    exact r_vretQ C E rfl (Nat.zero_le _) (Nat.zero_le _) dX8_stepOne_166 hs ⟨hF, h⟩
  · have h := h.2 c1
    refine r_aload_n C dX8_stepOne_10 rfl (j := 0) rfl ?_
    refine r_getA C hM (k := 31) (g := 23) (ti := 1) (n := 6) (by decide) fa_X8_82 rfl dX8_stepOne_11 ?_
    refine r_iload_n C dX8_stepOne_14 rfl (j := 2) rfl ?_
    obtain ⟨g2, h⟩ := h
    refine r_lald (ti := 1) (n := 6) C (hM.2 (31, 23, 1, 6) (by decide)).2 ⟨rfl, fun _ => rfl⟩ g2 dX8_stepOne_15 ?_
    refine r_lload_n C dX8_stepOne_16 rfl (j := 1) rfl ?_
    refine r_lcmp C dX8_stepOne_17 ?_
    refine r_if_ne (tgt := 27) C dX8_stepOne_18 (by decide) (fun c3 => ?_) (fun c3 => ?_)
    · have h := h.2 (fun q => c3 (lgc_eq.mpr q))
      exact r_loc (by simp) (h σ hs hM hF rfl)
    · have h := h.1 (lgc_eq.mp c3)
      refine r_aload_n C dX8_stepOne_21 rfl (j := 0) rfl ?_
      refine r_iload_n C dX8_stepOne_22 rfl (j := 2) rfl ?_
      refine r_lload_n C dX8_stepOne_23 rfl (j := 1) rfl ?_
      obtain ⟨Q4, m5, h⟩ := h
      refine r_callVV (rest := []) C E [Value.int x3, Value.long y1] hM.1 rfl ky_X8_fail kl_X8_194 ki_X8_fail kx_X8_fail ⟨Nat.le_of_ble_eq_true rfl, Nat.le_of_ble_eq_true rfl⟩ ⟨rfl, rfl⟩ (m5 σ hM rfl) rfl rfl (Nat.le_of_ble_eq_true rfl) (Nat.zero_le _) (Nat.zero_le _) dX8_stepOne_24 (fun σ6 s7 q9 => ?_)
      obtain ⟨f10, q9⟩ := q9
      have h := h (mu m σ6) q9
      have M11 := hM.fr s7 f10.1
      have F12 := hF.trans f10
      have s7 := s7.trans hs
      exact r_loc (by simp) (h σ6 s7 M11 F12 rfl)
theorem u_X8_stepOne_27 {X : r_X} {w : r_V} {B m : Nat} {l : Launch} {Q : Mu → Prop} {σ0 : r_S} (C : r_C X w B 4 cX8_stepOne RX8) (E : r_E X l tX8_stepOne) {μ : Mu} {x3 : Int32} {y1 : Int64}
    (h : vp_in x3 6 ∧ (((μ.2 26 x3.toNatClampNeg) = y1 → (∀ μ3 : Mu, μ3 = ul μ 26 x3.toNatClampNeg (-1) → (∃ Q9 : Mu → Prop, r_MV l w B m tX8_begin [Value.int x3, Value.int (μ3.1 27 x3.toNatClampNeg), Value.int (μ3.1 28 x3.toNatClampNeg), Value.int (μ3.1 29 x3.toNatClampNeg), Value.int (μ3.1 30 x3.toNatClampNeg), Value.long y1] μ3 Q9 ∧ (∀ μ11 : Mu, Q9 μ11 → (∀ z18 : Int32, z18 = x3 + 1 → (r_Wm X w B 4 m σ0 (r_Z X w B tX8_stepOne (ZMV m σ0 Q)) 2 [(0, Value.ref (B + m)), (1, Value.long y1), (3, Value.int z18)] [] μ11)))))) ∧ (¬ (μ.2 26 x3.toNatClampNeg) = y1 → (∃ Q20 : Int32 → Mu → Prop, r_MI l w B m tX8_sends [Value.int x3, Value.long y1] μ Q20 ∧ (∀ (z24 : Int32) (μ22 : Mu), Q20 z24 μ22 → ((z24 = 0 → ((0 ≤ (μ22.2 23 x3.toNatClampNeg) → (∀ z31 : Int32, z31 = x3 + 1 → (r_Wm X w B 4 m σ0 (r_Z X w B tX8_stepOne (ZMV m σ0 Q)) 2 [(0, Value.ref (B + m)), (1, Value.long y1), (3, Value.int z31)] [] μ22))) ∧ (¬ 0 ≤ (μ22.2 23 x3.toNatClampNeg) → ((0 ≤ (μ22.2 26 x3.toNatClampNeg) → (∀ z34 : Int32, z34 = x3 + 1 → (r_Wm X w B 4 m σ0 (r_Z X w B tX8_stepOne (ZMV m σ0 Q)) 2 [(0, Value.ref (B + m)), (1, Value.long y1), (3, Value.int z34)] [] μ22))) ∧ (¬ 0 ≤ (μ22.2 26 x3.toNatClampNeg) → (∃ Q36 : Int32 → Mu → Prop, r_MI l w B m tX8_keeps [Value.int x3] μ22 Q36 ∧ (∀ (z40 : Int32) (μ38 : Mu), Q36 z40 μ38 → ((z40 ≤ 0 → (∀ z46 : Int32, z46 = x3 + 1 → (r_Wm X w B 4 m σ0 (r_Z X w B tX8_stepOne (ZMV m σ0 Q)) 2 [(0, Value.ref (B + m)), (1, Value.long y1), (3, Value.int z46)] [] μ38))) ∧ (¬ z40 ≤ 0 → (((μ38.1 19 x3.toNatClampNeg) = 0 → (((μ38.1 20 x3.toNatClampNeg) < (μ38.1 21 x3.toNatClampNeg) → (∀ z50 : Int32, z50 = x3 + 1 → (r_Wm X w B 4 m σ0 (r_Z X w B tX8_stepOne (ZMV m σ0 Q)) 2 [(0, Value.ref (B + m)), (1, Value.long y1), (3, Value.int z50)] [] μ38))) ∧ (¬ (μ38.1 20 x3.toNatClampNeg) < (μ38.1 21 x3.toNatClampNeg) → ((y1 < (μ38.2 22 x3.toNatClampNeg) → (∀ z53 : Int32, z53 = x3 + 1 → (r_Wm X w B 4 m σ0 (r_Z X w B tX8_stepOne (ZMV m σ0 Q)) 2 [(0, Value.ref (B + m)), (1, Value.long y1), (3, Value.int z53)] [] μ38))) ∧ (¬ y1 < (μ38.2 22 x3.toNatClampNeg) → (∃ Q55 : Mu → Prop, r_MV l w B m tX8_attempt [Value.int x3, Value.long y1] μ38 Q55 ∧ (∀ μ57 : Mu, Q55 μ57 → (∀ z64 : Int32, z64 = x3 + 1 → (r_Wm X w B 4 m σ0 (r_Z X w B tX8_stepOne (ZMV m σ0 Q)) 2 [(0, Value.ref (B + m)), (1, Value.long y1), (3, Value.int z64)] [] μ57))))))))) ∧ (¬ (μ38.1 19 x3.toNatClampNeg) = 0 → (∀ z66 : Int32, z66 = x3 + 1 → (r_Wm X w B 4 m σ0 (r_Z X w B tX8_stepOne (ZMV m σ0 Q)) 2 [(0, Value.ref (B + m)), (1, Value.long y1), (3, Value.int z66)] [] μ38))))))))))))) ∧ (¬ z24 = 0 → (∀ z68 : Int32, z68 = x3 + 1 → (r_Wm X w B 4 m σ0 (r_Z X w B tX8_stepOne (ZMV m σ0 Q)) 2 [(0, Value.ref (B + m)), (1, Value.long y1), (3, Value.int z68)] [] μ22))))))))) :
    r_Wm X w B 4 m σ0 (r_Z X w B tX8_stepOne (ZMV m σ0 Q)) 27 [(0, Value.ref (B + m)), (1, Value.long y1), (3, Value.int x3)] [] μ := by
  intro σ hs hM hF hμ
  subst hμ
  refine r_aload_n C dX8_stepOne_27 rfl (j := 0) rfl ?_
  refine r_getA C hM (k := 34) (g := 26) (ti := 1) (n := 6) (by decide) fa_X8_91 rfl dX8_stepOne_28 ?_
  refine r_iload_n C dX8_stepOne_31 rfl (j := 2) rfl ?_
  obtain ⟨g1, h⟩ := h
  refine r_lald (ti := 1) (n := 6) C (hM.2 (34, 26, 1, 6) (by decide)).2 ⟨rfl, fun _ => rfl⟩ g1 dX8_stepOne_32 ?_
  refine r_lload_n C dX8_stepOne_33 rfl (j := 1) rfl ?_
  refine r_lcmp C dX8_stepOne_34 ?_
  refine r_if_ne (tgt := 80) C dX8_stepOne_35 (by decide) (fun c2 => ?_) (fun c2 => ?_)
  · have h := h.2 (fun q => c2 (lgc_eq.mpr q))
    refine r_aload_n C dX8_stepOne_80 rfl (j := 0) rfl ?_
    refine r_iload_n C dX8_stepOne_81 rfl (j := 2) rfl ?_
    refine r_lload_n C dX8_stepOne_82 rfl (j := 1) rfl ?_
    obtain ⟨Q20, m21, h⟩ := h
    refine r_callVI (rest := []) C E [Value.int x3, Value.long y1] hM.1 rfl ky_X8_sends kl_X8_198 ki_X8_sends kx_X8_sends ⟨Nat.le_of_ble_eq_true rfl, Nat.le_of_ble_eq_true rfl⟩ ⟨rfl, rfl⟩ (m21 σ hM rfl) rfl rfl (Nat.le_of_ble_eq_true rfl) (Nat.zero_le _) (Nat.zero_le _) dX8_stepOne_83 (fun z24 σ22 s23 q25 => ?_)
    obtain ⟨f26, q25⟩ := q25
    have h := h z24 (mu m σ22) q25
    have M27 := hM.fr s23 f26.1
    have F28 := hF.trans f26
    have s23 := s23.trans hs
    refine r_if_ne (tgt := 160) C dX8_stepOne_86 (by decide) (fun c29 => ?_) (fun c29 => ?_)
    · have h := h.2 c29
      obtain ⟨z68, e69⟩ : ∃ y : Int32, y = x3 + 1 := ⟨_, rfl⟩
      have h := h z68 e69
      refine r_iinc (v := z68) (lv' := [(3, Value.int z68), (0, Value.ref (B + m)), (1, Value.long y1)]) C dX8_stepOne_160 (k := 2) rfl (by rw [e69]; rfl) (by decide) rfl ?_
      refine r_goto (tgt := 2) C dX8_stepOne_163 (by decide) ?_
      exact r_loc (by simp) (h σ22 s23 M27 F28 rfl)
    · have h := h.1 c29
      refine r_aload_n C dX8_stepOne_89 rfl (j := 0) rfl ?_
      refine r_getA C M27 (k := 31) (g := 23) (ti := 1) (n := 6) (by decide) fa_X8_82 rfl dX8_stepOne_90 ?_
      refine r_iload_n C dX8_stepOne_93 rfl (j := 2) rfl ?_
      refine r_lald (ti := 1) (n := 6) C (M27.2 (31, 23, 1, 6) (by decide)).2 ⟨rfl, fun _ => rfl⟩ g1 dX8_stepOne_94 ?_
      refine r_lconst (v := 0) C dX8_stepOne_95 (by decide) ?_
      refine r_lcmp C dX8_stepOne_96 ?_
      refine r_if_ge (tgt := 160) C dX8_stepOne_97 (by decide) (fun c30 => ?_) (fun c30 => ?_)
      · have h := h.1 (lgc_ge.mp c30)
        obtain ⟨z31, e32⟩ : ∃ y : Int32, y = x3 + 1 := ⟨_, rfl⟩
        have h := h z31 e32
        refine r_iinc (v := z31) (lv' := [(3, Value.int z31), (0, Value.ref (B + m)), (1, Value.long y1)]) C dX8_stepOne_160 (k := 2) rfl (by rw [e32]; rfl) (by decide) rfl ?_
        refine r_goto (tgt := 2) C dX8_stepOne_163 (by decide) ?_
        exact r_loc (by simp) (h σ22 s23 M27 F28 rfl)
      · have h := h.2 (fun q => c30 (lgc_ge.mpr q))
        refine r_aload_n C dX8_stepOne_100 rfl (j := 0) rfl ?_
        refine r_getA C M27 (k := 34) (g := 26) (ti := 1) (n := 6) (by decide) fa_X8_91 rfl dX8_stepOne_101 ?_
        refine r_iload_n C dX8_stepOne_104 rfl (j := 2) rfl ?_
        refine r_lald (ti := 1) (n := 6) C (M27.2 (34, 26, 1, 6) (by decide)).2 ⟨rfl, fun _ => rfl⟩ g1 dX8_stepOne_105 ?_
        refine r_lconst (v := 0) C dX8_stepOne_106 (by decide) ?_
        refine r_lcmp C dX8_stepOne_107 ?_
        refine r_if_ge (tgt := 160) C dX8_stepOne_108 (by decide) (fun c33 => ?_) (fun c33 => ?_)
        · have h := h.1 (lgc_ge.mp c33)
          obtain ⟨z34, e35⟩ : ∃ y : Int32, y = x3 + 1 := ⟨_, rfl⟩
          have h := h z34 e35
          refine r_iinc (v := z34) (lv' := [(3, Value.int z34), (0, Value.ref (B + m)), (1, Value.long y1)]) C dX8_stepOne_160 (k := 2) rfl (by rw [e35]; rfl) (by decide) rfl ?_
          refine r_goto (tgt := 2) C dX8_stepOne_163 (by decide) ?_
          exact r_loc (by simp) (h σ22 s23 M27 F28 rfl)
        · have h := h.2 (fun q => c33 (lgc_ge.mpr q))
          refine r_aload_n C dX8_stepOne_111 rfl (j := 0) rfl ?_
          refine r_iload_n C dX8_stepOne_112 rfl (j := 2) rfl ?_
          obtain ⟨Q36, m37, h⟩ := h
          refine r_callVI (rest := []) C E [Value.int x3] M27.1 rfl ky_X8_keeps kl_X8_166 ki_X8_keeps kx_X8_keeps ⟨Nat.le_of_ble_eq_true rfl, Nat.le_of_ble_eq_true rfl⟩ ⟨rfl, rfl⟩ (m37 σ22 M27 rfl) rfl rfl (Nat.le_of_ble_eq_true rfl) (Nat.zero_le _) (Nat.zero_le _) dX8_stepOne_113 (fun z40 σ38 s39 q41 => ?_)
          obtain ⟨f42, q41⟩ := q41
          have h := h z40 (mu m σ38) q41
          have M43 := M27.fr s39 f42.1
          have F44 := F28.trans f42
          have s39 := s39.trans s23
          refine r_if_le (tgt := 160) C dX8_stepOne_116 (by decide) (fun c45 => ?_) (fun c45 => ?_)
          · have h := h.1 c45
            obtain ⟨z46, e47⟩ : ∃ y : Int32, y = x3 + 1 := ⟨_, rfl⟩
            have h := h z46 e47
            refine r_iinc (v := z46) (lv' := [(3, Value.int z46), (0, Value.ref (B + m)), (1, Value.long y1)]) C dX8_stepOne_160 (k := 2) rfl (by rw [e47]; rfl) (by decide) rfl ?_
            refine r_goto (tgt := 2) C dX8_stepOne_163 (by decide) ?_
            exact r_loc (by simp) (h σ38 s39 M43 F44 rfl)
          · have h := h.2 c45
            refine r_aload_n C dX8_stepOne_119 rfl (j := 0) rfl ?_
            refine r_getA C M43 (k := 27) (g := 19) (ti := 0) (n := 6) (by decide) fa_X8_70 rfl dX8_stepOne_120 ?_
            refine r_iload_n C dX8_stepOne_123 rfl (j := 2) rfl ?_
            refine r_iald (ti := 0) (n := 6) C (M43.2 (27, 19, 0, 6) (by decide)).2 ⟨rfl, fun _ => rfl⟩ g1 dX8_stepOne_124 ?_
            refine r_if_ne (tgt := 160) C dX8_stepOne_125 (by decide) (fun c48 => ?_) (fun c48 => ?_)
            · have h := h.2 c48
              obtain ⟨z66, e67⟩ : ∃ y : Int32, y = x3 + 1 := ⟨_, rfl⟩
              have h := h z66 e67
              refine r_iinc (v := z66) (lv' := [(3, Value.int z66), (0, Value.ref (B + m)), (1, Value.long y1)]) C dX8_stepOne_160 (k := 2) rfl (by rw [e67]; rfl) (by decide) rfl ?_
              refine r_goto (tgt := 2) C dX8_stepOne_163 (by decide) ?_
              exact r_loc (by simp) (h σ38 s39 M43 F44 rfl)
            · have h := h.1 c48
              refine r_aload_n C dX8_stepOne_128 rfl (j := 0) rfl ?_
              refine r_getA C M43 (k := 28) (g := 20) (ti := 0) (n := 6) (by decide) fa_X8_73 rfl dX8_stepOne_129 ?_
              refine r_iload_n C dX8_stepOne_132 rfl (j := 2) rfl ?_
              refine r_iald (ti := 0) (n := 6) C (M43.2 (28, 20, 0, 6) (by decide)).2 ⟨rfl, fun _ => rfl⟩ g1 dX8_stepOne_133 ?_
              refine r_aload_n C dX8_stepOne_134 rfl (j := 0) rfl ?_
              refine r_getA C M43 (k := 29) (g := 21) (ti := 0) (n := 6) (by decide) fa_X8_76 rfl dX8_stepOne_135 ?_
              refine r_iload_n C dX8_stepOne_138 rfl (j := 2) rfl ?_
              refine r_iald (ti := 0) (n := 6) C (M43.2 (29, 21, 0, 6) (by decide)).2 ⟨rfl, fun _ => rfl⟩ g1 dX8_stepOne_139 ?_
              refine r_icmp_lt (tgt := 160) C dX8_stepOne_140 (by decide) (fun c49 => ?_) (fun c49 => ?_)
              · have h := h.1 c49
                obtain ⟨z50, e51⟩ : ∃ y : Int32, y = x3 + 1 := ⟨_, rfl⟩
                have h := h z50 e51
                refine r_iinc (v := z50) (lv' := [(3, Value.int z50), (0, Value.ref (B + m)), (1, Value.long y1)]) C dX8_stepOne_160 (k := 2) rfl (by rw [e51]; rfl) (by decide) rfl ?_
                refine r_goto (tgt := 2) C dX8_stepOne_163 (by decide) ?_
                exact r_loc (by simp) (h σ38 s39 M43 F44 rfl)
              · have h := h.2 c49
                refine r_aload_n C dX8_stepOne_143 rfl (j := 0) rfl ?_
                refine r_getA C M43 (k := 30) (g := 22) (ti := 1) (n := 6) (by decide) fa_X8_79 rfl dX8_stepOne_144 ?_
                refine r_iload_n C dX8_stepOne_147 rfl (j := 2) rfl ?_
                refine r_lald (ti := 1) (n := 6) C (M43.2 (30, 22, 1, 6) (by decide)).2 ⟨rfl, fun _ => rfl⟩ g1 dX8_stepOne_148 ?_
                refine r_lload_n C dX8_stepOne_149 rfl (j := 1) rfl ?_
                refine r_lcmp C dX8_stepOne_150 ?_
                refine r_if_gt (tgt := 160) C dX8_stepOne_151 (by decide) (fun c52 => ?_) (fun c52 => ?_)
                · have h := h.1 (lgc_gt.mp c52)
                  obtain ⟨z53, e54⟩ : ∃ y : Int32, y = x3 + 1 := ⟨_, rfl⟩
                  have h := h z53 e54
                  refine r_iinc (v := z53) (lv' := [(3, Value.int z53), (0, Value.ref (B + m)), (1, Value.long y1)]) C dX8_stepOne_160 (k := 2) rfl (by rw [e54]; rfl) (by decide) rfl ?_
                  refine r_goto (tgt := 2) C dX8_stepOne_163 (by decide) ?_
                  exact r_loc (by simp) (h σ38 s39 M43 F44 rfl)
                · have h := h.2 (fun q => c52 (lgc_gt.mpr q))
                  refine r_aload_n C dX8_stepOne_154 rfl (j := 0) rfl ?_
                  refine r_iload_n C dX8_stepOne_155 rfl (j := 2) rfl ?_
                  refine r_lload_n C dX8_stepOne_156 rfl (j := 1) rfl ?_
                  obtain ⟨Q55, m56, h⟩ := h
                  refine r_callVV (rest := []) C E [Value.int x3, Value.long y1] M43.1 rfl ky_X8_attempt kl_X8_202 ki_X8_attempt kx_X8_attempt ⟨Nat.le_of_ble_eq_true rfl, Nat.le_of_ble_eq_true rfl⟩ ⟨rfl, rfl⟩ (m56 σ38 M43 rfl) rfl rfl (Nat.le_of_ble_eq_true rfl) (Nat.zero_le _) (Nat.zero_le _) dX8_stepOne_157 (fun σ57 s58 q60 => ?_)
                  obtain ⟨f61, q60⟩ := q60
                  have h := h (mu m σ57) q60
                  have M62 := M43.fr s58 f61.1
                  have F63 := F44.trans f61
                  have s58 := s58.trans s39
                  obtain ⟨z64, e65⟩ : ∃ y : Int32, y = x3 + 1 := ⟨_, rfl⟩
                  have h := h z64 e65
                  refine r_iinc (v := z64) (lv' := [(3, Value.int z64), (0, Value.ref (B + m)), (1, Value.long y1)]) C dX8_stepOne_160 (k := 2) rfl (by rw [e65]; rfl) (by decide) rfl ?_
                  refine r_goto (tgt := 2) C dX8_stepOne_163 (by decide) ?_
                  exact r_loc (by simp) (h σ57 s58 M62 F63 rfl)
  · have h := h.1 (lgc_eq.mp c2)
    refine r_aload_n C dX8_stepOne_38 rfl (j := 0) rfl ?_
    refine r_getA C hM (k := 34) (g := 26) (ti := 1) (n := 6) (by decide) fa_X8_91 rfl dX8_stepOne_39 ?_
    refine r_iload_n C dX8_stepOne_42 rfl (j := 2) rfl ?_
    refine r_ldc2 (v := (-1)) C kj_X8_148 dX8_stepOne_43 ?_
    refine r_last (ti := 1) (n := 6) C (hM.2 (34, 26, 1, 6) (by decide)).2 ⟨rfl, fun _ => rfl⟩ g1 dX8_stepOne_46 ?_
    refine r_nam (fun σ3 e4 => ?_)
    have u8 : mu m σ3 = ul (mu m σ) 26 x3.toNatClampNeg (-1) := by rw [e4]; exact mu_ul (g := 26)
    have h := h (mu m σ3) u8
    have s5 : σ3.1 = σ0.1 := by rw [e4]; exact hs
    have M6 : Mo m σ3 := by rw [e4]; exact hM.fr rfl (fun _ _ => rfl)
    have F7 : Fr m σ0 σ3 := by rw [e4]; exact Fr.ul (g := 26) hF
    refine r_aload_n C dX8_stepOne_47 rfl (j := 0) rfl ?_
    refine r_iload_n C dX8_stepOne_48 rfl (j := 2) rfl ?_
    refine r_aload_n C dX8_stepOne_49 rfl (j := 0) rfl ?_
    refine r_getA C M6 (k := 35) (g := 27) (ti := 0) (n := 6) (by decide) fa_X8_94 rfl dX8_stepOne_50 ?_
    refine r_iload_n C dX8_stepOne_53 rfl (j := 2) rfl ?_
    refine r_iald (ti := 0) (n := 6) C (M6.2 (35, 27, 0, 6) (by decide)).2 ⟨rfl, fun _ => rfl⟩ g1 dX8_stepOne_54 ?_
    refine r_aload_n C dX8_stepOne_55 rfl (j := 0) rfl ?_
    refine r_getA C M6 (k := 36) (g := 28) (ti := 0) (n := 6) (by decide) fa_X8_97 rfl dX8_stepOne_56 ?_
    refine r_iload_n C dX8_stepOne_59 rfl (j := 2) rfl ?_
    refine r_iald (ti := 0) (n := 6) C (M6.2 (36, 28, 0, 6) (by decide)).2 ⟨rfl, fun _ => rfl⟩ g1 dX8_stepOne_60 ?_
    refine r_aload_n C dX8_stepOne_61 rfl (j := 0) rfl ?_
    refine r_getA C M6 (k := 37) (g := 29) (ti := 0) (n := 6) (by decide) fa_X8_100 rfl dX8_stepOne_62 ?_
    refine r_iload_n C dX8_stepOne_65 rfl (j := 2) rfl ?_
    refine r_iald (ti := 0) (n := 6) C (M6.2 (37, 29, 0, 6) (by decide)).2 ⟨rfl, fun _ => rfl⟩ g1 dX8_stepOne_66 ?_
    refine r_aload_n C dX8_stepOne_67 rfl (j := 0) rfl ?_
    refine r_getA C M6 (k := 38) (g := 30) (ti := 0) (n := 6) (by decide) fa_X8_103 rfl dX8_stepOne_68 ?_
    refine r_iload_n C dX8_stepOne_71 rfl (j := 2) rfl ?_
    refine r_iald (ti := 0) (n := 6) C (M6.2 (38, 30, 0, 6) (by decide)).2 ⟨rfl, fun _ => rfl⟩ g1 dX8_stepOne_72 ?_
    refine r_lload_n C dX8_stepOne_73 rfl (j := 1) rfl ?_
    obtain ⟨Q9, m10, h⟩ := h
    refine r_callVV (rest := []) C E [Value.int x3, Value.int ((mu m σ3).1 27 x3.toNatClampNeg), Value.int ((mu m σ3).1 28 x3.toNatClampNeg), Value.int ((mu m σ3).1 29 x3.toNatClampNeg), Value.int ((mu m σ3).1 30 x3.toNatClampNeg), Value.long y1] M6.1 rfl ky_X8_begin kl_X8_190 ki_X8_begin kx_X8_begin ⟨Nat.le_of_ble_eq_true rfl, Nat.le_of_ble_eq_true rfl⟩ ⟨rfl, rfl⟩ (m10 σ3 M6 rfl) rfl rfl (Nat.le_of_ble_eq_true rfl) (Nat.zero_le _) (Nat.zero_le _) dX8_stepOne_74 (fun σ11 s12 q14 => ?_)
    obtain ⟨f15, q14⟩ := q14
    have h := h (mu m σ11) q14
    have M16 := M6.fr s12 f15.1
    have F17 := F7.trans f15
    have s12 := s12.trans s5
    refine r_goto (tgt := 160) C dX8_stepOne_77 (by decide) ?_
    obtain ⟨z18, e19⟩ : ∃ y : Int32, y = x3 + 1 := ⟨_, rfl⟩
    have h := h z18 e19
    refine r_iinc (v := z18) (lv' := [(3, Value.int z18), (0, Value.ref (B + m)), (1, Value.long y1)]) C dX8_stepOne_160 (k := 2) rfl (by rw [e19]; rfl) (by decide) rfl ?_
    refine r_goto (tgt := 2) C dX8_stepOne_163 (by decide) ?_
    exact r_loc (by simp) (h σ11 s12 M16 F17 rfl)
theorem u_X8_hearsAny_0 {X : r_X} {w : r_V} {B m : Nat} {l : Launch} {Q : Int32 → Mu → Prop} {σ0 : r_S} (C : r_C X w B 7 cX8_hearsAny RX8) (E : r_E X l tX8_hearsAny) {μ : Mu} {x1 x2 : Int32} {y3 : Int64}
    (h : r_Wm X w B 7 m σ0 (r_Z X w B tX8_hearsAny (ZMI m σ0 Q)) 6 [(0, Value.ref (B + m)), (1, Value.int x1), (2, Value.int x2), (3, Value.long y3), (5, Value.int 0), (6, Value.int 0)] [] μ) :
    r_Wm X w B 7 m σ0 (r_Z X w B tX8_hearsAny (ZMI m σ0 Q)) 0 [(0, Value.ref (B + m)), (1, Value.int x1), (2, Value.int x2), (3, Value.long y3)] [] μ := by
  intro σ hs hM hF hμ
  subst hμ
  refine r_iconst (v := 0) C dX8_hearsAny_0 (by decide) ?_
  refine r_istore (lv' := [(5, Value.int 0), (0, Value.ref (B + m)), (1, Value.int x1), (2, Value.int x2), (3, Value.long y3)]) C dX8_hearsAny_1 (by decide) rfl ?_
  refine r_iconst (v := 0) C dX8_hearsAny_3 (by decide) ?_
  refine r_istore (lv' := [(6, Value.int 0), (5, Value.int 0), (0, Value.ref (B + m)), (1, Value.int x1), (2, Value.int x2), (3, Value.long y3)]) C dX8_hearsAny_4 (by decide) rfl ?_
  exact r_loc (by simp) (h σ hs hM hF rfl)
theorem u_X8_hearsAny_6 {X : r_X} {w : r_V} {B m : Nat} {l : Launch} {Q : Int32 → Mu → Prop} {σ0 : r_S} (C : r_C X w B 7 cX8_hearsAny RX8) (E : r_E X l tX8_hearsAny) {μ : Mu} {x1 x2 x5 x6 : Int32} {y3 : Int64}
    (h : ((μ.1 0 1) ≤ x6 → ((x5 = 0 ∨ x5 = 1) ∧ (Q x5 μ))) ∧ (¬ (μ.1 0 1) ≤ x6 → ((x5 = 0 → ((x6 = x2 → (∀ z5 : Int32, z5 = x6 + 1 → (r_Wm X w B 7 m σ0 (r_Z X w B tX8_hearsAny (ZMI m σ0 Q)) 6 [(0, Value.ref (B + m)), (1, Value.int x1), (2, Value.int x2), (3, Value.long y3), (5, Value.int 0), (6, Value.int z5)] [] μ))) ∧ (¬ x6 = x2 → (∃ Q7 : Int32 → Mu → Prop, r_MI l w B m tX8_hears [Value.int x1, Value.int x6] μ Q7 ∧ (∀ (z11 : Int32) (μ9 : Mu), Q7 z11 μ9 → ((z11 = 0 → (∀ z17 : Int32, z17 = x6 + 1 → (r_Wm X w B 7 m σ0 (r_Z X w B tX8_hearsAny (ZMI m σ0 Q)) 6 [(0, Value.ref (B + m)), (1, Value.int x1), (2, Value.int x2), (3, Value.long y3), (5, Value.int 0), (6, Value.int z17)] [] μ9))) ∧ (¬ z11 = 0 → (∃ Q19 : Int32 → Mu → Prop, r_MI l w B m tX8_sends [Value.int x6, Value.long y3] μ9 Q19 ∧ (∀ (z23 : Int32) (μ21 : Mu), Q19 z23 μ21 → (∀ z30 : Int32, z30 = (if z23 = 0 then (0 : Int32) else (1 : Int32)) → (∀ z33 : Int32, z33 = x6 + 1 → (r_Wm X w B 7 m σ0 (r_Z X w B tX8_hearsAny (ZMI m σ0 Q)) 6 [(0, Value.ref (B + m)), (1, Value.int x1), (2, Value.int x2), (3, Value.long y3), (5, Value.int z30), (6, Value.int z33)] [] μ21)))))))))))) ∧ (¬ x5 = 0 → (∀ z35 : Int32, z35 = x6 + 1 → (r_Wm X w B 7 m σ0 (r_Z X w B tX8_hearsAny (ZMI m σ0 Q)) 6 [(0, Value.ref (B + m)), (1, Value.int x1), (2, Value.int x2), (3, Value.long y3), (5, Value.int 1), (6, Value.int z35)] [] μ)))))) :
    r_Wm X w B 7 m σ0 (r_Z X w B tX8_hearsAny (ZMI m σ0 Q)) 6 [(0, Value.ref (B + m)), (1, Value.int x1), (2, Value.int x2), (3, Value.long y3), (5, Value.int x5), (6, Value.int x6)] [] μ := by
  intro σ hs hM hF hμ
  subst hμ
  refine r_iload C dX8_hearsAny_6 (j := 5) rfl ?_
  refine r_aload_n C dX8_hearsAny_8 rfl (j := 0) rfl ?_
  refine r_get (v := .int ((mu m σ).1 0 1)) C hM.1 fa_X8_145 rfl dX8_hearsAny_9 ?_
  refine r_icmp_ge (tgt := 59) C dX8_hearsAny_12 (by decide) (fun c1 => ?_) (fun c1 => ?_)
  · have h := h.1 c1
    refine r_iload C dX8_hearsAny_59 (j := 4) rfl ?_
    obtain ⟨g2, h⟩ := h
    exact r_zretQ C E rfl g2 (Nat.zero_le _) (Nat.zero_le _) dX8_hearsAny_61 hs ⟨hF, h⟩
  · have h := h.2 c1
    refine r_iload C dX8_hearsAny_15 (j := 4) rfl ?_
    refine r_if_ne (tgt := 46) C dX8_hearsAny_17 (by decide) (fun c3 => ?_) (fun c3 => ?_)
    · have h := h.2 c3
      refine r_iconst (v := 1) C dX8_hearsAny_46 (by decide) ?_
      refine r_goto (tgt := 51) C dX8_hearsAny_47 (by decide) ?_
      refine r_istore (lv' := [(5, Value.int 1), (0, Value.ref (B + m)), (1, Value.int x1), (2, Value.int x2), (3, Value.long y3), (6, Value.int x6)]) C dX8_hearsAny_51 (by decide) rfl ?_
      obtain ⟨z35, e36⟩ : ∃ y : Int32, y = x6 + 1 := ⟨_, rfl⟩
      have h := h z35 e36
      refine r_iinc (v := z35) (lv' := [(6, Value.int z35), (5, Value.int 1), (0, Value.ref (B + m)), (1, Value.int x1), (2, Value.int x2), (3, Value.long y3)]) C dX8_hearsAny_53 (k := 5) rfl (by rw [e36]; rfl) (by decide) rfl ?_
      refine r_goto (tgt := 6) C dX8_hearsAny_56 (by decide) ?_
      exact r_loc (by simp) (h σ hs hM hF rfl)
    · have h := h.1 c3
      refine r_iload C dX8_hearsAny_20 (j := 5) rfl ?_
      refine r_iload_n C dX8_hearsAny_22 rfl (j := 2) rfl ?_
      refine r_icmp_eq (tgt := 50) C dX8_hearsAny_23 (by decide) (fun c4 => ?_) (fun c4 => ?_)
      · have h := h.1 c4
        refine r_iconst (v := 0) C dX8_hearsAny_50 (by decide) ?_
        refine r_istore (lv' := [(5, Value.int 0), (0, Value.ref (B + m)), (1, Value.int x1), (2, Value.int x2), (3, Value.long y3), (6, Value.int x6)]) C dX8_hearsAny_51 (by decide) rfl ?_
        obtain ⟨z5, e6⟩ : ∃ y : Int32, y = x6 + 1 := ⟨_, rfl⟩
        have h := h z5 e6
        refine r_iinc (v := z5) (lv' := [(6, Value.int z5), (5, Value.int 0), (0, Value.ref (B + m)), (1, Value.int x1), (2, Value.int x2), (3, Value.long y3)]) C dX8_hearsAny_53 (k := 5) rfl (by rw [e6]; rfl) (by decide) rfl ?_
        refine r_goto (tgt := 6) C dX8_hearsAny_56 (by decide) ?_
        exact r_loc (by simp) (h σ hs hM hF rfl)
      · have h := h.2 c4
        refine r_aload_n C dX8_hearsAny_26 rfl (j := 0) rfl ?_
        refine r_iload_n C dX8_hearsAny_27 rfl (j := 1) rfl ?_
        refine r_iload C dX8_hearsAny_28 (j := 5) rfl ?_
        obtain ⟨Q7, m8, h⟩ := h
        refine r_callVI (rest := []) C E [Value.int x1, Value.int x6] hM.1 rfl ky_X8_hears kl_X8_205 ki_X8_hears kx_X8_hears ⟨Nat.le_of_ble_eq_true rfl, Nat.le_of_ble_eq_true rfl⟩ ⟨rfl, rfl⟩ (m8 σ hM rfl) rfl rfl (Nat.le_of_ble_eq_true rfl) (Nat.zero_le _) (Nat.zero_le _) dX8_hearsAny_30 (fun z11 σ9 s10 q12 => ?_)
        obtain ⟨f13, q12⟩ := q12
        have h := h z11 (mu m σ9) q12
        have M14 := hM.fr s10 f13.1
        have F15 := hF.trans f13
        have s10 := s10.trans hs
        refine r_if_eq (tgt := 50) C dX8_hearsAny_33 (by decide) (fun c16 => ?_) (fun c16 => ?_)
        · have h := h.1 c16
          refine r_iconst (v := 0) C dX8_hearsAny_50 (by decide) ?_
          refine r_istore (lv' := [(5, Value.int 0), (0, Value.ref (B + m)), (1, Value.int x1), (2, Value.int x2), (3, Value.long y3), (6, Value.int x6)]) C dX8_hearsAny_51 (by decide) rfl ?_
          obtain ⟨z17, e18⟩ : ∃ y : Int32, y = x6 + 1 := ⟨_, rfl⟩
          have h := h z17 e18
          refine r_iinc (v := z17) (lv' := [(6, Value.int z17), (5, Value.int 0), (0, Value.ref (B + m)), (1, Value.int x1), (2, Value.int x2), (3, Value.long y3)]) C dX8_hearsAny_53 (k := 5) rfl (by rw [e18]; rfl) (by decide) rfl ?_
          refine r_goto (tgt := 6) C dX8_hearsAny_56 (by decide) ?_
          exact r_loc (by simp) (h σ9 s10 M14 F15 rfl)
        · have h := h.2 c16
          refine r_aload_n C dX8_hearsAny_36 rfl (j := 0) rfl ?_
          refine r_iload C dX8_hearsAny_37 (j := 5) rfl ?_
          refine r_lload_n C dX8_hearsAny_39 rfl (j := 3) rfl ?_
          obtain ⟨Q19, m20, h⟩ := h
          refine r_callVI (rest := []) C E [Value.int x6, Value.long y3] M14.1 rfl ky_X8_sends kl_X8_198 ki_X8_sends kx_X8_sends ⟨Nat.le_of_ble_eq_true rfl, Nat.le_of_ble_eq_true rfl⟩ ⟨rfl, rfl⟩ (m20 σ9 M14 rfl) rfl rfl (Nat.le_of_ble_eq_true rfl) (Nat.zero_le _) (Nat.zero_le _) dX8_hearsAny_40 (fun z23 σ21 s22 q24 => ?_)
          obtain ⟨f25, q24⟩ := q24
          have h := h z23 (mu m σ21) q24
          have M26 := M14.fr s22 f25.1
          have F27 := F15.trans f25
          have s22 := s22.trans s10
          have k32 : ∀ z30 : Int32, z30 = (if z23 = 0 then (0 : Int32) else (1 : Int32)) → r_W X w B 7 0 0 (r_Z X w B tX8_hearsAny (ZMI m σ0 Q)) 51 [(0, Value.ref (B + m)), (1, Value.int x1), (2, Value.int x2), (3, Value.long y3), (5, Value.int x5), (6, Value.int x6)] [Value.int z30] σ21 := by
            intro z30 e31
            have h := h z30 e31
            refine r_istore (lv' := [(5, Value.int z30), (0, Value.ref (B + m)), (1, Value.int x1), (2, Value.int x2), (3, Value.long y3), (6, Value.int x6)]) C dX8_hearsAny_51 (by decide) rfl ?_
            obtain ⟨z33, e34⟩ : ∃ y : Int32, y = x6 + 1 := ⟨_, rfl⟩
            have h := h z33 e34
            refine r_iinc (v := z33) (lv' := [(6, Value.int z33), (5, Value.int z30), (0, Value.ref (B + m)), (1, Value.int x1), (2, Value.int x2), (3, Value.long y3)]) C dX8_hearsAny_53 (k := 5) rfl (by rw [e34]; rfl) (by decide) rfl ?_
            refine r_goto (tgt := 6) C dX8_hearsAny_56 (by decide) ?_
            exact r_loc (by simp) (h σ21 s22 M26 F27 rfl)
          clear h
          refine r_if_eq (tgt := 50) C dX8_hearsAny_43 (by decide) (fun c28 => ?_) (fun c28 => ?_)
          · have c28 : z23 = 0 := c28
            refine r_iconst (v := 0) C dX8_hearsAny_50 (by decide) ?_
            exact k32 _ (by rw [if_pos c28] <;> rfl)
          · have c28 : ¬ z23 = 0 := c28
            refine r_iconst (v := 1) C dX8_hearsAny_46 (by decide) ?_
            refine r_goto (tgt := 51) C dX8_hearsAny_47 (by decide) ?_
            exact k32 _ (by rw [if_neg c28] <;> rfl)
theorem u_X8_stepTwo_0 {X : r_X} {w : r_V} {B m : Nat} {l : Launch} {Q : Mu → Prop} {σ0 : r_S} (C : r_C X w B 6 cX8_stepTwo RX8) (E : r_E X l tX8_stepTwo) {μ : Mu} {y1 : Int64}
    (h : r_Wm X w B 6 m σ0 (r_Z X w B tX8_stepTwo (ZMV m σ0 Q)) 2 [(0, Value.ref (B + m)), (1, Value.long y1), (3, Value.int 0)] [] μ) :
    r_Wm X w B 6 m σ0 (r_Z X w B tX8_stepTwo (ZMV m σ0 Q)) 0 [(0, Value.ref (B + m)), (1, Value.long y1)] [] μ := by
  intro σ hs hM hF hμ
  subst hμ
  refine r_iconst (v := 0) C dX8_stepTwo_0 (by decide) ?_
  refine r_istore_n (lv' := [(3, Value.int 0), (0, Value.ref (B + m)), (1, Value.long y1)]) C dX8_stepTwo_1 rfl (by decide) rfl ?_
  exact r_loc (by simp) (h σ hs hM hF rfl)
theorem u_X8_stepTwo_2 {X : r_X} {w : r_V} {B m : Nat} {l : Launch} {Q : Mu → Prop} {σ0 : r_S} (C : r_C X w B 6 cX8_stepTwo RX8) (E : r_E X l tX8_stepTwo) {μ : Mu} {x3 : Int32} {y1 : Int64}
    (h : ((μ.1 0 1) ≤ x3 → (Q μ)) ∧ (¬ (μ.1 0 1) ≤ x3 → (r_Wm X w B 6 m σ0 (r_Z X w B tX8_stepTwo (ZMV m σ0 Q)) 13 [(0, Value.ref (B + m)), (1, Value.long y1), (3, Value.int x3), (4, Value.int 0)] [] μ))) :
    r_Wm X w B 6 m σ0 (r_Z X w B tX8_stepTwo (ZMV m σ0 Q)) 2 [(0, Value.ref (B + m)), (1, Value.long y1), (3, Value.int x3)] [] μ := by
  intro σ hs hM hF hμ
  subst hμ
  refine r_iload_n C dX8_stepTwo_2 rfl (j := 2) rfl ?_
  refine r_aload_n C dX8_stepTwo_3 rfl (j := 0) rfl ?_
  refine r_get (v := .int ((mu m σ).1 0 1)) C hM.1 fa_X8_145 rfl dX8_stepTwo_4 ?_
  refine r_icmp_ge (tgt := 147) C dX8_stepTwo_7 (by decide) (fun c1 => ?_) (fun c1 => ?_)
  · have h := h.1 c1
    exact r_vretQ C E rfl (Nat.zero_le _) (Nat.zero_le _) dX8_stepTwo_147 hs ⟨hF, h⟩
  · have h := h.2 c1
    refine r_iconst (v := 0) C dX8_stepTwo_10 (by decide) ?_
    refine r_istore (lv' := [(4, Value.int 0), (0, Value.ref (B + m)), (1, Value.long y1), (3, Value.int x3)]) C dX8_stepTwo_11 (by decide) rfl ?_
    exact r_loc (by simp) (h σ hs hM hF rfl)
theorem u_X8_stepTwo_13 {X : r_X} {w : r_V} {B m : Nat} {l : Launch} {Q : Mu → Prop} {σ0 : r_S} (C : r_C X w B 6 cX8_stepTwo RX8) (E : r_E X l tX8_stepTwo) {μ : Mu} {x3 x4 : Int32} {y1 : Int64}
    (h : ((μ.1 0 1) ≤ x4 → (∀ z2 : Int32, z2 = x3 + 1 → (r_Wm X w B 6 m σ0 (r_Z X w B tX8_stepTwo (ZMV m σ0 Q)) 2 [(0, Value.ref (B + m)), (1, Value.long y1), (3, Value.int z2)] [] μ))) ∧ (¬ (μ.1 0 1) ≤ x4 → (∃ Q4 : Int32 → Mu → Prop, r_MI l w B m tX8_sends [Value.int x3, Value.long y1] μ Q4 ∧ (∀ (z8 : Int32) (μ6 : Mu), Q4 z8 μ6 → ((z8 = 0 → (∀ z14 : Int32, z14 = x3 + 1 → (r_Wm X w B 6 m σ0 (r_Z X w B tX8_stepTwo (ZMV m σ0 Q)) 2 [(0, Value.ref (B + m)), (1, Value.long y1), (3, Value.int z14)] [] μ6))) ∧ (¬ z8 = 0 → (∃ Q16 : Int32 → Mu → Prop, r_MI l w B m tX8_hears [Value.int x4, Value.int x3] μ6 Q16 ∧ (∀ (z20 : Int32) (μ18 : Mu), Q16 z20 μ18 → ((z20 = 0 → (vp_in ((6 * x3) + x4) 36 ∧ (vp_in x3 6 ∧ (∀ μ29 : Mu, μ29 = ul μ18 43 (((6 * x3) + x4).toNatClampNeg) ((μ18.2 43 (((6 * x3) + x4).toNatClampNeg)) ||| ((1 : Int64) <<< (((y1 - (μ18.2 39 x3.toNatClampNeg)).toInt32).toInt64 &&& 63))) → (∀ z35 : Int32, z35 = x4 + 1 → (r_Wm X w B 6 m σ0 (r_Z X w B tX8_stepTwo (ZMV m σ0 Q)) 13 [(0, Value.ref (B + m)), (1, Value.long y1), (3, Value.int x3), (4, Value.int z35)] [] μ29)))))) ∧ (¬ z20 = 0 → (∃ Q37 : Int32 → Mu → Prop, r_MI l w B m tX8_sends [Value.int x4, Value.long y1] μ18 Q37 ∧ (∀ (z41 : Int32) (μ39 : Mu), Q37 z41 μ39 → ((z41 = 0 → (∃ Q47 : Int32 → Mu → Prop, r_MI l w B m tX8_hearsAny [Value.int x4, Value.int x3, Value.long y1] μ39 Q47 ∧ (∀ (z51 : Int32) (μ49 : Mu), Q47 z51 μ49 → ((z51 = 0 → (∃ Q57 : Int32 → Mu → Prop, r_MI l w B m tX8_hasNoise [Value.int x4, Value.long y1] μ49 Q57 ∧ (∀ (z61 : Int32) (μ59 : Mu), Q57 z61 μ59 → (∀ z68 : Int32, z68 = (if z61 = 0 then (1 : Int32) else (0 : Int32)) → (((z68 = 0 → (vp_in ((6 * x3) + x4) 36 ∧ vp_in x3 6)) ∧ (¬ z68 = 0 → (vp_in ((6 * x3) + x4) 36))) ∧ (∀ y77 : Int64, y77 = (if z68 = 0 then ((μ59.2 43 (((6 * x3) + x4).toNatClampNeg)) ||| ((1 : Int64) <<< (((y1 - (μ59.2 39 x3.toNatClampNeg)).toInt32).toInt64 &&& 63))) else (μ59.2 43 (((6 * x3) + x4).toNatClampNeg))) → (vp_in ((6 * x3) + x4) 36 ∧ (∀ μ81 : Mu, μ81 = ul μ59 43 (((6 * x3) + x4).toNatClampNeg) y77 → (∀ z87 : Int32, z87 = x4 + 1 → (r_Wm X w B 6 m σ0 (r_Z X w B tX8_stepTwo (ZMV m σ0 Q)) 13 [(0, Value.ref (B + m)), (1, Value.long y1), (3, Value.int x3), (4, Value.int z87)] [] μ81)))))))))) ∧ (¬ z51 = 0 → (vp_in ((6 * x3) + x4) 36 ∧ (vp_in x3 6 ∧ (∀ μ92 : Mu, μ92 = ul μ49 43 (((6 * x3) + x4).toNatClampNeg) ((μ49.2 43 (((6 * x3) + x4).toNatClampNeg)) ||| ((1 : Int64) <<< (((y1 - (μ49.2 39 x3.toNatClampNeg)).toInt32).toInt64 &&& 63))) → (∀ z98 : Int32, z98 = x4 + 1 → (r_Wm X w B 6 m σ0 (r_Z X w B tX8_stepTwo (ZMV m σ0 Q)) 13 [(0, Value.ref (B + m)), (1, Value.long y1), (3, Value.int x3), (4, Value.int z98)] [] μ92)))))))))) ∧ (¬ z41 = 0 → (vp_in ((6 * x3) + x4) 36 ∧ (vp_in x3 6 ∧ (∀ μ103 : Mu, μ103 = ul μ39 43 (((6 * x3) + x4).toNatClampNeg) ((μ39.2 43 (((6 * x3) + x4).toNatClampNeg)) ||| ((1 : Int64) <<< (((y1 - (μ39.2 39 x3.toNatClampNeg)).toInt32).toInt64 &&& 63))) → (∀ z109 : Int32, z109 = x4 + 1 → (r_Wm X w B 6 m σ0 (r_Z X w B tX8_stepTwo (ZMV m σ0 Q)) 13 [(0, Value.ref (B + m)), (1, Value.long y1), (3, Value.int x3), (4, Value.int z109)] [] μ103))))))))))))))))))) :
    r_Wm X w B 6 m σ0 (r_Z X w B tX8_stepTwo (ZMV m σ0 Q)) 13 [(0, Value.ref (B + m)), (1, Value.long y1), (3, Value.int x3), (4, Value.int x4)] [] μ := by
  intro σ hs hM hF hμ
  subst hμ
  refine r_iload C dX8_stepTwo_13 (j := 3) rfl ?_
  refine r_aload_n C dX8_stepTwo_15 rfl (j := 0) rfl ?_
  refine r_get (v := .int ((mu m σ).1 0 1)) C hM.1 fa_X8_145 rfl dX8_stepTwo_16 ?_
  refine r_icmp_ge (tgt := 141) C dX8_stepTwo_19 (by decide) (fun c1 => ?_) (fun c1 => ?_)
  · have h := h.1 c1
    obtain ⟨z2, e3⟩ : ∃ y : Int32, y = x3 + 1 := ⟨_, rfl⟩
    have h := h z2 e3
    refine r_iinc (v := z2) (lv' := [(3, Value.int z2), (0, Value.ref (B + m)), (1, Value.long y1), (4, Value.int x4)]) C dX8_stepTwo_141 (k := 2) rfl (by rw [e3]; rfl) (by decide) rfl ?_
    refine r_goto (tgt := 2) C dX8_stepTwo_144 (by decide) ?_
    exact r_loc (by simp) (h σ hs hM hF rfl)
  · have h := h.2 c1
    refine r_aload_n C dX8_stepTwo_22 rfl (j := 0) rfl ?_
    refine r_iload_n C dX8_stepTwo_23 rfl (j := 2) rfl ?_
    refine r_lload_n C dX8_stepTwo_24 rfl (j := 1) rfl ?_
    obtain ⟨Q4, m5, h⟩ := h
    refine r_callVI (rest := []) C E [Value.int x3, Value.long y1] hM.1 rfl ky_X8_sends kl_X8_198 ki_X8_sends kx_X8_sends ⟨Nat.le_of_ble_eq_true rfl, Nat.le_of_ble_eq_true rfl⟩ ⟨rfl, rfl⟩ (m5 σ hM rfl) rfl rfl (Nat.le_of_ble_eq_true rfl) (Nat.zero_le _) (Nat.zero_le _) dX8_stepTwo_25 (fun z8 σ6 s7 q9 => ?_)
    obtain ⟨f10, q9⟩ := q9
    have h := h z8 (mu m σ6) q9
    have M11 := hM.fr s7 f10.1
    have F12 := hF.trans f10
    have s7 := s7.trans hs
    refine r_if_eq (tgt := 141) C dX8_stepTwo_28 (by decide) (fun c13 => ?_) (fun c13 => ?_)
    · have h := h.1 c13
      obtain ⟨z14, e15⟩ : ∃ y : Int32, y = x3 + 1 := ⟨_, rfl⟩
      have h := h z14 e15
      refine r_iinc (v := z14) (lv' := [(3, Value.int z14), (0, Value.ref (B + m)), (1, Value.long y1), (4, Value.int x4)]) C dX8_stepTwo_141 (k := 2) rfl (by rw [e15]; rfl) (by decide) rfl ?_
      refine r_goto (tgt := 2) C dX8_stepTwo_144 (by decide) ?_
      exact r_loc (by simp) (h σ6 s7 M11 F12 rfl)
    · have h := h.2 c13
      refine r_aload_n C dX8_stepTwo_31 rfl (j := 0) rfl ?_
      refine r_iload C dX8_stepTwo_32 (j := 3) rfl ?_
      refine r_iload_n C dX8_stepTwo_34 rfl (j := 2) rfl ?_
      obtain ⟨Q16, m17, h⟩ := h
      refine r_callVI (rest := []) C E [Value.int x4, Value.int x3] M11.1 rfl ky_X8_hears kl_X8_205 ki_X8_hears kx_X8_hears ⟨Nat.le_of_ble_eq_true rfl, Nat.le_of_ble_eq_true rfl⟩ ⟨rfl, rfl⟩ (m17 σ6 M11 rfl) rfl rfl (Nat.le_of_ble_eq_true rfl) (Nat.zero_le _) (Nat.zero_le _) dX8_stepTwo_35 (fun z20 σ18 s19 q21 => ?_)
      obtain ⟨f22, q21⟩ := q21
      have h := h z20 (mu m σ18) q21
      have M23 := M11.fr s19 f22.1
      have F24 := F12.trans f22
      have s19 := s19.trans s7
      refine r_if_eq (tgt := 76) C dX8_stepTwo_38 (by decide) (fun c25 => ?_) (fun c25 => ?_)
      · have h := h.1 c25
        refine r_iconst (v := 0) C dX8_stepTwo_76 (by decide) ?_
        refine r_istore (lv' := [(5, Value.int 0), (0, Value.ref (B + m)), (1, Value.long y1), (3, Value.int x3), (4, Value.int x4)]) C dX8_stepTwo_77 (by decide) rfl ?_
        refine r_aload_n C dX8_stepTwo_79 rfl (j := 1) rfl ?_
        refine r_getA C M23 (k := 51) (g := 43) (ti := 1) (n := 36) (by decide) fa_X8_142 rfl dX8_stepTwo_80 ?_
        refine r_bipush (v := 6) C dX8_stepTwo_83 (by decide) ?_
        refine r_iload_n C dX8_stepTwo_85 rfl (j := 3) rfl ?_
        refine r_imul C dX8_stepTwo_86 ?_
        refine r_iload C dX8_stepTwo_87 (j := 4) rfl ?_
        refine r_iadd C dX8_stepTwo_89 ?_
        refine r_iload C dX8_stepTwo_90 (j := 0) rfl ?_
        refine r_if_eq (tgt := 110) C dX8_stepTwo_92 (by decide) (fun c26 => ?_) (fun c26 => ?_)
        · skip
          refine r_aload_n C dX8_stepTwo_110 rfl (j := 1) rfl ?_
          refine r_getA C M23 (k := 51) (g := 43) (ti := 1) (n := 36) (by decide) fa_X8_142 rfl dX8_stepTwo_111 ?_
          refine r_bipush (v := 6) C dX8_stepTwo_114 (by decide) ?_
          refine r_iload_n C dX8_stepTwo_116 rfl (j := 3) rfl ?_
          refine r_imul C dX8_stepTwo_117 ?_
          refine r_iload C dX8_stepTwo_118 (j := 4) rfl ?_
          refine r_iadd C dX8_stepTwo_120 ?_
          obtain ⟨g27, h⟩ := h
          refine r_lald (ti := 1) (n := 36) C (M23.2 (51, 43, 1, 36) (by decide)).2 ⟨rfl, fun _ => rfl⟩ g27 dX8_stepTwo_121 ?_
          refine r_lconst (v := 1) C dX8_stepTwo_122 (by decide) ?_
          refine r_lload_n C dX8_stepTwo_123 rfl (j := 2) rfl ?_
          refine r_aload_n C dX8_stepTwo_124 rfl (j := 1) rfl ?_
          refine r_getA C M23 (k := 47) (g := 39) (ti := 1) (n := 6) (by decide) fa_X8_130 rfl dX8_stepTwo_125 ?_
          refine r_iload_n C dX8_stepTwo_128 rfl (j := 3) rfl ?_
          obtain ⟨g28, h⟩ := h
          refine r_lald (ti := 1) (n := 6) C (M23.2 (47, 39, 1, 6) (by decide)).2 ⟨rfl, fun _ => rfl⟩ g28 dX8_stepTwo_129 ?_
          refine r_lsub C dX8_stepTwo_130 ?_
          refine r_l2i (v := (y1 - ((mu m σ18).2 39 x3.toNatClampNeg)).toInt32) C dX8_stepTwo_131 rfl ?_
          refine r_lshl (v := (1 : Int64) <<< (((y1 - ((mu m σ18).2 39 x3.toNatClampNeg)).toInt32).toInt64 &&& 63)) C dX8_stepTwo_132 rfl ?_
          refine r_lor C dX8_stepTwo_133 ?_
          refine r_last (ti := 1) (n := 36) C (M23.2 (51, 43, 1, 36) (by decide)).2 ⟨rfl, fun _ => rfl⟩ g27 dX8_stepTwo_134 ?_
          refine r_nam (fun σ29 e30 => ?_)
          have u34 : mu m σ29 = ul (mu m σ18) 43 (((6 * x3) + x4).toNatClampNeg) (((mu m σ18).2 43 (((6 * x3) + x4).toNatClampNeg)) ||| ((1 : Int64) <<< (((y1 - ((mu m σ18).2 39 x3.toNatClampNeg)).toInt32).toInt64 &&& 63))) := by rw [e30]; exact mu_ul (g := 43)
          have h := h (mu m σ29) u34
          have s31 : σ29.1 = σ0.1 := by rw [e30]; exact s19
          have M32 : Mo m σ29 := by rw [e30]; exact M23.fr rfl (fun _ _ => rfl)
          have F33 : Fr m σ0 σ29 := by rw [e30]; exact Fr.ul (g := 43) F24
          obtain ⟨z35, e36⟩ : ∃ y : Int32, y = x4 + 1 := ⟨_, rfl⟩
          have h := h z35 e36
          refine r_iinc (v := z35) (lv' := [(4, Value.int z35), (5, Value.int 0), (0, Value.ref (B + m)), (1, Value.long y1), (3, Value.int x3)]) C dX8_stepTwo_135 (k := 4) rfl (by rw [e36]; rfl) (by decide) rfl ?_
          refine r_goto (tgt := 13) C dX8_stepTwo_138 (by decide) ?_
          exact r_loc (by simp) (h σ29 s31 M32 F33 rfl)
        · exact absurd (by decide) c26
      · have h := h.2 c25
        refine r_aload_n C dX8_stepTwo_41 rfl (j := 0) rfl ?_
        refine r_iload C dX8_stepTwo_42 (j := 3) rfl ?_
        refine r_lload_n C dX8_stepTwo_44 rfl (j := 1) rfl ?_
        obtain ⟨Q37, m38, h⟩ := h
        refine r_callVI (rest := []) C E [Value.int x4, Value.long y1] M23.1 rfl ky_X8_sends kl_X8_198 ki_X8_sends kx_X8_sends ⟨Nat.le_of_ble_eq_true rfl, Nat.le_of_ble_eq_true rfl⟩ ⟨rfl, rfl⟩ (m38 σ18 M23 rfl) rfl rfl (Nat.le_of_ble_eq_true rfl) (Nat.zero_le _) (Nat.zero_le _) dX8_stepTwo_45 (fun z41 σ39 s40 q42 => ?_)
        obtain ⟨f43, q42⟩ := q42
        have h := h z41 (mu m σ39) q42
        have M44 := M23.fr s40 f43.1
        have F45 := F24.trans f43
        have s40 := s40.trans s19
        refine r_if_ne (tgt := 76) C dX8_stepTwo_48 (by decide) (fun c46 => ?_) (fun c46 => ?_)
        · have h := h.2 c46
          refine r_iconst (v := 0) C dX8_stepTwo_76 (by decide) ?_
          refine r_istore (lv' := [(5, Value.int 0), (0, Value.ref (B + m)), (1, Value.long y1), (3, Value.int x3), (4, Value.int x4)]) C dX8_stepTwo_77 (by decide) rfl ?_
          refine r_aload_n C dX8_stepTwo_79 rfl (j := 1) rfl ?_
          refine r_getA C M44 (k := 51) (g := 43) (ti := 1) (n := 36) (by decide) fa_X8_142 rfl dX8_stepTwo_80 ?_
          refine r_bipush (v := 6) C dX8_stepTwo_83 (by decide) ?_
          refine r_iload_n C dX8_stepTwo_85 rfl (j := 3) rfl ?_
          refine r_imul C dX8_stepTwo_86 ?_
          refine r_iload C dX8_stepTwo_87 (j := 4) rfl ?_
          refine r_iadd C dX8_stepTwo_89 ?_
          refine r_iload C dX8_stepTwo_90 (j := 0) rfl ?_
          refine r_if_eq (tgt := 110) C dX8_stepTwo_92 (by decide) (fun c100 => ?_) (fun c100 => ?_)
          · skip
            refine r_aload_n C dX8_stepTwo_110 rfl (j := 1) rfl ?_
            refine r_getA C M44 (k := 51) (g := 43) (ti := 1) (n := 36) (by decide) fa_X8_142 rfl dX8_stepTwo_111 ?_
            refine r_bipush (v := 6) C dX8_stepTwo_114 (by decide) ?_
            refine r_iload_n C dX8_stepTwo_116 rfl (j := 3) rfl ?_
            refine r_imul C dX8_stepTwo_117 ?_
            refine r_iload C dX8_stepTwo_118 (j := 4) rfl ?_
            refine r_iadd C dX8_stepTwo_120 ?_
            obtain ⟨g101, h⟩ := h
            refine r_lald (ti := 1) (n := 36) C (M44.2 (51, 43, 1, 36) (by decide)).2 ⟨rfl, fun _ => rfl⟩ g101 dX8_stepTwo_121 ?_
            refine r_lconst (v := 1) C dX8_stepTwo_122 (by decide) ?_
            refine r_lload_n C dX8_stepTwo_123 rfl (j := 2) rfl ?_
            refine r_aload_n C dX8_stepTwo_124 rfl (j := 1) rfl ?_
            refine r_getA C M44 (k := 47) (g := 39) (ti := 1) (n := 6) (by decide) fa_X8_130 rfl dX8_stepTwo_125 ?_
            refine r_iload_n C dX8_stepTwo_128 rfl (j := 3) rfl ?_
            obtain ⟨g102, h⟩ := h
            refine r_lald (ti := 1) (n := 6) C (M44.2 (47, 39, 1, 6) (by decide)).2 ⟨rfl, fun _ => rfl⟩ g102 dX8_stepTwo_129 ?_
            refine r_lsub C dX8_stepTwo_130 ?_
            refine r_l2i (v := (y1 - ((mu m σ39).2 39 x3.toNatClampNeg)).toInt32) C dX8_stepTwo_131 rfl ?_
            refine r_lshl (v := (1 : Int64) <<< (((y1 - ((mu m σ39).2 39 x3.toNatClampNeg)).toInt32).toInt64 &&& 63)) C dX8_stepTwo_132 rfl ?_
            refine r_lor C dX8_stepTwo_133 ?_
            refine r_last (ti := 1) (n := 36) C (M44.2 (51, 43, 1, 36) (by decide)).2 ⟨rfl, fun _ => rfl⟩ g101 dX8_stepTwo_134 ?_
            refine r_nam (fun σ103 e104 => ?_)
            have u108 : mu m σ103 = ul (mu m σ39) 43 (((6 * x3) + x4).toNatClampNeg) (((mu m σ39).2 43 (((6 * x3) + x4).toNatClampNeg)) ||| ((1 : Int64) <<< (((y1 - ((mu m σ39).2 39 x3.toNatClampNeg)).toInt32).toInt64 &&& 63))) := by rw [e104]; exact mu_ul (g := 43)
            have h := h (mu m σ103) u108
            have s105 : σ103.1 = σ0.1 := by rw [e104]; exact s40
            have M106 : Mo m σ103 := by rw [e104]; exact M44.fr rfl (fun _ _ => rfl)
            have F107 : Fr m σ0 σ103 := by rw [e104]; exact Fr.ul (g := 43) F45
            obtain ⟨z109, e110⟩ : ∃ y : Int32, y = x4 + 1 := ⟨_, rfl⟩
            have h := h z109 e110
            refine r_iinc (v := z109) (lv' := [(4, Value.int z109), (5, Value.int 0), (0, Value.ref (B + m)), (1, Value.long y1), (3, Value.int x3)]) C dX8_stepTwo_135 (k := 4) rfl (by rw [e110]; rfl) (by decide) rfl ?_
            refine r_goto (tgt := 13) C dX8_stepTwo_138 (by decide) ?_
            exact r_loc (by simp) (h σ103 s105 M106 F107 rfl)
          · exact absurd (by decide) c100
        · have h := h.1 c46
          refine r_aload_n C dX8_stepTwo_51 rfl (j := 0) rfl ?_
          refine r_iload C dX8_stepTwo_52 (j := 3) rfl ?_
          refine r_iload_n C dX8_stepTwo_54 rfl (j := 2) rfl ?_
          refine r_lload_n C dX8_stepTwo_55 rfl (j := 1) rfl ?_
          obtain ⟨Q47, m48, h⟩ := h
          refine r_callVI (rest := []) C E [Value.int x4, Value.int x3, Value.long y1] M44.1 rfl ky_X8_hearsAny kl_X8_209 ki_X8_hearsAny kx_X8_hearsAny ⟨Nat.le_of_ble_eq_true rfl, Nat.le_of_ble_eq_true rfl⟩ ⟨rfl, rfl⟩ (m48 σ39 M44 rfl) rfl rfl (Nat.le_of_ble_eq_true rfl) (Nat.zero_le _) (Nat.zero_le _) dX8_stepTwo_56 (fun z51 σ49 s50 q52 => ?_)
          obtain ⟨f53, q52⟩ := q52
          have h := h z51 (mu m σ49) q52
          have M54 := M44.fr s50 f53.1
          have F55 := F45.trans f53
          have s50 := s50.trans s40
          refine r_if_ne (tgt := 76) C dX8_stepTwo_59 (by decide) (fun c56 => ?_) (fun c56 => ?_)
          · have h := h.2 c56
            refine r_iconst (v := 0) C dX8_stepTwo_76 (by decide) ?_
            refine r_istore (lv' := [(5, Value.int 0), (0, Value.ref (B + m)), (1, Value.long y1), (3, Value.int x3), (4, Value.int x4)]) C dX8_stepTwo_77 (by decide) rfl ?_
            refine r_aload_n C dX8_stepTwo_79 rfl (j := 1) rfl ?_
            refine r_getA C M54 (k := 51) (g := 43) (ti := 1) (n := 36) (by decide) fa_X8_142 rfl dX8_stepTwo_80 ?_
            refine r_bipush (v := 6) C dX8_stepTwo_83 (by decide) ?_
            refine r_iload_n C dX8_stepTwo_85 rfl (j := 3) rfl ?_
            refine r_imul C dX8_stepTwo_86 ?_
            refine r_iload C dX8_stepTwo_87 (j := 4) rfl ?_
            refine r_iadd C dX8_stepTwo_89 ?_
            refine r_iload C dX8_stepTwo_90 (j := 0) rfl ?_
            refine r_if_eq (tgt := 110) C dX8_stepTwo_92 (by decide) (fun c89 => ?_) (fun c89 => ?_)
            · skip
              refine r_aload_n C dX8_stepTwo_110 rfl (j := 1) rfl ?_
              refine r_getA C M54 (k := 51) (g := 43) (ti := 1) (n := 36) (by decide) fa_X8_142 rfl dX8_stepTwo_111 ?_
              refine r_bipush (v := 6) C dX8_stepTwo_114 (by decide) ?_
              refine r_iload_n C dX8_stepTwo_116 rfl (j := 3) rfl ?_
              refine r_imul C dX8_stepTwo_117 ?_
              refine r_iload C dX8_stepTwo_118 (j := 4) rfl ?_
              refine r_iadd C dX8_stepTwo_120 ?_
              obtain ⟨g90, h⟩ := h
              refine r_lald (ti := 1) (n := 36) C (M54.2 (51, 43, 1, 36) (by decide)).2 ⟨rfl, fun _ => rfl⟩ g90 dX8_stepTwo_121 ?_
              refine r_lconst (v := 1) C dX8_stepTwo_122 (by decide) ?_
              refine r_lload_n C dX8_stepTwo_123 rfl (j := 2) rfl ?_
              refine r_aload_n C dX8_stepTwo_124 rfl (j := 1) rfl ?_
              refine r_getA C M54 (k := 47) (g := 39) (ti := 1) (n := 6) (by decide) fa_X8_130 rfl dX8_stepTwo_125 ?_
              refine r_iload_n C dX8_stepTwo_128 rfl (j := 3) rfl ?_
              obtain ⟨g91, h⟩ := h
              refine r_lald (ti := 1) (n := 6) C (M54.2 (47, 39, 1, 6) (by decide)).2 ⟨rfl, fun _ => rfl⟩ g91 dX8_stepTwo_129 ?_
              refine r_lsub C dX8_stepTwo_130 ?_
              refine r_l2i (v := (y1 - ((mu m σ49).2 39 x3.toNatClampNeg)).toInt32) C dX8_stepTwo_131 rfl ?_
              refine r_lshl (v := (1 : Int64) <<< (((y1 - ((mu m σ49).2 39 x3.toNatClampNeg)).toInt32).toInt64 &&& 63)) C dX8_stepTwo_132 rfl ?_
              refine r_lor C dX8_stepTwo_133 ?_
              refine r_last (ti := 1) (n := 36) C (M54.2 (51, 43, 1, 36) (by decide)).2 ⟨rfl, fun _ => rfl⟩ g90 dX8_stepTwo_134 ?_
              refine r_nam (fun σ92 e93 => ?_)
              have u97 : mu m σ92 = ul (mu m σ49) 43 (((6 * x3) + x4).toNatClampNeg) (((mu m σ49).2 43 (((6 * x3) + x4).toNatClampNeg)) ||| ((1 : Int64) <<< (((y1 - ((mu m σ49).2 39 x3.toNatClampNeg)).toInt32).toInt64 &&& 63))) := by rw [e93]; exact mu_ul (g := 43)
              have h := h (mu m σ92) u97
              have s94 : σ92.1 = σ0.1 := by rw [e93]; exact s50
              have M95 : Mo m σ92 := by rw [e93]; exact M54.fr rfl (fun _ _ => rfl)
              have F96 : Fr m σ0 σ92 := by rw [e93]; exact Fr.ul (g := 43) F55
              obtain ⟨z98, e99⟩ : ∃ y : Int32, y = x4 + 1 := ⟨_, rfl⟩
              have h := h z98 e99
              refine r_iinc (v := z98) (lv' := [(4, Value.int z98), (5, Value.int 0), (0, Value.ref (B + m)), (1, Value.long y1), (3, Value.int x3)]) C dX8_stepTwo_135 (k := 4) rfl (by rw [e99]; rfl) (by decide) rfl ?_
              refine r_goto (tgt := 13) C dX8_stepTwo_138 (by decide) ?_
              exact r_loc (by simp) (h σ92 s94 M95 F96 rfl)
            · exact absurd (by decide) c89
          · have h := h.1 c56
            refine r_aload_n C dX8_stepTwo_62 rfl (j := 0) rfl ?_
            refine r_iload C dX8_stepTwo_63 (j := 3) rfl ?_
            refine r_lload_n C dX8_stepTwo_65 rfl (j := 1) rfl ?_
            obtain ⟨Q57, m58, h⟩ := h
            refine r_callVI (rest := []) C E [Value.int x4, Value.long y1] M54.1 rfl ky_X8_hasNoise kl_X8_213 ki_X8_hasNoise kx_X8_hasNoise ⟨Nat.le_of_ble_eq_true rfl, Nat.le_of_ble_eq_true rfl⟩ ⟨rfl, rfl⟩ (m58 σ49 M54 rfl) rfl rfl (Nat.le_of_ble_eq_true rfl) (Nat.zero_le _) (Nat.zero_le _) dX8_stepTwo_66 (fun z61 σ59 s60 q62 => ?_)
            obtain ⟨f63, q62⟩ := q62
            have h := h z61 (mu m σ59) q62
            have M64 := M54.fr s60 f63.1
            have F65 := F55.trans f63
            have s60 := s60.trans s50
            have k70 : ∀ z68 : Int32, z68 = (if z61 = 0 then (1 : Int32) else (0 : Int32)) → r_W X w B 6 0 0 (r_Z X w B tX8_stepTwo (ZMV m σ0 Q)) 77 [(0, Value.ref (B + m)), (1, Value.long y1), (3, Value.int x3), (4, Value.int x4)] [Value.int z68] σ59 := by
              intro z68 e69
              have h := h z68 e69
              refine r_istore (lv' := [(5, Value.int z68), (0, Value.ref (B + m)), (1, Value.long y1), (3, Value.int x3), (4, Value.int x4)]) C dX8_stepTwo_77 (by decide) rfl ?_
              refine r_aload_n C dX8_stepTwo_79 rfl (j := 1) rfl ?_
              refine r_getA C M64 (k := 51) (g := 43) (ti := 1) (n := 36) (by decide) fa_X8_142 rfl dX8_stepTwo_80 ?_
              refine r_bipush (v := 6) C dX8_stepTwo_83 (by decide) ?_
              refine r_iload_n C dX8_stepTwo_85 rfl (j := 3) rfl ?_
              refine r_imul C dX8_stepTwo_86 ?_
              refine r_iload C dX8_stepTwo_87 (j := 4) rfl ?_
              refine r_iadd C dX8_stepTwo_89 ?_
              refine r_iload C dX8_stepTwo_90 (j := 0) rfl ?_
              obtain ⟨g76, h⟩ := h
              have k79 : ∀ y77 : Int64, y77 = (if z68 = 0 then (((mu m σ59).2 43 (((6 * x3) + x4).toNatClampNeg)) ||| ((1 : Int64) <<< (((y1 - ((mu m σ59).2 39 x3.toNatClampNeg)).toInt32).toInt64 &&& 63))) else ((mu m σ59).2 43 (((6 * x3) + x4).toNatClampNeg))) → r_W X w B 6 0 0 (r_Z X w B tX8_stepTwo (ZMV m σ0 Q)) 134 [(5, Value.int z68), (0, Value.ref (B + m)), (1, Value.long y1), (3, Value.int x3), (4, Value.int x4)] [Value.long y77, Value.int ((6 * x3) + x4), Value.ref (B + (m + 43))] σ59 := by
                intro y77 e78
                have h := h y77 e78
                obtain ⟨g80, h⟩ := h
                refine r_last (ti := 1) (n := 36) C (M64.2 (51, 43, 1, 36) (by decide)).2 ⟨rfl, fun _ => rfl⟩ g80 dX8_stepTwo_134 ?_
                refine r_nam (fun σ81 e82 => ?_)
                have u86 : mu m σ81 = ul (mu m σ59) 43 (((6 * x3) + x4).toNatClampNeg) y77 := by rw [e82]; exact mu_ul (g := 43)
                have h := h (mu m σ81) u86
                have s83 : σ81.1 = σ0.1 := by rw [e82]; exact s60
                have M84 : Mo m σ81 := by rw [e82]; exact M64.fr rfl (fun _ _ => rfl)
                have F85 : Fr m σ0 σ81 := by rw [e82]; exact Fr.ul (g := 43) F65
                obtain ⟨z87, e88⟩ : ∃ y : Int32, y = x4 + 1 := ⟨_, rfl⟩
                have h := h z87 e88
                refine r_iinc (v := z87) (lv' := [(4, Value.int z87), (5, Value.int z68), (0, Value.ref (B + m)), (1, Value.long y1), (3, Value.int x3)]) C dX8_stepTwo_135 (k := 4) rfl (by rw [e88]; rfl) (by decide) rfl ?_
                refine r_goto (tgt := 13) C dX8_stepTwo_138 (by decide) ?_
                exact r_loc (by simp) (h σ81 s83 M84 F85 rfl)
              clear h
              refine r_if_eq (tgt := 110) C dX8_stepTwo_92 (by decide) (fun c71 => ?_) (fun c71 => ?_)
              · have c71 : z68 = 0 := c71
                have h := g76.1 c71
                refine r_aload_n C dX8_stepTwo_110 rfl (j := 1) rfl ?_
                refine r_getA C M64 (k := 51) (g := 43) (ti := 1) (n := 36) (by decide) fa_X8_142 rfl dX8_stepTwo_111 ?_
                refine r_bipush (v := 6) C dX8_stepTwo_114 (by decide) ?_
                refine r_iload_n C dX8_stepTwo_116 rfl (j := 3) rfl ?_
                refine r_imul C dX8_stepTwo_117 ?_
                refine r_iload C dX8_stepTwo_118 (j := 4) rfl ?_
                refine r_iadd C dX8_stepTwo_120 ?_
                obtain ⟨g73, h⟩ := h
                refine r_lald (ti := 1) (n := 36) C (M64.2 (51, 43, 1, 36) (by decide)).2 ⟨rfl, fun _ => rfl⟩ g73 dX8_stepTwo_121 ?_
                refine r_lconst (v := 1) C dX8_stepTwo_122 (by decide) ?_
                refine r_lload_n C dX8_stepTwo_123 rfl (j := 2) rfl ?_
                refine r_aload_n C dX8_stepTwo_124 rfl (j := 1) rfl ?_
                refine r_getA C M64 (k := 47) (g := 39) (ti := 1) (n := 6) (by decide) fa_X8_130 rfl dX8_stepTwo_125 ?_
                refine r_iload_n C dX8_stepTwo_128 rfl (j := 3) rfl ?_
                have g74 := h
                refine r_lald (ti := 1) (n := 6) C (M64.2 (47, 39, 1, 6) (by decide)).2 ⟨rfl, fun _ => rfl⟩ g74 dX8_stepTwo_129 ?_
                refine r_lsub C dX8_stepTwo_130 ?_
                refine r_l2i (v := (y1 - ((mu m σ59).2 39 x3.toNatClampNeg)).toInt32) C dX8_stepTwo_131 rfl ?_
                refine r_lshl (v := (1 : Int64) <<< (((y1 - ((mu m σ59).2 39 x3.toNatClampNeg)).toInt32).toInt64 &&& 63)) C dX8_stepTwo_132 rfl ?_
                refine r_lor C dX8_stepTwo_133 ?_
                exact k79 _ (by rw [if_pos c71] <;> rfl)
              · have c71 : ¬ z68 = 0 := c71
                have h := g76.2 c71
                refine r_aload_n C dX8_stepTwo_95 rfl (j := 1) rfl ?_
                refine r_getA C M64 (k := 51) (g := 43) (ti := 1) (n := 36) (by decide) fa_X8_142 rfl dX8_stepTwo_96 ?_
                refine r_bipush (v := 6) C dX8_stepTwo_99 (by decide) ?_
                refine r_iload_n C dX8_stepTwo_101 rfl (j := 3) rfl ?_
                refine r_imul C dX8_stepTwo_102 ?_
                refine r_iload C dX8_stepTwo_103 (j := 4) rfl ?_
                refine r_iadd C dX8_stepTwo_105 ?_
                have g75 := h
                refine r_lald (ti := 1) (n := 36) C (M64.2 (51, 43, 1, 36) (by decide)).2 ⟨rfl, fun _ => rfl⟩ g75 dX8_stepTwo_106 ?_
                refine r_goto (tgt := 134) C dX8_stepTwo_107 (by decide) ?_
                exact k79 _ (by rw [if_neg c71] <;> rfl)
            clear h
            refine r_if_ne (tgt := 76) C dX8_stepTwo_69 (by decide) (fun c66 => ?_) (fun c66 => ?_)
            · have c66 : ¬ z61 = 0 := c66
              refine r_iconst (v := 0) C dX8_stepTwo_76 (by decide) ?_
              exact k70 _ (by rw [if_neg c66] <;> rfl)
            · have c66 : z61 = 0 := c66
              refine r_iconst (v := 1) C dX8_stepTwo_72 (by decide) ?_
              refine r_goto (tgt := 77) C dX8_stepTwo_73 (by decide) ?_
              exact k70 _ (by rw [if_pos c66] <;> rfl)
theorem u_X8_left_0 {X : r_X} {w : r_V} {B m : Nat} {l : Launch} {Q : Int32 → Mu → Prop} {σ0 : r_S} (C : r_C X w B 2 cX8_left RX8) (E : r_E X l tX8_left) {μ : Mu} {x1 : Int32}
    (h : vp_in x1 6 ∧ (∀ z8 : Int32, z8 = (if (μ.1 37 x1.toNatClampNeg) = 1 then (7 + (μ.1 41 x1.toNatClampNeg)) else (if (μ.1 37 x1.toNatClampNeg) = 2 then (4 + (μ.1 41 x1.toNatClampNeg)) else (if (μ.1 37 x1.toNatClampNeg) = 3 then (3 : Int32) else (0 : Int32)))) → (Q z8 μ))) :
    r_Wm X w B 2 m σ0 (r_Z X w B tX8_left (ZMI m σ0 Q)) 0 [(0, Value.ref (B + m)), (1, Value.int x1)] [] μ := by
  intro σ hs hM hF hμ
  subst hμ
  refine r_aload_n C dX8_left_0 rfl (j := 0) rfl ?_
  refine r_getA C hM (k := 45) (g := 37) (ti := 0) (n := 6) (by decide) fa_X8_124 rfl dX8_left_1 ?_
  refine r_iload_n C dX8_left_4 rfl (j := 1) rfl ?_
  obtain ⟨g1, h⟩ := h
  refine r_iald (ti := 0) (n := 6) C (hM.2 (45, 37, 0, 6) (by decide)).2 ⟨rfl, fun _ => rfl⟩ g1 dX8_left_5 ?_
  refine r_iconst (v := 1) C dX8_left_6 (by decide) ?_
  have k10 : ∀ z8 : Int32, z8 = (if ((mu m σ).1 37 x1.toNatClampNeg) = 1 then (7 + ((mu m σ).1 41 x1.toNatClampNeg)) else (if ((mu m σ).1 37 x1.toNatClampNeg) = 2 then (4 + ((mu m σ).1 41 x1.toNatClampNeg)) else (if ((mu m σ).1 37 x1.toNatClampNeg) = 3 then (3 : Int32) else (0 : Int32)))) → r_W X w B 2 0 0 (r_Z X w B tX8_left (ZMI m σ0 Q)) 58 [(0, Value.ref (B + m)), (1, Value.int x1)] [Value.int z8] σ := by
    intro z8 e9
    have h := h z8 e9
    exact r_iretQ C E rfl (Nat.zero_le _) (Nat.zero_le _) dX8_left_58 hs ⟨hF, h⟩
  clear h
  refine r_icmp_ne (tgt := 22) C dX8_left_7 (by decide) (fun c2 => ?_) (fun c2 => ?_)
  · have c2 : ¬ ((mu m σ).1 37 x1.toNatClampNeg) = 1 := c2
    refine r_aload_n C dX8_left_22 rfl (j := 0) rfl ?_
    refine r_getA C hM (k := 45) (g := 37) (ti := 0) (n := 6) (by decide) fa_X8_124 rfl dX8_left_23 ?_
    refine r_iload_n C dX8_left_26 rfl (j := 1) rfl ?_
    refine r_iald (ti := 0) (n := 6) C (hM.2 (45, 37, 0, 6) (by decide)).2 ⟨rfl, fun _ => rfl⟩ g1 dX8_left_27 ?_
    refine r_iconst (v := 2) C dX8_left_28 (by decide) ?_
    refine r_icmp_ne (tgt := 43) C dX8_left_29 (by decide) (fun c4 => ?_) (fun c4 => ?_)
    · have c4 : ¬ ((mu m σ).1 37 x1.toNatClampNeg) = 2 := c4
      refine r_aload_n C dX8_left_43 rfl (j := 0) rfl ?_
      refine r_getA C hM (k := 45) (g := 37) (ti := 0) (n := 6) (by decide) fa_X8_124 rfl dX8_left_44 ?_
      refine r_iload_n C dX8_left_47 rfl (j := 1) rfl ?_
      refine r_iald (ti := 0) (n := 6) C (hM.2 (45, 37, 0, 6) (by decide)).2 ⟨rfl, fun _ => rfl⟩ g1 dX8_left_48 ?_
      refine r_iconst (v := 3) C dX8_left_49 (by decide) ?_
      refine r_icmp_ne (tgt := 57) C dX8_left_50 (by decide) (fun c6 => ?_) (fun c6 => ?_)
      · have c6 : ¬ ((mu m σ).1 37 x1.toNatClampNeg) = 3 := c6
        refine r_iconst (v := 0) C dX8_left_57 (by decide) ?_
        exact k10 _ (by rw [if_neg c2, if_neg c4, if_neg c6] <;> rfl)
      · have c6 : ((mu m σ).1 37 x1.toNatClampNeg) = 3 := c6
        refine r_iconst (v := 3) C dX8_left_53 (by decide) ?_
        refine r_goto (tgt := 58) C dX8_left_54 (by decide) ?_
        exact k10 _ (by rw [if_neg c2, if_neg c4, if_pos c6] <;> rfl)
    · have c4 : ((mu m σ).1 37 x1.toNatClampNeg) = 2 := c4
      refine r_iconst (v := 4) C dX8_left_32 (by decide) ?_
      refine r_aload_n C dX8_left_33 rfl (j := 0) rfl ?_
      refine r_getA C hM (k := 49) (g := 41) (ti := 0) (n := 6) (by decide) fa_X8_136 rfl dX8_left_34 ?_
      refine r_iload_n C dX8_left_37 rfl (j := 1) rfl ?_
      refine r_iald (ti := 0) (n := 6) C (hM.2 (49, 41, 0, 6) (by decide)).2 ⟨rfl, fun _ => rfl⟩ g1 dX8_left_38 ?_
      refine r_iadd C dX8_left_39 ?_
      refine r_goto (tgt := 58) C dX8_left_40 (by decide) ?_
      exact k10 _ (by rw [if_neg c2, if_pos c4] <;> rfl)
  · have c2 : ((mu m σ).1 37 x1.toNatClampNeg) = 1 := c2
    refine r_bipush (v := 7) C dX8_left_10 (by decide) ?_
    refine r_aload_n C dX8_left_12 rfl (j := 0) rfl ?_
    refine r_getA C hM (k := 49) (g := 41) (ti := 0) (n := 6) (by decide) fa_X8_136 rfl dX8_left_13 ?_
    refine r_iload_n C dX8_left_16 rfl (j := 1) rfl ?_
    refine r_iald (ti := 0) (n := 6) C (hM.2 (49, 41, 0, 6) (by decide)).2 ⟨rfl, fun _ => rfl⟩ g1 dX8_left_17 ?_
    refine r_iadd C dX8_left_18 ?_
    refine r_goto (tgt := 58) C dX8_left_19 (by decide) ?_
    exact k10 _ (by rw [if_pos c2] <;> rfl)
theorem u_X8_due_0 {X : r_X} {w : r_V} {B m : Nat} {l : Launch} {Q : Mu → Prop} {σ0 : r_S} (C : r_C X w B 8 cX8_due RX8) (E : r_E X l tX8_due) {μ : Mu} {x1 x2 x3 x4 x5 : Int32} {y6 : Int64}
    (h : vp_in x1 6 ∧ (∀ μ2 : Mu, μ2 = ul μ 26 x1.toNatClampNeg (y6 + 2) → (∀ μ8 : Mu, μ8 = ui μ2 27 x1.toNatClampNeg x2 → (∀ μ14 : Mu, μ14 = ui μ8 28 x1.toNatClampNeg x3 → (∀ μ20 : Mu, μ20 = ui μ14 29 x1.toNatClampNeg x4 → (∀ μ26 : Mu, μ26 = ui μ20 30 x1.toNatClampNeg x5 → (Q μ26))))))) :
    r_Wm X w B 8 m σ0 (r_Z X w B tX8_due (ZMV m σ0 Q)) 0 [(0, Value.ref (B + m)), (1, Value.int x1), (2, Value.int x2), (3, Value.int x3), (4, Value.int x4), (5, Value.int x5), (6, Value.long y6)] [] μ := by
  intro σ hs hM hF hμ
  subst hμ
  refine r_aload_n C dX8_due_0 rfl (j := 0) rfl ?_
  refine r_getA C hM (k := 34) (g := 26) (ti := 1) (n := 6) (by decide) fa_X8_91 rfl dX8_due_1 ?_
  refine r_iload_n C dX8_due_4 rfl (j := 1) rfl ?_
  refine r_lload C dX8_due_5 (j := 6) rfl ?_
  refine r_ldc2 (v := 2) C kj_X8_216 dX8_due_7 ?_
  refine r_ladd C dX8_due_10 ?_
  obtain ⟨g1, h⟩ := h
  refine r_last (ti := 1) (n := 6) C (hM.2 (34, 26, 1, 6) (by decide)).2 ⟨rfl, fun _ => rfl⟩ g1 dX8_due_11 ?_
  refine r_nam (fun σ2 e3 => ?_)
  have u7 : mu m σ2 = ul (mu m σ) 26 x1.toNatClampNeg (y6 + 2) := by rw [e3]; exact mu_ul (g := 26)
  have h := h (mu m σ2) u7
  have s4 : σ2.1 = σ0.1 := by rw [e3]; exact hs
  have M5 : Mo m σ2 := by rw [e3]; exact hM.fr rfl (fun _ _ => rfl)
  have F6 : Fr m σ0 σ2 := by rw [e3]; exact Fr.ul (g := 26) hF
  refine r_aload_n C dX8_due_12 rfl (j := 0) rfl ?_
  refine r_getA C M5 (k := 35) (g := 27) (ti := 0) (n := 6) (by decide) fa_X8_94 rfl dX8_due_13 ?_
  refine r_iload_n C dX8_due_16 rfl (j := 1) rfl ?_
  refine r_iload_n C dX8_due_17 rfl (j := 2) rfl ?_
  refine r_iast (ti := 0) (n := 6) C (M5.2 (35, 27, 0, 6) (by decide)).2 ⟨rfl, fun _ => rfl⟩ g1 dX8_due_18 ?_
  refine r_nam (fun σ8 e9 => ?_)
  have u13 : mu m σ8 = ui (mu m σ2) 27 x1.toNatClampNeg x2 := by rw [e9]; exact mu_ui (g := 27)
  have h := h (mu m σ8) u13
  have s10 : σ8.1 = σ0.1 := by rw [e9]; exact s4
  have M11 : Mo m σ8 := by rw [e9]; exact M5.fr rfl (fun _ _ => rfl)
  have F12 : Fr m σ0 σ8 := by rw [e9]; exact Fr.ui (g := 27) F6
  refine r_aload_n C dX8_due_19 rfl (j := 0) rfl ?_
  refine r_getA C M11 (k := 36) (g := 28) (ti := 0) (n := 6) (by decide) fa_X8_97 rfl dX8_due_20 ?_
  refine r_iload_n C dX8_due_23 rfl (j := 1) rfl ?_
  refine r_iload_n C dX8_due_24 rfl (j := 3) rfl ?_
  refine r_iast (ti := 0) (n := 6) C (M11.2 (36, 28, 0, 6) (by decide)).2 ⟨rfl, fun _ => rfl⟩ g1 dX8_due_25 ?_
  refine r_nam (fun σ14 e15 => ?_)
  have u19 : mu m σ14 = ui (mu m σ8) 28 x1.toNatClampNeg x3 := by rw [e15]; exact mu_ui (g := 28)
  have h := h (mu m σ14) u19
  have s16 : σ14.1 = σ0.1 := by rw [e15]; exact s10
  have M17 : Mo m σ14 := by rw [e15]; exact M11.fr rfl (fun _ _ => rfl)
  have F18 : Fr m σ0 σ14 := by rw [e15]; exact Fr.ui (g := 28) F12
  refine r_aload_n C dX8_due_26 rfl (j := 0) rfl ?_
  refine r_getA C M17 (k := 37) (g := 29) (ti := 0) (n := 6) (by decide) fa_X8_100 rfl dX8_due_27 ?_
  refine r_iload_n C dX8_due_30 rfl (j := 1) rfl ?_
  refine r_iload C dX8_due_31 (j := 4) rfl ?_
  refine r_iast (ti := 0) (n := 6) C (M17.2 (37, 29, 0, 6) (by decide)).2 ⟨rfl, fun _ => rfl⟩ g1 dX8_due_33 ?_
  refine r_nam (fun σ20 e21 => ?_)
  have u25 : mu m σ20 = ui (mu m σ14) 29 x1.toNatClampNeg x4 := by rw [e21]; exact mu_ui (g := 29)
  have h := h (mu m σ20) u25
  have s22 : σ20.1 = σ0.1 := by rw [e21]; exact s16
  have M23 : Mo m σ20 := by rw [e21]; exact M17.fr rfl (fun _ _ => rfl)
  have F24 : Fr m σ0 σ20 := by rw [e21]; exact Fr.ui (g := 29) F18
  refine r_aload_n C dX8_due_34 rfl (j := 0) rfl ?_
  refine r_getA C M23 (k := 38) (g := 30) (ti := 0) (n := 6) (by decide) fa_X8_103 rfl dX8_due_35 ?_
  refine r_iload_n C dX8_due_38 rfl (j := 1) rfl ?_
  refine r_iload C dX8_due_39 (j := 5) rfl ?_
  refine r_iast (ti := 0) (n := 6) C (M23.2 (38, 30, 0, 6) (by decide)).2 ⟨rfl, fun _ => rfl⟩ g1 dX8_due_41 ?_
  refine r_nam (fun σ26 e27 => ?_)
  have u31 : mu m σ26 = ui (mu m σ20) 30 x1.toNatClampNeg x5 := by rw [e27]; exact mu_ui (g := 30)
  have h := h (mu m σ26) u31
  have s28 : σ26.1 = σ0.1 := by rw [e27]; exact s22
  have M29 : Mo m σ26 := by rw [e27]; exact M23.fr rfl (fun _ _ => rfl)
  have F30 : Fr m σ0 σ26 := by rw [e27]; exact Fr.ui (g := 30) F24
  exact r_vretQ C E rfl (Nat.zero_le _) (Nat.zero_le _) dX8_due_42 s28 ⟨F30, h⟩
theorem u_X8_handOver_0 {X : r_X} {w : r_V} {B m : Nat} {l : Launch} {Q : Mu → Prop} {σ0 : r_S} (C : r_C X w B 4 cX8_handOver RX8) (E : r_E X l tX8_handOver) {μ : Mu} {x1 : Int32} {y2 : Int64}
    (h : vp_in x1 301 ∧ (∀ μ2 : Mu, μ2 = ui μ 7 x1.toNatClampNeg 0 → (∃ Q8 : Mu → Prop, r_MV l w B m tX8_tell [Value.int x1, Value.int 1, Value.long y2] μ2 Q8 ∧ (∀ μ10 : Mu, Q8 μ10 → (Q μ10))))) :
    r_Wm X w B 4 m σ0 (r_Z X w B tX8_handOver (ZMV m σ0 Q)) 0 [(0, Value.ref (B + m)), (1, Value.int x1), (2, Value.long y2)] [] μ := by
  intro σ hs hM hF hμ
  subst hμ
  refine r_aload_n C dX8_handOver_0 rfl (j := 0) rfl ?_
  refine r_getA C hM (k := 11) (g := 7) (ti := 2) (n := 301) (by decide) fa_X8_33 rfl dX8_handOver_1 ?_
  refine r_iload_n C dX8_handOver_4 rfl (j := 1) rfl ?_
  refine r_iconst (v := 0) C dX8_handOver_5 (by decide) ?_
  obtain ⟨g1, h⟩ := h
  refine r_zast (ti := 2) (n := 301) C (hM.2 (11, 7, 2, 301) (by decide)).2 ⟨rfl, fun _ => rfl⟩ g1 (by decide) dX8_handOver_6 ?_
  refine r_nam (fun σ2 e3 => ?_)
  have u7 : mu m σ2 = ui (mu m σ) 7 x1.toNatClampNeg 0 := by rw [e3]; exact mu_ui (g := 7)
  have h := h (mu m σ2) u7
  have s4 : σ2.1 = σ0.1 := by rw [e3]; exact hs
  have M5 : Mo m σ2 := by rw [e3]; exact hM.fr rfl (fun _ _ => rfl)
  have F6 : Fr m σ0 σ2 := by rw [e3]; exact Fr.ui (g := 7) hF
  refine r_aload_n C dX8_handOver_7 rfl (j := 0) rfl ?_
  refine r_iload_n C dX8_handOver_8 rfl (j := 1) rfl ?_
  refine r_iconst (v := 1) C dX8_handOver_9 (by decide) ?_
  refine r_lload_n C dX8_handOver_10 rfl (j := 2) rfl ?_
  obtain ⟨Q8, m9, h⟩ := h
  refine r_callVV (rest := []) C E [Value.int x1, Value.int 1, Value.long y2] M5.1 rfl ky_X8_tell kl_X8_186 ki_X8_tell kx_X8_tell ⟨Nat.le_of_ble_eq_true rfl, Nat.le_of_ble_eq_true rfl⟩ ⟨rfl, rfl⟩ (m9 σ2 M5 rfl) rfl rfl (Nat.le_of_ble_eq_true rfl) (Nat.zero_le _) (Nat.zero_le _) dX8_handOver_11 (fun σ10 s11 q13 => ?_)
  obtain ⟨f14, q13⟩ := q13
  have h := h (mu m σ10) q13
  have M15 := M5.fr s11 f14.1
  have F16 := F6.trans f14
  have s11 := s11.trans s4
  exact r_vretQ C E rfl (Nat.zero_le _) (Nat.zero_le _) dX8_handOver_14 s11 ⟨F16, h⟩
theorem u_X8_take_0 {X : r_X} {w : r_V} {B m : Nat} {l : Launch} {Q : Int32 → Mu → Prop} {σ0 : r_S} (C : r_C X w B 13 cX8_take RX8) (E : r_E X l tX8_take) {μ : Mu} {x1 x2 : Int32} {y3 : Int64}
    (h : ∀ z1 : Int32, z1 = (6 * x1) + x2 → (vp_in (4 * x1) 24 ∧ (vp_in (μ.1 34 ((4 * x1).toNatClampNeg)) 301 ∧ (∀ z5 : Int32, z5 = μ.1 5 ((μ.1 34 ((4 * x1).toNatClampNeg)).toNatClampNeg) → (vp_in z1 36 ∧ ((z5 ≤ (μ.1 9 z1.toNatClampNeg) → (r_Wm X w B 13 m σ0 (r_Z X w B tX8_take (ZMI m σ0 Q)) 122 [(0, Value.ref (B + m)), (1, Value.int x1), (2, Value.int x2), (3, Value.long y3), (5, Value.int z1), (7, Value.int 0), (8, Value.int 1), (9, Value.int 0)] [] μ)) ∧ (¬ z5 ≤ (μ.1 9 z1.toNatClampNeg) → (r_Wm X w B 13 m σ0 (r_Z X w B tX8_take (ZMI m σ0 Q)) 38 [(0, Value.ref (B + m)), (1, Value.int x1), (2, Value.int x2), (3, Value.long y3), (5, Value.int z1), (6, Value.int z5), (7, Value.int 1)] [] μ)))))))) :
    r_Wm X w B 13 m σ0 (r_Z X w B tX8_take (ZMI m σ0 Q)) 0 [(0, Value.ref (B + m)), (1, Value.int x1), (2, Value.int x2), (3, Value.long y3)] [] μ := by
  intro σ hs hM hF hμ
  subst hμ
  refine r_bipush (v := 6) C dX8_take_0 (by decide) ?_
  refine r_iload_n C dX8_take_2 rfl (j := 1) rfl ?_
  refine r_imul C dX8_take_3 ?_
  refine r_iload_n C dX8_take_4 rfl (j := 2) rfl ?_
  refine r_iadd C dX8_take_5 ?_
  refine r_topi (fun z1 e2 => ?_)
  have h := h z1 e2
  refine r_istore (lv' := [(5, Value.int z1), (0, Value.ref (B + m)), (1, Value.int x1), (2, Value.int x2), (3, Value.long y3)]) C dX8_take_6 (by decide) rfl ?_
  refine r_aload_n C dX8_take_8 rfl (j := 1) rfl ?_
  refine r_getA C hM (k := 9) (g := 5) (ti := 0) (n := 301) (by decide) fa_X8_27 rfl dX8_take_9 ?_
  refine r_aload_n C dX8_take_12 rfl (j := 1) rfl ?_
  refine r_getA C hM (k := 42) (g := 34) (ti := 0) (n := 24) (by decide) fa_X8_115 rfl dX8_take_13 ?_
  refine r_iconst (v := 4) C dX8_take_16 (by decide) ?_
  refine r_iload_n C dX8_take_17 rfl (j := 2) rfl ?_
  refine r_imul C dX8_take_18 ?_
  obtain ⟨g3, h⟩ := h
  refine r_iald (ti := 0) (n := 24) C (hM.2 (42, 34, 0, 24) (by decide)).2 ⟨rfl, fun _ => rfl⟩ g3 dX8_take_19 ?_
  obtain ⟨g4, h⟩ := h
  refine r_iald (ti := 0) (n := 301) C (hM.2 (9, 5, 0, 301) (by decide)).2 ⟨rfl, fun _ => rfl⟩ g4 dX8_take_20 ?_
  refine r_topi (fun z5 e6 => ?_)
  have h := h z5 e6
  refine r_istore (lv' := [(6, Value.int z5), (5, Value.int z1), (0, Value.ref (B + m)), (1, Value.int x1), (2, Value.int x2), (3, Value.long y3)]) C dX8_take_21 (by decide) rfl ?_
  refine r_iload C dX8_take_23 (j := 0) rfl ?_
  refine r_aload_n C dX8_take_25 rfl (j := 2) rfl ?_
  refine r_getA C hM (k := 13) (g := 9) (ti := 0) (n := 36) (by decide) fa_X8_39 rfl dX8_take_26 ?_
  refine r_iload C dX8_take_29 (j := 1) rfl ?_
  obtain ⟨g7, h⟩ := h
  refine r_iald (ti := 0) (n := 36) C (hM.2 (13, 9, 0, 36) (by decide)).2 ⟨rfl, fun _ => rfl⟩ g7 dX8_take_31 ?_
  refine r_icmp_le (tgt := 113) C dX8_take_32 (by decide) (fun c8 => ?_) (fun c8 => ?_)
  · have h := h.1 c8
    refine r_iconst (v := 0) C dX8_take_113 (by decide) ?_
    refine r_istore (lv' := [(7, Value.int 0), (6, Value.int z5), (5, Value.int z1), (0, Value.ref (B + m)), (1, Value.int x1), (2, Value.int x2), (3, Value.long y3)]) C dX8_take_114 (by decide) rfl ?_
    refine r_iconst (v := 1) C dX8_take_116 (by decide) ?_
    refine r_istore (lv' := [(8, Value.int 1), (7, Value.int 0), (6, Value.int z5), (5, Value.int z1), (0, Value.ref (B + m)), (1, Value.int x1), (2, Value.int x2), (3, Value.long y3)]) C dX8_take_117 (by decide) rfl ?_
    refine r_iconst (v := 0) C dX8_take_119 (by decide) ?_
    refine r_istore (lv' := [(9, Value.int 0), (8, Value.int 1), (7, Value.int 0), (6, Value.int z5), (5, Value.int z1), (0, Value.ref (B + m)), (1, Value.int x1), (2, Value.int x2), (3, Value.long y3)]) C dX8_take_120 (by decide) rfl ?_
    exact r_loc (by simp) (h σ hs hM hF rfl)
  · have h := h.2 c8
    refine r_iconst (v := 1) C dX8_take_35 (by decide) ?_
    refine r_istore (lv' := [(7, Value.int 1), (6, Value.int z5), (5, Value.int z1), (0, Value.ref (B + m)), (1, Value.int x1), (2, Value.int x2), (3, Value.long y3)]) C dX8_take_36 (by decide) rfl ?_
    exact r_loc (by simp) (h σ hs hM hF rfl)
theorem u_X8_take_38 {X : r_X} {w : r_V} {B m : Nat} {l : Launch} {Q : Int32 → Mu → Prop} {σ0 : r_S} (C : r_C X w B 13 cX8_take RX8) (E : r_E X l tX8_take) {μ : Mu} {x1 x2 x5 x6 x7 : Int32} {y3 : Int64}
    (h : ((μ.1 0 5) < x7 → (vp_in x5 36 ∧ (∀ μ3 : Mu, μ3 = ui μ 9 x5.toNatClampNeg x6 → (r_Wm X w B 13 m σ0 (r_Z X w B tX8_take (ZMI m σ0 Q)) 122 [(0, Value.ref (B + m)), (1, Value.int x1), (2, Value.int x2), (3, Value.long y3), (5, Value.int x5), (7, Value.int 0), (8, Value.int 1), (9, Value.int 0)] [] μ3)))) ∧ (¬ (μ.1 0 5) < x7 → (vp_in x7 301 ∧ (((μ.1 7 x7.toNatClampNeg) = 0 → (∀ z11 : Int32, z11 = x7 + 1 → (r_Wm X w B 13 m σ0 (r_Z X w B tX8_take (ZMI m σ0 Q)) 38 [(0, Value.ref (B + m)), (1, Value.int x1), (2, Value.int x2), (3, Value.long y3), (5, Value.int x5), (6, Value.int x6), (7, Value.int z11)] [] μ))) ∧ (¬ (μ.1 7 x7.toNatClampNeg) = 0 → (((μ.1 2 x7.toNatClampNeg) = x1 → (((μ.1 3 x7.toNatClampNeg) = x2 → ((x6 ≤ (μ.1 5 x7.toNatClampNeg) → (∀ z16 : Int32, z16 = x7 + 1 → (r_Wm X w B 13 m σ0 (r_Z X w B tX8_take (ZMI m σ0 Q)) 38 [(0, Value.ref (B + m)), (1, Value.int x1), (2, Value.int x2), (3, Value.long y3), (5, Value.int x5), (6, Value.int x6), (7, Value.int z16)] [] μ))) ∧ (¬ x6 ≤ (μ.1 5 x7.toNatClampNeg) → (∃ Q18 : Mu → Prop, r_MV l w B m tX8_handOver [Value.int x7, Value.long y3] μ Q18 ∧ (∀ μ20 : Mu, Q18 μ20 → (∀ z27 : Int32, z27 = x7 + 1 → (r_Wm X w B 13 m σ0 (r_Z X w B tX8_take (ZMI m σ0 Q)) 38 [(0, Value.ref (B + m)), (1, Value.int x1), (2, Value.int x2), (3, Value.long y3), (5, Value.int x5), (6, Value.int x6), (7, Value.int z27)] [] μ20))))))) ∧ (¬ (μ.1 3 x7.toNatClampNeg) = x2 → (∀ z29 : Int32, z29 = x7 + 1 → (r_Wm X w B 13 m σ0 (r_Z X w B tX8_take (ZMI m σ0 Q)) 38 [(0, Value.ref (B + m)), (1, Value.int x1), (2, Value.int x2), (3, Value.long y3), (5, Value.int x5), (6, Value.int x6), (7, Value.int z29)] [] μ))))) ∧ (¬ (μ.1 2 x7.toNatClampNeg) = x1 → (∀ z31 : Int32, z31 = x7 + 1 → (r_Wm X w B 13 m σ0 (r_Z X w B tX8_take (ZMI m σ0 Q)) 38 [(0, Value.ref (B + m)), (1, Value.int x1), (2, Value.int x2), (3, Value.long y3), (5, Value.int x5), (6, Value.int x6), (7, Value.int z31)] [] μ))))))))) :
    r_Wm X w B 13 m σ0 (r_Z X w B tX8_take (ZMI m σ0 Q)) 38 [(0, Value.ref (B + m)), (1, Value.int x1), (2, Value.int x2), (3, Value.long y3), (5, Value.int x5), (6, Value.int x6), (7, Value.int x7)] [] μ := by
  intro σ hs hM hF hμ
  subst hμ
  refine r_iload C dX8_take_38 (j := 6) rfl ?_
  refine r_aload_n C dX8_take_40 rfl (j := 0) rfl ?_
  refine r_get (v := .int ((mu m σ).1 0 5)) C hM.1 fa_X8_163 rfl dX8_take_41 ?_
  refine r_icmp_gt (tgt := 104) C dX8_take_44 (by decide) (fun c1 => ?_) (fun c1 => ?_)
  · have h := h.1 c1
    refine r_aload_n C dX8_take_104 rfl (j := 0) rfl ?_
    refine r_getA C hM (k := 13) (g := 9) (ti := 0) (n := 36) (by decide) fa_X8_39 rfl dX8_take_105 ?_
    refine r_iload C dX8_take_108 (j := 4) rfl ?_
    refine r_iload C dX8_take_110 (j := 5) rfl ?_
    obtain ⟨g2, h⟩ := h
    refine r_iast (ti := 0) (n := 36) C (hM.2 (13, 9, 0, 36) (by decide)).2 ⟨rfl, fun _ => rfl⟩ g2 dX8_take_112 ?_
    refine r_nam (fun σ3 e4 => ?_)
    have u8 : mu m σ3 = ui (mu m σ) 9 x5.toNatClampNeg x6 := by rw [e4]; exact mu_ui (g := 9)
    have h := h (mu m σ3) u8
    have s5 : σ3.1 = σ0.1 := by rw [e4]; exact hs
    have M6 : Mo m σ3 := by rw [e4]; exact hM.fr rfl (fun _ _ => rfl)
    have F7 : Fr m σ0 σ3 := by rw [e4]; exact Fr.ui (g := 9) hF
    refine r_iconst (v := 0) C dX8_take_113 (by decide) ?_
    refine r_istore (lv' := [(7, Value.int 0), (0, Value.ref (B + m)), (1, Value.int x1), (2, Value.int x2), (3, Value.long y3), (5, Value.int x5), (6, Value.int x6)]) C dX8_take_114 (by decide) rfl ?_
    refine r_iconst (v := 1) C dX8_take_116 (by decide) ?_
    refine r_istore (lv' := [(8, Value.int 1), (7, Value.int 0), (0, Value.ref (B + m)), (1, Value.int x1), (2, Value.int x2), (3, Value.long y3), (5, Value.int x5), (6, Value.int x6)]) C dX8_take_117 (by decide) rfl ?_
    refine r_iconst (v := 0) C dX8_take_119 (by decide) ?_
    refine r_istore (lv' := [(9, Value.int 0), (8, Value.int 1), (7, Value.int 0), (0, Value.ref (B + m)), (1, Value.int x1), (2, Value.int x2), (3, Value.long y3), (5, Value.int x5), (6, Value.int x6)]) C dX8_take_120 (by decide) rfl ?_
    exact r_loc (by simp) (h σ3 s5 M6 F7 rfl)
  · have h := h.2 c1
    refine r_aload_n C dX8_take_47 rfl (j := 0) rfl ?_
    refine r_getA C hM (k := 11) (g := 7) (ti := 2) (n := 301) (by decide) fa_X8_33 rfl dX8_take_48 ?_
    refine r_iload C dX8_take_51 (j := 6) rfl ?_
    obtain ⟨g9, h⟩ := h
    refine r_zald (ti := 2) (n := 301) C (hM.2 (11, 7, 2, 301) (by decide)).2 ⟨rfl, fun _ => rfl⟩ g9 dX8_take_53 ?_
    refine r_if_eq (tgt := 98) C dX8_take_54 (by decide) (fun c10 => ?_) (fun c10 => ?_)
    · have h := h.1 c10
      obtain ⟨z11, e12⟩ : ∃ y : Int32, y = x7 + 1 := ⟨_, rfl⟩
      have h := h z11 e12
      refine r_iinc (v := z11) (lv' := [(7, Value.int z11), (0, Value.ref (B + m)), (1, Value.int x1), (2, Value.int x2), (3, Value.long y3), (5, Value.int x5), (6, Value.int x6)]) C dX8_take_98 (k := 6) rfl (by rw [e12]; rfl) (by decide) rfl ?_
      refine r_goto (tgt := 38) C dX8_take_101 (by decide) ?_
      exact r_loc (by simp) (h σ hs hM hF rfl)
    · have h := h.2 c10
      refine r_aload_n C dX8_take_57 rfl (j := 0) rfl ?_
      refine r_getA C hM (k := 6) (g := 2) (ti := 0) (n := 301) (by decide) fa_X8_17 rfl dX8_take_58 ?_
      refine r_iload C dX8_take_61 (j := 6) rfl ?_
      refine r_iald (ti := 0) (n := 301) C (hM.2 (6, 2, 0, 301) (by decide)).2 ⟨rfl, fun _ => rfl⟩ g9 dX8_take_63 ?_
      refine r_iload_n C dX8_take_64 rfl (j := 1) rfl ?_
      refine r_icmp_ne (tgt := 98) C dX8_take_65 (by decide) (fun c13 => ?_) (fun c13 => ?_)
      · have h := h.2 c13
        obtain ⟨z31, e32⟩ : ∃ y : Int32, y = x7 + 1 := ⟨_, rfl⟩
        have h := h z31 e32
        refine r_iinc (v := z31) (lv' := [(7, Value.int z31), (0, Value.ref (B + m)), (1, Value.int x1), (2, Value.int x2), (3, Value.long y3), (5, Value.int x5), (6, Value.int x6)]) C dX8_take_98 (k := 6) rfl (by rw [e32]; rfl) (by decide) rfl ?_
        refine r_goto (tgt := 38) C dX8_take_101 (by decide) ?_
        exact r_loc (by simp) (h σ hs hM hF rfl)
      · have h := h.1 c13
        refine r_aload_n C dX8_take_68 rfl (j := 0) rfl ?_
        refine r_getA C hM (k := 7) (g := 3) (ti := 0) (n := 301) (by decide) fa_X8_21 rfl dX8_take_69 ?_
        refine r_iload C dX8_take_72 (j := 6) rfl ?_
        refine r_iald (ti := 0) (n := 301) C (hM.2 (7, 3, 0, 301) (by decide)).2 ⟨rfl, fun _ => rfl⟩ g9 dX8_take_74 ?_
        refine r_iload_n C dX8_take_75 rfl (j := 2) rfl ?_
        refine r_icmp_ne (tgt := 98) C dX8_take_76 (by decide) (fun c14 => ?_) (fun c14 => ?_)
        · have h := h.2 c14
          obtain ⟨z29, e30⟩ : ∃ y : Int32, y = x7 + 1 := ⟨_, rfl⟩
          have h := h z29 e30
          refine r_iinc (v := z29) (lv' := [(7, Value.int z29), (0, Value.ref (B + m)), (1, Value.int x1), (2, Value.int x2), (3, Value.long y3), (5, Value.int x5), (6, Value.int x6)]) C dX8_take_98 (k := 6) rfl (by rw [e30]; rfl) (by decide) rfl ?_
          refine r_goto (tgt := 38) C dX8_take_101 (by decide) ?_
          exact r_loc (by simp) (h σ hs hM hF rfl)
        · have h := h.1 c14
          refine r_aload_n C dX8_take_79 rfl (j := 0) rfl ?_
          refine r_getA C hM (k := 9) (g := 5) (ti := 0) (n := 301) (by decide) fa_X8_27 rfl dX8_take_80 ?_
          refine r_iload C dX8_take_83 (j := 6) rfl ?_
          refine r_iald (ti := 0) (n := 301) C (hM.2 (9, 5, 0, 301) (by decide)).2 ⟨rfl, fun _ => rfl⟩ g9 dX8_take_85 ?_
          refine r_iload C dX8_take_86 (j := 5) rfl ?_
          refine r_icmp_ge (tgt := 98) C dX8_take_88 (by decide) (fun c15 => ?_) (fun c15 => ?_)
          · have h := h.1 c15
            obtain ⟨z16, e17⟩ : ∃ y : Int32, y = x7 + 1 := ⟨_, rfl⟩
            have h := h z16 e17
            refine r_iinc (v := z16) (lv' := [(7, Value.int z16), (0, Value.ref (B + m)), (1, Value.int x1), (2, Value.int x2), (3, Value.long y3), (5, Value.int x5), (6, Value.int x6)]) C dX8_take_98 (k := 6) rfl (by rw [e17]; rfl) (by decide) rfl ?_
            refine r_goto (tgt := 38) C dX8_take_101 (by decide) ?_
            exact r_loc (by simp) (h σ hs hM hF rfl)
          · have h := h.2 c15
            refine r_aload_n C dX8_take_91 rfl (j := 0) rfl ?_
            refine r_iload C dX8_take_92 (j := 6) rfl ?_
            refine r_lload_n C dX8_take_94 rfl (j := 3) rfl ?_
            obtain ⟨Q18, m19, h⟩ := h
            refine r_callVV (rest := []) C E [Value.int x7, Value.long y3] hM.1 rfl ky_X8_handOver kl_X8_218 ki_X8_handOver kx_X8_handOver ⟨Nat.le_of_ble_eq_true rfl, Nat.le_of_ble_eq_true rfl⟩ ⟨rfl, rfl⟩ (m19 σ hM rfl) rfl rfl (Nat.le_of_ble_eq_true rfl) (Nat.zero_le _) (Nat.zero_le _) dX8_take_95 (fun σ20 s21 q23 => ?_)
            obtain ⟨f24, q23⟩ := q23
            have h := h (mu m σ20) q23
            have M25 := hM.fr s21 f24.1
            have F26 := hF.trans f24
            have s21 := s21.trans hs
            obtain ⟨z27, e28⟩ : ∃ y : Int32, y = x7 + 1 := ⟨_, rfl⟩
            have h := h z27 e28
            refine r_iinc (v := z27) (lv' := [(7, Value.int z27), (0, Value.ref (B + m)), (1, Value.int x1), (2, Value.int x2), (3, Value.long y3), (5, Value.int x5), (6, Value.int x6)]) C dX8_take_98 (k := 6) rfl (by rw [e28]; rfl) (by decide) rfl ?_
            refine r_goto (tgt := 38) C dX8_take_101 (by decide) ?_
            exact r_loc (by simp) (h σ20 s21 M25 F26 rfl)
theorem u_X8_take_122 {X : r_X} {w : r_V} {B m : Nat} {l : Launch} {Q : Int32 → Mu → Prop} {σ0 : r_S} (C : r_C X w B 13 cX8_take RX8) (E : r_E X l tX8_take) {μ : Mu} {x1 x2 x5 x7 x8 x9 : Int32} {y3 : Int64}
    (h : vp_in x1 6 ∧ (((μ.1 35 x1.toNatClampNeg) ≤ x9 → (r_Wm X w B 13 m σ0 (r_Z X w B tX8_take (ZMI m σ0 Q)) 246 [(0, Value.ref (B + m)), (1, Value.int x1), (2, Value.int x2), (3, Value.long y3), (5, Value.int x5), (7, Value.int x7), (9, Value.int 1)] [] μ)) ∧ (¬ (μ.1 35 x1.toNatClampNeg) ≤ x9 → (vp_in ((4 * x1) + x9) 24 ∧ (∀ z4 : Int32, z4 = μ.1 34 (((4 * x1) + x9).toNatClampNeg) → (vp_in z4 301 ∧ (∀ y7 : Int64, y7 = (((1 : Int64) <<< ((μ.1 4 z4.toNatClampNeg).toInt64 &&& 63)) - 1) <<< (x8.toInt64 &&& 63) → (∀ z9 : Int32, z9 = x8 + (μ.1 4 z4.toNatClampNeg) → (vp_in x5 36 ∧ ((((μ.2 43 x5.toNatClampNeg) &&& y7) = 0 → (∀ z13 : Int32, z13 = x7 ||| ((1 : Int32) <<< (x9 &&& 31)) → (∀ z19 : Int32, z19 = (if (μ.1 7 z4.toNatClampNeg) = 0 then (if (μ.1 5 z4.toNatClampNeg) < (μ.1 9 x5.toNatClampNeg) then (0 : Int32) else (1 : Int32)) else (1 : Int32)) → ((z19 = 0 ∨ z19 = 1) ∧ (∀ μ23 : Mu, μ23 = ui μ 7 z4.toNatClampNeg z19 → (∀ z29 : Int32, z29 = x9 + 1 → (r_Wm X w B 13 m σ0 (r_Z X w B tX8_take (ZMI m σ0 Q)) 122 [(0, Value.ref (B + m)), (1, Value.int x1), (2, Value.int x2), (3, Value.long y3), (5, Value.int x5), (7, Value.int z13), (8, Value.int z9), (9, Value.int z29)] [] μ23))))))) ∧ (¬ ((μ.2 43 x5.toNatClampNeg) &&& y7) = 0 → (∀ z31 : Int32, z31 = x9 + 1 → (r_Wm X w B 13 m σ0 (r_Z X w B tX8_take (ZMI m σ0 Q)) 122 [(0, Value.ref (B + m)), (1, Value.int x1), (2, Value.int x2), (3, Value.long y3), (5, Value.int x5), (7, Value.int x7), (8, Value.int z9), (9, Value.int z31)] [] μ))))))))))))) :
    r_Wm X w B 13 m σ0 (r_Z X w B tX8_take (ZMI m σ0 Q)) 122 [(0, Value.ref (B + m)), (1, Value.int x1), (2, Value.int x2), (3, Value.long y3), (5, Value.int x5), (7, Value.int x7), (8, Value.int x8), (9, Value.int x9)] [] μ := by
  intro σ hs hM hF hμ
  subst hμ
  refine r_iload C dX8_take_122 (j := 7) rfl ?_
  refine r_aload_n C dX8_take_124 rfl (j := 0) rfl ?_
  refine r_getA C hM (k := 43) (g := 35) (ti := 0) (n := 6) (by decide) fa_X8_118 rfl dX8_take_125 ?_
  refine r_iload_n C dX8_take_128 rfl (j := 1) rfl ?_
  obtain ⟨g1, h⟩ := h
  refine r_iald (ti := 0) (n := 6) C (hM.2 (43, 35, 0, 6) (by decide)).2 ⟨rfl, fun _ => rfl⟩ g1 dX8_take_129 ?_
  refine r_icmp_ge (tgt := 243) C dX8_take_130 (by decide) (fun c2 => ?_) (fun c2 => ?_)
  · have h := h.1 c2
    refine r_iconst (v := 1) C dX8_take_243 (by decide) ?_
    refine r_istore (lv' := [(9, Value.int 1), (0, Value.ref (B + m)), (1, Value.int x1), (2, Value.int x2), (3, Value.long y3), (5, Value.int x5), (7, Value.int x7), (8, Value.int x8)]) C dX8_take_244 (by decide) rfl ?_
    exact r_loc (by simp) (h σ hs hM hF rfl)
  · have h := h.2 c2
    refine r_aload_n C dX8_take_133 rfl (j := 0) rfl ?_
    refine r_getA C hM (k := 42) (g := 34) (ti := 0) (n := 24) (by decide) fa_X8_115 rfl dX8_take_134 ?_
    refine r_iconst (v := 4) C dX8_take_137 (by decide) ?_
    refine r_iload_n C dX8_take_138 rfl (j := 1) rfl ?_
    refine r_imul C dX8_take_139 ?_
    refine r_iload C dX8_take_140 (j := 7) rfl ?_
    refine r_iadd C dX8_take_142 ?_
    obtain ⟨g3, h⟩ := h
    refine r_iald (ti := 0) (n := 24) C (hM.2 (42, 34, 0, 24) (by decide)).2 ⟨rfl, fun _ => rfl⟩ g3 dX8_take_143 ?_
    refine r_topi (fun z4 e5 => ?_)
    have h := h z4 e5
    refine r_istore (lv' := [(10, Value.int z4), (0, Value.ref (B + m)), (1, Value.int x1), (2, Value.int x2), (3, Value.long y3), (5, Value.int x5), (7, Value.int x7), (8, Value.int x8), (9, Value.int x9)]) C dX8_take_144 (by decide) rfl ?_
    refine r_lconst (v := 1) C dX8_take_146 (by decide) ?_
    refine r_aload_n C dX8_take_147 rfl (j := 1) rfl ?_
    refine r_getA C hM (k := 8) (g := 4) (ti := 0) (n := 301) (by decide) fa_X8_24 rfl dX8_take_148 ?_
    refine r_iload C dX8_take_151 (j := 0) rfl ?_
    obtain ⟨g6, h⟩ := h
    refine r_iald (ti := 0) (n := 301) C (hM.2 (8, 4, 0, 301) (by decide)).2 ⟨rfl, fun _ => rfl⟩ g6 dX8_take_153 ?_
    refine r_lshl (v := (1 : Int64) <<< (((mu m σ).1 4 z4.toNatClampNeg).toInt64 &&& 63)) C dX8_take_154 rfl ?_
    refine r_lconst (v := 1) C dX8_take_155 (by decide) ?_
    refine r_lsub C dX8_take_156 ?_
    refine r_iload C dX8_take_157 (j := 7) rfl ?_
    refine r_lshl (v := (((1 : Int64) <<< (((mu m σ).1 4 z4.toNatClampNeg).toInt64 &&& 63)) - 1) <<< (x8.toInt64 &&& 63)) C dX8_take_159 rfl ?_
    refine r_topl (fun y7 e8 => ?_)
    have h := h y7 e8
    refine r_lstore (lv' := [(11, Value.long y7), (10, Value.int z4), (0, Value.ref (B + m)), (1, Value.int x1), (2, Value.int x2), (3, Value.long y3), (5, Value.int x5), (7, Value.int x7), (8, Value.int x8), (9, Value.int x9)]) C dX8_take_160 (by decide) rfl ?_
    refine r_iload C dX8_take_162 (j := 8) rfl ?_
    refine r_aload_n C dX8_take_164 rfl (j := 2) rfl ?_
    refine r_getA C hM (k := 8) (g := 4) (ti := 0) (n := 301) (by decide) fa_X8_24 rfl dX8_take_165 ?_
    refine r_iload C dX8_take_168 (j := 1) rfl ?_
    refine r_iald (ti := 0) (n := 301) C (hM.2 (8, 4, 0, 301) (by decide)).2 ⟨rfl, fun _ => rfl⟩ g6 dX8_take_170 ?_
    refine r_iadd C dX8_take_171 ?_
    refine r_topi (fun z9 e10 => ?_)
    have h := h z9 e10
    refine r_istore (lv' := [(8, Value.int z9), (11, Value.long y7), (10, Value.int z4), (0, Value.ref (B + m)), (1, Value.int x1), (2, Value.int x2), (3, Value.long y3), (5, Value.int x5), (7, Value.int x7), (9, Value.int x9)]) C dX8_take_172 (by decide) rfl ?_
    refine r_aload_n C dX8_take_174 rfl (j := 3) rfl ?_
    refine r_getA C hM (k := 51) (g := 43) (ti := 1) (n := 36) (by decide) fa_X8_142 rfl dX8_take_175 ?_
    refine r_iload C dX8_take_178 (j := 7) rfl ?_
    obtain ⟨g11, h⟩ := h
    refine r_lald (ti := 1) (n := 36) C (hM.2 (51, 43, 1, 36) (by decide)).2 ⟨rfl, fun _ => rfl⟩ g11 dX8_take_180 ?_
    refine r_lload C dX8_take_181 (j := 1) rfl ?_
    refine r_land C dX8_take_183 ?_
    refine r_lconst (v := 0) C dX8_take_184 (by decide) ?_
    refine r_lcmp C dX8_take_185 ?_
    refine r_if_ne (tgt := 237) C dX8_take_186 (by decide) (fun c12 => ?_) (fun c12 => ?_)
    · have h := h.2 (fun q => c12 (lgc_eq.mpr q))
      obtain ⟨z31, e32⟩ : ∃ y : Int32, y = x9 + 1 := ⟨_, rfl⟩
      have h := h z31 e32
      refine r_iinc (v := z31) (lv' := [(9, Value.int z31), (8, Value.int z9), (11, Value.long y7), (10, Value.int z4), (0, Value.ref (B + m)), (1, Value.int x1), (2, Value.int x2), (3, Value.long y3), (5, Value.int x5), (7, Value.int x7)]) C dX8_take_237 (k := 9) rfl (by rw [e32]; rfl) (by decide) rfl ?_
      refine r_goto (tgt := 122) C dX8_take_240 (by decide) ?_
      exact r_loc (by simp) (h σ hs hM hF rfl)
    · have h := h.1 (lgc_eq.mp c12)
      refine r_iload C dX8_take_189 (j := 8) rfl ?_
      refine r_iconst (v := 1) C dX8_take_191 (by decide) ?_
      refine r_iload C dX8_take_192 (j := 9) rfl ?_
      refine r_ishl C dX8_take_194 ?_
      refine r_ior C dX8_take_195 ?_
      refine r_topi (fun z13 e14 => ?_)
      have h := h z13 e14
      refine r_istore (lv' := [(7, Value.int z13), (8, Value.int z9), (11, Value.long y7), (10, Value.int z4), (0, Value.ref (B + m)), (1, Value.int x1), (2, Value.int x2), (3, Value.long y3), (5, Value.int x5), (9, Value.int x9)]) C dX8_take_196 (by decide) rfl ?_
      refine r_aload_n C dX8_take_198 rfl (j := 4) rfl ?_
      refine r_getA C hM (k := 11) (g := 7) (ti := 2) (n := 301) (by decide) fa_X8_33 rfl dX8_take_199 ?_
      refine r_iload C dX8_take_202 (j := 3) rfl ?_
      refine r_aload_n C dX8_take_204 rfl (j := 4) rfl ?_
      refine r_getA C hM (k := 11) (g := 7) (ti := 2) (n := 301) (by decide) fa_X8_33 rfl dX8_take_205 ?_
      refine r_iload C dX8_take_208 (j := 3) rfl ?_
      refine r_zald (ti := 2) (n := 301) C (hM.2 (11, 7, 2, 301) (by decide)).2 ⟨rfl, fun _ => rfl⟩ g6 dX8_take_210 ?_
      have k21 : ∀ z19 : Int32, z19 = (if ((mu m σ).1 7 z4.toNatClampNeg) = 0 then (if ((mu m σ).1 5 z4.toNatClampNeg) < ((mu m σ).1 9 x5.toNatClampNeg) then (0 : Int32) else (1 : Int32)) else (1 : Int32)) → r_W X w B 13 0 0 (r_Z X w B tX8_take (ZMI m σ0 Q)) 236 [(7, Value.int z13), (8, Value.int z9), (11, Value.long y7), (10, Value.int z4), (0, Value.ref (B + m)), (1, Value.int x1), (2, Value.int x2), (3, Value.long y3), (5, Value.int x5), (9, Value.int x9)] [Value.int z19, Value.int z4, Value.ref (B + (m + 7))] σ := by
        intro z19 e20
        have h := h z19 e20
        obtain ⟨g22, h⟩ := h
        refine r_zast (ti := 2) (n := 301) C (hM.2 (11, 7, 2, 301) (by decide)).2 ⟨rfl, fun _ => rfl⟩ g6 (by rcases g22 with e | e <;> rw [e] <;> decide) dX8_take_236 ?_
        refine r_nam (fun σ23 e24 => ?_)
        have u28 : mu m σ23 = ui (mu m σ) 7 z4.toNatClampNeg z19 := by rw [e24]; exact mu_ui (g := 7)
        have h := h (mu m σ23) u28
        have s25 : σ23.1 = σ0.1 := by rw [e24]; exact hs
        have M26 : Mo m σ23 := by rw [e24]; exact hM.fr rfl (fun _ _ => rfl)
        have F27 : Fr m σ0 σ23 := by rw [e24]; exact Fr.ui (g := 7) hF
        obtain ⟨z29, e30⟩ : ∃ y : Int32, y = x9 + 1 := ⟨_, rfl⟩
        have h := h z29 e30
        refine r_iinc (v := z29) (lv' := [(9, Value.int z29), (7, Value.int z13), (8, Value.int z9), (11, Value.long y7), (10, Value.int z4), (0, Value.ref (B + m)), (1, Value.int x1), (2, Value.int x2), (3, Value.long y3), (5, Value.int x5)]) C dX8_take_237 (k := 9) rfl (by rw [e30]; rfl) (by decide) rfl ?_
        refine r_goto (tgt := 122) C dX8_take_240 (by decide) ?_
        exact r_loc (by simp) (h σ23 s25 M26 F27 rfl)
      clear h
      refine r_if_ne (tgt := 231) C dX8_take_211 (by decide) (fun c15 => ?_) (fun c15 => ?_)
      · have c15 : ¬ ((mu m σ).1 7 z4.toNatClampNeg) = 0 := c15
        refine r_iconst (v := 1) C dX8_take_231 (by decide) ?_
        refine r_goto (tgt := 236) C dX8_take_232 (by decide) ?_
        exact k21 _ (by rw [if_neg c15] <;> rfl)
      · have c15 : ((mu m σ).1 7 z4.toNatClampNeg) = 0 := c15
        refine r_aload_n C dX8_take_214 rfl (j := 4) rfl ?_
        refine r_getA C hM (k := 9) (g := 5) (ti := 0) (n := 301) (by decide) fa_X8_27 rfl dX8_take_215 ?_
        refine r_iload C dX8_take_218 (j := 3) rfl ?_
        refine r_iald (ti := 0) (n := 301) C (hM.2 (9, 5, 0, 301) (by decide)).2 ⟨rfl, fun _ => rfl⟩ g6 dX8_take_220 ?_
        refine r_aload_n C dX8_take_221 rfl (j := 4) rfl ?_
        refine r_getA C hM (k := 13) (g := 9) (ti := 0) (n := 36) (by decide) fa_X8_39 rfl dX8_take_222 ?_
        refine r_iload C dX8_take_225 (j := 8) rfl ?_
        refine r_iald (ti := 0) (n := 36) C (hM.2 (13, 9, 0, 36) (by decide)).2 ⟨rfl, fun _ => rfl⟩ g11 dX8_take_227 ?_
        refine r_icmp_lt (tgt := 235) C dX8_take_228 (by decide) (fun c17 => ?_) (fun c17 => ?_)
        · have c17 : ((mu m σ).1 5 z4.toNatClampNeg) < ((mu m σ).1 9 x5.toNatClampNeg) := c17
          refine r_iconst (v := 0) C dX8_take_235 (by decide) ?_
          exact k21 _ (by rw [if_pos c15, if_pos c17] <;> rfl)
        · have c17 : ¬ ((mu m σ).1 5 z4.toNatClampNeg) < ((mu m σ).1 9 x5.toNatClampNeg) := c17
          refine r_iconst (v := 1) C dX8_take_231 (by decide) ?_
          refine r_goto (tgt := 236) C dX8_take_232 (by decide) ?_
          exact k21 _ (by rw [if_pos c15, if_neg c17] <;> rfl)
theorem u_X8_take_246 {X : r_X} {w : r_V} {B m : Nat} {l : Launch} {Q : Int32 → Mu → Prop} {σ0 : r_S} (C : r_C X w B 13 cX8_take RX8) (E : r_E X l tX8_take) {μ : Mu} {x1 x2 x5 x7 x9 : Int32} {y3 : Int64}
    (h : ((μ.1 0 5) < x9 → (Q x7 μ)) ∧ (¬ (μ.1 0 5) < x9 → (vp_in x9 301 ∧ (((μ.1 7 x9.toNatClampNeg) = 0 → (∀ z4 : Int32, z4 = x9 + 1 → (r_Wm X w B 13 m σ0 (r_Z X w B tX8_take (ZMI m σ0 Q)) 246 [(0, Value.ref (B + m)), (1, Value.int x1), (2, Value.int x2), (3, Value.long y3), (5, Value.int x5), (7, Value.int x7), (9, Value.int z4)] [] μ))) ∧ (¬ (μ.1 7 x9.toNatClampNeg) = 0 → (((μ.1 2 x9.toNatClampNeg) = x1 → (((μ.1 3 x9.toNatClampNeg) = x2 → (vp_in x5 36 ∧ (((μ.1 5 x9.toNatClampNeg) = (μ.1 9 x5.toNatClampNeg) → (∃ Q10 : Mu → Prop, r_MV l w B m tX8_handOver [Value.int x9, Value.long y3] μ Q10 ∧ (∀ μ12 : Mu, Q10 μ12 → (∀ μ19 : Mu, μ19 = ui μ12 9 x5.toNatClampNeg ((μ12.1 9 x5.toNatClampNeg) + 1) → (∀ z25 : Int32, z25 = x9 + 1 → (r_Wm X w B 13 m σ0 (r_Z X w B tX8_take (ZMI m σ0 Q)) 246 [(0, Value.ref (B + m)), (1, Value.int x1), (2, Value.int x2), (3, Value.long y3), (5, Value.int x5), (7, Value.int x7), (9, Value.int z25)] [] μ19)))))) ∧ (¬ (μ.1 5 x9.toNatClampNeg) = (μ.1 9 x5.toNatClampNeg) → (∀ z27 : Int32, z27 = x9 + 1 → (r_Wm X w B 13 m σ0 (r_Z X w B tX8_take (ZMI m σ0 Q)) 246 [(0, Value.ref (B + m)), (1, Value.int x1), (2, Value.int x2), (3, Value.long y3), (5, Value.int x5), (7, Value.int x7), (9, Value.int z27)] [] μ)))))) ∧ (¬ (μ.1 3 x9.toNatClampNeg) = x2 → (∀ z29 : Int32, z29 = x9 + 1 → (r_Wm X w B 13 m σ0 (r_Z X w B tX8_take (ZMI m σ0 Q)) 246 [(0, Value.ref (B + m)), (1, Value.int x1), (2, Value.int x2), (3, Value.long y3), (5, Value.int x5), (7, Value.int x7), (9, Value.int z29)] [] μ))))) ∧ (¬ (μ.1 2 x9.toNatClampNeg) = x1 → (∀ z31 : Int32, z31 = x9 + 1 → (r_Wm X w B 13 m σ0 (r_Z X w B tX8_take (ZMI m σ0 Q)) 246 [(0, Value.ref (B + m)), (1, Value.int x1), (2, Value.int x2), (3, Value.long y3), (5, Value.int x5), (7, Value.int x7), (9, Value.int z31)] [] μ))))))))) :
    r_Wm X w B 13 m σ0 (r_Z X w B tX8_take (ZMI m σ0 Q)) 246 [(0, Value.ref (B + m)), (1, Value.int x1), (2, Value.int x2), (3, Value.long y3), (5, Value.int x5), (7, Value.int x7), (9, Value.int x9)] [] μ := by
  intro σ hs hM hF hμ
  subst hμ
  refine r_iload C dX8_take_246 (j := 6) rfl ?_
  refine r_aload_n C dX8_take_248 rfl (j := 0) rfl ?_
  refine r_get (v := .int ((mu m σ).1 0 5)) C hM.1 fa_X8_163 rfl dX8_take_249 ?_
  refine r_icmp_gt (tgt := 328) C dX8_take_252 (by decide) (fun c1 => ?_) (fun c1 => ?_)
  · have h := h.1 c1
    refine r_iload C dX8_take_328 (j := 5) rfl ?_
    exact r_iretQ C E rfl (Nat.zero_le _) (Nat.zero_le _) dX8_take_330 hs ⟨hF, h⟩
  · have h := h.2 c1
    refine r_aload_n C dX8_take_255 rfl (j := 0) rfl ?_
    refine r_getA C hM (k := 11) (g := 7) (ti := 2) (n := 301) (by decide) fa_X8_33 rfl dX8_take_256 ?_
    refine r_iload C dX8_take_259 (j := 6) rfl ?_
    obtain ⟨g2, h⟩ := h
    refine r_zald (ti := 2) (n := 301) C (hM.2 (11, 7, 2, 301) (by decide)).2 ⟨rfl, fun _ => rfl⟩ g2 dX8_take_261 ?_
    refine r_if_eq (tgt := 322) C dX8_take_262 (by decide) (fun c3 => ?_) (fun c3 => ?_)
    · have h := h.1 c3
      obtain ⟨z4, e5⟩ : ∃ y : Int32, y = x9 + 1 := ⟨_, rfl⟩
      have h := h z4 e5
      refine r_iinc (v := z4) (lv' := [(9, Value.int z4), (0, Value.ref (B + m)), (1, Value.int x1), (2, Value.int x2), (3, Value.long y3), (5, Value.int x5), (7, Value.int x7)]) C dX8_take_322 (k := 6) rfl (by rw [e5]; rfl) (by decide) rfl ?_
      refine r_goto (tgt := 246) C dX8_take_325 (by decide) ?_
      exact r_loc (by simp) (h σ hs hM hF rfl)
    · have h := h.2 c3
      refine r_aload_n C dX8_take_265 rfl (j := 0) rfl ?_
      refine r_getA C hM (k := 6) (g := 2) (ti := 0) (n := 301) (by decide) fa_X8_17 rfl dX8_take_266 ?_
      refine r_iload C dX8_take_269 (j := 6) rfl ?_
      refine r_iald (ti := 0) (n := 301) C (hM.2 (6, 2, 0, 301) (by decide)).2 ⟨rfl, fun _ => rfl⟩ g2 dX8_take_271 ?_
      refine r_iload_n C dX8_take_272 rfl (j := 1) rfl ?_
      refine r_icmp_ne (tgt := 322) C dX8_take_273 (by decide) (fun c6 => ?_) (fun c6 => ?_)
      · have h := h.2 c6
        obtain ⟨z31, e32⟩ : ∃ y : Int32, y = x9 + 1 := ⟨_, rfl⟩
        have h := h z31 e32
        refine r_iinc (v := z31) (lv' := [(9, Value.int z31), (0, Value.ref (B + m)), (1, Value.int x1), (2, Value.int x2), (3, Value.long y3), (5, Value.int x5), (7, Value.int x7)]) C dX8_take_322 (k := 6) rfl (by rw [e32]; rfl) (by decide) rfl ?_
        refine r_goto (tgt := 246) C dX8_take_325 (by decide) ?_
        exact r_loc (by simp) (h σ hs hM hF rfl)
      · have h := h.1 c6
        refine r_aload_n C dX8_take_276 rfl (j := 0) rfl ?_
        refine r_getA C hM (k := 7) (g := 3) (ti := 0) (n := 301) (by decide) fa_X8_21 rfl dX8_take_277 ?_
        refine r_iload C dX8_take_280 (j := 6) rfl ?_
        refine r_iald (ti := 0) (n := 301) C (hM.2 (7, 3, 0, 301) (by decide)).2 ⟨rfl, fun _ => rfl⟩ g2 dX8_take_282 ?_
        refine r_iload_n C dX8_take_283 rfl (j := 2) rfl ?_
        refine r_icmp_ne (tgt := 322) C dX8_take_284 (by decide) (fun c7 => ?_) (fun c7 => ?_)
        · have h := h.2 c7
          obtain ⟨z29, e30⟩ : ∃ y : Int32, y = x9 + 1 := ⟨_, rfl⟩
          have h := h z29 e30
          refine r_iinc (v := z29) (lv' := [(9, Value.int z29), (0, Value.ref (B + m)), (1, Value.int x1), (2, Value.int x2), (3, Value.long y3), (5, Value.int x5), (7, Value.int x7)]) C dX8_take_322 (k := 6) rfl (by rw [e30]; rfl) (by decide) rfl ?_
          refine r_goto (tgt := 246) C dX8_take_325 (by decide) ?_
          exact r_loc (by simp) (h σ hs hM hF rfl)
        · have h := h.1 c7
          refine r_aload_n C dX8_take_287 rfl (j := 0) rfl ?_
          refine r_getA C hM (k := 9) (g := 5) (ti := 0) (n := 301) (by decide) fa_X8_27 rfl dX8_take_288 ?_
          refine r_iload C dX8_take_291 (j := 6) rfl ?_
          refine r_iald (ti := 0) (n := 301) C (hM.2 (9, 5, 0, 301) (by decide)).2 ⟨rfl, fun _ => rfl⟩ g2 dX8_take_293 ?_
          refine r_aload_n C dX8_take_294 rfl (j := 0) rfl ?_
          refine r_getA C hM (k := 13) (g := 9) (ti := 0) (n := 36) (by decide) fa_X8_39 rfl dX8_take_295 ?_
          refine r_iload C dX8_take_298 (j := 4) rfl ?_
          obtain ⟨g8, h⟩ := h
          refine r_iald (ti := 0) (n := 36) C (hM.2 (13, 9, 0, 36) (by decide)).2 ⟨rfl, fun _ => rfl⟩ g8 dX8_take_300 ?_
          refine r_icmp_ne (tgt := 322) C dX8_take_301 (by decide) (fun c9 => ?_) (fun c9 => ?_)
          · have h := h.2 c9
            obtain ⟨z27, e28⟩ : ∃ y : Int32, y = x9 + 1 := ⟨_, rfl⟩
            have h := h z27 e28
            refine r_iinc (v := z27) (lv' := [(9, Value.int z27), (0, Value.ref (B + m)), (1, Value.int x1), (2, Value.int x2), (3, Value.long y3), (5, Value.int x5), (7, Value.int x7)]) C dX8_take_322 (k := 6) rfl (by rw [e28]; rfl) (by decide) rfl ?_
            refine r_goto (tgt := 246) C dX8_take_325 (by decide) ?_
            exact r_loc (by simp) (h σ hs hM hF rfl)
          · have h := h.1 c9
            refine r_aload_n C dX8_take_304 rfl (j := 0) rfl ?_
            refine r_iload C dX8_take_305 (j := 6) rfl ?_
            refine r_lload_n C dX8_take_307 rfl (j := 3) rfl ?_
            obtain ⟨Q10, m11, h⟩ := h
            refine r_callVV (rest := []) C E [Value.int x9, Value.long y3] hM.1 rfl ky_X8_handOver kl_X8_218 ki_X8_handOver kx_X8_handOver ⟨Nat.le_of_ble_eq_true rfl, Nat.le_of_ble_eq_true rfl⟩ ⟨rfl, rfl⟩ (m11 σ hM rfl) rfl rfl (Nat.le_of_ble_eq_true rfl) (Nat.zero_le _) (Nat.zero_le _) dX8_take_308 (fun σ12 s13 q15 => ?_)
            obtain ⟨f16, q15⟩ := q15
            have h := h (mu m σ12) q15
            have M17 := hM.fr s13 f16.1
            have F18 := hF.trans f16
            have s13 := s13.trans hs
            refine r_aload_n C dX8_take_311 rfl (j := 0) rfl ?_
            refine r_getA C M17 (k := 13) (g := 9) (ti := 0) (n := 36) (by decide) fa_X8_39 rfl dX8_take_312 ?_
            refine r_iload C dX8_take_315 (j := 4) rfl ?_
            refine r_dup2_11 C dX8_take_317 rfl rfl ?_
            refine r_iald (ti := 0) (n := 36) C (M17.2 (13, 9, 0, 36) (by decide)).2 ⟨rfl, fun _ => rfl⟩ g8 dX8_take_318 ?_
            refine r_iconst (v := 1) C dX8_take_319 (by decide) ?_
            refine r_iadd C dX8_take_320 ?_
            refine r_iast (ti := 0) (n := 36) C (M17.2 (13, 9, 0, 36) (by decide)).2 ⟨rfl, fun _ => rfl⟩ g8 dX8_take_321 ?_
            refine r_nam (fun σ19 e20 => ?_)
            have u24 : mu m σ19 = ui (mu m σ12) 9 x5.toNatClampNeg (((mu m σ12).1 9 x5.toNatClampNeg) + 1) := by rw [e20]; exact mu_ui (g := 9)
            have h := h (mu m σ19) u24
            have s21 : σ19.1 = σ0.1 := by rw [e20]; exact s13
            have M22 : Mo m σ19 := by rw [e20]; exact M17.fr rfl (fun _ _ => rfl)
            have F23 : Fr m σ0 σ19 := by rw [e20]; exact Fr.ui (g := 9) F18
            obtain ⟨z25, e26⟩ : ∃ y : Int32, y = x9 + 1 := ⟨_, rfl⟩
            have h := h z25 e26
            refine r_iinc (v := z25) (lv' := [(9, Value.int z25), (0, Value.ref (B + m)), (1, Value.int x1), (2, Value.int x2), (3, Value.long y3), (5, Value.int x5), (7, Value.int x7)]) C dX8_take_322 (k := 6) rfl (by rw [e26]; rfl) (by decide) rfl ?_
            refine r_goto (tgt := 246) C dX8_take_325 (by decide) ?_
            exact r_loc (by simp) (h σ19 s21 M22 F23 rfl)
theorem u_X8_acknowledged_0 {X : r_X} {w : r_V} {B m : Nat} {l : Launch} {Q : Mu → Prop} {σ0 : r_S} (C : r_C X w B 6 cX8_acknowledged RX8) (E : r_E X l tX8_acknowledged) {μ : Mu} {x1 x2 : Int32} {y3 : Int64}
    (h : vp_in x1 6 ∧ (∀ μ2 : Mu, μ2 = ul μ 23 x1.toNatClampNeg (-1) → (r_Wm X w B 6 m σ0 (r_Z X w B tX8_acknowledged (ZMV m σ0 Q)) 12 [(0, Value.ref (B + m)), (1, Value.int x1), (2, Value.int x2), (3, Value.long y3), (5, Value.int 0)] [] μ2))) :
    r_Wm X w B 6 m σ0 (r_Z X w B tX8_acknowledged (ZMV m σ0 Q)) 0 [(0, Value.ref (B + m)), (1, Value.int x1), (2, Value.int x2), (3, Value.long y3)] [] μ := by
  intro σ hs hM hF hμ
  subst hμ
  refine r_aload_n C dX8_acknowledged_0 rfl (j := 0) rfl ?_
  refine r_getA C hM (k := 31) (g := 23) (ti := 1) (n := 6) (by decide) fa_X8_82 rfl dX8_acknowledged_1 ?_
  refine r_iload_n C dX8_acknowledged_4 rfl (j := 1) rfl ?_
  refine r_ldc2 (v := (-1)) C kj_X8_148 dX8_acknowledged_5 ?_
  obtain ⟨g1, h⟩ := h
  refine r_last (ti := 1) (n := 6) C (hM.2 (31, 23, 1, 6) (by decide)).2 ⟨rfl, fun _ => rfl⟩ g1 dX8_acknowledged_8 ?_
  refine r_nam (fun σ2 e3 => ?_)
  have u7 : mu m σ2 = ul (mu m σ) 23 x1.toNatClampNeg (-1) := by rw [e3]; exact mu_ul (g := 23)
  have h := h (mu m σ2) u7
  have s4 : σ2.1 = σ0.1 := by rw [e3]; exact hs
  have M5 : Mo m σ2 := by rw [e3]; exact hM.fr rfl (fun _ _ => rfl)
  have F6 : Fr m σ0 σ2 := by rw [e3]; exact Fr.ul (g := 23) hF
  refine r_iconst (v := 0) C dX8_acknowledged_9 (by decide) ?_
  refine r_istore (lv' := [(5, Value.int 0), (0, Value.ref (B + m)), (1, Value.int x1), (2, Value.int x2), (3, Value.long y3)]) C dX8_acknowledged_10 (by decide) rfl ?_
  exact r_loc (by simp) (h σ2 s4 M5 F6 rfl)
theorem u_X8_acknowledged_12 {X : r_X} {w : r_V} {B m : Nat} {l : Launch} {Q : Mu → Prop} {σ0 : r_S} (C : r_C X w B 6 cX8_acknowledged RX8) (E : r_E X l tX8_acknowledged) {μ : Mu} {x1 x2 x5 : Int32} {y3 : Int64}
    (h : vp_in x1 6 ∧ (((μ.1 35 x1.toNatClampNeg) ≤ x5 → ((x2 = 0 → (∃ Q4 : Mu → Prop, r_MV l w B m tX8_fail [Value.int x1, Value.long y3] μ Q4 ∧ (∀ μ6 : Mu, Q4 μ6 → (Q μ6)))) ∧ (¬ x2 = 0 → (∀ μ13 : Mu, μ13 = ui μ 18 x1.toNatClampNeg 0 → (∀ μ19 : Mu, μ19 = ui μ13 17 x1.toNatClampNeg 3 → (∃ Q25 : Int32 → Mu → Prop, r_MI l w B m tX8_keeps [Value.int x1] μ19 Q25 ∧ (∀ (z29 : Int32) (μ27 : Mu), Q25 z29 μ27 → ((z29 ≤ 0 → (Q μ27)) ∧ (¬ z29 ≤ 0 → (∃ Q35 : Mu → Prop, r_MV l w B m tX8_draw [Value.int x1] μ27 Q35 ∧ (∀ μ37 : Mu, Q35 μ37 → (Q μ37)))))))))))) ∧ (¬ (μ.1 35 x1.toNatClampNeg) ≤ x5 → ((((x2 >>> (x5 &&& 31)) &&& 1) = 1 → (vp_in ((4 * x1) + x5) 24 ∧ (vp_in (μ.1 34 (((4 * x1) + x5).toNatClampNeg)) 301 ∧ (∀ μ47 : Mu, μ47 = ui μ 6 ((μ.1 34 (((4 * x1) + x5).toNatClampNeg)).toNatClampNeg) 0 → (∃ Q53 : Mu → Prop, r_MV l w B m tX8_tell [Value.int (μ47.1 34 (((4 * x1) + x5).toNatClampNeg)), Value.int 3, Value.long y3] μ47 Q53 ∧ (∀ μ55 : Mu, Q53 μ55 → (∀ z62 : Int32, z62 = x5 + 1 → (r_Wm X w B 6 m σ0 (r_Z X w B tX8_acknowledged (ZMV m σ0 Q)) 12 [(0, Value.ref (B + m)), (1, Value.int x1), (2, Value.int x2), (3, Value.long y3), (5, Value.int z62)] [] μ55)))))))) ∧ (¬ ((x2 >>> (x5 &&& 31)) &&& 1) = 1 → (∀ z64 : Int32, z64 = x5 + 1 → (r_Wm X w B 6 m σ0 (r_Z X w B tX8_acknowledged (ZMV m σ0 Q)) 12 [(0, Value.ref (B + m)), (1, Value.int x1), (2, Value.int x2), (3, Value.long y3), (5, Value.int z64)] [] μ))))))) :
    r_Wm X w B 6 m σ0 (r_Z X w B tX8_acknowledged (ZMV m σ0 Q)) 12 [(0, Value.ref (B + m)), (1, Value.int x1), (2, Value.int x2), (3, Value.long y3), (5, Value.int x5)] [] μ := by
  intro σ hs hM hF hμ
  subst hμ
  refine r_iload C dX8_acknowledged_12 (j := 4) rfl ?_
  refine r_aload_n C dX8_acknowledged_14 rfl (j := 0) rfl ?_
  refine r_getA C hM (k := 43) (g := 35) (ti := 0) (n := 6) (by decide) fa_X8_118 rfl dX8_acknowledged_15 ?_
  refine r_iload_n C dX8_acknowledged_18 rfl (j := 1) rfl ?_
  obtain ⟨g1, h⟩ := h
  refine r_iald (ti := 0) (n := 6) C (hM.2 (43, 35, 0, 6) (by decide)).2 ⟨rfl, fun _ => rfl⟩ g1 dX8_acknowledged_19 ?_
  refine r_icmp_ge (tgt := 73) C dX8_acknowledged_20 (by decide) (fun c2 => ?_) (fun c2 => ?_)
  · have h := h.1 c2
    refine r_iload_n C dX8_acknowledged_73 rfl (j := 2) rfl ?_
    refine r_if_ne (tgt := 84) C dX8_acknowledged_74 (by decide) (fun c3 => ?_) (fun c3 => ?_)
    · have h := h.2 c3
      refine r_aload_n C dX8_acknowledged_84 rfl (j := 0) rfl ?_
      refine r_getA C hM (k := 26) (g := 18) (ti := 0) (n := 6) (by decide) fa_X8_67 rfl dX8_acknowledged_85 ?_
      refine r_iload_n C dX8_acknowledged_88 rfl (j := 1) rfl ?_
      refine r_iconst (v := 0) C dX8_acknowledged_89 (by decide) ?_
      refine r_iast (ti := 0) (n := 6) C (hM.2 (26, 18, 0, 6) (by decide)).2 ⟨rfl, fun _ => rfl⟩ g1 dX8_acknowledged_90 ?_
      refine r_nam (fun σ13 e14 => ?_)
      have u18 : mu m σ13 = ui (mu m σ) 18 x1.toNatClampNeg 0 := by rw [e14]; exact mu_ui (g := 18)
      have h := h (mu m σ13) u18
      have s15 : σ13.1 = σ0.1 := by rw [e14]; exact hs
      have M16 : Mo m σ13 := by rw [e14]; exact hM.fr rfl (fun _ _ => rfl)
      have F17 : Fr m σ0 σ13 := by rw [e14]; exact Fr.ui (g := 18) hF
      refine r_aload_n C dX8_acknowledged_91 rfl (j := 0) rfl ?_
      refine r_getA C M16 (k := 25) (g := 17) (ti := 0) (n := 6) (by decide) fa_X8_64 rfl dX8_acknowledged_92 ?_
      refine r_iload_n C dX8_acknowledged_95 rfl (j := 1) rfl ?_
      refine r_iconst (v := 3) C dX8_acknowledged_96 (by decide) ?_
      refine r_iast (ti := 0) (n := 6) C (M16.2 (25, 17, 0, 6) (by decide)).2 ⟨rfl, fun _ => rfl⟩ g1 dX8_acknowledged_97 ?_
      refine r_nam (fun σ19 e20 => ?_)
      have u24 : mu m σ19 = ui (mu m σ13) 17 x1.toNatClampNeg 3 := by rw [e20]; exact mu_ui (g := 17)
      have h := h (mu m σ19) u24
      have s21 : σ19.1 = σ0.1 := by rw [e20]; exact s15
      have M22 : Mo m σ19 := by rw [e20]; exact M16.fr rfl (fun _ _ => rfl)
      have F23 : Fr m σ0 σ19 := by rw [e20]; exact Fr.ui (g := 17) F17
      refine r_aload_n C dX8_acknowledged_98 rfl (j := 0) rfl ?_
      refine r_iload_n C dX8_acknowledged_99 rfl (j := 1) rfl ?_
      obtain ⟨Q25, m26, h⟩ := h
      refine r_callVI (rest := []) C E [Value.int x1] M22.1 rfl ky_X8_keeps kl_X8_166 ki_X8_keeps kx_X8_keeps ⟨Nat.le_of_ble_eq_true rfl, Nat.le_of_ble_eq_true rfl⟩ ⟨rfl, rfl⟩ (m26 σ19 M22 rfl) rfl rfl (Nat.le_of_ble_eq_true rfl) (Nat.zero_le _) (Nat.zero_le _) dX8_acknowledged_100 (fun z29 σ27 s28 q30 => ?_)
      obtain ⟨f31, q30⟩ := q30
      have h := h z29 (mu m σ27) q30
      have M32 := M22.fr s28 f31.1
      have F33 := F23.trans f31
      have s28 := s28.trans s21
      refine r_if_le (tgt := 111) C dX8_acknowledged_103 (by decide) (fun c34 => ?_) (fun c34 => ?_)
      · have h := h.1 c34
        exact r_vretQ C E rfl (Nat.zero_le _) (Nat.zero_le _) dX8_acknowledged_111 s28 ⟨F33, h⟩
      · have h := h.2 c34
        refine r_aload_n C dX8_acknowledged_106 rfl (j := 0) rfl ?_
        refine r_iload_n C dX8_acknowledged_107 rfl (j := 1) rfl ?_
        obtain ⟨Q35, m36, h⟩ := h
        refine r_callVV (rest := []) C E [Value.int x1] M32.1 rfl ky_X8_draw kl_X8_170 ki_X8_draw kx_X8_draw ⟨Nat.le_of_ble_eq_true rfl, Nat.le_of_ble_eq_true rfl⟩ ⟨rfl, rfl⟩ (m36 σ27 M32 rfl) rfl rfl (Nat.le_of_ble_eq_true rfl) (Nat.zero_le _) (Nat.zero_le _) dX8_acknowledged_108 (fun σ37 s38 q40 => ?_)
        obtain ⟨f41, q40⟩ := q40
        have h := h (mu m σ37) q40
        have M42 := M32.fr s38 f41.1
        have F43 := F33.trans f41
        have s38 := s38.trans s28
        exact r_vretQ C E rfl (Nat.zero_le _) (Nat.zero_le _) dX8_acknowledged_111 s38 ⟨F43, h⟩
    · have h := h.1 c3
      refine r_aload_n C dX8_acknowledged_77 rfl (j := 0) rfl ?_
      refine r_iload_n C dX8_acknowledged_78 rfl (j := 1) rfl ?_
      refine r_lload_n C dX8_acknowledged_79 rfl (j := 3) rfl ?_
      obtain ⟨Q4, m5, h⟩ := h
      refine r_callVV (rest := []) C E [Value.int x1, Value.long y3] hM.1 rfl ky_X8_fail kl_X8_194 ki_X8_fail kx_X8_fail ⟨Nat.le_of_ble_eq_true rfl, Nat.le_of_ble_eq_true rfl⟩ ⟨rfl, rfl⟩ (m5 σ hM rfl) rfl rfl (Nat.le_of_ble_eq_true rfl) (Nat.zero_le _) (Nat.zero_le _) dX8_acknowledged_80 (fun σ6 s7 q9 => ?_)
      obtain ⟨f10, q9⟩ := q9
      have h := h (mu m σ6) q9
      have M11 := hM.fr s7 f10.1
      have F12 := hF.trans f10
      have s7 := s7.trans hs
      exact r_vretQ C E rfl (Nat.zero_le _) (Nat.zero_le _) dX8_acknowledged_83 s7 ⟨F12, h⟩
  · have h := h.2 c2
    refine r_iload_n C dX8_acknowledged_23 rfl (j := 2) rfl ?_
    refine r_iload C dX8_acknowledged_24 (j := 4) rfl ?_
    refine r_ishr C dX8_acknowledged_26 ?_
    refine r_iconst (v := 1) C dX8_acknowledged_27 (by decide) ?_
    refine r_iand C dX8_acknowledged_28 ?_
    refine r_iconst (v := 1) C dX8_acknowledged_29 (by decide) ?_
    refine r_icmp_ne (tgt := 67) C dX8_acknowledged_30 (by decide) (fun c44 => ?_) (fun c44 => ?_)
    · have h := h.2 c44
      obtain ⟨z64, e65⟩ : ∃ y : Int32, y = x5 + 1 := ⟨_, rfl⟩
      have h := h z64 e65
      refine r_iinc (v := z64) (lv' := [(5, Value.int z64), (0, Value.ref (B + m)), (1, Value.int x1), (2, Value.int x2), (3, Value.long y3)]) C dX8_acknowledged_67 (k := 4) rfl (by rw [e65]; rfl) (by decide) rfl ?_
      refine r_goto (tgt := 12) C dX8_acknowledged_70 (by decide) ?_
      exact r_loc (by simp) (h σ hs hM hF rfl)
    · have h := h.1 c44
      refine r_aload_n C dX8_acknowledged_33 rfl (j := 0) rfl ?_
      refine r_getA C hM (k := 10) (g := 6) (ti := 2) (n := 301) (by decide) fa_X8_30 rfl dX8_acknowledged_34 ?_
      refine r_aload_n C dX8_acknowledged_37 rfl (j := 0) rfl ?_
      refine r_getA C hM (k := 42) (g := 34) (ti := 0) (n := 24) (by decide) fa_X8_115 rfl dX8_acknowledged_38 ?_
      refine r_iconst (v := 4) C dX8_acknowledged_41 (by decide) ?_
      refine r_iload_n C dX8_acknowledged_42 rfl (j := 1) rfl ?_
      refine r_imul C dX8_acknowledged_43 ?_
      refine r_iload C dX8_acknowledged_44 (j := 4) rfl ?_
      refine r_iadd C dX8_acknowledged_46 ?_
      obtain ⟨g45, h⟩ := h
      refine r_iald (ti := 0) (n := 24) C (hM.2 (42, 34, 0, 24) (by decide)).2 ⟨rfl, fun _ => rfl⟩ g45 dX8_acknowledged_47 ?_
      refine r_iconst (v := 0) C dX8_acknowledged_48 (by decide) ?_
      obtain ⟨g46, h⟩ := h
      refine r_zast (ti := 2) (n := 301) C (hM.2 (10, 6, 2, 301) (by decide)).2 ⟨rfl, fun _ => rfl⟩ g46 (by decide) dX8_acknowledged_49 ?_
      refine r_nam (fun σ47 e48 => ?_)
      have u52 : mu m σ47 = ui (mu m σ) 6 (((mu m σ).1 34 (((4 * x1) + x5).toNatClampNeg)).toNatClampNeg) 0 := by rw [e48]; exact mu_ui (g := 6)
      have h := h (mu m σ47) u52
      have s49 : σ47.1 = σ0.1 := by rw [e48]; exact hs
      have M50 : Mo m σ47 := by rw [e48]; exact hM.fr rfl (fun _ _ => rfl)
      have F51 : Fr m σ0 σ47 := by rw [e48]; exact Fr.ui (g := 6) hF
      refine r_aload_n C dX8_acknowledged_50 rfl (j := 0) rfl ?_
      refine r_aload_n C dX8_acknowledged_51 rfl (j := 0) rfl ?_
      refine r_getA C M50 (k := 42) (g := 34) (ti := 0) (n := 24) (by decide) fa_X8_115 rfl dX8_acknowledged_52 ?_
      refine r_iconst (v := 4) C dX8_acknowledged_55 (by decide) ?_
      refine r_iload_n C dX8_acknowledged_56 rfl (j := 1) rfl ?_
      refine r_imul C dX8_acknowledged_57 ?_
      refine r_iload C dX8_acknowledged_58 (j := 4) rfl ?_
      refine r_iadd C dX8_acknowledged_60 ?_
      refine r_iald (ti := 0) (n := 24) C (M50.2 (42, 34, 0, 24) (by decide)).2 ⟨rfl, fun _ => rfl⟩ g45 dX8_acknowledged_61 ?_
      refine r_iconst (v := 3) C dX8_acknowledged_62 (by decide) ?_
      refine r_lload_n C dX8_acknowledged_63 rfl (j := 3) rfl ?_
      obtain ⟨Q53, m54, h⟩ := h
      refine r_callVV (rest := []) C E [Value.int ((mu m σ47).1 34 (((4 * x1) + x5).toNatClampNeg)), Value.int 3, Value.long y3] M50.1 rfl ky_X8_tell kl_X8_186 ki_X8_tell kx_X8_tell ⟨Nat.le_of_ble_eq_true rfl, Nat.le_of_ble_eq_true rfl⟩ ⟨rfl, rfl⟩ (m54 σ47 M50 rfl) rfl rfl (Nat.le_of_ble_eq_true rfl) (Nat.zero_le _) (Nat.zero_le _) dX8_acknowledged_64 (fun σ55 s56 q58 => ?_)
      obtain ⟨f59, q58⟩ := q58
      have h := h (mu m σ55) q58
      have M60 := M50.fr s56 f59.1
      have F61 := F51.trans f59
      have s56 := s56.trans s49
      obtain ⟨z62, e63⟩ : ∃ y : Int32, y = x5 + 1 := ⟨_, rfl⟩
      have h := h z62 e63
      refine r_iinc (v := z62) (lv' := [(5, Value.int z62), (0, Value.ref (B + m)), (1, Value.int x1), (2, Value.int x2), (3, Value.long y3)]) C dX8_acknowledged_67 (k := 4) rfl (by rw [e63]; rfl) (by decide) rfl ?_
      refine r_goto (tgt := 12) C dX8_acknowledged_70 (by decide) ?_
      exact r_loc (by simp) (h σ55 s56 M60 F61 rfl)
theorem u_X8_receive_0 {X : r_X} {w : r_V} {B m : Nat} {l : Launch} {Q : Mu → Prop} {σ0 : r_S} (C : r_C X w B 7 cX8_receive RX8) (E : r_E X l tX8_receive) {μ : Mu} {x1 x2 : Int32} {y3 : Int64}
    (h : vp_in x2 6 ∧ (∀ μ2 : Mu, μ2 = ul μ 32 x2.toNatClampNeg y3 → (vp_in x1 6 ∧ (((μ2.1 38 x1.toNatClampNeg) = x2 → (∀ z16 : Int32, z16 = (if (μ2.2 23 x2.toNatClampNeg) < 0 then (0 : Int32) else (if (μ2.1 24 x2.toNatClampNeg) = x1 then (if (μ2.1 25 x2.toNatClampNeg) = (μ2.1 37 x1.toNatClampNeg) then (1 : Int32) else (0 : Int32)) else (0 : Int32))) → (((μ2.1 37 x1.toNatClampNeg) = 1 → (((y3 + 1) < (μ2.2 22 x2.toNatClampNeg) → (Q μ2)) ∧ (¬ (y3 + 1) < (μ2.2 22 x2.toNatClampNeg) → ((0 ≤ (μ2.2 23 x2.toNatClampNeg) → (Q μ2)) ∧ (¬ 0 ≤ (μ2.2 23 x2.toNatClampNeg) → ((0 ≤ (μ2.2 26 x2.toNatClampNeg) → (Q μ2)) ∧ (¬ 0 ≤ (μ2.2 26 x2.toNatClampNeg) → (∃ Q23 : Mu → Prop, r_MV l w B m tX8_due [Value.int x2, Value.int 2, Value.int x1, Value.int (μ2.1 41 x1.toNatClampNeg), Value.int 0, Value.long y3] μ2 Q23 ∧ (∀ μ25 : Mu, Q23 μ25 → (Q μ25)))))))))) ∧ (¬ (μ2.1 37 x1.toNatClampNeg) = 1 → (((μ2.1 37 x1.toNatClampNeg) = 3 → (∃ Q33 : Int32 → Mu → Prop, r_MI l w B m tX8_take [Value.int x1, Value.int x2, Value.long y3] μ2 Q33 ∧ (∀ (z37 : Int32) (μ35 : Mu), Q33 z37 μ35 → (∃ Q42 : Int32 → Mu → Prop, r_MI l w B m tX8_sends [Value.int x2, Value.long y3] μ35 Q42 ∧ (∀ (z46 : Int32) (μ44 : Mu), Q42 z46 μ44 → ((z46 = 0 → ((0 ≤ (μ44.2 26 x2.toNatClampNeg) → (Q μ44)) ∧ (¬ 0 ≤ (μ44.2 26 x2.toNatClampNeg) → (∃ Q53 : Mu → Prop, r_MV l w B m tX8_due [Value.int x2, Value.int 4, Value.int x1, Value.int 0, Value.int z37, Value.long y3] μ44 Q53 ∧ (∀ μ55 : Mu, Q53 μ55 → (Q μ55)))))) ∧ (¬ z46 = 0 → (Q μ44)))))))) ∧ (¬ (μ2.1 37 x1.toNatClampNeg) = 3 → ((z16 = 0 → (r_Wm X w B 7 m σ0 (r_Z X w B tX8_receive (ZMV m σ0 Q)) 260 [(0, Value.ref (B + m)), (1, Value.int x1), (2, Value.int x2), (3, Value.long y3), (5, Value.int z16)] [] μ2)) ∧ (¬ z16 = 0 → (((μ2.1 37 x1.toNatClampNeg) = 2 → (∀ μ64 : Mu, μ64 = ul μ2 23 x2.toNatClampNeg (-1) → (∃ Q70 : Mu → Prop, r_MV l w B m tX8_due [Value.int x2, Value.int 3, Value.int x1, Value.int (μ64.1 36 x2.toNatClampNeg), Value.int 0, Value.long y3] μ64 Q70 ∧ (∀ μ72 : Mu, Q70 μ72 → (Q μ72))))) ∧ (¬ (μ2.1 37 x1.toNatClampNeg) = 2 → (r_Wm X w B 7 m σ0 (r_Z X w B tX8_receive (ZMV m σ0 Q)) 260 [(0, Value.ref (B + m)), (1, Value.int x1), (2, Value.int x2), (3, Value.long y3), (5, Value.int z16)] [] μ2))))))))))) ∧ (¬ (μ2.1 38 x1.toNatClampNeg) = x2 → (∃ Q79 : Int32 → Mu → Prop, r_MI l w B m tX8_left [Value.int x1] μ2 Q79 ∧ (∀ (z83 : Int32) (μ81 : Mu), Q79 z83 μ81 → (∀ y88 : Int64, y88 = (y3 + 1) + z83.toInt64 → (∀ y92 : Int64, y92 = (if y88 ≤ (μ81.2 22 x2.toNatClampNeg) then (μ81.2 22 x2.toNatClampNeg) else y88) → (∀ μ95 : Mu, μ95 = ul μ81 22 x2.toNatClampNeg y92 → (Q μ95))))))))))) :
    r_Wm X w B 7 m σ0 (r_Z X w B tX8_receive (ZMV m σ0 Q)) 0 [(0, Value.ref (B + m)), (1, Value.int x1), (2, Value.int x2), (3, Value.long y3)] [] μ := by
  intro σ hs hM hF hμ
  subst hμ
  refine r_aload_n C dX8_receive_0 rfl (j := 0) rfl ?_
  refine r_getA C hM (k := 40) (g := 32) (ti := 1) (n := 6) (by decide) fa_X8_109 rfl dX8_receive_1 ?_
  refine r_iload_n C dX8_receive_4 rfl (j := 2) rfl ?_
  refine r_lload_n C dX8_receive_5 rfl (j := 3) rfl ?_
  obtain ⟨g1, h⟩ := h
  refine r_last (ti := 1) (n := 6) C (hM.2 (40, 32, 1, 6) (by decide)).2 ⟨rfl, fun _ => rfl⟩ g1 dX8_receive_6 ?_
  refine r_nam (fun σ2 e3 => ?_)
  have u7 : mu m σ2 = ul (mu m σ) 32 x2.toNatClampNeg y3 := by rw [e3]; exact mu_ul (g := 32)
  have h := h (mu m σ2) u7
  have s4 : σ2.1 = σ0.1 := by rw [e3]; exact hs
  have M5 : Mo m σ2 := by rw [e3]; exact hM.fr rfl (fun _ _ => rfl)
  have F6 : Fr m σ0 σ2 := by rw [e3]; exact Fr.ul (g := 32) hF
  refine r_aload_n C dX8_receive_7 rfl (j := 0) rfl ?_
  refine r_getA C M5 (k := 46) (g := 38) (ti := 0) (n := 6) (by decide) fa_X8_127 rfl dX8_receive_8 ?_
  refine r_iload_n C dX8_receive_11 rfl (j := 1) rfl ?_
  obtain ⟨g8, h⟩ := h
  refine r_iald (ti := 0) (n := 6) C (M5.2 (46, 38, 0, 6) (by decide)).2 ⟨rfl, fun _ => rfl⟩ g8 dX8_receive_12 ?_
  refine r_iload_n C dX8_receive_13 rfl (j := 2) rfl ?_
  refine r_icmp_eq (tgt := 59) C dX8_receive_14 (by decide) (fun c9 => ?_) (fun c9 => ?_)
  · have h := h.1 c9
    refine r_aload_n C dX8_receive_59 rfl (j := 0) rfl ?_
    refine r_getA C M5 (k := 31) (g := 23) (ti := 1) (n := 6) (by decide) fa_X8_82 rfl dX8_receive_60 ?_
    refine r_iload_n C dX8_receive_63 rfl (j := 2) rfl ?_
    refine r_lald (ti := 1) (n := 6) C (M5.2 (31, 23, 1, 6) (by decide)).2 ⟨rfl, fun _ => rfl⟩ g1 dX8_receive_64 ?_
    refine r_lconst (v := 0) C dX8_receive_65 (by decide) ?_
    refine r_lcmp C dX8_receive_66 ?_
    have k18 : ∀ z16 : Int32, z16 = (if ((mu m σ2).2 23 x2.toNatClampNeg) < 0 then (0 : Int32) else (if ((mu m σ2).1 24 x2.toNatClampNeg) = x1 then (if ((mu m σ2).1 25 x2.toNatClampNeg) = ((mu m σ2).1 37 x1.toNatClampNeg) then (1 : Int32) else (0 : Int32)) else (0 : Int32))) → r_W X w B 7 0 0 (r_Z X w B tX8_receive (ZMV m σ0 Q)) 100 [(0, Value.ref (B + m)), (1, Value.int x1), (2, Value.int x2), (3, Value.long y3)] [Value.int z16] σ2 := by
      intro z16 e17
      have h := h z16 e17
      refine r_istore (lv' := [(5, Value.int z16), (0, Value.ref (B + m)), (1, Value.int x1), (2, Value.int x2), (3, Value.long y3)]) C dX8_receive_100 (by decide) rfl ?_
      refine r_aload_n C dX8_receive_102 rfl (j := 1) rfl ?_
      refine r_getA C M5 (k := 45) (g := 37) (ti := 0) (n := 6) (by decide) fa_X8_124 rfl dX8_receive_103 ?_
      refine r_iload_n C dX8_receive_106 rfl (j := 2) rfl ?_
      refine r_iald (ti := 0) (n := 6) C (M5.2 (45, 37, 0, 6) (by decide)).2 ⟨rfl, fun _ => rfl⟩ g8 dX8_receive_107 ?_
      refine r_iconst (v := 1) C dX8_receive_108 (by decide) ?_
      refine r_icmp_ne (tgt := 165) C dX8_receive_109 (by decide) (fun c19 => ?_) (fun c19 => ?_)
      · have h := h.2 c19
        refine r_aload_n C dX8_receive_165 rfl (j := 1) rfl ?_
        refine r_getA C M5 (k := 45) (g := 37) (ti := 0) (n := 6) (by decide) fa_X8_124 rfl dX8_receive_166 ?_
        refine r_iload_n C dX8_receive_169 rfl (j := 2) rfl ?_
        refine r_iald (ti := 0) (n := 6) C (M5.2 (45, 37, 0, 6) (by decide)).2 ⟨rfl, fun _ => rfl⟩ g8 dX8_receive_170 ?_
        refine r_iconst (v := 3) C dX8_receive_171 (by decide) ?_
        refine r_icmp_ne (tgt := 218) C dX8_receive_172 (by decide) (fun c32 => ?_) (fun c32 => ?_)
        · have h := h.2 c32
          refine r_iload C dX8_receive_218 (j := 0) rfl ?_
          refine r_if_eq (tgt := 260) C dX8_receive_220 (by decide) (fun c62 => ?_) (fun c62 => ?_)
          · have h := h.1 c62
            exact r_loc (by simp) (h σ2 s4 M5 F6 rfl)
          · have h := h.2 c62
            refine r_aload_n C dX8_receive_223 rfl (j := 1) rfl ?_
            refine r_getA C M5 (k := 45) (g := 37) (ti := 0) (n := 6) (by decide) fa_X8_124 rfl dX8_receive_224 ?_
            refine r_iload_n C dX8_receive_227 rfl (j := 2) rfl ?_
            refine r_iald (ti := 0) (n := 6) C (M5.2 (45, 37, 0, 6) (by decide)).2 ⟨rfl, fun _ => rfl⟩ g8 dX8_receive_228 ?_
            refine r_iconst (v := 2) C dX8_receive_229 (by decide) ?_
            refine r_icmp_ne (tgt := 260) C dX8_receive_230 (by decide) (fun c63 => ?_) (fun c63 => ?_)
            · have h := h.2 c63
              exact r_loc (by simp) (h σ2 s4 M5 F6 rfl)
            · have h := h.1 c63
              refine r_aload_n C dX8_receive_233 rfl (j := 1) rfl ?_
              refine r_getA C M5 (k := 31) (g := 23) (ti := 1) (n := 6) (by decide) fa_X8_82 rfl dX8_receive_234 ?_
              refine r_iload_n C dX8_receive_237 rfl (j := 3) rfl ?_
              refine r_ldc2 (v := (-1)) C kj_X8_148 dX8_receive_238 ?_
              refine r_last (ti := 1) (n := 6) C (M5.2 (31, 23, 1, 6) (by decide)).2 ⟨rfl, fun _ => rfl⟩ g1 dX8_receive_241 ?_
              refine r_nam (fun σ64 e65 => ?_)
              have u69 : mu m σ64 = ul (mu m σ2) 23 x2.toNatClampNeg (-1) := by rw [e65]; exact mu_ul (g := 23)
              have h := h (mu m σ64) u69
              have s66 : σ64.1 = σ0.1 := by rw [e65]; exact s4
              have M67 : Mo m σ64 := by rw [e65]; exact M5.fr rfl (fun _ _ => rfl)
              have F68 : Fr m σ0 σ64 := by rw [e65]; exact Fr.ul (g := 23) F6
              refine r_aload_n C dX8_receive_242 rfl (j := 1) rfl ?_
              refine r_iload_n C dX8_receive_243 rfl (j := 3) rfl ?_
              refine r_iconst (v := 3) C dX8_receive_244 (by decide) ?_
              refine r_iload_n C dX8_receive_245 rfl (j := 2) rfl ?_
              refine r_aload_n C dX8_receive_246 rfl (j := 1) rfl ?_
              refine r_getA C M67 (k := 44) (g := 36) (ti := 0) (n := 6) (by decide) fa_X8_121 rfl dX8_receive_247 ?_
              refine r_iload_n C dX8_receive_250 rfl (j := 3) rfl ?_
              refine r_iald (ti := 0) (n := 6) C (M67.2 (44, 36, 0, 6) (by decide)).2 ⟨rfl, fun _ => rfl⟩ g1 dX8_receive_251 ?_
              refine r_iconst (v := 0) C dX8_receive_252 (by decide) ?_
              refine r_lload_n C dX8_receive_253 rfl (j := 4) rfl ?_
              obtain ⟨Q70, m71, h⟩ := h
              refine r_callVV (rest := []) C E [Value.int x2, Value.int 3, Value.int x1, Value.int ((mu m σ64).1 36 x2.toNatClampNeg), Value.int 0, Value.long y3] M67.1 rfl ky_X8_due kl_X8_224 ki_X8_due kx_X8_due ⟨Nat.le_of_ble_eq_true rfl, Nat.le_of_ble_eq_true rfl⟩ ⟨rfl, rfl⟩ (m71 σ64 M67 rfl) rfl rfl (Nat.le_of_ble_eq_true rfl) (Nat.zero_le _) (Nat.zero_le _) dX8_receive_254 (fun σ72 s73 q75 => ?_)
              obtain ⟨f76, q75⟩ := q75
              have h := h (mu m σ72) q75
              have M77 := M67.fr s73 f76.1
              have F78 := F68.trans f76
              have s73 := s73.trans s66
              refine r_goto (tgt := 277) C dX8_receive_257 (by decide) ?_
              exact r_vretQ C E rfl (Nat.zero_le _) (Nat.zero_le _) dX8_receive_277 s73 ⟨F78, h⟩
        · have h := h.1 c32
          refine r_aload_n C dX8_receive_175 rfl (j := 1) rfl ?_
          refine r_iload_n C dX8_receive_176 rfl (j := 2) rfl ?_
          refine r_iload_n C dX8_receive_177 rfl (j := 3) rfl ?_
          refine r_lload_n C dX8_receive_178 rfl (j := 4) rfl ?_
          obtain ⟨Q33, m34, h⟩ := h
          refine r_callVI (rest := []) C E [Value.int x1, Value.int x2, Value.long y3] M5.1 rfl ky_X8_take kl_X8_227 ki_X8_take kx_X8_take ⟨Nat.le_of_ble_eq_true rfl, Nat.le_of_ble_eq_true rfl⟩ ⟨rfl, rfl⟩ (m34 σ2 M5 rfl) rfl rfl (Nat.le_of_ble_eq_true rfl) (Nat.zero_le _) (Nat.zero_le _) dX8_receive_179 (fun z37 σ35 s36 q38 => ?_)
          obtain ⟨f39, q38⟩ := q38
          have h := h z37 (mu m σ35) q38
          have M40 := M5.fr s36 f39.1
          have F41 := F6.trans f39
          have s36 := s36.trans s4
          refine r_istore (lv' := [(6, Value.int z37), (5, Value.int z16), (0, Value.ref (B + m)), (1, Value.int x1), (2, Value.int x2), (3, Value.long y3)]) C dX8_receive_182 (by decide) rfl ?_
          refine r_aload_n C dX8_receive_184 rfl (j := 2) rfl ?_
          refine r_iload_n C dX8_receive_185 rfl (j := 4) rfl ?_
          refine r_lload_n C dX8_receive_186 rfl (j := 5) rfl ?_
          obtain ⟨Q42, m43, h⟩ := h
          refine r_callVI (rest := []) C E [Value.int x2, Value.long y3] M40.1 rfl ky_X8_sends kl_X8_198 ki_X8_sends kx_X8_sends ⟨Nat.le_of_ble_eq_true rfl, Nat.le_of_ble_eq_true rfl⟩ ⟨rfl, rfl⟩ (m43 σ35 M40 rfl) rfl rfl (Nat.le_of_ble_eq_true rfl) (Nat.zero_le _) (Nat.zero_le _) dX8_receive_187 (fun z46 σ44 s45 q47 => ?_)
          obtain ⟨f48, q47⟩ := q47
          have h := h z46 (mu m σ44) q47
          have M49 := M40.fr s45 f48.1
          have F50 := F41.trans f48
          have s45 := s45.trans s36
          refine r_if_ne (tgt := 215) C dX8_receive_190 (by decide) (fun c51 => ?_) (fun c51 => ?_)
          · have h := h.2 c51
            refine r_goto (tgt := 277) C dX8_receive_215 (by decide) ?_
            exact r_vretQ C E rfl (Nat.zero_le _) (Nat.zero_le _) dX8_receive_277 s45 ⟨F50, h⟩
          · have h := h.1 c51
            refine r_aload_n C dX8_receive_193 rfl (j := 2) rfl ?_
            refine r_getA C M49 (k := 34) (g := 26) (ti := 1) (n := 6) (by decide) fa_X8_91 rfl dX8_receive_194 ?_
            refine r_iload_n C dX8_receive_197 rfl (j := 4) rfl ?_
            refine r_lald (ti := 1) (n := 6) C (M49.2 (34, 26, 1, 6) (by decide)).2 ⟨rfl, fun _ => rfl⟩ g1 dX8_receive_198 ?_
            refine r_lconst (v := 0) C dX8_receive_199 (by decide) ?_
            refine r_lcmp C dX8_receive_200 ?_
            refine r_if_ge (tgt := 215) C dX8_receive_201 (by decide) (fun c52 => ?_) (fun c52 => ?_)
            · have h := h.1 (lgc_ge.mp c52)
              refine r_goto (tgt := 277) C dX8_receive_215 (by decide) ?_
              exact r_vretQ C E rfl (Nat.zero_le _) (Nat.zero_le _) dX8_receive_277 s45 ⟨F50, h⟩
            · have h := h.2 (fun q => c52 (lgc_ge.mpr q))
              refine r_aload_n C dX8_receive_204 rfl (j := 2) rfl ?_
              refine r_iload_n C dX8_receive_205 rfl (j := 4) rfl ?_
              refine r_iconst (v := 4) C dX8_receive_206 (by decide) ?_
              refine r_iload_n C dX8_receive_207 rfl (j := 3) rfl ?_
              refine r_iconst (v := 0) C dX8_receive_208 (by decide) ?_
              refine r_iload C dX8_receive_209 (j := 0) rfl ?_
              refine r_lload_n C dX8_receive_211 rfl (j := 5) rfl ?_
              obtain ⟨Q53, m54, h⟩ := h
              refine r_callVV (rest := []) C E [Value.int x2, Value.int 4, Value.int x1, Value.int 0, Value.int z37, Value.long y3] M49.1 rfl ky_X8_due kl_X8_224 ki_X8_due kx_X8_due ⟨Nat.le_of_ble_eq_true rfl, Nat.le_of_ble_eq_true rfl⟩ ⟨rfl, rfl⟩ (m54 σ44 M49 rfl) rfl rfl (Nat.le_of_ble_eq_true rfl) (Nat.zero_le _) (Nat.zero_le _) dX8_receive_212 (fun σ55 s56 q58 => ?_)
              obtain ⟨f59, q58⟩ := q58
              have h := h (mu m σ55) q58
              have M60 := M49.fr s56 f59.1
              have F61 := F50.trans f59
              have s56 := s56.trans s45
              refine r_goto (tgt := 277) C dX8_receive_215 (by decide) ?_
              exact r_vretQ C E rfl (Nat.zero_le _) (Nat.zero_le _) dX8_receive_277 s56 ⟨F61, h⟩
      · have h := h.1 c19
        refine r_aload_n C dX8_receive_112 rfl (j := 1) rfl ?_
        refine r_getA C M5 (k := 30) (g := 22) (ti := 1) (n := 6) (by decide) fa_X8_79 rfl dX8_receive_113 ?_
        refine r_iload_n C dX8_receive_116 rfl (j := 3) rfl ?_
        refine r_lald (ti := 1) (n := 6) C (M5.2 (30, 22, 1, 6) (by decide)).2 ⟨rfl, fun _ => rfl⟩ g1 dX8_receive_117 ?_
        refine r_lload_n C dX8_receive_118 rfl (j := 4) rfl ?_
        refine r_lconst (v := 1) C dX8_receive_119 (by decide) ?_
        refine r_ladd C dX8_receive_120 ?_
        refine r_lcmp C dX8_receive_121 ?_
        refine r_if_gt (tgt := 277) C dX8_receive_122 (by decide) (fun c20 => ?_) (fun c20 => ?_)
        · have h := h.1 (lgc_gt.mp c20)
          exact r_vretQ C E rfl (Nat.zero_le _) (Nat.zero_le _) dX8_receive_277 s4 ⟨F6, h⟩
        · have h := h.2 (fun q => c20 (lgc_gt.mpr q))
          refine r_aload_n C dX8_receive_125 rfl (j := 1) rfl ?_
          refine r_getA C M5 (k := 31) (g := 23) (ti := 1) (n := 6) (by decide) fa_X8_82 rfl dX8_receive_126 ?_
          refine r_iload_n C dX8_receive_129 rfl (j := 3) rfl ?_
          refine r_lald (ti := 1) (n := 6) C (M5.2 (31, 23, 1, 6) (by decide)).2 ⟨rfl, fun _ => rfl⟩ g1 dX8_receive_130 ?_
          refine r_lconst (v := 0) C dX8_receive_131 (by decide) ?_
          refine r_lcmp C dX8_receive_132 ?_
          refine r_if_ge (tgt := 277) C dX8_receive_133 (by decide) (fun c21 => ?_) (fun c21 => ?_)
          · have h := h.1 (lgc_ge.mp c21)
            exact r_vretQ C E rfl (Nat.zero_le _) (Nat.zero_le _) dX8_receive_277 s4 ⟨F6, h⟩
          · have h := h.2 (fun q => c21 (lgc_ge.mpr q))
            refine r_aload_n C dX8_receive_136 rfl (j := 1) rfl ?_
            refine r_getA C M5 (k := 34) (g := 26) (ti := 1) (n := 6) (by decide) fa_X8_91 rfl dX8_receive_137 ?_
            refine r_iload_n C dX8_receive_140 rfl (j := 3) rfl ?_
            refine r_lald (ti := 1) (n := 6) C (M5.2 (34, 26, 1, 6) (by decide)).2 ⟨rfl, fun _ => rfl⟩ g1 dX8_receive_141 ?_
            refine r_lconst (v := 0) C dX8_receive_142 (by decide) ?_
            refine r_lcmp C dX8_receive_143 ?_
            refine r_if_ge (tgt := 277) C dX8_receive_144 (by decide) (fun c22 => ?_) (fun c22 => ?_)
            · have h := h.1 (lgc_ge.mp c22)
              exact r_vretQ C E rfl (Nat.zero_le _) (Nat.zero_le _) dX8_receive_277 s4 ⟨F6, h⟩
            · have h := h.2 (fun q => c22 (lgc_ge.mpr q))
              refine r_aload_n C dX8_receive_147 rfl (j := 1) rfl ?_
              refine r_iload_n C dX8_receive_148 rfl (j := 3) rfl ?_
              refine r_iconst (v := 2) C dX8_receive_149 (by decide) ?_
              refine r_iload_n C dX8_receive_150 rfl (j := 2) rfl ?_
              refine r_aload_n C dX8_receive_151 rfl (j := 1) rfl ?_
              refine r_getA C M5 (k := 49) (g := 41) (ti := 0) (n := 6) (by decide) fa_X8_136 rfl dX8_receive_152 ?_
              refine r_iload_n C dX8_receive_155 rfl (j := 2) rfl ?_
              refine r_iald (ti := 0) (n := 6) C (M5.2 (49, 41, 0, 6) (by decide)).2 ⟨rfl, fun _ => rfl⟩ g8 dX8_receive_156 ?_
              refine r_iconst (v := 0) C dX8_receive_157 (by decide) ?_
              refine r_lload_n C dX8_receive_158 rfl (j := 4) rfl ?_
              obtain ⟨Q23, m24, h⟩ := h
              refine r_callVV (rest := []) C E [Value.int x2, Value.int 2, Value.int x1, Value.int ((mu m σ2).1 41 x1.toNatClampNeg), Value.int 0, Value.long y3] M5.1 rfl ky_X8_due kl_X8_224 ki_X8_due kx_X8_due ⟨Nat.le_of_ble_eq_true rfl, Nat.le_of_ble_eq_true rfl⟩ ⟨rfl, rfl⟩ (m24 σ2 M5 rfl) rfl rfl (Nat.le_of_ble_eq_true rfl) (Nat.zero_le _) (Nat.zero_le _) dX8_receive_159 (fun σ25 s26 q28 => ?_)
              obtain ⟨f29, q28⟩ := q28
              have h := h (mu m σ25) q28
              have M30 := M5.fr s26 f29.1
              have F31 := F6.trans f29
              have s26 := s26.trans s4
              refine r_goto (tgt := 277) C dX8_receive_162 (by decide) ?_
              exact r_vretQ C E rfl (Nat.zero_le _) (Nat.zero_le _) dX8_receive_277 s26 ⟨F31, h⟩
    clear h
    refine r_if_lt (tgt := 99) C dX8_receive_67 (by decide) (fun c10 => ?_) (fun c10 => ?_)
    · have c10 : ((mu m σ2).2 23 x2.toNatClampNeg) < 0 := (lgc_lt.mp c10)
      refine r_iconst (v := 0) C dX8_receive_99 (by decide) ?_
      exact k18 _ (by rw [if_pos c10] <;> rfl)
    · have c10 : ¬ ((mu m σ2).2 23 x2.toNatClampNeg) < 0 := (fun q => c10 (lgc_lt.mpr q))
      refine r_aload_n C dX8_receive_70 rfl (j := 0) rfl ?_
      refine r_getA C M5 (k := 32) (g := 24) (ti := 0) (n := 6) (by decide) fa_X8_85 rfl dX8_receive_71 ?_
      refine r_iload_n C dX8_receive_74 rfl (j := 2) rfl ?_
      refine r_iald (ti := 0) (n := 6) C (M5.2 (32, 24, 0, 6) (by decide)).2 ⟨rfl, fun _ => rfl⟩ g1 dX8_receive_75 ?_
      refine r_iload_n C dX8_receive_76 rfl (j := 1) rfl ?_
      refine r_icmp_ne (tgt := 99) C dX8_receive_77 (by decide) (fun c12 => ?_) (fun c12 => ?_)
      · have c12 : ¬ ((mu m σ2).1 24 x2.toNatClampNeg) = x1 := c12
        refine r_iconst (v := 0) C dX8_receive_99 (by decide) ?_
        exact k18 _ (by rw [if_neg c10, if_neg c12] <;> rfl)
      · have c12 : ((mu m σ2).1 24 x2.toNatClampNeg) = x1 := c12
        refine r_aload_n C dX8_receive_80 rfl (j := 0) rfl ?_
        refine r_getA C M5 (k := 33) (g := 25) (ti := 0) (n := 6) (by decide) fa_X8_88 rfl dX8_receive_81 ?_
        refine r_iload_n C dX8_receive_84 rfl (j := 2) rfl ?_
        refine r_iald (ti := 0) (n := 6) C (M5.2 (33, 25, 0, 6) (by decide)).2 ⟨rfl, fun _ => rfl⟩ g1 dX8_receive_85 ?_
        refine r_aload_n C dX8_receive_86 rfl (j := 0) rfl ?_
        refine r_getA C M5 (k := 45) (g := 37) (ti := 0) (n := 6) (by decide) fa_X8_124 rfl dX8_receive_87 ?_
        refine r_iload_n C dX8_receive_90 rfl (j := 1) rfl ?_
        refine r_iald (ti := 0) (n := 6) C (M5.2 (45, 37, 0, 6) (by decide)).2 ⟨rfl, fun _ => rfl⟩ g8 dX8_receive_91 ?_
        refine r_icmp_ne (tgt := 99) C dX8_receive_92 (by decide) (fun c14 => ?_) (fun c14 => ?_)
        · have c14 : ¬ ((mu m σ2).1 25 x2.toNatClampNeg) = ((mu m σ2).1 37 x1.toNatClampNeg) := c14
          refine r_iconst (v := 0) C dX8_receive_99 (by decide) ?_
          exact k18 _ (by rw [if_neg c10, if_pos c12, if_neg c14] <;> rfl)
        · have c14 : ((mu m σ2).1 25 x2.toNatClampNeg) = ((mu m σ2).1 37 x1.toNatClampNeg) := c14
          refine r_iconst (v := 1) C dX8_receive_95 (by decide) ?_
          refine r_goto (tgt := 100) C dX8_receive_96 (by decide) ?_
          exact k18 _ (by rw [if_neg c10, if_pos c12, if_pos c14] <;> rfl)
  · have h := h.2 c9
    refine r_lload_n C dX8_receive_17 rfl (j := 3) rfl ?_
    refine r_lconst (v := 1) C dX8_receive_18 (by decide) ?_
    refine r_ladd C dX8_receive_19 ?_
    refine r_aload_n C dX8_receive_20 rfl (j := 0) rfl ?_
    refine r_iload_n C dX8_receive_21 rfl (j := 1) rfl ?_
    obtain ⟨Q79, m80, h⟩ := h
    refine r_callVI (rest := [Value.long (y3 + 1)]) C E [Value.int x1] M5.1 rfl ky_X8_left kl_X8_221 ki_X8_left kx_X8_left ⟨Nat.le_of_ble_eq_true rfl, Nat.le_of_ble_eq_true rfl⟩ ⟨rfl, rfl⟩ (m80 σ2 M5 rfl) rfl rfl (Nat.le_of_ble_eq_true rfl) (Nat.zero_le _) (Nat.zero_le _) dX8_receive_22 (fun z83 σ81 s82 q84 => ?_)
    obtain ⟨f85, q84⟩ := q84
    have h := h z83 (mu m σ81) q84
    have M86 := M5.fr s82 f85.1
    have F87 := F6.trans f85
    have s82 := s82.trans s4
    refine r_i2l (v := z83.toInt64) C dX8_receive_25 rfl ?_
    refine r_ladd C dX8_receive_26 ?_
    refine r_topl (fun y88 e89 => ?_)
    have h := h y88 e89
    refine r_lstore (lv' := [(5, Value.long y88), (0, Value.ref (B + m)), (1, Value.int x1), (2, Value.int x2), (3, Value.long y3)]) C dX8_receive_27 (by decide) rfl ?_
    refine r_aload_n C dX8_receive_29 rfl (j := 1) rfl ?_
    refine r_getA C M86 (k := 30) (g := 22) (ti := 1) (n := 6) (by decide) fa_X8_79 rfl dX8_receive_30 ?_
    refine r_iload_n C dX8_receive_33 rfl (j := 3) rfl ?_
    refine r_lload C dX8_receive_34 (j := 0) rfl ?_
    refine r_aload_n C dX8_receive_36 rfl (j := 1) rfl ?_
    refine r_getA C M86 (k := 30) (g := 22) (ti := 1) (n := 6) (by decide) fa_X8_79 rfl dX8_receive_37 ?_
    refine r_iload_n C dX8_receive_40 rfl (j := 3) rfl ?_
    refine r_lald (ti := 1) (n := 6) C (M86.2 (30, 22, 1, 6) (by decide)).2 ⟨rfl, fun _ => rfl⟩ g1 dX8_receive_41 ?_
    refine r_lcmp C dX8_receive_42 ?_
    have k94 : ∀ y92 : Int64, y92 = (if y88 ≤ ((mu m σ81).2 22 x2.toNatClampNeg) then ((mu m σ81).2 22 x2.toNatClampNeg) else y88) → r_W X w B 7 0 0 (r_Z X w B tX8_receive (ZMV m σ0 Q)) 57 [(5, Value.long y88), (0, Value.ref (B + m)), (1, Value.int x1), (2, Value.int x2), (3, Value.long y3)] [Value.long y92, Value.int x2, Value.ref (B + (m + 22))] σ81 := by
      intro y92 e93
      have h := h y92 e93
      refine r_last (ti := 1) (n := 6) C (M86.2 (30, 22, 1, 6) (by decide)).2 ⟨rfl, fun _ => rfl⟩ g1 dX8_receive_57 ?_
      refine r_nam (fun σ95 e96 => ?_)
      have u100 : mu m σ95 = ul (mu m σ81) 22 x2.toNatClampNeg y92 := by rw [e96]; exact mu_ul (g := 22)
      have h := h (mu m σ95) u100
      have s97 : σ95.1 = σ0.1 := by rw [e96]; exact s82
      have M98 : Mo m σ95 := by rw [e96]; exact M86.fr rfl (fun _ _ => rfl)
      have F99 : Fr m σ0 σ95 := by rw [e96]; exact Fr.ul (g := 22) F87
      exact r_vretQ C E rfl (Nat.zero_le _) (Nat.zero_le _) dX8_receive_58 s97 ⟨F99, h⟩
    clear h
    refine r_if_le (tgt := 51) C dX8_receive_43 (by decide) (fun c90 => ?_) (fun c90 => ?_)
    · have c90 : y88 ≤ ((mu m σ81).2 22 x2.toNatClampNeg) := (lgc_le.mp c90)
      refine r_aload_n C dX8_receive_51 rfl (j := 1) rfl ?_
      refine r_getA C M86 (k := 30) (g := 22) (ti := 1) (n := 6) (by decide) fa_X8_79 rfl dX8_receive_52 ?_
      refine r_iload_n C dX8_receive_55 rfl (j := 3) rfl ?_
      refine r_lald (ti := 1) (n := 6) C (M86.2 (30, 22, 1, 6) (by decide)).2 ⟨rfl, fun _ => rfl⟩ g1 dX8_receive_56 ?_
      exact k94 _ (by rw [if_pos c90] <;> rfl)
    · have c90 : ¬ y88 ≤ ((mu m σ81).2 22 x2.toNatClampNeg) := (fun q => c90 (lgc_le.mpr q))
      refine r_lload C dX8_receive_46 (j := 0) rfl ?_
      refine r_goto (tgt := 57) C dX8_receive_48 (by decide) ?_
      exact k94 _ (by rw [if_neg c90] <;> rfl)
theorem u_X8_receive_260 {X : r_X} {w : r_V} {B m : Nat} {l : Launch} {Q : Mu → Prop} {σ0 : r_S} (C : r_C X w B 7 cX8_receive RX8) (E : r_E X l tX8_receive) {μ : Mu} {x1 x2 x5 : Int32} {y3 : Int64}
    (h : (x5 = 0 → (Q μ)) ∧ (¬ x5 = 0 → (vp_in x1 6 ∧ (∃ Q3 : Mu → Prop, r_MV l w B m tX8_acknowledged [Value.int x2, Value.int (μ.1 42 x1.toNatClampNeg), Value.long y3] μ Q3 ∧ (∀ μ5 : Mu, Q3 μ5 → (Q μ5)))))) :
    r_Wm X w B 7 m σ0 (r_Z X w B tX8_receive (ZMV m σ0 Q)) 260 [(0, Value.ref (B + m)), (1, Value.int x1), (2, Value.int x2), (3, Value.long y3), (5, Value.int x5)] [] μ := by
  intro σ hs hM hF hμ
  subst hμ
  refine r_iload C dX8_receive_260 (j := 4) rfl ?_
  refine r_if_eq (tgt := 277) C dX8_receive_262 (by decide) (fun c1 => ?_) (fun c1 => ?_)
  · have h := h.1 c1
    exact r_vretQ C E rfl (Nat.zero_le _) (Nat.zero_le _) dX8_receive_277 hs ⟨hF, h⟩
  · have h := h.2 c1
    refine r_aload_n C dX8_receive_265 rfl (j := 0) rfl ?_
    refine r_iload_n C dX8_receive_266 rfl (j := 2) rfl ?_
    refine r_aload_n C dX8_receive_267 rfl (j := 0) rfl ?_
    refine r_getA C hM (k := 50) (g := 42) (ti := 0) (n := 6) (by decide) fa_X8_139 rfl dX8_receive_268 ?_
    refine r_iload_n C dX8_receive_271 rfl (j := 1) rfl ?_
    obtain ⟨g2, h⟩ := h
    refine r_iald (ti := 0) (n := 6) C (hM.2 (50, 42, 0, 6) (by decide)).2 ⟨rfl, fun _ => rfl⟩ g2 dX8_receive_272 ?_
    refine r_lload_n C dX8_receive_273 rfl (j := 3) rfl ?_
    obtain ⟨Q3, m4, h⟩ := h
    refine r_callVV (rest := []) C E [Value.int x2, Value.int ((mu m σ).1 42 x1.toNatClampNeg), Value.long y3] hM.1 rfl ky_X8_acknowledged kl_X8_231 ki_X8_acknowledged kx_X8_acknowledged ⟨Nat.le_of_ble_eq_true rfl, Nat.le_of_ble_eq_true rfl⟩ ⟨rfl, rfl⟩ (m4 σ hM rfl) rfl rfl (Nat.le_of_ble_eq_true rfl) (Nat.zero_le _) (Nat.zero_le _) dX8_receive_274 (fun σ5 s6 q8 => ?_)
    obtain ⟨f9, q8⟩ := q8
    have h := h (mu m σ5) q8
    have M10 := hM.fr s6 f9.1
    have F11 := hF.trans f9
    have s6 := s6.trans hs
    exact r_vretQ C E rfl (Nat.zero_le _) (Nat.zero_le _) dX8_receive_277 s6 ⟨F11, h⟩
theorem u_X8_stepThree_0 {X : r_X} {w : r_V} {B m : Nat} {l : Launch} {Q : Mu → Prop} {σ0 : r_S} (C : r_C X w B 6 cX8_stepThree RX8) (E : r_E X l tX8_stepThree) {μ : Mu} {y1 : Int64}
    (h : r_Wm X w B 6 m σ0 (r_Z X w B tX8_stepThree (ZMV m σ0 Q)) 2 [(0, Value.ref (B + m)), (1, Value.long y1), (3, Value.int 0)] [] μ) :
    r_Wm X w B 6 m σ0 (r_Z X w B tX8_stepThree (ZMV m σ0 Q)) 0 [(0, Value.ref (B + m)), (1, Value.long y1)] [] μ := by
  intro σ hs hM hF hμ
  subst hμ
  refine r_iconst (v := 0) C dX8_stepThree_0 (by decide) ?_
  refine r_istore_n (lv' := [(3, Value.int 0), (0, Value.ref (B + m)), (1, Value.long y1)]) C dX8_stepThree_1 rfl (by decide) rfl ?_
  exact r_loc (by simp) (h σ hs hM hF rfl)
theorem u_X8_stepThree_2 {X : r_X} {w : r_V} {B m : Nat} {l : Launch} {Q : Mu → Prop} {σ0 : r_S} (C : r_C X w B 6 cX8_stepThree RX8) (E : r_E X l tX8_stepThree) {μ : Mu} {x3 : Int32} {y1 : Int64}
    (h : ((μ.1 0 1) ≤ x3 → (Q μ)) ∧ (¬ (μ.1 0 1) ≤ x3 → (vp_in x3 6 ∧ (((μ.1 37 x3.toNatClampNeg) ≤ 0 → (∀ z4 : Int32, z4 = x3 + 1 → (r_Wm X w B 6 m σ0 (r_Z X w B tX8_stepThree (ZMV m σ0 Q)) 2 [(0, Value.ref (B + m)), (1, Value.long y1), (3, Value.int z4)] [] μ))) ∧ (¬ (μ.1 37 x3.toNatClampNeg) ≤ 0 → (((μ.2 40 x3.toNatClampNeg) = y1 → (r_Wm X w B 6 m σ0 (r_Z X w B tX8_stepThree (ZMV m σ0 Q)) 33 [(0, Value.ref (B + m)), (1, Value.long y1), (3, Value.int x3), (4, Value.int 0)] [] μ)) ∧ (¬ (μ.2 40 x3.toNatClampNeg) = y1 → (∀ z7 : Int32, z7 = x3 + 1 → (r_Wm X w B 6 m σ0 (r_Z X w B tX8_stepThree (ZMV m σ0 Q)) 2 [(0, Value.ref (B + m)), (1, Value.long y1), (3, Value.int z7)] [] μ))))))))) :
    r_Wm X w B 6 m σ0 (r_Z X w B tX8_stepThree (ZMV m σ0 Q)) 2 [(0, Value.ref (B + m)), (1, Value.long y1), (3, Value.int x3)] [] μ := by
  intro σ hs hM hF hμ
  subst hμ
  refine r_iload_n C dX8_stepThree_2 rfl (j := 2) rfl ?_
  refine r_aload_n C dX8_stepThree_3 rfl (j := 0) rfl ?_
  refine r_get (v := .int ((mu m σ).1 0 1)) C hM.1 fa_X8_145 rfl dX8_stepThree_4 ?_
  refine r_icmp_ge (tgt := 195) C dX8_stepThree_7 (by decide) (fun c1 => ?_) (fun c1 => ?_)
  · have h := h.1 c1
    exact r_vretQ C E rfl (Nat.zero_le _) (Nat.zero_le _) dX8_stepThree_195 hs ⟨hF, h⟩
  · have h := h.2 c1
    refine r_aload_n C dX8_stepThree_10 rfl (j := 0) rfl ?_
    refine r_getA C hM (k := 45) (g := 37) (ti := 0) (n := 6) (by decide) fa_X8_124 rfl dX8_stepThree_11 ?_
    refine r_iload_n C dX8_stepThree_14 rfl (j := 2) rfl ?_
    obtain ⟨g2, h⟩ := h
    refine r_iald (ti := 0) (n := 6) C (hM.2 (45, 37, 0, 6) (by decide)).2 ⟨rfl, fun _ => rfl⟩ g2 dX8_stepThree_15 ?_
    refine r_if_le (tgt := 189) C dX8_stepThree_16 (by decide) (fun c3 => ?_) (fun c3 => ?_)
    · have h := h.1 c3
      obtain ⟨z4, e5⟩ : ∃ y : Int32, y = x3 + 1 := ⟨_, rfl⟩
      have h := h z4 e5
      refine r_iinc (v := z4) (lv' := [(3, Value.int z4), (0, Value.ref (B + m)), (1, Value.long y1)]) C dX8_stepThree_189 (k := 2) rfl (by rw [e5]; rfl) (by decide) rfl ?_
      refine r_goto (tgt := 2) C dX8_stepThree_192 (by decide) ?_
      exact r_loc (by simp) (h σ hs hM hF rfl)
    · have h := h.2 c3
      refine r_aload_n C dX8_stepThree_19 rfl (j := 0) rfl ?_
      refine r_getA C hM (k := 48) (g := 40) (ti := 1) (n := 6) (by decide) fa_X8_133 rfl dX8_stepThree_20 ?_
      refine r_iload_n C dX8_stepThree_23 rfl (j := 2) rfl ?_
      refine r_lald (ti := 1) (n := 6) C (hM.2 (48, 40, 1, 6) (by decide)).2 ⟨rfl, fun _ => rfl⟩ g2 dX8_stepThree_24 ?_
      refine r_lload_n C dX8_stepThree_25 rfl (j := 1) rfl ?_
      refine r_lcmp C dX8_stepThree_26 ?_
      refine r_if_ne (tgt := 189) C dX8_stepThree_27 (by decide) (fun c6 => ?_) (fun c6 => ?_)
      · have h := h.2 (fun q => c6 (lgc_eq.mpr q))
        obtain ⟨z7, e8⟩ : ∃ y : Int32, y = x3 + 1 := ⟨_, rfl⟩
        have h := h z7 e8
        refine r_iinc (v := z7) (lv' := [(3, Value.int z7), (0, Value.ref (B + m)), (1, Value.long y1)]) C dX8_stepThree_189 (k := 2) rfl (by rw [e8]; rfl) (by decide) rfl ?_
        refine r_goto (tgt := 2) C dX8_stepThree_192 (by decide) ?_
        exact r_loc (by simp) (h σ hs hM hF rfl)
      · have h := h.1 (lgc_eq.mp c6)
        refine r_iconst (v := 0) C dX8_stepThree_30 (by decide) ?_
        refine r_istore (lv' := [(4, Value.int 0), (0, Value.ref (B + m)), (1, Value.long y1), (3, Value.int x3)]) C dX8_stepThree_31 (by decide) rfl ?_
        exact r_loc (by simp) (h σ hs hM hF rfl)
theorem u_X8_stepThree_33 {X : r_X} {w : r_V} {B m : Nat} {l : Launch} {Q : Mu → Prop} {σ0 : r_S} (C : r_C X w B 6 cX8_stepThree RX8) (E : r_E X l tX8_stepThree) {μ : Mu} {x3 x4 : Int32} {y1 : Int64}
    (h : ((μ.1 0 1) ≤ x4 → (vp_in x3 6 ∧ (((μ.1 37 x3.toNatClampNeg) = 1 → (r_Wm X w B 6 m σ0 (r_Z X w B tX8_stepThree (ZMV m σ0 Q)) 152 [(0, Value.ref (B + m)), (1, Value.long y1), (3, Value.int x3)] [] μ)) ∧ (¬ (μ.1 37 x3.toNatClampNeg) = 1 → (((μ.1 37 x3.toNatClampNeg) = 3 → (r_Wm X w B 6 m σ0 (r_Z X w B tX8_stepThree (ZMV m σ0 Q)) 152 [(0, Value.ref (B + m)), (1, Value.long y1), (3, Value.int x3)] [] μ)) ∧ (¬ (μ.1 37 x3.toNatClampNeg) = 3 → (∀ z5 : Int32, z5 = x3 + 1 → (r_Wm X w B 6 m σ0 (r_Z X w B tX8_stepThree (ZMV m σ0 Q)) 2 [(0, Value.ref (B + m)), (1, Value.long y1), (3, Value.int z5)] [] μ)))))))) ∧ (¬ (μ.1 0 1) ≤ x4 → (vp_in x3 6 ∧ ((((μ.1 37 x3.toNatClampNeg) = 3 → (vp_in ((6 * x3) + x4) 36)) ∧ (¬ (μ.1 37 x3.toNatClampNeg) = 3 → (vp_in ((6 * x3) + x4) 36))) ∧ (∀ z17 : Int32, z17 = (if (μ.1 37 x3.toNatClampNeg) = 3 then (if ((μ.2 43 (((6 * x3) + x4).toNatClampNeg)) &&& 1) = 0 then (1 : Int32) else (0 : Int32)) else (if (μ.2 43 (((6 * x3) + x4).toNatClampNeg)) = 0 then (1 : Int32) else (0 : Int32))) → (∃ Q20 : Int32 → Mu → Prop, r_MI l w B m tX8_hears [Value.int x4, Value.int x3] μ Q20 ∧ (∀ (z24 : Int32) (μ22 : Mu), Q20 z24 μ22 → ((z24 = 0 → (∀ z30 : Int32, z30 = x4 + 1 → (r_Wm X w B 6 m σ0 (r_Z X w B tX8_stepThree (ZMV m σ0 Q)) 33 [(0, Value.ref (B + m)), (1, Value.long y1), (3, Value.int x3), (4, Value.int z30)] [] μ22))) ∧ (¬ z24 = 0 → ((z17 = 0 → (∀ z33 : Int32, z33 = x4 + 1 → (r_Wm X w B 6 m σ0 (r_Z X w B tX8_stepThree (ZMV m σ0 Q)) 33 [(0, Value.ref (B + m)), (1, Value.long y1), (3, Value.int x3), (4, Value.int z33)] [] μ22))) ∧ (¬ z17 = 0 → (∃ Q35 : Mu → Prop, r_MV l w B m tX8_receive [Value.int x3, Value.int x4, Value.long y1] μ22 Q35 ∧ (∀ μ37 : Mu, Q35 μ37 → (∀ z44 : Int32, z44 = x4 + 1 → (r_Wm X w B 6 m σ0 (r_Z X w B tX8_stepThree (ZMV m σ0 Q)) 33 [(0, Value.ref (B + m)), (1, Value.long y1), (3, Value.int x3), (4, Value.int z44)] [] μ37))))))))))))))) :
    r_Wm X w B 6 m σ0 (r_Z X w B tX8_stepThree (ZMV m σ0 Q)) 33 [(0, Value.ref (B + m)), (1, Value.long y1), (3, Value.int x3), (4, Value.int x4)] [] μ := by
  intro σ hs hM hF hμ
  subst hμ
  refine r_iload C dX8_stepThree_33 (j := 3) rfl ?_
  refine r_aload_n C dX8_stepThree_35 rfl (j := 0) rfl ?_
  refine r_get (v := .int ((mu m σ).1 0 1)) C hM.1 fa_X8_145 rfl dX8_stepThree_36 ?_
  refine r_icmp_ge (tgt := 132) C dX8_stepThree_39 (by decide) (fun c1 => ?_) (fun c1 => ?_)
  · have h := h.1 c1
    refine r_aload_n C dX8_stepThree_132 rfl (j := 0) rfl ?_
    refine r_getA C hM (k := 45) (g := 37) (ti := 0) (n := 6) (by decide) fa_X8_124 rfl dX8_stepThree_133 ?_
    refine r_iload_n C dX8_stepThree_136 rfl (j := 2) rfl ?_
    obtain ⟨g2, h⟩ := h
    refine r_iald (ti := 0) (n := 6) C (hM.2 (45, 37, 0, 6) (by decide)).2 ⟨rfl, fun _ => rfl⟩ g2 dX8_stepThree_137 ?_
    refine r_iconst (v := 1) C dX8_stepThree_138 (by decide) ?_
    refine r_icmp_eq (tgt := 152) C dX8_stepThree_139 (by decide) (fun c3 => ?_) (fun c3 => ?_)
    · have h := h.1 c3
      exact r_loc (by simp) (h σ hs hM hF rfl)
    · have h := h.2 c3
      refine r_aload_n C dX8_stepThree_142 rfl (j := 0) rfl ?_
      refine r_getA C hM (k := 45) (g := 37) (ti := 0) (n := 6) (by decide) fa_X8_124 rfl dX8_stepThree_143 ?_
      refine r_iload_n C dX8_stepThree_146 rfl (j := 2) rfl ?_
      refine r_iald (ti := 0) (n := 6) C (hM.2 (45, 37, 0, 6) (by decide)).2 ⟨rfl, fun _ => rfl⟩ g2 dX8_stepThree_147 ?_
      refine r_iconst (v := 3) C dX8_stepThree_148 (by decide) ?_
      refine r_icmp_ne (tgt := 189) C dX8_stepThree_149 (by decide) (fun c4 => ?_) (fun c4 => ?_)
      · have h := h.2 c4
        obtain ⟨z5, e6⟩ : ∃ y : Int32, y = x3 + 1 := ⟨_, rfl⟩
        have h := h z5 e6
        refine r_iinc (v := z5) (lv' := [(3, Value.int z5), (0, Value.ref (B + m)), (1, Value.long y1), (4, Value.int x4)]) C dX8_stepThree_189 (k := 2) rfl (by rw [e6]; rfl) (by decide) rfl ?_
        refine r_goto (tgt := 2) C dX8_stepThree_192 (by decide) ?_
        exact r_loc (by simp) (h σ hs hM hF rfl)
      · have h := h.1 c4
        exact r_loc (by simp) (h σ hs hM hF rfl)
  · have h := h.2 c1
    refine r_aload_n C dX8_stepThree_42 rfl (j := 0) rfl ?_
    refine r_getA C hM (k := 45) (g := 37) (ti := 0) (n := 6) (by decide) fa_X8_124 rfl dX8_stepThree_43 ?_
    refine r_iload_n C dX8_stepThree_46 rfl (j := 2) rfl ?_
    obtain ⟨g7, h⟩ := h
    refine r_iald (ti := 0) (n := 6) C (hM.2 (45, 37, 0, 6) (by decide)).2 ⟨rfl, fun _ => rfl⟩ g7 dX8_stepThree_47 ?_
    refine r_iconst (v := 3) C dX8_stepThree_48 (by decide) ?_
    obtain ⟨g16, h⟩ := h
    have k19 : ∀ z17 : Int32, z17 = (if ((mu m σ).1 37 x3.toNatClampNeg) = 3 then (if (((mu m σ).2 43 (((6 * x3) + x4).toNatClampNeg)) &&& 1) = 0 then (1 : Int32) else (0 : Int32)) else (if ((mu m σ).2 43 (((6 * x3) + x4).toNatClampNeg)) = 0 then (1 : Int32) else (0 : Int32))) → r_W X w B 6 0 0 (r_Z X w B tX8_stepThree (ZMV m σ0 Q)) 101 [(0, Value.ref (B + m)), (1, Value.long y1), (3, Value.int x3), (4, Value.int x4)] [Value.int z17] σ := by
      intro z17 e18
      have h := h z17 e18
      refine r_istore (lv' := [(5, Value.int z17), (0, Value.ref (B + m)), (1, Value.long y1), (3, Value.int x3), (4, Value.int x4)]) C dX8_stepThree_101 (by decide) rfl ?_
      refine r_aload_n C dX8_stepThree_103 rfl (j := 1) rfl ?_
      refine r_iload C dX8_stepThree_104 (j := 4) rfl ?_
      refine r_iload_n C dX8_stepThree_106 rfl (j := 3) rfl ?_
      obtain ⟨Q20, m21, h⟩ := h
      refine r_callVI (rest := []) C E [Value.int x4, Value.int x3] hM.1 rfl ky_X8_hears kl_X8_205 ki_X8_hears kx_X8_hears ⟨Nat.le_of_ble_eq_true rfl, Nat.le_of_ble_eq_true rfl⟩ ⟨rfl, rfl⟩ (m21 σ hM rfl) rfl rfl (Nat.le_of_ble_eq_true rfl) (Nat.zero_le _) (Nat.zero_le _) dX8_stepThree_107 (fun z24 σ22 s23 q25 => ?_)
      obtain ⟨f26, q25⟩ := q25
      have h := h z24 (mu m σ22) q25
      have M27 := hM.fr s23 f26.1
      have F28 := hF.trans f26
      have s23 := s23.trans hs
      refine r_if_eq (tgt := 126) C dX8_stepThree_110 (by decide) (fun c29 => ?_) (fun c29 => ?_)
      · have h := h.1 c29
        obtain ⟨z30, e31⟩ : ∃ y : Int32, y = x4 + 1 := ⟨_, rfl⟩
        have h := h z30 e31
        refine r_iinc (v := z30) (lv' := [(4, Value.int z30), (5, Value.int z17), (0, Value.ref (B + m)), (1, Value.long y1), (3, Value.int x3)]) C dX8_stepThree_126 (k := 4) rfl (by rw [e31]; rfl) (by decide) rfl ?_
        refine r_goto (tgt := 33) C dX8_stepThree_129 (by decide) ?_
        exact r_loc (by simp) (h σ22 s23 M27 F28 rfl)
      · have h := h.2 c29
        refine r_iload C dX8_stepThree_113 (j := 0) rfl ?_
        refine r_if_eq (tgt := 126) C dX8_stepThree_115 (by decide) (fun c32 => ?_) (fun c32 => ?_)
        · have h := h.1 c32
          obtain ⟨z33, e34⟩ : ∃ y : Int32, y = x4 + 1 := ⟨_, rfl⟩
          have h := h z33 e34
          refine r_iinc (v := z33) (lv' := [(4, Value.int z33), (5, Value.int z17), (0, Value.ref (B + m)), (1, Value.long y1), (3, Value.int x3)]) C dX8_stepThree_126 (k := 4) rfl (by rw [e34]; rfl) (by decide) rfl ?_
          refine r_goto (tgt := 33) C dX8_stepThree_129 (by decide) ?_
          exact r_loc (by simp) (h σ22 s23 M27 F28 rfl)
        · have h := h.2 c32
          refine r_aload_n C dX8_stepThree_118 rfl (j := 1) rfl ?_
          refine r_iload_n C dX8_stepThree_119 rfl (j := 3) rfl ?_
          refine r_iload C dX8_stepThree_120 (j := 4) rfl ?_
          refine r_lload_n C dX8_stepThree_122 rfl (j := 2) rfl ?_
          obtain ⟨Q35, m36, h⟩ := h
          refine r_callVV (rest := []) C E [Value.int x3, Value.int x4, Value.long y1] M27.1 rfl ky_X8_receive kl_X8_234 ki_X8_receive kx_X8_receive ⟨Nat.le_of_ble_eq_true rfl, Nat.le_of_ble_eq_true rfl⟩ ⟨rfl, rfl⟩ (m36 σ22 M27 rfl) rfl rfl (Nat.le_of_ble_eq_true rfl) (Nat.zero_le _) (Nat.zero_le _) dX8_stepThree_123 (fun σ37 s38 q40 => ?_)
          obtain ⟨f41, q40⟩ := q40
          have h := h (mu m σ37) q40
          have M42 := M27.fr s38 f41.1
          have F43 := F28.trans f41
          have s38 := s38.trans s23
          obtain ⟨z44, e45⟩ : ∃ y : Int32, y = x4 + 1 := ⟨_, rfl⟩
          have h := h z44 e45
          refine r_iinc (v := z44) (lv' := [(4, Value.int z44), (5, Value.int z17), (0, Value.ref (B + m)), (1, Value.long y1), (3, Value.int x3)]) C dX8_stepThree_126 (k := 4) rfl (by rw [e45]; rfl) (by decide) rfl ?_
          refine r_goto (tgt := 33) C dX8_stepThree_129 (by decide) ?_
          exact r_loc (by simp) (h σ37 s38 M42 F43 rfl)
    clear h
    refine r_icmp_ne (tgt := 79) C dX8_stepThree_49 (by decide) (fun c8 => ?_) (fun c8 => ?_)
    · have c8 : ¬ ((mu m σ).1 37 x3.toNatClampNeg) = 3 := c8
      have h := g16.2 c8
      refine r_aload_n C dX8_stepThree_79 rfl (j := 0) rfl ?_
      refine r_getA C hM (k := 51) (g := 43) (ti := 1) (n := 36) (by decide) fa_X8_142 rfl dX8_stepThree_80 ?_
      refine r_bipush (v := 6) C dX8_stepThree_83 (by decide) ?_
      refine r_iload_n C dX8_stepThree_85 rfl (j := 2) rfl ?_
      refine r_imul C dX8_stepThree_86 ?_
      refine r_iload C dX8_stepThree_87 (j := 3) rfl ?_
      refine r_iadd C dX8_stepThree_89 ?_
      have g13 := h
      refine r_lald (ti := 1) (n := 36) C (hM.2 (51, 43, 1, 36) (by decide)).2 ⟨rfl, fun _ => rfl⟩ g13 dX8_stepThree_90 ?_
      refine r_lconst (v := 0) C dX8_stepThree_91 (by decide) ?_
      refine r_lcmp C dX8_stepThree_92 ?_
      refine r_if_ne (tgt := 100) C dX8_stepThree_93 (by decide) (fun c14 => ?_) (fun c14 => ?_)
      · have c14 : ¬ ((mu m σ).2 43 (((6 * x3) + x4).toNatClampNeg)) = 0 := (fun q => c14 (lgc_eq.mpr q))
        refine r_iconst (v := 0) C dX8_stepThree_100 (by decide) ?_
        exact k19 _ (by rw [if_neg c8, if_neg c14] <;> rfl)
      · have c14 : ((mu m σ).2 43 (((6 * x3) + x4).toNatClampNeg)) = 0 := (lgc_eq.mp c14)
        refine r_iconst (v := 1) C dX8_stepThree_96 (by decide) ?_
        refine r_goto (tgt := 101) C dX8_stepThree_97 (by decide) ?_
        exact k19 _ (by rw [if_neg c8, if_pos c14] <;> rfl)
    · have c8 : ((mu m σ).1 37 x3.toNatClampNeg) = 3 := c8
      have h := g16.1 c8
      refine r_aload_n C dX8_stepThree_52 rfl (j := 0) rfl ?_
      refine r_getA C hM (k := 51) (g := 43) (ti := 1) (n := 36) (by decide) fa_X8_142 rfl dX8_stepThree_53 ?_
      refine r_bipush (v := 6) C dX8_stepThree_56 (by decide) ?_
      refine r_iload_n C dX8_stepThree_58 rfl (j := 2) rfl ?_
      refine r_imul C dX8_stepThree_59 ?_
      refine r_iload C dX8_stepThree_60 (j := 3) rfl ?_
      refine r_iadd C dX8_stepThree_62 ?_
      have g10 := h
      refine r_lald (ti := 1) (n := 36) C (hM.2 (51, 43, 1, 36) (by decide)).2 ⟨rfl, fun _ => rfl⟩ g10 dX8_stepThree_63 ?_
      refine r_lconst (v := 1) C dX8_stepThree_64 (by decide) ?_
      refine r_land C dX8_stepThree_65 ?_
      refine r_lconst (v := 0) C dX8_stepThree_66 (by decide) ?_
      refine r_lcmp C dX8_stepThree_67 ?_
      refine r_if_ne (tgt := 75) C dX8_stepThree_68 (by decide) (fun c11 => ?_) (fun c11 => ?_)
      · have c11 : ¬ (((mu m σ).2 43 (((6 * x3) + x4).toNatClampNeg)) &&& 1) = 0 := (fun q => c11 (lgc_eq.mpr q))
        refine r_iconst (v := 0) C dX8_stepThree_75 (by decide) ?_
        refine r_goto (tgt := 101) C dX8_stepThree_76 (by decide) ?_
        exact k19 _ (by rw [if_pos c8, if_neg c11] <;> rfl)
      · have c11 : (((mu m σ).2 43 (((6 * x3) + x4).toNatClampNeg)) &&& 1) = 0 := (lgc_eq.mp c11)
        refine r_iconst (v := 1) C dX8_stepThree_71 (by decide) ?_
        refine r_goto (tgt := 101) C dX8_stepThree_72 (by decide) ?_
        exact k19 _ (by rw [if_pos c8, if_pos c11] <;> rfl)
theorem u_X8_stepThree_152 {X : r_X} {w : r_V} {B m : Nat} {l : Launch} {Q : Mu → Prop} {σ0 : r_S} (C : r_C X w B 6 cX8_stepThree RX8) (E : r_E X l tX8_stepThree) {μ : Mu} {x3 : Int32} {y1 : Int64}
    (h : vp_in x3 6 ∧ (∀ μ2 : Mu, μ2 = ul μ 23 x3.toNatClampNeg (y1 + 4) → (∀ μ8 : Mu, μ8 = ui μ2 24 x3.toNatClampNeg (μ2.1 38 x3.toNatClampNeg) → (∀ μ14 : Mu, μ14 = ui μ8 25 x3.toNatClampNeg ((μ8.1 37 x3.toNatClampNeg) + 1) → (∀ z20 : Int32, z20 = x3 + 1 → (r_Wm X w B 6 m σ0 (r_Z X w B tX8_stepThree (ZMV m σ0 Q)) 2 [(0, Value.ref (B + m)), (1, Value.long y1), (3, Value.int z20)] [] μ14)))))) :
    r_Wm X w B 6 m σ0 (r_Z X w B tX8_stepThree (ZMV m σ0 Q)) 152 [(0, Value.ref (B + m)), (1, Value.long y1), (3, Value.int x3)] [] μ := by
  intro σ hs hM hF hμ
  subst hμ
  refine r_aload_n C dX8_stepThree_152 rfl (j := 0) rfl ?_
  refine r_getA C hM (k := 31) (g := 23) (ti := 1) (n := 6) (by decide) fa_X8_82 rfl dX8_stepThree_153 ?_
  refine r_iload_n C dX8_stepThree_156 rfl (j := 2) rfl ?_
  refine r_lload_n C dX8_stepThree_157 rfl (j := 1) rfl ?_
  refine r_ldc2 (v := 4) C kj_X8_237 dX8_stepThree_158 ?_
  refine r_ladd C dX8_stepThree_161 ?_
  obtain ⟨g1, h⟩ := h
  refine r_last (ti := 1) (n := 6) C (hM.2 (31, 23, 1, 6) (by decide)).2 ⟨rfl, fun _ => rfl⟩ g1 dX8_stepThree_162 ?_
  refine r_nam (fun σ2 e3 => ?_)
  have u7 : mu m σ2 = ul (mu m σ) 23 x3.toNatClampNeg (y1 + 4) := by rw [e3]; exact mu_ul (g := 23)
  have h := h (mu m σ2) u7
  have s4 : σ2.1 = σ0.1 := by rw [e3]; exact hs
  have M5 : Mo m σ2 := by rw [e3]; exact hM.fr rfl (fun _ _ => rfl)
  have F6 : Fr m σ0 σ2 := by rw [e3]; exact Fr.ul (g := 23) hF
  refine r_aload_n C dX8_stepThree_163 rfl (j := 0) rfl ?_
  refine r_getA C M5 (k := 32) (g := 24) (ti := 0) (n := 6) (by decide) fa_X8_85 rfl dX8_stepThree_164 ?_
  refine r_iload_n C dX8_stepThree_167 rfl (j := 2) rfl ?_
  refine r_aload_n C dX8_stepThree_168 rfl (j := 0) rfl ?_
  refine r_getA C M5 (k := 46) (g := 38) (ti := 0) (n := 6) (by decide) fa_X8_127 rfl dX8_stepThree_169 ?_
  refine r_iload_n C dX8_stepThree_172 rfl (j := 2) rfl ?_
  refine r_iald (ti := 0) (n := 6) C (M5.2 (46, 38, 0, 6) (by decide)).2 ⟨rfl, fun _ => rfl⟩ g1 dX8_stepThree_173 ?_
  refine r_iast (ti := 0) (n := 6) C (M5.2 (32, 24, 0, 6) (by decide)).2 ⟨rfl, fun _ => rfl⟩ g1 dX8_stepThree_174 ?_
  refine r_nam (fun σ8 e9 => ?_)
  have u13 : mu m σ8 = ui (mu m σ2) 24 x3.toNatClampNeg ((mu m σ2).1 38 x3.toNatClampNeg) := by rw [e9]; exact mu_ui (g := 24)
  have h := h (mu m σ8) u13
  have s10 : σ8.1 = σ0.1 := by rw [e9]; exact s4
  have M11 : Mo m σ8 := by rw [e9]; exact M5.fr rfl (fun _ _ => rfl)
  have F12 : Fr m σ0 σ8 := by rw [e9]; exact Fr.ui (g := 24) F6
  refine r_aload_n C dX8_stepThree_175 rfl (j := 0) rfl ?_
  refine r_getA C M11 (k := 33) (g := 25) (ti := 0) (n := 6) (by decide) fa_X8_88 rfl dX8_stepThree_176 ?_
  refine r_iload_n C dX8_stepThree_179 rfl (j := 2) rfl ?_
  refine r_aload_n C dX8_stepThree_180 rfl (j := 0) rfl ?_
  refine r_getA C M11 (k := 45) (g := 37) (ti := 0) (n := 6) (by decide) fa_X8_124 rfl dX8_stepThree_181 ?_
  refine r_iload_n C dX8_stepThree_184 rfl (j := 2) rfl ?_
  refine r_iald (ti := 0) (n := 6) C (M11.2 (45, 37, 0, 6) (by decide)).2 ⟨rfl, fun _ => rfl⟩ g1 dX8_stepThree_185 ?_
  refine r_iconst (v := 1) C dX8_stepThree_186 (by decide) ?_
  refine r_iadd C dX8_stepThree_187 ?_
  refine r_iast (ti := 0) (n := 6) C (M11.2 (33, 25, 0, 6) (by decide)).2 ⟨rfl, fun _ => rfl⟩ g1 dX8_stepThree_188 ?_
  refine r_nam (fun σ14 e15 => ?_)
  have u19 : mu m σ14 = ui (mu m σ8) 25 x3.toNatClampNeg (((mu m σ8).1 37 x3.toNatClampNeg) + 1) := by rw [e15]; exact mu_ui (g := 25)
  have h := h (mu m σ14) u19
  have s16 : σ14.1 = σ0.1 := by rw [e15]; exact s10
  have M17 : Mo m σ14 := by rw [e15]; exact M11.fr rfl (fun _ _ => rfl)
  have F18 : Fr m σ0 σ14 := by rw [e15]; exact Fr.ui (g := 25) F12
  obtain ⟨z20, e21⟩ : ∃ y : Int32, y = x3 + 1 := ⟨_, rfl⟩
  have h := h z20 e21
  refine r_iinc (v := z20) (lv' := [(3, Value.int z20), (0, Value.ref (B + m)), (1, Value.long y1)]) C dX8_stepThree_189 (k := 2) rfl (by rw [e21]; rfl) (by decide) rfl ?_
  refine r_goto (tgt := 2) C dX8_stepThree_192 (by decide) ?_
  exact r_loc (by simp) (h σ14 s16 M17 F18 rfl)
theorem u_X8_stepFour_0 {X : r_X} {w : r_V} {B m : Nat} {l : Launch} {Q : Mu → Prop} {σ0 : r_S} (C : r_C X w B 5 cX8_stepFour RX8) (E : r_E X l tX8_stepFour) {μ : Mu} {y1 : Int64}
    (h : r_Wm X w B 5 m σ0 (r_Z X w B tX8_stepFour (ZMV m σ0 Q)) 2 [(0, Value.ref (B + m)), (1, Value.long y1), (3, Value.int 0)] [] μ) :
    r_Wm X w B 5 m σ0 (r_Z X w B tX8_stepFour (ZMV m σ0 Q)) 0 [(0, Value.ref (B + m)), (1, Value.long y1)] [] μ := by
  intro σ hs hM hF hμ
  subst hμ
  refine r_iconst (v := 0) C dX8_stepFour_0 (by decide) ?_
  refine r_istore_n (lv' := [(3, Value.int 0), (0, Value.ref (B + m)), (1, Value.long y1)]) C dX8_stepFour_1 rfl (by decide) rfl ?_
  exact r_loc (by simp) (h σ hs hM hF rfl)
theorem u_X8_stepFour_2 {X : r_X} {w : r_V} {B m : Nat} {l : Launch} {Q : Mu → Prop} {σ0 : r_S} (C : r_C X w B 5 cX8_stepFour RX8) (E : r_E X l tX8_stepFour) {μ : Mu} {x3 : Int32} {y1 : Int64}
    (h : ((μ.1 0 1) ≤ x3 → (r_Wm X w B 5 m σ0 (r_Z X w B tX8_stepFour (ZMV m σ0 Q)) 175 [(0, Value.ref (B + m)), (1, Value.long y1), (3, Value.int 0)] [] μ)) ∧ (¬ (μ.1 0 1) ≤ x3 → (∃ Q2 : Int32 → Mu → Prop, r_MI l w B m tX8_hearsAny [Value.int x3, Value.int x3, Value.long y1] μ Q2 ∧ (∀ (z6 : Int32) (μ4 : Mu), Q2 z6 μ4 → ((z6 = 0 → (vp_in x3 6 ∧ (((μ4.1 31 x3.toNatClampNeg) = 0 → (r_Wm X w B 5 m σ0 (r_Z X w B tX8_stepFour (ZMV m σ0 Q)) 58 [(0, Value.ref (B + m)), (1, Value.long y1), (3, Value.int x3), (4, Value.int z6)] [] μ4)) ∧ (¬ (μ4.1 31 x3.toNatClampNeg) = 0 → (∀ z16 : Int32, z16 = (if (μ4.2 32 x3.toNatClampNeg) = (y1 - 1) then (3 : Int32) else (6 : Int32)) → (∀ μ19 : Mu, μ19 = ui μ4 21 x3.toNatClampNeg z16 → (r_Wm X w B 5 m σ0 (r_Z X w B tX8_stepFour (ZMV m σ0 Q)) 58 [(0, Value.ref (B + m)), (1, Value.long y1), (3, Value.int x3), (4, Value.int z6)] [] μ19))))))) ∧ (¬ z6 = 0 → (r_Wm X w B 5 m σ0 (r_Z X w B tX8_stepFour (ZMV m σ0 Q)) 58 [(0, Value.ref (B + m)), (1, Value.long y1), (3, Value.int x3), (4, Value.int z6)] [] μ4))))))) :
    r_Wm X w B 5 m σ0 (r_Z X w B tX8_stepFour (ZMV m σ0 Q)) 2 [(0, Value.ref (B + m)), (1, Value.long y1), (3, Value.int x3)] [] μ := by
  intro σ hs hM hF hμ
  subst hμ
  refine r_iload_n C dX8_stepFour_2 rfl (j := 2) rfl ?_
  refine r_aload_n C dX8_stepFour_3 rfl (j := 0) rfl ?_
  refine r_get (v := .int ((mu m σ).1 0 1)) C hM.1 fa_X8_145 rfl dX8_stepFour_4 ?_
  refine r_icmp_ge (tgt := 173) C dX8_stepFour_7 (by decide) (fun c1 => ?_) (fun c1 => ?_)
  · have h := h.1 c1
    refine r_iconst (v := 0) C dX8_stepFour_173 (by decide) ?_
    refine r_istore_n (lv' := [(3, Value.int 0), (0, Value.ref (B + m)), (1, Value.long y1)]) C dX8_stepFour_174 rfl (by decide) rfl ?_
    exact r_loc (by simp) (h σ hs hM hF rfl)
  · have h := h.2 c1
    refine r_aload_n C dX8_stepFour_10 rfl (j := 0) rfl ?_
    refine r_iload_n C dX8_stepFour_11 rfl (j := 2) rfl ?_
    refine r_iload_n C dX8_stepFour_12 rfl (j := 2) rfl ?_
    refine r_lload_n C dX8_stepFour_13 rfl (j := 1) rfl ?_
    obtain ⟨Q2, m3, h⟩ := h
    refine r_callVI (rest := []) C E [Value.int x3, Value.int x3, Value.long y1] hM.1 rfl ky_X8_hearsAny kl_X8_209 ki_X8_hearsAny kx_X8_hearsAny ⟨Nat.le_of_ble_eq_true rfl, Nat.le_of_ble_eq_true rfl⟩ ⟨rfl, rfl⟩ (m3 σ hM rfl) rfl rfl (Nat.le_of_ble_eq_true rfl) (Nat.zero_le _) (Nat.zero_le _) dX8_stepFour_14 (fun z6 σ4 s5 q7 => ?_)
    obtain ⟨f8, q7⟩ := q7
    have h := h z6 (mu m σ4) q7
    have M9 := hM.fr s5 f8.1
    have F10 := hF.trans f8
    have s5 := s5.trans hs
    refine r_istore (lv' := [(4, Value.int z6), (0, Value.ref (B + m)), (1, Value.long y1), (3, Value.int x3)]) C dX8_stepFour_17 (by decide) rfl ?_
    refine r_iload C dX8_stepFour_19 (j := 0) rfl ?_
    refine r_if_ne (tgt := 58) C dX8_stepFour_21 (by decide) (fun c11 => ?_) (fun c11 => ?_)
    · have h := h.2 c11
      exact r_loc (by simp) (h σ4 s5 M9 F10 rfl)
    · have h := h.1 c11
      refine r_aload_n C dX8_stepFour_24 rfl (j := 1) rfl ?_
      refine r_getA C M9 (k := 39) (g := 31) (ti := 2) (n := 6) (by decide) fa_X8_106 rfl dX8_stepFour_25 ?_
      refine r_iload_n C dX8_stepFour_28 rfl (j := 3) rfl ?_
      obtain ⟨g12, h⟩ := h
      refine r_zald (ti := 2) (n := 6) C (M9.2 (39, 31, 2, 6) (by decide)).2 ⟨rfl, fun _ => rfl⟩ g12 dX8_stepFour_29 ?_
      refine r_if_eq (tgt := 58) C dX8_stepFour_30 (by decide) (fun c13 => ?_) (fun c13 => ?_)
      · have h := h.1 c13
        exact r_loc (by simp) (h σ4 s5 M9 F10 rfl)
      · have h := h.2 c13
        refine r_aload_n C dX8_stepFour_33 rfl (j := 1) rfl ?_
        refine r_getA C M9 (k := 29) (g := 21) (ti := 0) (n := 6) (by decide) fa_X8_76 rfl dX8_stepFour_34 ?_
        refine r_iload_n C dX8_stepFour_37 rfl (j := 3) rfl ?_
        refine r_aload_n C dX8_stepFour_38 rfl (j := 1) rfl ?_
        refine r_getA C M9 (k := 40) (g := 32) (ti := 1) (n := 6) (by decide) fa_X8_109 rfl dX8_stepFour_39 ?_
        refine r_iload_n C dX8_stepFour_42 rfl (j := 3) rfl ?_
        refine r_lald (ti := 1) (n := 6) C (M9.2 (40, 32, 1, 6) (by decide)).2 ⟨rfl, fun _ => rfl⟩ g12 dX8_stepFour_43 ?_
        refine r_lload_n C dX8_stepFour_44 rfl (j := 2) rfl ?_
        refine r_lconst (v := 1) C dX8_stepFour_45 (by decide) ?_
        refine r_lsub C dX8_stepFour_46 ?_
        refine r_lcmp C dX8_stepFour_47 ?_
        have k18 : ∀ z16 : Int32, z16 = (if ((mu m σ4).2 32 x3.toNatClampNeg) = (y1 - 1) then (3 : Int32) else (6 : Int32)) → r_W X w B 5 0 0 (r_Z X w B tX8_stepFour (ZMV m σ0 Q)) 57 [(4, Value.int z6), (0, Value.ref (B + m)), (1, Value.long y1), (3, Value.int x3)] [Value.int z16, Value.int x3, Value.ref (B + (m + 21))] σ4 := by
          intro z16 e17
          have h := h z16 e17
          refine r_iast (ti := 0) (n := 6) C (M9.2 (29, 21, 0, 6) (by decide)).2 ⟨rfl, fun _ => rfl⟩ g12 dX8_stepFour_57 ?_
          refine r_nam (fun σ19 e20 => ?_)
          have u24 : mu m σ19 = ui (mu m σ4) 21 x3.toNatClampNeg z16 := by rw [e20]; exact mu_ui (g := 21)
          have h := h (mu m σ19) u24
          have s21 : σ19.1 = σ0.1 := by rw [e20]; exact s5
          have M22 : Mo m σ19 := by rw [e20]; exact M9.fr rfl (fun _ _ => rfl)
          have F23 : Fr m σ0 σ19 := by rw [e20]; exact Fr.ui (g := 21) F10
          exact r_loc (by simp) (h σ19 s21 M22 F23 rfl)
        clear h
        refine r_if_ne (tgt := 55) C dX8_stepFour_48 (by decide) (fun c14 => ?_) (fun c14 => ?_)
        · have c14 : ¬ ((mu m σ4).2 32 x3.toNatClampNeg) = (y1 - 1) := (fun q => c14 (lgc_eq.mpr q))
          refine r_bipush (v := 6) C dX8_stepFour_55 (by decide) ?_
          exact k18 _ (by rw [if_neg c14] <;> rfl)
        · have c14 : ((mu m σ4).2 32 x3.toNatClampNeg) = (y1 - 1) := (lgc_eq.mp c14)
          refine r_iconst (v := 3) C dX8_stepFour_51 (by decide) ?_
          refine r_goto (tgt := 57) C dX8_stepFour_52 (by decide) ?_
          exact k18 _ (by rw [if_pos c14] <;> rfl)
theorem u_X8_stepFour_58 {X : r_X} {w : r_V} {B m : Nat} {l : Launch} {Q : Mu → Prop} {σ0 : r_S} (C : r_C X w B 5 cX8_stepFour RX8) (E : r_E X l tX8_stepFour) {μ : Mu} {x3 x4 : Int32} {y1 : Int64}
    (h : vp_in x3 6 ∧ ((x4 = 0 ∨ x4 = 1) ∧ (∀ μ3 : Mu, μ3 = ui μ 31 x3.toNatClampNeg x4 → (∃ Q9 : Int32 → Mu → Prop, r_MI l w B m tX8_sends [Value.int x3, Value.long y1] μ3 Q9 ∧ (∀ (z13 : Int32) (μ11 : Mu), Q9 z13 μ11 → ((z13 = 0 → ((x4 = 0 → ((0 ≤ (μ11.2 23 x3.toNatClampNeg) → (∀ μ21 : Mu, μ21 = ui μ11 20 x3.toNatClampNeg 0 → (∀ z27 : Int32, z27 = x3 + 1 → (r_Wm X w B 5 m σ0 (r_Z X w B tX8_stepFour (ZMV m σ0 Q)) 2 [(0, Value.ref (B + m)), (1, Value.long y1), (3, Value.int z27)] [] μ21)))) ∧ (¬ 0 ≤ (μ11.2 23 x3.toNatClampNeg) → ((0 ≤ (μ11.2 26 x3.toNatClampNeg) → (∀ μ30 : Mu, μ30 = ui μ11 20 x3.toNatClampNeg 0 → (∀ z36 : Int32, z36 = x3 + 1 → (r_Wm X w B 5 m σ0 (r_Z X w B tX8_stepFour (ZMV m σ0 Q)) 2 [(0, Value.ref (B + m)), (1, Value.long y1), (3, Value.int z36)] [] μ30)))) ∧ (¬ 0 ≤ (μ11.2 26 x3.toNatClampNeg) → ((y1 < (μ11.2 22 x3.toNatClampNeg) → (∀ μ39 : Mu, μ39 = ui μ11 20 x3.toNatClampNeg 0 → (∀ z45 : Int32, z45 = x3 + 1 → (r_Wm X w B 5 m σ0 (r_Z X w B tX8_stepFour (ZMV m σ0 Q)) 2 [(0, Value.ref (B + m)), (1, Value.long y1), (3, Value.int z45)] [] μ39)))) ∧ (¬ y1 < (μ11.2 22 x3.toNatClampNeg) → (∀ μ47 : Mu, μ47 = ui μ11 20 x3.toNatClampNeg ((μ11.1 20 x3.toNatClampNeg) + 1) → (((μ47.1 20 x3.toNatClampNeg) ≤ (μ47.1 21 x3.toNatClampNeg) → (∀ z54 : Int32, z54 = x3 + 1 → (r_Wm X w B 5 m σ0 (r_Z X w B tX8_stepFour (ZMV m σ0 Q)) 2 [(0, Value.ref (B + m)), (1, Value.long y1), (3, Value.int z54)] [] μ47))) ∧ (¬ (μ47.1 20 x3.toNatClampNeg) ≤ (μ47.1 21 x3.toNatClampNeg) → (((μ47.1 19 x3.toNatClampNeg) ≤ 0 → (∀ z57 : Int32, z57 = x3 + 1 → (r_Wm X w B 5 m σ0 (r_Z X w B tX8_stepFour (ZMV m σ0 Q)) 2 [(0, Value.ref (B + m)), (1, Value.long y1), (3, Value.int z57)] [] μ47))) ∧ (¬ (μ47.1 19 x3.toNatClampNeg) ≤ 0 → (∀ μ59 : Mu, μ59 = ui μ47 19 x3.toNatClampNeg ((μ47.1 19 x3.toNatClampNeg) - 1) → (∀ z65 : Int32, z65 = x3 + 1 → (r_Wm X w B 5 m σ0 (r_Z X w B tX8_stepFour (ZMV m σ0 Q)) 2 [(0, Value.ref (B + m)), (1, Value.long y1), (3, Value.int z65)] [] μ59))))))))))))))) ∧ (¬ x4 = 0 → (∀ μ67 : Mu, μ67 = ui μ11 20 x3.toNatClampNeg 0 → (∀ z73 : Int32, z73 = x3 + 1 → (r_Wm X w B 5 m σ0 (r_Z X w B tX8_stepFour (ZMV m σ0 Q)) 2 [(0, Value.ref (B + m)), (1, Value.long y1), (3, Value.int z73)] [] μ67)))))) ∧ (¬ z13 = 0 → (∀ μ75 : Mu, μ75 = ui μ11 20 x3.toNatClampNeg 0 → (∀ z81 : Int32, z81 = x3 + 1 → (r_Wm X w B 5 m σ0 (r_Z X w B tX8_stepFour (ZMV m σ0 Q)) 2 [(0, Value.ref (B + m)), (1, Value.long y1), (3, Value.int z81)] [] μ75)))))))))) :
    r_Wm X w B 5 m σ0 (r_Z X w B tX8_stepFour (ZMV m σ0 Q)) 58 [(0, Value.ref (B + m)), (1, Value.long y1), (3, Value.int x3), (4, Value.int x4)] [] μ := by
  intro σ hs hM hF hμ
  subst hμ
  refine r_aload_n C dX8_stepFour_58 rfl (j := 0) rfl ?_
  refine r_getA C hM (k := 39) (g := 31) (ti := 2) (n := 6) (by decide) fa_X8_106 rfl dX8_stepFour_59 ?_
  refine r_iload_n C dX8_stepFour_62 rfl (j := 2) rfl ?_
  refine r_iload C dX8_stepFour_63 (j := 3) rfl ?_
  obtain ⟨g1, h⟩ := h
  obtain ⟨g2, h⟩ := h
  refine r_zast (ti := 2) (n := 6) C (hM.2 (39, 31, 2, 6) (by decide)).2 ⟨rfl, fun _ => rfl⟩ g1 (by rcases g2 with e | e <;> rw [e] <;> decide) dX8_stepFour_65 ?_
  refine r_nam (fun σ3 e4 => ?_)
  have u8 : mu m σ3 = ui (mu m σ) 31 x3.toNatClampNeg x4 := by rw [e4]; exact mu_ui (g := 31)
  have h := h (mu m σ3) u8
  have s5 : σ3.1 = σ0.1 := by rw [e4]; exact hs
  have M6 : Mo m σ3 := by rw [e4]; exact hM.fr rfl (fun _ _ => rfl)
  have F7 : Fr m σ0 σ3 := by rw [e4]; exact Fr.ui (g := 31) hF
  refine r_aload_n C dX8_stepFour_66 rfl (j := 0) rfl ?_
  refine r_iload_n C dX8_stepFour_67 rfl (j := 2) rfl ?_
  refine r_lload_n C dX8_stepFour_68 rfl (j := 1) rfl ?_
  obtain ⟨Q9, m10, h⟩ := h
  refine r_callVI (rest := []) C E [Value.int x3, Value.long y1] M6.1 rfl ky_X8_sends kl_X8_198 ki_X8_sends kx_X8_sends ⟨Nat.le_of_ble_eq_true rfl, Nat.le_of_ble_eq_true rfl⟩ ⟨rfl, rfl⟩ (m10 σ3 M6 rfl) rfl rfl (Nat.le_of_ble_eq_true rfl) (Nat.zero_le _) (Nat.zero_le _) dX8_stepFour_69 (fun z13 σ11 s12 q14 => ?_)
  obtain ⟨f15, q14⟩ := q14
  have h := h z13 (mu m σ11) q14
  have M16 := M6.fr s12 f15.1
  have F17 := F7.trans f15
  have s12 := s12.trans s5
  refine r_if_ne (tgt := 160) C dX8_stepFour_72 (by decide) (fun c18 => ?_) (fun c18 => ?_)
  · have h := h.2 c18
    refine r_aload_n C dX8_stepFour_160 rfl (j := 0) rfl ?_
    refine r_getA C M16 (k := 28) (g := 20) (ti := 0) (n := 6) (by decide) fa_X8_73 rfl dX8_stepFour_161 ?_
    refine r_iload_n C dX8_stepFour_164 rfl (j := 2) rfl ?_
    refine r_iconst (v := 0) C dX8_stepFour_165 (by decide) ?_
    refine r_iast (ti := 0) (n := 6) C (M16.2 (28, 20, 0, 6) (by decide)).2 ⟨rfl, fun _ => rfl⟩ g1 dX8_stepFour_166 ?_
    refine r_nam (fun σ75 e76 => ?_)
    have u80 : mu m σ75 = ui (mu m σ11) 20 x3.toNatClampNeg 0 := by rw [e76]; exact mu_ui (g := 20)
    have h := h (mu m σ75) u80
    have s77 : σ75.1 = σ0.1 := by rw [e76]; exact s12
    have M78 : Mo m σ75 := by rw [e76]; exact M16.fr rfl (fun _ _ => rfl)
    have F79 : Fr m σ0 σ75 := by rw [e76]; exact Fr.ui (g := 20) F17
    obtain ⟨z81, e82⟩ : ∃ y : Int32, y = x3 + 1 := ⟨_, rfl⟩
    have h := h z81 e82
    refine r_iinc (v := z81) (lv' := [(3, Value.int z81), (0, Value.ref (B + m)), (1, Value.long y1), (4, Value.int x4)]) C dX8_stepFour_167 (k := 2) rfl (by rw [e82]; rfl) (by decide) rfl ?_
    refine r_goto (tgt := 2) C dX8_stepFour_170 (by decide) ?_
    exact r_loc (by simp) (h σ75 s77 M78 F79 rfl)
  · have h := h.1 c18
    refine r_iload C dX8_stepFour_75 (j := 3) rfl ?_
    refine r_if_ne (tgt := 160) C dX8_stepFour_77 (by decide) (fun c19 => ?_) (fun c19 => ?_)
    · have h := h.2 c19
      refine r_aload_n C dX8_stepFour_160 rfl (j := 0) rfl ?_
      refine r_getA C M16 (k := 28) (g := 20) (ti := 0) (n := 6) (by decide) fa_X8_73 rfl dX8_stepFour_161 ?_
      refine r_iload_n C dX8_stepFour_164 rfl (j := 2) rfl ?_
      refine r_iconst (v := 0) C dX8_stepFour_165 (by decide) ?_
      refine r_iast (ti := 0) (n := 6) C (M16.2 (28, 20, 0, 6) (by decide)).2 ⟨rfl, fun _ => rfl⟩ g1 dX8_stepFour_166 ?_
      refine r_nam (fun σ67 e68 => ?_)
      have u72 : mu m σ67 = ui (mu m σ11) 20 x3.toNatClampNeg 0 := by rw [e68]; exact mu_ui (g := 20)
      have h := h (mu m σ67) u72
      have s69 : σ67.1 = σ0.1 := by rw [e68]; exact s12
      have M70 : Mo m σ67 := by rw [e68]; exact M16.fr rfl (fun _ _ => rfl)
      have F71 : Fr m σ0 σ67 := by rw [e68]; exact Fr.ui (g := 20) F17
      obtain ⟨z73, e74⟩ : ∃ y : Int32, y = x3 + 1 := ⟨_, rfl⟩
      have h := h z73 e74
      refine r_iinc (v := z73) (lv' := [(3, Value.int z73), (0, Value.ref (B + m)), (1, Value.long y1), (4, Value.int x4)]) C dX8_stepFour_167 (k := 2) rfl (by rw [e74]; rfl) (by decide) rfl ?_
      refine r_goto (tgt := 2) C dX8_stepFour_170 (by decide) ?_
      exact r_loc (by simp) (h σ67 s69 M70 F71 rfl)
    · have h := h.1 c19
      refine r_aload_n C dX8_stepFour_80 rfl (j := 0) rfl ?_
      refine r_getA C M16 (k := 31) (g := 23) (ti := 1) (n := 6) (by decide) fa_X8_82 rfl dX8_stepFour_81 ?_
      refine r_iload_n C dX8_stepFour_84 rfl (j := 2) rfl ?_
      refine r_lald (ti := 1) (n := 6) C (M16.2 (31, 23, 1, 6) (by decide)).2 ⟨rfl, fun _ => rfl⟩ g1 dX8_stepFour_85 ?_
      refine r_lconst (v := 0) C dX8_stepFour_86 (by decide) ?_
      refine r_lcmp C dX8_stepFour_87 ?_
      refine r_if_ge (tgt := 160) C dX8_stepFour_88 (by decide) (fun c20 => ?_) (fun c20 => ?_)
      · have h := h.1 (lgc_ge.mp c20)
        refine r_aload_n C dX8_stepFour_160 rfl (j := 0) rfl ?_
        refine r_getA C M16 (k := 28) (g := 20) (ti := 0) (n := 6) (by decide) fa_X8_73 rfl dX8_stepFour_161 ?_
        refine r_iload_n C dX8_stepFour_164 rfl (j := 2) rfl ?_
        refine r_iconst (v := 0) C dX8_stepFour_165 (by decide) ?_
        refine r_iast (ti := 0) (n := 6) C (M16.2 (28, 20, 0, 6) (by decide)).2 ⟨rfl, fun _ => rfl⟩ g1 dX8_stepFour_166 ?_
        refine r_nam (fun σ21 e22 => ?_)
        have u26 : mu m σ21 = ui (mu m σ11) 20 x3.toNatClampNeg 0 := by rw [e22]; exact mu_ui (g := 20)
        have h := h (mu m σ21) u26
        have s23 : σ21.1 = σ0.1 := by rw [e22]; exact s12
        have M24 : Mo m σ21 := by rw [e22]; exact M16.fr rfl (fun _ _ => rfl)
        have F25 : Fr m σ0 σ21 := by rw [e22]; exact Fr.ui (g := 20) F17
        obtain ⟨z27, e28⟩ : ∃ y : Int32, y = x3 + 1 := ⟨_, rfl⟩
        have h := h z27 e28
        refine r_iinc (v := z27) (lv' := [(3, Value.int z27), (0, Value.ref (B + m)), (1, Value.long y1), (4, Value.int x4)]) C dX8_stepFour_167 (k := 2) rfl (by rw [e28]; rfl) (by decide) rfl ?_
        refine r_goto (tgt := 2) C dX8_stepFour_170 (by decide) ?_
        exact r_loc (by simp) (h σ21 s23 M24 F25 rfl)
      · have h := h.2 (fun q => c20 (lgc_ge.mpr q))
        refine r_aload_n C dX8_stepFour_91 rfl (j := 0) rfl ?_
        refine r_getA C M16 (k := 34) (g := 26) (ti := 1) (n := 6) (by decide) fa_X8_91 rfl dX8_stepFour_92 ?_
        refine r_iload_n C dX8_stepFour_95 rfl (j := 2) rfl ?_
        refine r_lald (ti := 1) (n := 6) C (M16.2 (34, 26, 1, 6) (by decide)).2 ⟨rfl, fun _ => rfl⟩ g1 dX8_stepFour_96 ?_
        refine r_lconst (v := 0) C dX8_stepFour_97 (by decide) ?_
        refine r_lcmp C dX8_stepFour_98 ?_
        refine r_if_ge (tgt := 160) C dX8_stepFour_99 (by decide) (fun c29 => ?_) (fun c29 => ?_)
        · have h := h.1 (lgc_ge.mp c29)
          refine r_aload_n C dX8_stepFour_160 rfl (j := 0) rfl ?_
          refine r_getA C M16 (k := 28) (g := 20) (ti := 0) (n := 6) (by decide) fa_X8_73 rfl dX8_stepFour_161 ?_
          refine r_iload_n C dX8_stepFour_164 rfl (j := 2) rfl ?_
          refine r_iconst (v := 0) C dX8_stepFour_165 (by decide) ?_
          refine r_iast (ti := 0) (n := 6) C (M16.2 (28, 20, 0, 6) (by decide)).2 ⟨rfl, fun _ => rfl⟩ g1 dX8_stepFour_166 ?_
          refine r_nam (fun σ30 e31 => ?_)
          have u35 : mu m σ30 = ui (mu m σ11) 20 x3.toNatClampNeg 0 := by rw [e31]; exact mu_ui (g := 20)
          have h := h (mu m σ30) u35
          have s32 : σ30.1 = σ0.1 := by rw [e31]; exact s12
          have M33 : Mo m σ30 := by rw [e31]; exact M16.fr rfl (fun _ _ => rfl)
          have F34 : Fr m σ0 σ30 := by rw [e31]; exact Fr.ui (g := 20) F17
          obtain ⟨z36, e37⟩ : ∃ y : Int32, y = x3 + 1 := ⟨_, rfl⟩
          have h := h z36 e37
          refine r_iinc (v := z36) (lv' := [(3, Value.int z36), (0, Value.ref (B + m)), (1, Value.long y1), (4, Value.int x4)]) C dX8_stepFour_167 (k := 2) rfl (by rw [e37]; rfl) (by decide) rfl ?_
          refine r_goto (tgt := 2) C dX8_stepFour_170 (by decide) ?_
          exact r_loc (by simp) (h σ30 s32 M33 F34 rfl)
        · have h := h.2 (fun q => c29 (lgc_ge.mpr q))
          refine r_aload_n C dX8_stepFour_102 rfl (j := 0) rfl ?_
          refine r_getA C M16 (k := 30) (g := 22) (ti := 1) (n := 6) (by decide) fa_X8_79 rfl dX8_stepFour_103 ?_
          refine r_iload_n C dX8_stepFour_106 rfl (j := 2) rfl ?_
          refine r_lald (ti := 1) (n := 6) C (M16.2 (30, 22, 1, 6) (by decide)).2 ⟨rfl, fun _ => rfl⟩ g1 dX8_stepFour_107 ?_
          refine r_lload_n C dX8_stepFour_108 rfl (j := 1) rfl ?_
          refine r_lcmp C dX8_stepFour_109 ?_
          refine r_if_gt (tgt := 160) C dX8_stepFour_110 (by decide) (fun c38 => ?_) (fun c38 => ?_)
          · have h := h.1 (lgc_gt.mp c38)
            refine r_aload_n C dX8_stepFour_160 rfl (j := 0) rfl ?_
            refine r_getA C M16 (k := 28) (g := 20) (ti := 0) (n := 6) (by decide) fa_X8_73 rfl dX8_stepFour_161 ?_
            refine r_iload_n C dX8_stepFour_164 rfl (j := 2) rfl ?_
            refine r_iconst (v := 0) C dX8_stepFour_165 (by decide) ?_
            refine r_iast (ti := 0) (n := 6) C (M16.2 (28, 20, 0, 6) (by decide)).2 ⟨rfl, fun _ => rfl⟩ g1 dX8_stepFour_166 ?_
            refine r_nam (fun σ39 e40 => ?_)
            have u44 : mu m σ39 = ui (mu m σ11) 20 x3.toNatClampNeg 0 := by rw [e40]; exact mu_ui (g := 20)
            have h := h (mu m σ39) u44
            have s41 : σ39.1 = σ0.1 := by rw [e40]; exact s12
            have M42 : Mo m σ39 := by rw [e40]; exact M16.fr rfl (fun _ _ => rfl)
            have F43 : Fr m σ0 σ39 := by rw [e40]; exact Fr.ui (g := 20) F17
            obtain ⟨z45, e46⟩ : ∃ y : Int32, y = x3 + 1 := ⟨_, rfl⟩
            have h := h z45 e46
            refine r_iinc (v := z45) (lv' := [(3, Value.int z45), (0, Value.ref (B + m)), (1, Value.long y1), (4, Value.int x4)]) C dX8_stepFour_167 (k := 2) rfl (by rw [e46]; rfl) (by decide) rfl ?_
            refine r_goto (tgt := 2) C dX8_stepFour_170 (by decide) ?_
            exact r_loc (by simp) (h σ39 s41 M42 F43 rfl)
          · have h := h.2 (fun q => c38 (lgc_gt.mpr q))
            refine r_aload_n C dX8_stepFour_113 rfl (j := 0) rfl ?_
            refine r_getA C M16 (k := 28) (g := 20) (ti := 0) (n := 6) (by decide) fa_X8_73 rfl dX8_stepFour_114 ?_
            refine r_iload_n C dX8_stepFour_117 rfl (j := 2) rfl ?_
            refine r_dup2_11 C dX8_stepFour_118 rfl rfl ?_
            refine r_iald (ti := 0) (n := 6) C (M16.2 (28, 20, 0, 6) (by decide)).2 ⟨rfl, fun _ => rfl⟩ g1 dX8_stepFour_119 ?_
            refine r_iconst (v := 1) C dX8_stepFour_120 (by decide) ?_
            refine r_iadd C dX8_stepFour_121 ?_
            refine r_iast (ti := 0) (n := 6) C (M16.2 (28, 20, 0, 6) (by decide)).2 ⟨rfl, fun _ => rfl⟩ g1 dX8_stepFour_122 ?_
            refine r_nam (fun σ47 e48 => ?_)
            have u52 : mu m σ47 = ui (mu m σ11) 20 x3.toNatClampNeg (((mu m σ11).1 20 x3.toNatClampNeg) + 1) := by rw [e48]; exact mu_ui (g := 20)
            have h := h (mu m σ47) u52
            have s49 : σ47.1 = σ0.1 := by rw [e48]; exact s12
            have M50 : Mo m σ47 := by rw [e48]; exact M16.fr rfl (fun _ _ => rfl)
            have F51 : Fr m σ0 σ47 := by rw [e48]; exact Fr.ui (g := 20) F17
            refine r_aload_n C dX8_stepFour_123 rfl (j := 0) rfl ?_
            refine r_getA C M50 (k := 28) (g := 20) (ti := 0) (n := 6) (by decide) fa_X8_73 rfl dX8_stepFour_124 ?_
            refine r_iload_n C dX8_stepFour_127 rfl (j := 2) rfl ?_
            refine r_iald (ti := 0) (n := 6) C (M50.2 (28, 20, 0, 6) (by decide)).2 ⟨rfl, fun _ => rfl⟩ g1 dX8_stepFour_128 ?_
            refine r_aload_n C dX8_stepFour_129 rfl (j := 0) rfl ?_
            refine r_getA C M50 (k := 29) (g := 21) (ti := 0) (n := 6) (by decide) fa_X8_76 rfl dX8_stepFour_130 ?_
            refine r_iload_n C dX8_stepFour_133 rfl (j := 2) rfl ?_
            refine r_iald (ti := 0) (n := 6) C (M50.2 (29, 21, 0, 6) (by decide)).2 ⟨rfl, fun _ => rfl⟩ g1 dX8_stepFour_134 ?_
            refine r_icmp_le (tgt := 167) C dX8_stepFour_135 (by decide) (fun c53 => ?_) (fun c53 => ?_)
            · have h := h.1 c53
              obtain ⟨z54, e55⟩ : ∃ y : Int32, y = x3 + 1 := ⟨_, rfl⟩
              have h := h z54 e55
              refine r_iinc (v := z54) (lv' := [(3, Value.int z54), (0, Value.ref (B + m)), (1, Value.long y1), (4, Value.int x4)]) C dX8_stepFour_167 (k := 2) rfl (by rw [e55]; rfl) (by decide) rfl ?_
              refine r_goto (tgt := 2) C dX8_stepFour_170 (by decide) ?_
              exact r_loc (by simp) (h σ47 s49 M50 F51 rfl)
            · have h := h.2 c53
              refine r_aload_n C dX8_stepFour_138 rfl (j := 0) rfl ?_
              refine r_getA C M50 (k := 27) (g := 19) (ti := 0) (n := 6) (by decide) fa_X8_70 rfl dX8_stepFour_139 ?_
              refine r_iload_n C dX8_stepFour_142 rfl (j := 2) rfl ?_
              refine r_iald (ti := 0) (n := 6) C (M50.2 (27, 19, 0, 6) (by decide)).2 ⟨rfl, fun _ => rfl⟩ g1 dX8_stepFour_143 ?_
              refine r_if_le (tgt := 167) C dX8_stepFour_144 (by decide) (fun c56 => ?_) (fun c56 => ?_)
              · have h := h.1 c56
                obtain ⟨z57, e58⟩ : ∃ y : Int32, y = x3 + 1 := ⟨_, rfl⟩
                have h := h z57 e58
                refine r_iinc (v := z57) (lv' := [(3, Value.int z57), (0, Value.ref (B + m)), (1, Value.long y1), (4, Value.int x4)]) C dX8_stepFour_167 (k := 2) rfl (by rw [e58]; rfl) (by decide) rfl ?_
                refine r_goto (tgt := 2) C dX8_stepFour_170 (by decide) ?_
                exact r_loc (by simp) (h σ47 s49 M50 F51 rfl)
              · have h := h.2 c56
                refine r_aload_n C dX8_stepFour_147 rfl (j := 0) rfl ?_
                refine r_getA C M50 (k := 27) (g := 19) (ti := 0) (n := 6) (by decide) fa_X8_70 rfl dX8_stepFour_148 ?_
                refine r_iload_n C dX8_stepFour_151 rfl (j := 2) rfl ?_
                refine r_dup2_11 C dX8_stepFour_152 rfl rfl ?_
                refine r_iald (ti := 0) (n := 6) C (M50.2 (27, 19, 0, 6) (by decide)).2 ⟨rfl, fun _ => rfl⟩ g1 dX8_stepFour_153 ?_
                refine r_iconst (v := 1) C dX8_stepFour_154 (by decide) ?_
                refine r_isub C dX8_stepFour_155 ?_
                refine r_iast (ti := 0) (n := 6) C (M50.2 (27, 19, 0, 6) (by decide)).2 ⟨rfl, fun _ => rfl⟩ g1 dX8_stepFour_156 ?_
                refine r_nam (fun σ59 e60 => ?_)
                have u64 : mu m σ59 = ui (mu m σ47) 19 x3.toNatClampNeg (((mu m σ47).1 19 x3.toNatClampNeg) - 1) := by rw [e60]; exact mu_ui (g := 19)
                have h := h (mu m σ59) u64
                have s61 : σ59.1 = σ0.1 := by rw [e60]; exact s49
                have M62 : Mo m σ59 := by rw [e60]; exact M50.fr rfl (fun _ _ => rfl)
                have F63 : Fr m σ0 σ59 := by rw [e60]; exact Fr.ui (g := 19) F51
                refine r_goto (tgt := 167) C dX8_stepFour_157 (by decide) ?_
                obtain ⟨z65, e66⟩ : ∃ y : Int32, y = x3 + 1 := ⟨_, rfl⟩
                have h := h z65 e66
                refine r_iinc (v := z65) (lv' := [(3, Value.int z65), (0, Value.ref (B + m)), (1, Value.long y1), (4, Value.int x4)]) C dX8_stepFour_167 (k := 2) rfl (by rw [e66]; rfl) (by decide) rfl ?_
                refine r_goto (tgt := 2) C dX8_stepFour_170 (by decide) ?_
                exact r_loc (by simp) (h σ59 s61 M62 F63 rfl)
theorem u_X8_stepFour_175 {X : r_X} {w : r_V} {B m : Nat} {l : Launch} {Q : Mu → Prop} {σ0 : r_S} (C : r_C X w B 5 cX8_stepFour RX8) (E : r_E X l tX8_stepFour) {μ : Mu} {x3 : Int32} {y1 : Int64}
    (h : ((μ.1 0 1) ≤ x3 → (Q μ)) ∧ (¬ (μ.1 0 1) ≤ x3 → (vp_in x3 6 ∧ (∀ z5 : Int32, z5 = (if y1 < (μ.2 40 x3.toNatClampNeg) then (μ.1 37 x3.toNatClampNeg) else (0 : Int32)) → (∀ μ8 : Mu, μ8 = ui μ 37 x3.toNatClampNeg z5 → (∀ z14 : Int32, z14 = x3 + 1 → (r_Wm X w B 5 m σ0 (r_Z X w B tX8_stepFour (ZMV m σ0 Q)) 175 [(0, Value.ref (B + m)), (1, Value.long y1), (3, Value.int z14)] [] μ8))))))) :
    r_Wm X w B 5 m σ0 (r_Z X w B tX8_stepFour (ZMV m σ0 Q)) 175 [(0, Value.ref (B + m)), (1, Value.long y1), (3, Value.int x3)] [] μ := by
  intro σ hs hM hF hμ
  subst hμ
  refine r_iload_n C dX8_stepFour_175 rfl (j := 2) rfl ?_
  refine r_aload_n C dX8_stepFour_176 rfl (j := 0) rfl ?_
  refine r_get (v := .int ((mu m σ).1 0 1)) C hM.1 fa_X8_145 rfl dX8_stepFour_177 ?_
  refine r_icmp_ge (tgt := 216) C dX8_stepFour_180 (by decide) (fun c1 => ?_) (fun c1 => ?_)
  · have h := h.1 c1
    exact r_vretQ C E rfl (Nat.zero_le _) (Nat.zero_le _) dX8_stepFour_216 hs ⟨hF, h⟩
  · have h := h.2 c1
    refine r_aload_n C dX8_stepFour_183 rfl (j := 0) rfl ?_
    refine r_getA C hM (k := 45) (g := 37) (ti := 0) (n := 6) (by decide) fa_X8_124 rfl dX8_stepFour_184 ?_
    refine r_iload_n C dX8_stepFour_187 rfl (j := 2) rfl ?_
    refine r_aload_n C dX8_stepFour_188 rfl (j := 0) rfl ?_
    refine r_getA C hM (k := 48) (g := 40) (ti := 1) (n := 6) (by decide) fa_X8_133 rfl dX8_stepFour_189 ?_
    refine r_iload_n C dX8_stepFour_192 rfl (j := 2) rfl ?_
    obtain ⟨g2, h⟩ := h
    refine r_lald (ti := 1) (n := 6) C (hM.2 (48, 40, 1, 6) (by decide)).2 ⟨rfl, fun _ => rfl⟩ g2 dX8_stepFour_193 ?_
    refine r_lload_n C dX8_stepFour_194 rfl (j := 1) rfl ?_
    refine r_lcmp C dX8_stepFour_195 ?_
    have k7 : ∀ z5 : Int32, z5 = (if y1 < ((mu m σ).2 40 x3.toNatClampNeg) then ((mu m σ).1 37 x3.toNatClampNeg) else (0 : Int32)) → r_W X w B 5 0 0 (r_Z X w B tX8_stepFour (ZMV m σ0 Q)) 209 [(0, Value.ref (B + m)), (1, Value.long y1), (3, Value.int x3)] [Value.int z5, Value.int x3, Value.ref (B + (m + 37))] σ := by
      intro z5 e6
      have h := h z5 e6
      refine r_iast (ti := 0) (n := 6) C (hM.2 (45, 37, 0, 6) (by decide)).2 ⟨rfl, fun _ => rfl⟩ g2 dX8_stepFour_209 ?_
      refine r_nam (fun σ8 e9 => ?_)
      have u13 : mu m σ8 = ui (mu m σ) 37 x3.toNatClampNeg z5 := by rw [e9]; exact mu_ui (g := 37)
      have h := h (mu m σ8) u13
      have s10 : σ8.1 = σ0.1 := by rw [e9]; exact hs
      have M11 : Mo m σ8 := by rw [e9]; exact hM.fr rfl (fun _ _ => rfl)
      have F12 : Fr m σ0 σ8 := by rw [e9]; exact Fr.ui (g := 37) hF
      obtain ⟨z14, e15⟩ : ∃ y : Int32, y = x3 + 1 := ⟨_, rfl⟩
      have h := h z14 e15
      refine r_iinc (v := z14) (lv' := [(3, Value.int z14), (0, Value.ref (B + m)), (1, Value.long y1)]) C dX8_stepFour_210 (k := 2) rfl (by rw [e15]; rfl) (by decide) rfl ?_
      refine r_goto (tgt := 175) C dX8_stepFour_213 (by decide) ?_
      exact r_loc (by simp) (h σ8 s10 M11 F12 rfl)
    clear h
    refine r_if_gt (tgt := 203) C dX8_stepFour_196 (by decide) (fun c3 => ?_) (fun c3 => ?_)
    · have c3 : y1 < ((mu m σ).2 40 x3.toNatClampNeg) := (lgc_gt.mp c3)
      refine r_aload_n C dX8_stepFour_203 rfl (j := 0) rfl ?_
      refine r_getA C hM (k := 45) (g := 37) (ti := 0) (n := 6) (by decide) fa_X8_124 rfl dX8_stepFour_204 ?_
      refine r_iload_n C dX8_stepFour_207 rfl (j := 2) rfl ?_
      refine r_iald (ti := 0) (n := 6) C (hM.2 (45, 37, 0, 6) (by decide)).2 ⟨rfl, fun _ => rfl⟩ g2 dX8_stepFour_208 ?_
      exact k7 _ (by rw [if_pos c3] <;> rfl)
    · have c3 : ¬ y1 < ((mu m σ).2 40 x3.toNatClampNeg) := (fun q => c3 (lgc_gt.mpr q))
      refine r_iconst (v := 0) C dX8_stepFour_199 (by decide) ?_
      refine r_goto (tgt := 209) C dX8_stepFour_200 (by decide) ?_
      exact k7 _ (by rw [if_neg c3] <;> rfl)
theorem u_X8_run_0 {X : r_X} {w : r_V} {B m : Nat} {l : Launch} {Q : Int32 → Mu → Prop} {σ0 : r_S} (C : r_C X w B 4 cX8_run RX8) (E : r_E X l tX8_run) {μ : Mu} {x1 : Int32}
    (h : ∀ μ1 : Mu, μ1 = ui μ 0 0 0 → ((x1 < 1 → (Q (-12) μ1)) ∧ (¬ x1 < 1 → ((x1 ≤ 2000 → (∀ z9 : Int32, z9 = μ1.1 0 21 → (r_Wm X w B 4 m σ0 (r_Z X w B tX8_run (ZMI m σ0 Q)) 27 [(0, Value.ref (B + m)), (1, Value.int x1), (2, Value.int z9), (3, Value.int 0)] [] μ1))) ∧ (¬ x1 ≤ 2000 → (Q (-12) μ1)))))) :
    r_Wm X w B 4 m σ0 (r_Z X w B tX8_run (ZMI m σ0 Q)) 0 [(0, Value.ref (B + m)), (1, Value.int x1)] [] μ := by
  intro σ hs hM hF hμ
  subst hμ
  refine r_aload_n C dX8_run_0 rfl (j := 0) rfl ?_
  refine r_iconst (v := 0) C dX8_run_1 (by decide) ?_
  refine r_putI C hM.1 fa_X8_150 rfl rfl rfl dX8_run_2 ?_
  refine r_nam (fun σ1 e2 => ?_)
  have u6 : mu m σ1 = ui (mu m σ) 0 0 0 := by rw [e2]; exact mu_ui (g := 0)
  have h := h (mu m σ1) u6
  have s3 : σ1.1 = σ0.1 := by rw [e2]; exact hs
  have M4 : Mo m σ1 := by rw [e2]; exact hM.fr rfl (fun _ _ => rfl)
  have F5 : Fr m σ0 σ1 := by rw [e2]; exact Fr.ui (g := 0) hF
  refine r_iload_n C dX8_run_5 rfl (j := 1) rfl ?_
  refine r_iconst (v := 1) C dX8_run_6 (by decide) ?_
  refine r_icmp_lt (tgt := 17) C dX8_run_7 (by decide) (fun c7 => ?_) (fun c7 => ?_)
  · have h := h.1 c7
    refine r_bipush (v := (-12)) C dX8_run_17 (by decide) ?_
    exact r_iretQ C E rfl (Nat.zero_le _) (Nat.zero_le _) dX8_run_19 s3 ⟨F5, h⟩
  · have h := h.2 c7
    refine r_iload_n C dX8_run_10 rfl (j := 1) rfl ?_
    refine r_sipush (v := 2000) C dX8_run_11 (by decide) ?_
    refine r_icmp_le (tgt := 20) C dX8_run_14 (by decide) (fun c8 => ?_) (fun c8 => ?_)
    · have h := h.1 c8
      refine r_aload_n C dX8_run_20 rfl (j := 0) rfl ?_
      refine r_get (v := .int ((mu m σ1).1 0 21)) C M4.1 fa_X8_183 rfl dX8_run_21 ?_
      refine r_topi (fun z9 e10 => ?_)
      have h := h z9 e10
      refine r_istore_n (lv' := [(2, Value.int z9), (0, Value.ref (B + m)), (1, Value.int x1)]) C dX8_run_24 rfl (by decide) rfl ?_
      refine r_iconst (v := 0) C dX8_run_25 (by decide) ?_
      refine r_istore_n (lv' := [(3, Value.int 0), (2, Value.int z9), (0, Value.ref (B + m)), (1, Value.int x1)]) C dX8_run_26 rfl (by decide) rfl ?_
      exact r_loc (by simp) (h σ1 s3 M4 F5 rfl)
    · have h := h.2 c8
      refine r_bipush (v := (-12)) C dX8_run_17 (by decide) ?_
      exact r_iretQ C E rfl (Nat.zero_le _) (Nat.zero_le _) dX8_run_19 s3 ⟨F5, h⟩
theorem u_X8_run_27 {X : r_X} {w : r_V} {B m : Nat} {l : Launch} {Q : Int32 → Mu → Prop} {σ0 : r_S} (C : r_C X w B 4 cX8_run RX8) (E : r_E X l tX8_run) {μ : Mu} {x1 x2 x3 : Int32}
    (h : (x1 ≤ x3 → (Q ((μ.1 0 21) - x2) μ)) ∧ (¬ x1 ≤ x3 → (∃ Q2 : Mu → Prop, r_MV l w B m tX8_stepOne [Value.long (μ.2 0 2)] μ Q2 ∧ (∀ μ4 : Mu, Q2 μ4 → (∃ Q11 : Mu → Prop, r_MV l w B m tX8_stepTwo [Value.long (μ4.2 0 2)] μ4 Q11 ∧ (∀ μ13 : Mu, Q11 μ13 → (∃ Q20 : Mu → Prop, r_MV l w B m tX8_stepThree [Value.long (μ13.2 0 2)] μ13 Q20 ∧ (∀ μ22 : Mu, Q20 μ22 → (∃ Q29 : Mu → Prop, r_MV l w B m tX8_stepFour [Value.long (μ22.2 0 2)] μ22 Q29 ∧ (∀ μ31 : Mu, Q29 μ31 → (∀ μ38 : Mu, μ38 = ul μ31 0 2 ((μ31.2 0 2) + 1) → (∀ z44 : Int32, z44 = x3 + 1 → (r_Wm X w B 4 m σ0 (r_Z X w B tX8_run (ZMI m σ0 Q)) 27 [(0, Value.ref (B + m)), (1, Value.int x1), (2, Value.int x2), (3, Value.int z44)] [] μ38))))))))))))) :
    r_Wm X w B 4 m σ0 (r_Z X w B tX8_run (ZMI m σ0 Q)) 27 [(0, Value.ref (B + m)), (1, Value.int x1), (2, Value.int x2), (3, Value.int x3)] [] μ := by
  intro σ hs hM hF hμ
  subst hμ
  refine r_iload_n C dX8_run_27 rfl (j := 3) rfl ?_
  refine r_iload_n C dX8_run_28 rfl (j := 1) rfl ?_
  refine r_icmp_ge (tgt := 80) C dX8_run_29 (by decide) (fun c1 => ?_) (fun c1 => ?_)
  · have h := h.1 c1
    refine r_aload_n C dX8_run_80 rfl (j := 0) rfl ?_
    refine r_get (v := .int ((mu m σ).1 0 21)) C hM.1 fa_X8_183 rfl dX8_run_81 ?_
    refine r_iload_n C dX8_run_84 rfl (j := 2) rfl ?_
    refine r_isub C dX8_run_85 ?_
    exact r_iretQ C E rfl (Nat.zero_le _) (Nat.zero_le _) dX8_run_86 hs ⟨hF, h⟩
  · have h := h.2 c1
    refine r_aload_n C dX8_run_32 rfl (j := 0) rfl ?_
    refine r_aload_n C dX8_run_33 rfl (j := 0) rfl ?_
    refine r_get (v := .long ((mu m σ).2 0 2)) C hM.1 fa_X8_174 rfl dX8_run_34 ?_
    obtain ⟨Q2, m3, h⟩ := h
    refine r_callVV (rest := []) C E [Value.long ((mu m σ).2 0 2)] hM.1 rfl ky_X8_stepOne kl_X8_239 ki_X8_stepOne kx_X8_stepOne ⟨Nat.le_of_ble_eq_true rfl, Nat.le_of_ble_eq_true rfl⟩ ⟨rfl, rfl⟩ (m3 σ hM rfl) rfl rfl (Nat.le_of_ble_eq_true rfl) (Nat.zero_le _) (Nat.zero_le _) dX8_run_37 (fun σ4 s5 q7 => ?_)
    obtain ⟨f8, q7⟩ := q7
    have h := h (mu m σ4) q7
    have M9 := hM.fr s5 f8.1
    have F10 := hF.trans f8
    have s5 := s5.trans hs
    refine r_aload_n C dX8_run_40 rfl (j := 0) rfl ?_
    refine r_aload_n C dX8_run_41 rfl (j := 0) rfl ?_
    refine r_get (v := .long ((mu m σ4).2 0 2)) C M9.1 fa_X8_174 rfl dX8_run_42 ?_
    obtain ⟨Q11, m12, h⟩ := h
    refine r_callVV (rest := []) C E [Value.long ((mu m σ4).2 0 2)] M9.1 rfl ky_X8_stepTwo kl_X8_243 ki_X8_stepTwo kx_X8_stepTwo ⟨Nat.le_of_ble_eq_true rfl, Nat.le_of_ble_eq_true rfl⟩ ⟨rfl, rfl⟩ (m12 σ4 M9 rfl) rfl rfl (Nat.le_of_ble_eq_true rfl) (Nat.zero_le _) (Nat.zero_le _) dX8_run_45 (fun σ13 s14 q16 => ?_)
    obtain ⟨f17, q16⟩ := q16
    have h := h (mu m σ13) q16
    have M18 := M9.fr s14 f17.1
    have F19 := F10.trans f17
    have s14 := s14.trans s5
    refine r_aload_n C dX8_run_48 rfl (j := 0) rfl ?_
    refine r_aload_n C dX8_run_49 rfl (j := 0) rfl ?_
    refine r_get (v := .long ((mu m σ13).2 0 2)) C M18.1 fa_X8_174 rfl dX8_run_50 ?_
    obtain ⟨Q20, m21, h⟩ := h
    refine r_callVV (rest := []) C E [Value.long ((mu m σ13).2 0 2)] M18.1 rfl ky_X8_stepThree kl_X8_246 ki_X8_stepThree kx_X8_stepThree ⟨Nat.le_of_ble_eq_true rfl, Nat.le_of_ble_eq_true rfl⟩ ⟨rfl, rfl⟩ (m21 σ13 M18 rfl) rfl rfl (Nat.le_of_ble_eq_true rfl) (Nat.zero_le _) (Nat.zero_le _) dX8_run_53 (fun σ22 s23 q25 => ?_)
    obtain ⟨f26, q25⟩ := q25
    have h := h (mu m σ22) q25
    have M27 := M18.fr s23 f26.1
    have F28 := F19.trans f26
    have s23 := s23.trans s14
    refine r_aload_n C dX8_run_56 rfl (j := 0) rfl ?_
    refine r_aload_n C dX8_run_57 rfl (j := 0) rfl ?_
    refine r_get (v := .long ((mu m σ22).2 0 2)) C M27.1 fa_X8_174 rfl dX8_run_58 ?_
    obtain ⟨Q29, m30, h⟩ := h
    refine r_callVV (rest := []) C E [Value.long ((mu m σ22).2 0 2)] M27.1 rfl ky_X8_stepFour kl_X8_249 ki_X8_stepFour kx_X8_stepFour ⟨Nat.le_of_ble_eq_true rfl, Nat.le_of_ble_eq_true rfl⟩ ⟨rfl, rfl⟩ (m30 σ22 M27 rfl) rfl rfl (Nat.le_of_ble_eq_true rfl) (Nat.zero_le _) (Nat.zero_le _) dX8_run_61 (fun σ31 s32 q34 => ?_)
    obtain ⟨f35, q34⟩ := q34
    have h := h (mu m σ31) q34
    have M36 := M27.fr s32 f35.1
    have F37 := F28.trans f35
    have s32 := s32.trans s23
    refine r_aload_n C dX8_run_64 rfl (j := 0) rfl ?_
    refine r_dup C dX8_run_65 rfl ?_
    refine r_get (v := .long ((mu m σ31).2 0 2)) C M36.1 fa_X8_174 rfl dX8_run_66 ?_
    refine r_lconst (v := 1) C dX8_run_69 (by decide) ?_
    refine r_ladd C dX8_run_70 ?_
    refine r_putL C M36.1 fa_X8_174 rfl dX8_run_71 ?_
    refine r_nam (fun σ38 e39 => ?_)
    have u43 : mu m σ38 = ul (mu m σ31) 0 2 (((mu m σ31).2 0 2) + 1) := by rw [e39]; exact mu_ul (g := 0)
    have h := h (mu m σ38) u43
    have s40 : σ38.1 = σ0.1 := by rw [e39]; exact s32
    have M41 : Mo m σ38 := by rw [e39]; exact M36.fr rfl (fun _ _ => rfl)
    have F42 : Fr m σ0 σ38 := by rw [e39]; exact Fr.ul (g := 0) F37
    obtain ⟨z44, e45⟩ : ∃ y : Int32, y = x3 + 1 := ⟨_, rfl⟩
    have h := h z44 e45
    refine r_iinc (v := z44) (lv' := [(3, Value.int z44), (0, Value.ref (B + m)), (1, Value.int x1), (2, Value.int x2)]) C dX8_run_74 (k := 3) rfl (by rw [e45]; rfl) (by decide) rfl ?_
    refine r_goto (tgt := 27) C dX8_run_77 (by decide) ?_
    exact r_loc (by simp) (h σ38 s40 M41 F42 rfl)
theorem u_X8_event_0 {X : r_X} {w : r_V} {B m : Nat} {l : Launch} {Q : Int32 → Mu → Prop} {σ0 : r_S} (C : r_C X w B 3 cX8_event RX8) (E : r_E X l tX8_event) {μ : Mu} {x1 x2 : Int32}
    (h : ∀ μ1 : Mu, μ1 = ui μ 0 0 0 → ((x1 < 0 → (Q (-1) μ1)) ∧ (¬ x1 < 0 → (((μ1.1 0 21) ≤ x1 → (Q (-1) μ1)) ∧ (¬ (μ1.1 0 21) ≤ x1 → ((700 ≤ x1 → (Q (-1) μ1)) ∧ (¬ 700 ≤ x1 → ((x2 < 0 → (Q (-1) μ1)) ∧ (¬ x2 < 0 → ((x2 ≤ 2 → (((x2 = 0 → (vp_in x1 700)) ∧ (¬ x2 = 0 → (((x2 = 1 → (vp_in x1 700)) ∧ (¬ x2 = 1 → (vp_in x1 700)))))) ∧ (∀ z20 : Int32, z20 = (if x2 = 0 then (μ1.1 14 x1.toNatClampNeg) else (if x2 = 1 then (μ1.1 15 x1.toNatClampNeg) else ((μ1.2 16 x1.toNatClampNeg).toInt32))) → (Q z20 μ1)))) ∧ (¬ x2 ≤ 2 → (Q (-1) μ1)))))))))))) :
    r_Wm X w B 3 m σ0 (r_Z X w B tX8_event (ZMI m σ0 Q)) 0 [(0, Value.ref (B + m)), (1, Value.int x1), (2, Value.int x2)] [] μ := by
  intro σ hs hM hF hμ
  subst hμ
  refine r_aload_n C dX8_event_0 rfl (j := 0) rfl ?_
  refine r_iconst (v := 0) C dX8_event_1 (by decide) ?_
  refine r_putI C hM.1 fa_X8_150 rfl rfl rfl dX8_event_2 ?_
  refine r_nam (fun σ1 e2 => ?_)
  have u6 : mu m σ1 = ui (mu m σ) 0 0 0 := by rw [e2]; exact mu_ui (g := 0)
  have h := h (mu m σ1) u6
  have s3 : σ1.1 = σ0.1 := by rw [e2]; exact hs
  have M4 : Mo m σ1 := by rw [e2]; exact hM.fr rfl (fun _ _ => rfl)
  have F5 : Fr m σ0 σ1 := by rw [e2]; exact Fr.ui (g := 0) hF
  refine r_iload_n C dX8_event_5 rfl (j := 1) rfl ?_
  refine r_if_lt (tgt := 33) C dX8_event_6 (by decide) (fun c7 => ?_) (fun c7 => ?_)
  · have h := h.1 c7
    refine r_iconst (v := (-1)) C dX8_event_33 (by decide) ?_
    exact r_iretQ C E rfl (Nat.zero_le _) (Nat.zero_le _) dX8_event_34 s3 ⟨F5, h⟩
  · have h := h.2 c7
    refine r_iload_n C dX8_event_9 rfl (j := 1) rfl ?_
    refine r_aload_n C dX8_event_10 rfl (j := 0) rfl ?_
    refine r_get (v := .int ((mu m σ1).1 0 21)) C M4.1 fa_X8_183 rfl dX8_event_11 ?_
    refine r_icmp_ge (tgt := 33) C dX8_event_14 (by decide) (fun c8 => ?_) (fun c8 => ?_)
    · have h := h.1 c8
      refine r_iconst (v := (-1)) C dX8_event_33 (by decide) ?_
      exact r_iretQ C E rfl (Nat.zero_le _) (Nat.zero_le _) dX8_event_34 s3 ⟨F5, h⟩
    · have h := h.2 c8
      refine r_iload_n C dX8_event_17 rfl (j := 1) rfl ?_
      refine r_sipush (v := 700) C dX8_event_18 (by decide) ?_
      refine r_icmp_ge (tgt := 33) C dX8_event_21 (by decide) (fun c9 => ?_) (fun c9 => ?_)
      · have h := h.1 c9
        refine r_iconst (v := (-1)) C dX8_event_33 (by decide) ?_
        exact r_iretQ C E rfl (Nat.zero_le _) (Nat.zero_le _) dX8_event_34 s3 ⟨F5, h⟩
      · have h := h.2 c9
        refine r_iload_n C dX8_event_24 rfl (j := 2) rfl ?_
        refine r_if_lt (tgt := 33) C dX8_event_25 (by decide) (fun c10 => ?_) (fun c10 => ?_)
        · have h := h.1 c10
          refine r_iconst (v := (-1)) C dX8_event_33 (by decide) ?_
          exact r_iretQ C E rfl (Nat.zero_le _) (Nat.zero_le _) dX8_event_34 s3 ⟨F5, h⟩
        · have h := h.2 c10
          refine r_iload_n C dX8_event_28 rfl (j := 2) rfl ?_
          refine r_iconst (v := 2) C dX8_event_29 (by decide) ?_
          refine r_icmp_le (tgt := 35) C dX8_event_30 (by decide) (fun c11 => ?_) (fun c11 => ?_)
          · have h := h.1 c11
            refine r_iload_n C dX8_event_35 rfl (j := 2) rfl ?_
            obtain ⟨g19, h⟩ := h
            have k22 : ∀ z20 : Int32, z20 = (if x2 = 0 then ((mu m σ1).1 14 x1.toNatClampNeg) else (if x2 = 1 then ((mu m σ1).1 15 x1.toNatClampNeg) else (((mu m σ1).2 16 x1.toNatClampNeg).toInt32))) → r_W X w B 3 0 0 (r_Z X w B tX8_event (ZMI m σ0 Q)) 69 [(0, Value.ref (B + m)), (1, Value.int x1), (2, Value.int x2)] [Value.int z20] σ1 := by
              intro z20 e21
              have h := h z20 e21
              exact r_iretQ C E rfl (Nat.zero_le _) (Nat.zero_le _) dX8_event_69 s3 ⟨F5, h⟩
            clear h
            refine r_if_ne (tgt := 48) C dX8_event_36 (by decide) (fun c12 => ?_) (fun c12 => ?_)
            · have c12 : ¬ x2 = 0 := c12
              have h := g19.2 c12
              refine r_iload_n C dX8_event_48 rfl (j := 2) rfl ?_
              refine r_iconst (v := 1) C dX8_event_49 (by decide) ?_
              have g23 := h
              refine r_icmp_ne (tgt := 62) C dX8_event_50 (by decide) (fun c15 => ?_) (fun c15 => ?_)
              · have c15 : ¬ x2 = 1 := c15
                have h := g23.2 c15
                refine r_aload_n C dX8_event_62 rfl (j := 0) rfl ?_
                refine r_getA C M4 (k := 24) (g := 16) (ti := 1) (n := 700) (by decide) fa_X8_61 rfl dX8_event_63 ?_
                refine r_iload_n C dX8_event_66 rfl (j := 1) rfl ?_
                have g18 := h
                refine r_lald (ti := 1) (n := 700) C (M4.2 (24, 16, 1, 700) (by decide)).2 ⟨rfl, fun _ => rfl⟩ g18 dX8_event_67 ?_
                refine r_l2i (v := ((mu m σ1).2 16 x1.toNatClampNeg).toInt32) C dX8_event_68 rfl ?_
                exact k22 _ (by rw [if_neg c12, if_neg c15] <;> rfl)
              · have c15 : x2 = 1 := c15
                have h := g23.1 c15
                refine r_aload_n C dX8_event_53 rfl (j := 0) rfl ?_
                refine r_getA C M4 (k := 23) (g := 15) (ti := 0) (n := 700) (by decide) fa_X8_58 rfl dX8_event_54 ?_
                refine r_iload_n C dX8_event_57 rfl (j := 1) rfl ?_
                have g17 := h
                refine r_iald (ti := 0) (n := 700) C (M4.2 (23, 15, 0, 700) (by decide)).2 ⟨rfl, fun _ => rfl⟩ g17 dX8_event_58 ?_
                refine r_goto (tgt := 69) C dX8_event_59 (by decide) ?_
                exact k22 _ (by rw [if_neg c12, if_pos c15] <;> rfl)
            · have c12 : x2 = 0 := c12
              have h := g19.1 c12
              refine r_aload_n C dX8_event_39 rfl (j := 0) rfl ?_
              refine r_getA C M4 (k := 22) (g := 14) (ti := 0) (n := 700) (by decide) fa_X8_55 rfl dX8_event_40 ?_
              refine r_iload_n C dX8_event_43 rfl (j := 1) rfl ?_
              have g14 := h
              refine r_iald (ti := 0) (n := 700) C (M4.2 (22, 14, 0, 700) (by decide)).2 ⟨rfl, fun _ => rfl⟩ g14 dX8_event_44 ?_
              refine r_goto (tgt := 69) C dX8_event_45 (by decide) ?_
              exact k22 _ (by rw [if_pos c12] <;> rfl)
          · have h := h.2 c11
            refine r_iconst (v := (-1)) C dX8_event_33 (by decide) ?_
            exact r_iretQ C E rfl (Nat.zero_le _) (Nat.zero_le _) dX8_event_34 s3 ⟨F5, h⟩
theorem u_X8_state_0 {X : r_X} {w : r_V} {B m : Nat} {l : Launch} {Q : Int32 → Mu → Prop} {σ0 : r_S} (C : r_C X w B 3 cX8_state RX8) (E : r_E X l tX8_state) {μ : Mu} {x1 x2 : Int32}
    (h : ∀ μ1 : Mu, μ1 = ui μ 0 0 0 → (∃ Q7 : Int32 → Mu → Prop, r_MI l w B m tX8_isStation [Value.int x1] μ1 Q7 ∧ (∀ (z11 : Int32) (μ9 : Mu), Q7 z11 μ9 → ((z11 = 0 → (Q (-11) μ9)) ∧ (¬ z11 = 0 → ((x2 = 0 → (vp_in x1 6 ∧ (Q (μ9.1 17 x1.toNatClampNeg) μ9))) ∧ (¬ x2 = 0 → ((x2 = 1 → (vp_in x1 6 ∧ (Q (μ9.1 19 x1.toNatClampNeg) μ9))) ∧ (¬ x2 = 1 → ((x2 = 2 → (vp_in x1 6 ∧ (Q (μ9.1 18 x1.toNatClampNeg) μ9))) ∧ (¬ x2 = 2 → ((x2 = 3 → (vp_in x1 6 ∧ (∀ z27 : Int32, z27 = (if (μ9.2 22 x1.toNatClampNeg) ≤ (μ9.2 0 2) then (0 : Int32) else (((μ9.2 22 x1.toNatClampNeg) - (μ9.2 0 2)).toInt32)) → (Q z27 μ9)))) ∧ (¬ x2 = 3 → ((x2 = 4 → (vp_in x1 6 ∧ (Q (μ9.1 37 x1.toNatClampNeg) μ9))) ∧ (¬ x2 = 4 → ((x2 = 5 → (vp_in x1 6 ∧ (Q (μ9.1 20 x1.toNatClampNeg) μ9))) ∧ (¬ x2 = 5 → ((x2 = 6 → (vp_in x1 6 ∧ (Q (μ9.1 21 x1.toNatClampNeg) μ9))) ∧ (¬ x2 = 6 → ((x2 = 7 → (∃ Q37 : Int32 → Mu → Prop, r_MI l w B m tX8_keeps [Value.int x1] μ9 Q37 ∧ (∀ (z41 : Int32) (μ39 : Mu), Q37 z41 μ39 → (Q z41 μ39)))) ∧ (¬ x2 = 7 → (Q (-12) μ9)))))))))))))))))))))) :
    r_Wm X w B 3 m σ0 (r_Z X w B tX8_state (ZMI m σ0 Q)) 0 [(0, Value.ref (B + m)), (1, Value.int x1), (2, Value.int x2)] [] μ := by
  intro σ hs hM hF hμ
  subst hμ
  refine r_aload_n C dX8_state_0 rfl (j := 0) rfl ?_
  refine r_iconst (v := 0) C dX8_state_1 (by decide) ?_
  refine r_putI C hM.1 fa_X8_150 rfl rfl rfl dX8_state_2 ?_
  refine r_nam (fun σ1 e2 => ?_)
  have u6 : mu m σ1 = ui (mu m σ) 0 0 0 := by rw [e2]; exact mu_ui (g := 0)
  have h := h (mu m σ1) u6
  have s3 : σ1.1 = σ0.1 := by rw [e2]; exact hs
  have M4 : Mo m σ1 := by rw [e2]; exact hM.fr rfl (fun _ _ => rfl)
  have F5 : Fr m σ0 σ1 := by rw [e2]; exact Fr.ui (g := 0) hF
  refine r_aload_n C dX8_state_5 rfl (j := 0) rfl ?_
  refine r_iload_n C dX8_state_6 rfl (j := 1) rfl ?_
  obtain ⟨Q7, m8, h⟩ := h
  refine r_callVI (rest := []) C E [Value.int x1] M4.1 rfl ky_X8_isStation kl_X8_153 ki_X8_isStation kx_X8_isStation ⟨Nat.le_of_ble_eq_true rfl, Nat.le_of_ble_eq_true rfl⟩ ⟨rfl, rfl⟩ (m8 σ1 M4 rfl) rfl rfl (Nat.le_of_ble_eq_true rfl) (Nat.zero_le _) (Nat.zero_le _) dX8_state_7 (fun z11 σ9 s10 q12 => ?_)
  obtain ⟨f13, q12⟩ := q12
  have h := h z11 (mu m σ9) q12
  have M14 := M4.fr s10 f13.1
  have F15 := F5.trans f13
  have s10 := s10.trans s3
  refine r_if_ne (tgt := 16) C dX8_state_10 (by decide) (fun c16 => ?_) (fun c16 => ?_)
  · have h := h.2 c16
    refine r_iload_n C dX8_state_16 rfl (j := 2) rfl ?_
    by_cases c17 : x2 = 0
    · have h := h.1 c17
      refine r_tableIn (tgt := 64) (off := 47) C dX8_state_17 (by rw [c17]; decide) (by rw [c17]; decide) (by rw [c17]; rfl) (by decide) ?_
      refine r_aload_n C dX8_state_64 rfl (j := 0) rfl ?_
      refine r_getA C M14 (k := 25) (g := 17) (ti := 0) (n := 6) (by decide) fa_X8_64 rfl dX8_state_65 ?_
      refine r_iload_n C dX8_state_68 rfl (j := 1) rfl ?_
      obtain ⟨g18, h⟩ := h
      refine r_iald (ti := 0) (n := 6) C (M14.2 (25, 17, 0, 6) (by decide)).2 ⟨rfl, fun _ => rfl⟩ g18 dX8_state_69 ?_
      exact r_iretQ C E rfl (Nat.zero_le _) (Nat.zero_le _) dX8_state_70 s10 ⟨F15, h⟩
    have h := h.2 c17
    have c17 := r_neT c17
    by_cases c19 : x2 = 1
    · have h := h.1 c19
      refine r_tableIn (tgt := 71) (off := 54) C dX8_state_17 (by rw [c19]; decide) (by rw [c19]; decide) (by rw [c19]; rfl) (by decide) ?_
      refine r_aload_n C dX8_state_71 rfl (j := 0) rfl ?_
      refine r_getA C M14 (k := 27) (g := 19) (ti := 0) (n := 6) (by decide) fa_X8_70 rfl dX8_state_72 ?_
      refine r_iload_n C dX8_state_75 rfl (j := 1) rfl ?_
      obtain ⟨g20, h⟩ := h
      refine r_iald (ti := 0) (n := 6) C (M14.2 (27, 19, 0, 6) (by decide)).2 ⟨rfl, fun _ => rfl⟩ g20 dX8_state_76 ?_
      exact r_iretQ C E rfl (Nat.zero_le _) (Nat.zero_le _) dX8_state_77 s10 ⟨F15, h⟩
    have h := h.2 c19
    have c19 := r_neT c19
    by_cases c21 : x2 = 2
    · have h := h.1 c21
      refine r_tableIn (tgt := 78) (off := 61) C dX8_state_17 (by rw [c21]; decide) (by rw [c21]; decide) (by rw [c21]; rfl) (by decide) ?_
      refine r_aload_n C dX8_state_78 rfl (j := 0) rfl ?_
      refine r_getA C M14 (k := 26) (g := 18) (ti := 0) (n := 6) (by decide) fa_X8_67 rfl dX8_state_79 ?_
      refine r_iload_n C dX8_state_82 rfl (j := 1) rfl ?_
      obtain ⟨g22, h⟩ := h
      refine r_iald (ti := 0) (n := 6) C (M14.2 (26, 18, 0, 6) (by decide)).2 ⟨rfl, fun _ => rfl⟩ g22 dX8_state_83 ?_
      exact r_iretQ C E rfl (Nat.zero_le _) (Nat.zero_le _) dX8_state_84 s10 ⟨F15, h⟩
    have h := h.2 c21
    have c21 := r_neT c21
    by_cases c23 : x2 = 3
    · have h := h.1 c23
      refine r_tableIn (tgt := 85) (off := 68) C dX8_state_17 (by rw [c23]; decide) (by rw [c23]; decide) (by rw [c23]; rfl) (by decide) ?_
      refine r_aload_n C dX8_state_85 rfl (j := 0) rfl ?_
      refine r_getA C M14 (k := 30) (g := 22) (ti := 1) (n := 6) (by decide) fa_X8_79 rfl dX8_state_86 ?_
      refine r_iload_n C dX8_state_89 rfl (j := 1) rfl ?_
      obtain ⟨g24, h⟩ := h
      refine r_lald (ti := 1) (n := 6) C (M14.2 (30, 22, 1, 6) (by decide)).2 ⟨rfl, fun _ => rfl⟩ g24 dX8_state_90 ?_
      refine r_aload_n C dX8_state_91 rfl (j := 0) rfl ?_
      refine r_get (v := .long ((mu m σ9).2 0 2)) C M14.1 fa_X8_174 rfl dX8_state_92 ?_
      refine r_lcmp C dX8_state_95 ?_
      have k29 : ∀ z27 : Int32, z27 = (if ((mu m σ9).2 22 x1.toNatClampNeg) ≤ ((mu m σ9).2 0 2) then (0 : Int32) else ((((mu m σ9).2 22 x1.toNatClampNeg) - ((mu m σ9).2 0 2)).toInt32)) → r_W X w B 3 0 0 (r_Z X w B tX8_state (ZMI m σ0 Q)) 115 [(0, Value.ref (B + m)), (1, Value.int x1), (2, Value.int x2)] [Value.int z27] σ9 := by
        intro z27 e28
        have h := h z27 e28
        exact r_iretQ C E rfl (Nat.zero_le _) (Nat.zero_le _) dX8_state_115 s10 ⟨F15, h⟩
      clear h
      refine r_if_le (tgt := 114) C dX8_state_96 (by decide) (fun c25 => ?_) (fun c25 => ?_)
      · have c25 : ((mu m σ9).2 22 x1.toNatClampNeg) ≤ ((mu m σ9).2 0 2) := (lgc_le.mp c25)
        refine r_iconst (v := 0) C dX8_state_114 (by decide) ?_
        exact k29 _ (by rw [if_pos c25] <;> rfl)
      · have c25 : ¬ ((mu m σ9).2 22 x1.toNatClampNeg) ≤ ((mu m σ9).2 0 2) := (fun q => c25 (lgc_le.mpr q))
        refine r_aload_n C dX8_state_99 rfl (j := 0) rfl ?_
        refine r_getA C M14 (k := 30) (g := 22) (ti := 1) (n := 6) (by decide) fa_X8_79 rfl dX8_state_100 ?_
        refine r_iload_n C dX8_state_103 rfl (j := 1) rfl ?_
        refine r_lald (ti := 1) (n := 6) C (M14.2 (30, 22, 1, 6) (by decide)).2 ⟨rfl, fun _ => rfl⟩ g24 dX8_state_104 ?_
        refine r_aload_n C dX8_state_105 rfl (j := 0) rfl ?_
        refine r_get (v := .long ((mu m σ9).2 0 2)) C M14.1 fa_X8_174 rfl dX8_state_106 ?_
        refine r_lsub C dX8_state_109 ?_
        refine r_l2i (v := (((mu m σ9).2 22 x1.toNatClampNeg) - ((mu m σ9).2 0 2)).toInt32) C dX8_state_110 rfl ?_
        refine r_goto (tgt := 115) C dX8_state_111 (by decide) ?_
        exact k29 _ (by rw [if_neg c25] <;> rfl)
    have h := h.2 c23
    have c23 := r_neT c23
    by_cases c30 : x2 = 4
    · have h := h.1 c30
      refine r_tableIn (tgt := 116) (off := 99) C dX8_state_17 (by rw [c30]; decide) (by rw [c30]; decide) (by rw [c30]; rfl) (by decide) ?_
      refine r_aload_n C dX8_state_116 rfl (j := 0) rfl ?_
      refine r_getA C M14 (k := 45) (g := 37) (ti := 0) (n := 6) (by decide) fa_X8_124 rfl dX8_state_117 ?_
      refine r_iload_n C dX8_state_120 rfl (j := 1) rfl ?_
      obtain ⟨g31, h⟩ := h
      refine r_iald (ti := 0) (n := 6) C (M14.2 (45, 37, 0, 6) (by decide)).2 ⟨rfl, fun _ => rfl⟩ g31 dX8_state_121 ?_
      exact r_iretQ C E rfl (Nat.zero_le _) (Nat.zero_le _) dX8_state_122 s10 ⟨F15, h⟩
    have h := h.2 c30
    have c30 := r_neT c30
    by_cases c32 : x2 = 5
    · have h := h.1 c32
      refine r_tableIn (tgt := 123) (off := 106) C dX8_state_17 (by rw [c32]; decide) (by rw [c32]; decide) (by rw [c32]; rfl) (by decide) ?_
      refine r_aload_n C dX8_state_123 rfl (j := 0) rfl ?_
      refine r_getA C M14 (k := 28) (g := 20) (ti := 0) (n := 6) (by decide) fa_X8_73 rfl dX8_state_124 ?_
      refine r_iload_n C dX8_state_127 rfl (j := 1) rfl ?_
      obtain ⟨g33, h⟩ := h
      refine r_iald (ti := 0) (n := 6) C (M14.2 (28, 20, 0, 6) (by decide)).2 ⟨rfl, fun _ => rfl⟩ g33 dX8_state_128 ?_
      exact r_iretQ C E rfl (Nat.zero_le _) (Nat.zero_le _) dX8_state_129 s10 ⟨F15, h⟩
    have h := h.2 c32
    have c32 := r_neT c32
    by_cases c34 : x2 = 6
    · have h := h.1 c34
      refine r_tableIn (tgt := 130) (off := 113) C dX8_state_17 (by rw [c34]; decide) (by rw [c34]; decide) (by rw [c34]; rfl) (by decide) ?_
      refine r_aload_n C dX8_state_130 rfl (j := 0) rfl ?_
      refine r_getA C M14 (k := 29) (g := 21) (ti := 0) (n := 6) (by decide) fa_X8_76 rfl dX8_state_131 ?_
      refine r_iload_n C dX8_state_134 rfl (j := 1) rfl ?_
      obtain ⟨g35, h⟩ := h
      refine r_iald (ti := 0) (n := 6) C (M14.2 (29, 21, 0, 6) (by decide)).2 ⟨rfl, fun _ => rfl⟩ g35 dX8_state_135 ?_
      exact r_iretQ C E rfl (Nat.zero_le _) (Nat.zero_le _) dX8_state_136 s10 ⟨F15, h⟩
    have h := h.2 c34
    have c34 := r_neT c34
    by_cases c36 : x2 = 7
    · have h := h.1 c36
      refine r_tableIn (tgt := 137) (off := 120) C dX8_state_17 (by rw [c36]; decide) (by rw [c36]; decide) (by rw [c36]; rfl) (by decide) ?_
      refine r_aload_n C dX8_state_137 rfl (j := 0) rfl ?_
      refine r_iload_n C dX8_state_138 rfl (j := 1) rfl ?_
      obtain ⟨Q37, m38, h⟩ := h
      refine r_callVI (rest := []) C E [Value.int x1] M14.1 rfl ky_X8_keeps kl_X8_166 ki_X8_keeps kx_X8_keeps ⟨Nat.le_of_ble_eq_true rfl, Nat.le_of_ble_eq_true rfl⟩ ⟨rfl, rfl⟩ (m38 σ9 M14 rfl) rfl rfl (Nat.le_of_ble_eq_true rfl) (Nat.zero_le _) (Nat.zero_le _) dX8_state_139 (fun z41 σ39 s40 q42 => ?_)
      obtain ⟨f43, q42⟩ := q42
      have h := h z41 (mu m σ39) q42
      have M44 := M14.fr s40 f43.1
      have F45 := F15.trans f43
      have s40 := s40.trans s10
      exact r_iretQ C E rfl (Nat.zero_le _) (Nat.zero_le _) dX8_state_142 s40 ⟨F45, h⟩
    have h := h.2 c36
    have c36 := r_neT c36
    refine r_tableOut (tgt := 143) C dX8_state_17 (by simp at *; omega) (by decide) ?_
    refine r_bipush (v := (-12)) C dX8_state_143 (by decide) ?_
    exact r_iretQ C E rfl (Nat.zero_le _) (Nat.zero_le _) dX8_state_145 s10 ⟨F15, h⟩
  · have h := h.1 c16
    refine r_bipush (v := (-11)) C dX8_state_13 (by decide) ?_
    exact r_iretQ C E rfl (Nat.zero_le _) (Nat.zero_le _) dX8_state_15 s10 ⟨F15, h⟩
theorem u_X8_sent_0 {X : r_X} {w : r_V} {B m : Nat} {l : Launch} {Q : Int32 → Mu → Prop} {σ0 : r_S} (C : r_C X w B 3 cX8_sent RX8) (E : r_E X l tX8_sent) {μ : Mu} {x1 x2 : Int32}
    (h : ∀ μ1 : Mu, μ1 = ui μ 0 0 0 → (∃ Q7 : Int32 → Mu → Prop, r_MI l w B m tX8_isStation [Value.int x1] μ1 Q7 ∧ (∀ (z11 : Int32) (μ9 : Mu), Q7 z11 μ9 → (((z11 = 0 → True) ∧ (¬ z11 = 0 → (((x2 < 1 → True) ∧ (¬ x2 < 1 → (((x2 ≤ 4 → (vp_in (((4 * x1) + x2) - 1) 24)) ∧ (¬ x2 ≤ 4 → True)))))))) ∧ (∀ z24 : Int32, z24 = (if z11 = 0 then (-11) else (if x2 < 1 then (-12) else (if x2 ≤ 4 then (μ9.1 33 ((((4 * x1) + x2) - 1).toNatClampNeg)) else (-12)))) → (Q z24 μ9)))))) :
    r_Wm X w B 3 m σ0 (r_Z X w B tX8_sent (ZMI m σ0 Q)) 0 [(0, Value.ref (B + m)), (1, Value.int x1), (2, Value.int x2)] [] μ := by
  intro σ hs hM hF hμ
  subst hμ
  refine r_aload_n C dX8_sent_0 rfl (j := 0) rfl ?_
  refine r_iconst (v := 0) C dX8_sent_1 (by decide) ?_
  refine r_putI C hM.1 fa_X8_150 rfl rfl rfl dX8_sent_2 ?_
  refine r_nam (fun σ1 e2 => ?_)
  have u6 : mu m σ1 = ui (mu m σ) 0 0 0 := by rw [e2]; exact mu_ui (g := 0)
  have h := h (mu m σ1) u6
  have s3 : σ1.1 = σ0.1 := by rw [e2]; exact hs
  have M4 : Mo m σ1 := by rw [e2]; exact hM.fr rfl (fun _ _ => rfl)
  have F5 : Fr m σ0 σ1 := by rw [e2]; exact Fr.ui (g := 0) hF
  refine r_aload_n C dX8_sent_5 rfl (j := 0) rfl ?_
  refine r_iload_n C dX8_sent_6 rfl (j := 1) rfl ?_
  obtain ⟨Q7, m8, h⟩ := h
  refine r_callVI (rest := []) C E [Value.int x1] M4.1 rfl ky_X8_isStation kl_X8_153 ki_X8_isStation kx_X8_isStation ⟨Nat.le_of_ble_eq_true rfl, Nat.le_of_ble_eq_true rfl⟩ ⟨rfl, rfl⟩ (m8 σ1 M4 rfl) rfl rfl (Nat.le_of_ble_eq_true rfl) (Nat.zero_le _) (Nat.zero_le _) dX8_sent_7 (fun z11 σ9 s10 q12 => ?_)
  obtain ⟨f13, q12⟩ := q12
  have h := h z11 (mu m σ9) q12
  have M14 := M4.fr s10 f13.1
  have F15 := F5.trans f13
  have s10 := s10.trans s3
  obtain ⟨g23, h⟩ := h
  have k26 : ∀ z24 : Int32, z24 = (if z11 = 0 then (-11) else (if x2 < 1 then (-12) else (if x2 ≤ 4 then ((mu m σ9).1 33 ((((4 * x1) + x2) - 1).toNatClampNeg)) else (-12)))) → r_W X w B 3 0 0 (r_Z X w B tX8_sent (ZMI m σ0 Q)) 45 [(0, Value.ref (B + m)), (1, Value.int x1), (2, Value.int x2)] [Value.int z24] σ9 := by
    intro z24 e25
    have h := h z24 e25
    exact r_iretQ C E rfl (Nat.zero_le _) (Nat.zero_le _) dX8_sent_45 s10 ⟨F15, h⟩
  clear h
  refine r_if_ne (tgt := 18) C dX8_sent_10 (by decide) (fun c16 => ?_) (fun c16 => ?_)
  · have c16 : ¬ z11 = 0 := c16
    have h := g23.2 c16
    refine r_iload_n C dX8_sent_18 rfl (j := 2) rfl ?_
    refine r_iconst (v := 1) C dX8_sent_19 (by decide) ?_
    have g27 := h
    refine r_icmp_lt (tgt := 28) C dX8_sent_20 (by decide) (fun c18 => ?_) (fun c18 => ?_)
    · have c18 : x2 < 1 := c18
      refine r_bipush (v := (-12)) C dX8_sent_28 (by decide) ?_
      refine r_goto (tgt := 45) C dX8_sent_30 (by decide) ?_
      exact k26 _ (by rw [if_neg c16, if_pos c18] <;> rfl)
    · have c18 : ¬ x2 < 1 := c18
      have h := g27.2 c18
      refine r_iload_n C dX8_sent_23 rfl (j := 2) rfl ?_
      refine r_iconst (v := 4) C dX8_sent_24 (by decide) ?_
      have g28 := h
      refine r_icmp_le (tgt := 33) C dX8_sent_25 (by decide) (fun c20 => ?_) (fun c20 => ?_)
      · have c20 : x2 ≤ 4 := c20
        have h := g28.1 c20
        refine r_aload_n C dX8_sent_33 rfl (j := 0) rfl ?_
        refine r_getA C M14 (k := 41) (g := 33) (ti := 0) (n := 24) (by decide) fa_X8_112 rfl dX8_sent_34 ?_
        refine r_iconst (v := 4) C dX8_sent_37 (by decide) ?_
        refine r_iload_n C dX8_sent_38 rfl (j := 1) rfl ?_
        refine r_imul C dX8_sent_39 ?_
        refine r_iload_n C dX8_sent_40 rfl (j := 2) rfl ?_
        refine r_iadd C dX8_sent_41 ?_
        refine r_iconst (v := 1) C dX8_sent_42 (by decide) ?_
        refine r_isub C dX8_sent_43 ?_
        have g22 := h
        refine r_iald (ti := 0) (n := 24) C (M14.2 (41, 33, 0, 24) (by decide)).2 ⟨rfl, fun _ => rfl⟩ g22 dX8_sent_44 ?_
        exact k26 _ (by rw [if_neg c16, if_neg c18, if_pos c20] <;> rfl)
      · have c20 : ¬ x2 ≤ 4 := c20
        refine r_bipush (v := (-12)) C dX8_sent_28 (by decide) ?_
        refine r_goto (tgt := 45) C dX8_sent_30 (by decide) ?_
        exact k26 _ (by rw [if_neg c16, if_neg c18, if_neg c20] <;> rfl)
  · have c16 : z11 = 0 := c16
    refine r_bipush (v := (-11)) C dX8_sent_13 (by decide) ?_
    refine r_goto (tgt := 45) C dX8_sent_15 (by decide) ?_
    exact k26 _ (by rw [if_pos c16] <;> rfl)
theorem u_X8_now_0 {X : r_X} {w : r_V} {B m : Nat} {l : Launch} {Q : Int64 → Mu → Prop} {σ0 : r_S} (C : r_C X w B 1 cX8_now RX8) (E : r_E X l tX8_now) {μ : Mu}
    (h : ∀ μ1 : Mu, μ1 = ui μ 0 0 0 → (Q (μ1.2 0 2) μ1)) :
    r_Wm X w B 1 m σ0 (r_Z X w B tX8_now (ZML m σ0 Q)) 0 [(0, Value.ref (B + m))] [] μ := by
  intro σ hs hM hF hμ
  subst hμ
  refine r_aload_n C dX8_now_0 rfl (j := 0) rfl ?_
  refine r_iconst (v := 0) C dX8_now_1 (by decide) ?_
  refine r_putI C hM.1 fa_X8_150 rfl rfl rfl dX8_now_2 ?_
  refine r_nam (fun σ1 e2 => ?_)
  have u6 : mu m σ1 = ui (mu m σ) 0 0 0 := by rw [e2]; exact mu_ui (g := 0)
  have h := h (mu m σ1) u6
  have s3 : σ1.1 = σ0.1 := by rw [e2]; exact hs
  have M4 : Mo m σ1 := by rw [e2]; exact hM.fr rfl (fun _ _ => rfl)
  have F5 : Fr m σ0 σ1 := by rw [e2]; exact Fr.ui (g := 0) hF
  refine r_aload_n C dX8_now_5 rfl (j := 0) rfl ?_
  refine r_get (v := .long ((mu m σ1).2 0 2)) C M4.1 fa_X8_174 rfl dX8_now_6 ?_
  exact r_lretQ C E rfl (Nat.zero_le _) (Nat.zero_le _) dX8_now_9 s3 ⟨F5, h⟩
