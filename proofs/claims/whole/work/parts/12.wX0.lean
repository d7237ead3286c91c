theorem w_X0_add_0 {X : r_X} {w : r_V} {B : Nat} {l : Launch} {Q : r_S → Prop} {σ0 : r_S} (C : r_C X w B 2 cX0_add RX0) (E : r_E X l tX0_add) {σ : r_S} (hs : σ.1 = σ0.1) {a0 : Nat} {x1 : Int32}
    (h : r_at σ a0 = some (.inl 0) ∧ ((400 ≤ (r_gi σ a0 1) → (Q σ)) ∧ (¬ 400 ≤ (r_gi σ a0 1) → (∃ n3, r_at σ (r_gr σ a0 0) = some (.inr (0, n3)) ∧ (vp_in (r_gi σ a0 1) n3 ∧ (∀ σ6 : r_S, σ6 = r_ui σ (r_gr σ a0 0) ((r_gi σ a0 1).toNatClampNeg) x1 → (∀ σ9 : r_S, σ9 = r_ui σ6 a0 1 ((r_gi σ6 a0 1) + 1) → (Q σ9)))))))) :
    r_W X w B 2 0 0 (r_Z X w B tX0_add (r_QV σ0 Q)) 0 [(0, Value.ref (B + a0)), (1, Value.int x1)] [] σ := by
  refine r_aload_n C dX0_add_0 rfl (j := 0) rfl ?_
  obtain ⟨g1, h⟩ := h
  refine r_get (v := .int (r_gi σ a0 1)) C (r_atT rfl g1) fa_X0_15 rfl dX0_add_1 ?_
  refine r_sipush (v := 400) C dX0_add_4 (by decide) ?_
  refine r_icmp_ge (tgt := 30) C dX0_add_7 (by decide) (fun c2 => ?_) (fun c2 => ?_)
  · have h := h.1 c2
    exact r_vretQ C E rfl (Nat.zero_le _) (Nat.zero_le _) dX0_add_30 ((rfl : σ.1 = σ.1).trans hs) h
  · have h := h.2 c2
    refine r_aload_n C dX0_add_10 rfl (j := 0) rfl ?_
    obtain ⟨n3, g4, h⟩ := h
    refine r_getR C (r_atT rfl g1) fa_X0_9 rfl (r_atN g4) dX0_add_11 ?_
    refine r_aload_n C dX0_add_14 rfl (j := 0) rfl ?_
    refine r_get (v := .int (r_gi σ a0 1)) C (r_atT rfl g1) fa_X0_15 rfl dX0_add_15 ?_
    refine r_iload_n C dX0_add_18 rfl (j := 1) rfl ?_
    obtain ⟨g5, h⟩ := h
    refine r_iast C (r_atT rfl g4) ⟨rfl, fun _ => rfl⟩ g5 dX0_add_19 ?_
    refine r_nam (fun σ6 e7 => ?_)
    have h := h σ6 e7
    have s8 : σ6.1 = σ.1 := by rw [e7]; exact rfl
    refine r_aload_n C dX0_add_20 rfl (j := 0) rfl ?_
    refine r_dup C dX0_add_21 rfl ?_
    refine r_get (v := .int (r_gi σ6 a0 1)) C (r_atT s8 g1) fa_X0_15 rfl dX0_add_22 ?_
    refine r_iconst (v := 1) C dX0_add_25 (by decide) ?_
    refine r_iadd C dX0_add_26 ?_
    refine r_putI C (r_atT s8 g1) fa_X0_15 rfl rfl rfl dX0_add_27 ?_
    refine r_nam (fun σ9 e10 => ?_)
    have h := h σ9 e10
    have s11 : σ9.1 = σ.1 := by rw [e10]; exact s8
    exact r_vretQ C E rfl (Nat.zero_le _) (Nat.zero_le _) dX0_add_30 (s11.trans hs) h
theorem w_X0_undrawn_0 {X : r_X} {w : r_V} {B : Nat} {l : Launch} {Q : Int32 → r_S → Prop} {σ0 : r_S} (C : r_C X w B 1 cX0_undrawn RX0) (E : r_E X l tX0_undrawn) {σ : r_S} (hs : σ.1 = σ0.1) {a0 : Nat}
    (h : r_at σ a0 = some (.inl 0) ∧ (Q ((r_gi σ a0 1) - (r_gi σ a0 2)) σ)) :
    r_W X w B 1 0 0 (r_Z X w B tX0_undrawn (r_QI σ0 Q)) 0 [(0, Value.ref (B + a0))] [] σ := by
  refine r_aload_n C dX0_undrawn_0 rfl (j := 0) rfl ?_
  obtain ⟨g1, h⟩ := h
  refine r_get (v := .int (r_gi σ a0 1)) C (r_atT rfl g1) fa_X0_15 rfl dX0_undrawn_1 ?_
  refine r_aload_n C dX0_undrawn_4 rfl (j := 0) rfl ?_
  refine r_get (v := .int (r_gi σ a0 2)) C (r_atT rfl g1) fa_X0_19 rfl dX0_undrawn_5 ?_
  refine r_isub C dX0_undrawn_8 ?_
  exact r_iretQ C E rfl (Nat.zero_le _) (Nat.zero_le _) dX0_undrawn_9 ((rfl : σ.1 = σ.1).trans hs) h
theorem w_X0_draw_0 {X : r_X} {w : r_V} {B : Nat} {l : Launch} {Q : Int32 → r_S → Prop} {σ0 : r_S} (C : r_C X w B 3 cX0_draw RX0) (E : r_E X l tX0_draw) {σ : r_S} (hs : σ.1 = σ0.1) {a0 : Nat} {x1 : Int32}
    (h : r_at σ a0 = some (.inl 0) ∧ (((r_gi σ a0 1) ≤ (r_gi σ a0 2) → (Q 0 σ)) ∧ (¬ (r_gi σ a0 1) ≤ (r_gi σ a0 2) → ((1 ≤ x1 → (∃ n4, r_at σ (r_gr σ a0 0) = some (.inr (0, n4)) ∧ (vp_in (r_gi σ a0 2) n4 ∧ (∀ z7 : Int32, z7 = r_gi σ (r_gr σ a0 0) (r_gi σ a0 2).toNatClampNeg → (∀ σ9 : r_S, σ9 = r_ui σ a0 2 ((r_gi σ a0 2) + 1) → (¬ x1 = 0 ∧ (Q (z7 - z7 / x1 * x1) σ9))))))) ∧ (¬ 1 ≤ x1 → (Q 0 σ)))))) :
    r_W X w B 3 0 0 (r_Z X w B tX0_draw (r_QI σ0 Q)) 0 [(0, Value.ref (B + a0)), (1, Value.int x1)] [] σ := by
  refine r_aload_n C dX0_draw_0 rfl (j := 0) rfl ?_
  obtain ⟨g1, h⟩ := h
  refine r_get (v := .int (r_gi σ a0 2)) C (r_atT rfl g1) fa_X0_19 rfl dX0_draw_1 ?_
  refine r_aload_n C dX0_draw_4 rfl (j := 0) rfl ?_
  refine r_get (v := .int (r_gi σ a0 1)) C (r_atT rfl g1) fa_X0_15 rfl dX0_draw_5 ?_
  refine r_icmp_ge (tgt := 16) C dX0_draw_8 (by decide) (fun c2 => ?_) (fun c2 => ?_)
  · have h := h.1 c2
    refine r_iconst (v := 0) C dX0_draw_16 (by decide) ?_
    exact r_iretQ C E rfl (Nat.zero_le _) (Nat.zero_le _) dX0_draw_17 ((rfl : σ.1 = σ.1).trans hs) h
  · have h := h.2 c2
    refine r_iload_n C dX0_draw_11 rfl (j := 1) rfl ?_
    refine r_iconst (v := 1) C dX0_draw_12 (by decide) ?_
    refine r_icmp_ge (tgt := 18) C dX0_draw_13 (by decide) (fun c3 => ?_) (fun c3 => ?_)
    · have h := h.1 c3
      refine r_aload_n C dX0_draw_18 rfl (j := 0) rfl ?_
      obtain ⟨n4, g5, h⟩ := h
      refine r_getR C (r_atT rfl g1) fa_X0_9 rfl (r_atN g5) dX0_draw_19 ?_
      refine r_aload_n C dX0_draw_22 rfl (j := 0) rfl ?_
      refine r_get (v := .int (r_gi σ a0 2)) C (r_atT rfl g1) fa_X0_19 rfl dX0_draw_23 ?_
      obtain ⟨g6, h⟩ := h
      refine r_iald C (r_atT rfl g5) ⟨rfl, fun _ => rfl⟩ g6 dX0_draw_26 ?_
      refine r_topi (fun z7 e8 => ?_)
      have h := h z7 e8
      refine r_istore_n (lv' := [(2, Value.int z7), (0, Value.ref (B + a0)), (1, Value.int x1)]) C dX0_draw_27 rfl (by decide) rfl ?_
      refine r_aload_n C dX0_draw_28 rfl (j := 1) rfl ?_
      refine r_dup C dX0_draw_29 rfl ?_
      refine r_get (v := .int (r_gi σ a0 2)) C (r_atT rfl g1) fa_X0_19 rfl dX0_draw_30 ?_
      refine r_iconst (v := 1) C dX0_draw_33 (by decide) ?_
      refine r_iadd C dX0_draw_34 ?_
      refine r_putI C (r_atT rfl g1) fa_X0_19 rfl rfl rfl dX0_draw_35 ?_
      refine r_nam (fun σ9 e10 => ?_)
      have h := h σ9 e10
      have s11 : σ9.1 = σ.1 := by rw [e10]; exact rfl
      refine r_iload_n C dX0_draw_38 rfl (j := 0) rfl ?_
      refine r_iload_n C dX0_draw_39 rfl (j := 2) rfl ?_
      obtain ⟨g12, h⟩ := h
      refine r_irem C dX0_draw_40 g12 ?_
      exact r_iretQ C E rfl (Nat.zero_le _) (Nat.zero_le _) dX0_draw_41 (s11.trans hs) h
    · have h := h.2 c3
      refine r_iconst (v := 0) C dX0_draw_16 (by decide) ?_
      exact r_iretQ C E rfl (Nat.zero_le _) (Nat.zero_le _) dX0_draw_17 ((rfl : σ.1 = σ.1).trans hs) h
