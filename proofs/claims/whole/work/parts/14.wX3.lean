theorem w_X3_isFull_0 {X : r_X} {w : r_V} {B : Nat} {l : Launch} {Q : Int32 → r_S → Prop} {σ0 : r_S} (C : r_C X w B 1 cX3_isFull RX3) (E : r_E X l tX3_isFull) {σ : r_S} (hs : σ.1 = σ0.1) {a0 : Nat}
    (h : r_at σ a0 = some (.inl 3) ∧ (((r_gi σ a0 3) < 40 → (Q 0 σ)) ∧ (¬ (r_gi σ a0 3) < 40 → (Q 1 σ)))) :
    r_W X w B 1 0 0 (r_Z X w B tX3_isFull (r_QI σ0 Q)) 0 [(0, Value.ref (B + a0))] [] σ := by
  refine r_aload_n C dX3_isFull_0 rfl (j := 0) rfl ?_
  obtain ⟨g1, h⟩ := h
  refine r_get (v := .int (r_gi σ a0 3)) C (r_atT rfl g1) fa_X3_22 rfl dX3_isFull_1 ?_
  refine r_bipush (v := 40) C dX3_isFull_4 (by decide) ?_
  refine r_icmp_lt (tgt := 13) C dX3_isFull_6 (by decide) (fun c2 => ?_) (fun c2 => ?_)
  · have h := h.1 c2
    refine r_iconst (v := 0) C dX3_isFull_13 (by decide) ?_
    exact r_zretQ C E rfl (by decide) (Nat.zero_le _) (Nat.zero_le _) dX3_isFull_14 ((rfl : σ.1 = σ.1).trans hs) h
  · have h := h.2 c2
    refine r_iconst (v := 1) C dX3_isFull_9 (by decide) ?_
    refine r_goto (tgt := 14) C dX3_isFull_10 (by decide) ?_
    exact r_zretQ C E rfl (by decide) (Nat.zero_le _) (Nat.zero_le _) dX3_isFull_14 ((rfl : σ.1 = σ.1).trans hs) h
theorem w_X3_add_0 {X : r_X} {w : r_V} {B : Nat} {l : Launch} {Q : r_S → Prop} {σ0 : r_S} (C : r_C X w B 5 cX3_add RX3) (E : r_E X l tX3_add) {σ : r_S} (hs : σ.1 = σ0.1) {a0 : Nat} {x1 x4 : Int32} {y2 : Int64}
    (h : r_at σ a0 = some (.inl 3) ∧ (∃ n2, r_at σ (r_gr σ a0 0) = some (.inr (0, n2)) ∧ (vp_in (r_gi σ a0 3) n2 ∧ (∀ σ5 : r_S, σ5 = r_ui σ (r_gr σ a0 0) ((r_gi σ a0 3).toNatClampNeg) x1 → (∃ n8, r_at σ (r_gr σ5 a0 1) = some (.inr (1, n8)) ∧ (vp_in (r_gi σ5 a0 3) n8 ∧ (∀ σ11 : r_S, σ11 = r_ul σ5 (r_gr σ5 a0 1) ((r_gi σ5 a0 3).toNatClampNeg) y2 → (∃ n14, r_at σ (r_gr σ11 a0 2) = some (.inr (1, n14)) ∧ (vp_in (r_gi σ11 a0 3) n14 ∧ (∀ σ17 : r_S, σ17 = r_ul σ11 (r_gr σ11 a0 2) ((r_gi σ11 a0 3).toNatClampNeg) (y2 + x4.toInt64) → (∀ σ20 : r_S, σ20 = r_ui σ17 a0 3 ((r_gi σ17 a0 3) + 1) → (Q σ20)))))))))))) :
    r_W X w B 5 0 0 (r_Z X w B tX3_add (r_QV σ0 Q)) 0 [(0, Value.ref (B + a0)), (1, Value.int x1), (2, Value.long y2), (4, Value.int x4)] [] σ := by
  refine r_aload_n C dX3_add_0 rfl (j := 0) rfl ?_
  obtain ⟨g1, h⟩ := h
  obtain ⟨n2, g3, h⟩ := h
  refine r_getR C (r_atT rfl g1) fa_X3_9 rfl (r_atN g3) dX3_add_1 ?_
  refine r_aload_n C dX3_add_4 rfl (j := 0) rfl ?_
  refine r_get (v := .int (r_gi σ a0 3)) C (r_atT rfl g1) fa_X3_22 rfl dX3_add_5 ?_
  refine r_iload_n C dX3_add_8 rfl (j := 1) rfl ?_
  obtain ⟨g4, h⟩ := h
  refine r_iast C (r_atT rfl g3) ⟨rfl, fun _ => rfl⟩ g4 dX3_add_9 ?_
  refine r_nam (fun σ5 e6 => ?_)
  have h := h σ5 e6
  have s7 : σ5.1 = σ.1 := by rw [e6]; exact rfl
  refine r_aload_n C dX3_add_10 rfl (j := 0) rfl ?_
  obtain ⟨n8, g9, h⟩ := h
  refine r_getR C (r_atT s7 g1) fa_X3_15 rfl (r_atN g9) dX3_add_11 ?_
  refine r_aload_n C dX3_add_14 rfl (j := 0) rfl ?_
  refine r_get (v := .int (r_gi σ5 a0 3)) C (r_atT s7 g1) fa_X3_22 rfl dX3_add_15 ?_
  refine r_lload_n C dX3_add_18 rfl (j := 2) rfl ?_
  obtain ⟨g10, h⟩ := h
  refine r_last C (r_atT s7 g9) ⟨rfl, fun _ => rfl⟩ g10 dX3_add_19 ?_
  refine r_nam (fun σ11 e12 => ?_)
  have h := h σ11 e12
  have s13 : σ11.1 = σ.1 := by rw [e12]; exact s7
  refine r_aload_n C dX3_add_20 rfl (j := 0) rfl ?_
  obtain ⟨n14, g15, h⟩ := h
  refine r_getR C (r_atT s13 g1) fa_X3_19 rfl (r_atN g15) dX3_add_21 ?_
  refine r_aload_n C dX3_add_24 rfl (j := 0) rfl ?_
  refine r_get (v := .int (r_gi σ11 a0 3)) C (r_atT s13 g1) fa_X3_22 rfl dX3_add_25 ?_
  refine r_lload_n C dX3_add_28 rfl (j := 2) rfl ?_
  refine r_iload C dX3_add_29 (j := 3) rfl ?_
  refine r_i2l (v := x4.toInt64) C dX3_add_31 rfl ?_
  refine r_ladd C dX3_add_32 ?_
  obtain ⟨g16, h⟩ := h
  refine r_last C (r_atT s13 g15) ⟨rfl, fun _ => rfl⟩ g16 dX3_add_33 ?_
  refine r_nam (fun σ17 e18 => ?_)
  have h := h σ17 e18
  have s19 : σ17.1 = σ.1 := by rw [e18]; exact s13
  refine r_aload_n C dX3_add_34 rfl (j := 0) rfl ?_
  refine r_dup C dX3_add_35 rfl ?_
  refine r_get (v := .int (r_gi σ17 a0 3)) C (r_atT s19 g1) fa_X3_22 rfl dX3_add_36 ?_
  refine r_iconst (v := 1) C dX3_add_39 (by decide) ?_
  refine r_iadd C dX3_add_40 ?_
  refine r_putI C (r_atT s19 g1) fa_X3_22 rfl rfl rfl dX3_add_41 ?_
  refine r_nam (fun σ20 e21 => ?_)
  have h := h σ20 e21
  have s22 : σ20.1 = σ.1 := by rw [e21]; exact s19
  exact r_vretQ C E rfl (Nat.zero_le _) (Nat.zero_le _) dX3_add_44 (s22.trans hs) h
theorem w_X3_cover_0 {X : r_X} {w : r_V} {B : Nat} {l : Launch} {Q : Int32 → r_S → Prop} {σ0 : r_S} (C : r_C X w B 5 cX3_cover RX3) (E : r_E X l tX3_cover) {σ : r_S} (hs : σ.1 = σ0.1) {a0 : Nat} {x1 : Int32} {y2 : Int64}
    (h : r_W X w B 5 0 0 (r_Z X w B tX3_cover (r_QI σ0 Q)) 3 [(0, Value.ref (B + a0)), (1, Value.int x1), (2, Value.long y2), (4, Value.int 0)] [] σ) :
    r_W X w B 5 0 0 (r_Z X w B tX3_cover (r_QI σ0 Q)) 0 [(0, Value.ref (B + a0)), (1, Value.int x1), (2, Value.long y2)] [] σ := by
  refine r_iconst (v := 0) C dX3_cover_0 (by decide) ?_
  refine r_istore (lv' := [(4, Value.int 0), (0, Value.ref (B + a0)), (1, Value.int x1), (2, Value.long y2)]) C dX3_cover_1 (by decide) rfl ?_
  exact r_loc (by simp) h
theorem w_X3_cover_3 {X : r_X} {w : r_V} {B : Nat} {l : Launch} {Q : Int32 → r_S → Prop} {σ0 : r_S} (C : r_C X w B 5 cX3_cover RX3) (E : r_E X l tX3_cover) {σ : r_S} (hs : σ.1 = σ0.1) {a0 : Nat} {x1 x4 : Int32} {y2 : Int64}
    (h : r_at σ a0 = some (.inl 3) ∧ (((r_gi σ a0 3) ≤ x4 → (Q 0 σ)) ∧ (¬ (r_gi σ a0 3) ≤ x4 → (∃ n3, r_at σ (r_gr σ a0 0) = some (.inr (0, n3)) ∧ (vp_in x4 n3 ∧ (((r_gi σ (r_gr σ a0 0) x4.toNatClampNeg) = x1 → (∃ n9, r_at σ (r_gr σ a0 1) = some (.inr (1, n9)) ∧ (vp_in x4 n9 ∧ ((y2 < (r_gl σ (r_gr σ a0 1) x4.toNatClampNeg) → (∀ z13 : Int32, z13 = x4 + 1 → (r_W X w B 5 0 0 (r_Z X w B tX3_cover (r_QI σ0 Q)) 3 [(0, Value.ref (B + a0)), (1, Value.int x1), (2, Value.long y2), (4, Value.int z13)] [] σ))) ∧ (¬ y2 < (r_gl σ (r_gr σ a0 1) x4.toNatClampNeg) → (∃ n15, r_at σ (r_gr σ a0 2) = some (.inr (1, n15)) ∧ (vp_in x4 n15 ∧ (((r_gl σ (r_gr σ a0 2) x4.toNatClampNeg) ≤ y2 → (∀ z19 : Int32, z19 = x4 + 1 → (r_W X w B 5 0 0 (r_Z X w B tX3_cover (r_QI σ0 Q)) 3 [(0, Value.ref (B + a0)), (1, Value.int x1), (2, Value.long y2), (4, Value.int z19)] [] σ))) ∧ (¬ (r_gl σ (r_gr σ a0 2) x4.toNatClampNeg) ≤ y2 → (Q 1 σ)))))))))) ∧ (¬ (r_gi σ (r_gr σ a0 0) x4.toNatClampNeg) = x1 → (∀ z7 : Int32, z7 = x4 + 1 → (r_W X w B 5 0 0 (r_Z X w B tX3_cover (r_QI σ0 Q)) 3 [(0, Value.ref (B + a0)), (1, Value.int x1), (2, Value.long y2), (4, Value.int z7)] [] σ))))))))) :
    r_W X w B 5 0 0 (r_Z X w B tX3_cover (r_QI σ0 Q)) 3 [(0, Value.ref (B + a0)), (1, Value.int x1), (2, Value.long y2), (4, Value.int x4)] [] σ := by
  refine r_iload C dX3_cover_3 (j := 3) rfl ?_
  refine r_aload_n C dX3_cover_5 rfl (j := 0) rfl ?_
  obtain ⟨g1, h⟩ := h
  refine r_get (v := .int (r_gi σ a0 3)) C (r_atT rfl g1) fa_X3_22 rfl dX3_cover_6 ?_
  refine r_icmp_ge (tgt := 55) C dX3_cover_9 (by decide) (fun c2 => ?_) (fun c2 => ?_)
  · have h := h.1 c2
    refine r_iconst (v := 0) C dX3_cover_55 (by decide) ?_
    exact r_zretQ C E rfl (by decide) (Nat.zero_le _) (Nat.zero_le _) dX3_cover_56 ((rfl : σ.1 = σ.1).trans hs) h
  · have h := h.2 c2
    refine r_aload_n C dX3_cover_12 rfl (j := 0) rfl ?_
    obtain ⟨n3, g4, h⟩ := h
    refine r_getR C (r_atT rfl g1) fa_X3_9 rfl (r_atN g4) dX3_cover_13 ?_
    refine r_iload C dX3_cover_16 (j := 3) rfl ?_
    obtain ⟨g5, h⟩ := h
    refine r_iald C (r_atT rfl g4) ⟨rfl, fun _ => rfl⟩ g5 dX3_cover_18 ?_
    refine r_iload_n C dX3_cover_19 rfl (j := 1) rfl ?_
    refine r_icmp_ne (tgt := 49) C dX3_cover_20 (by decide) (fun c6 => ?_) (fun c6 => ?_)
    · have h := h.2 c6
      obtain ⟨z7, e8⟩ : ∃ y : Int32, y = x4 + 1 := ⟨_, rfl⟩
      have h := h z7 e8
      refine r_iinc (v := z7) (lv' := [(4, Value.int z7), (0, Value.ref (B + a0)), (1, Value.int x1), (2, Value.long y2)]) C dX3_cover_49 (k := 3) rfl (by rw [e8]; rfl) (by decide) rfl ?_
      refine r_goto (tgt := 3) C dX3_cover_52 (by decide) ?_
      exact r_loc (by simp) h
    · have h := h.1 c6
      refine r_aload_n C dX3_cover_23 rfl (j := 0) rfl ?_
      obtain ⟨n9, g10, h⟩ := h
      refine r_getR C (r_atT rfl g1) fa_X3_15 rfl (r_atN g10) dX3_cover_24 ?_
      refine r_iload C dX3_cover_27 (j := 3) rfl ?_
      obtain ⟨g11, h⟩ := h
      refine r_lald C (r_atT rfl g10) ⟨rfl, fun _ => rfl⟩ g11 dX3_cover_29 ?_
      refine r_lload_n C dX3_cover_30 rfl (j := 2) rfl ?_
      refine r_lcmp C dX3_cover_31 ?_
      refine r_if_gt (tgt := 49) C dX3_cover_32 (by decide) (fun c12 => ?_) (fun c12 => ?_)
      · have h := h.1 (lgc_gt.mp c12)
        obtain ⟨z13, e14⟩ : ∃ y : Int32, y = x4 + 1 := ⟨_, rfl⟩
        have h := h z13 e14
        refine r_iinc (v := z13) (lv' := [(4, Value.int z13), (0, Value.ref (B + a0)), (1, Value.int x1), (2, Value.long y2)]) C dX3_cover_49 (k := 3) rfl (by rw [e14]; rfl) (by decide) rfl ?_
        refine r_goto (tgt := 3) C dX3_cover_52 (by decide) ?_
        exact r_loc (by simp) h
      · have h := h.2 (fun q => c12 (lgc_gt.mpr q))
        refine r_lload_n C dX3_cover_35 rfl (j := 2) rfl ?_
        refine r_aload_n C dX3_cover_36 rfl (j := 0) rfl ?_
        obtain ⟨n15, g16, h⟩ := h
        refine r_getR C (r_atT rfl g1) fa_X3_19 rfl (r_atN g16) dX3_cover_37 ?_
        refine r_iload C dX3_cover_40 (j := 3) rfl ?_
        obtain ⟨g17, h⟩ := h
        refine r_lald C (r_atT rfl g16) ⟨rfl, fun _ => rfl⟩ g17 dX3_cover_42 ?_
        refine r_lcmp C dX3_cover_43 ?_
        refine r_if_ge (tgt := 49) C dX3_cover_44 (by decide) (fun c18 => ?_) (fun c18 => ?_)
        · have h := h.1 (lgc_ge.mp c18)
          obtain ⟨z19, e20⟩ : ∃ y : Int32, y = x4 + 1 := ⟨_, rfl⟩
          have h := h z19 e20
          refine r_iinc (v := z19) (lv' := [(4, Value.int z19), (0, Value.ref (B + a0)), (1, Value.int x1), (2, Value.long y2)]) C dX3_cover_49 (k := 3) rfl (by rw [e20]; rfl) (by decide) rfl ?_
          refine r_goto (tgt := 3) C dX3_cover_52 (by decide) ?_
          exact r_loc (by simp) h
        · have h := h.2 (fun q => c18 (lgc_ge.mpr q))
          refine r_iconst (v := 1) C dX3_cover_47 (by decide) ?_
          exact r_zretQ C E rfl (by decide) (Nat.zero_le _) (Nat.zero_le _) dX3_cover_48 ((rfl : σ.1 = σ.1).trans hs) h
