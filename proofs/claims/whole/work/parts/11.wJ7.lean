theorem w_J7_fill_d0a16_0 {X : r_X} {w : r_V} {B : Nat} {l : Launch} {Q : r_S → Prop} {σ0 : r_S} (C : r_C X w B 5 cJ7_fill_d0a16 RJ7) (E : r_E X l tJ7_fill_d0a16) {σ : r_S} (hs : σ.1 = σ0.1) {a0 : Nat} {y1 : Int64}
    (h : ∃ n1, r_at σ a0 = some (.inr (1, n1)) ∧ (∀ z3 : Int32, z3 = nI n1 → (r_W X w B 5 0 0 (r_Z X w B tJ7_fill_d0a16 (r_QV σ0 Q)) 6 [(0, Value.ref (B + a0)), (1, Value.long y1), (3, Value.int 0), (4, Value.int z3)] [] σ))) :
    r_W X w B 5 0 0 (r_Z X w B tJ7_fill_d0a16 (r_QV σ0 Q)) 0 [(0, Value.ref (B + a0)), (1, Value.long y1)] [] σ := by
  refine r_iconst (v := 0) C dJ7_fill_d0a16_0 (by decide) ?_
  refine r_istore_n (lv' := [(3, Value.int 0), (0, Value.ref (B + a0)), (1, Value.long y1)]) C dJ7_fill_d0a16_1 rfl (by decide) rfl ?_
  refine r_aload_n C dJ7_fill_d0a16_2 rfl (j := 1) rfl ?_
  obtain ⟨n1, g2, h⟩ := h
  refine r_alen (v := nI n1) C (r_atT rfl g2) ⟨rfl, fun _ => rfl⟩ rfl dJ7_fill_d0a16_3 ?_
  refine r_topi (fun z3 e4 => ?_)
  have h := h z3 e4
  refine r_istore (lv' := [(4, Value.int z3), (3, Value.int 0), (0, Value.ref (B + a0)), (1, Value.long y1)]) C dJ7_fill_d0a16_4 (by decide) rfl ?_
  exact r_loc (by simp) h
theorem w_J7_fill_d0a16_6 {X : r_X} {w : r_V} {B : Nat} {l : Launch} {Q : r_S → Prop} {σ0 : r_S} (C : r_C X w B 5 cJ7_fill_d0a16 RJ7) (E : r_E X l tJ7_fill_d0a16) {σ : r_S} (hs : σ.1 = σ0.1) {a0 : Nat} {x3 x4 : Int32} {y1 : Int64}
    (h : (x4 ≤ x3 → (Q σ)) ∧ (¬ x4 ≤ x3 → (∃ n2, r_at σ a0 = some (.inr (1, n2)) ∧ (vp_in x3 n2 ∧ (∀ σ5 : r_S, σ5 = r_ul σ a0 (x3.toNatClampNeg) y1 → (∀ z8 : Int32, z8 = x3 + 1 → (r_W X w B 5 0 0 (r_Z X w B tJ7_fill_d0a16 (r_QV σ0 Q)) 6 [(0, Value.ref (B + a0)), (1, Value.long y1), (3, Value.int z8), (4, Value.int x4)] [] σ5))))))) :
    r_W X w B 5 0 0 (r_Z X w B tJ7_fill_d0a16 (r_QV σ0 Q)) 6 [(0, Value.ref (B + a0)), (1, Value.long y1), (3, Value.int x3), (4, Value.int x4)] [] σ := by
  refine r_iload_n C dJ7_fill_d0a16_6 rfl (j := 2) rfl ?_
  refine r_iload C dJ7_fill_d0a16_7 (j := 3) rfl ?_
  refine r_icmp_ge (tgt := 22) C dJ7_fill_d0a16_9 (by decide) (fun c1 => ?_) (fun c1 => ?_)
  · have h := h.1 c1
    exact r_vretQ C E rfl (Nat.zero_le _) (Nat.zero_le _) dJ7_fill_d0a16_22 ((rfl : σ.1 = σ.1).trans hs) h
  · have h := h.2 c1
    refine r_aload_n C dJ7_fill_d0a16_12 rfl (j := 0) rfl ?_
    refine r_iload_n C dJ7_fill_d0a16_13 rfl (j := 2) rfl ?_
    refine r_lload_n C dJ7_fill_d0a16_14 rfl (j := 1) rfl ?_
    obtain ⟨n2, g3, h⟩ := h
    obtain ⟨g4, h⟩ := h
    refine r_last C (r_atT rfl g3) ⟨rfl, fun _ => rfl⟩ g4 dJ7_fill_d0a16_15 ?_
    refine r_nam (fun σ5 e6 => ?_)
    have h := h σ5 e6
    have s7 : σ5.1 = σ.1 := by rw [e6]; exact rfl
    obtain ⟨z8, e9⟩ : ∃ y : Int32, y = x3 + 1 := ⟨_, rfl⟩
    have h := h z8 e9
    refine r_iinc (v := z8) (lv' := [(3, Value.int z8), (0, Value.ref (B + a0)), (1, Value.long y1), (4, Value.int x4)]) C dJ7_fill_d0a16_16 (k := 2) rfl (by rw [e9]; rfl) (by decide) rfl ?_
    refine r_goto (tgt := 6) C dJ7_fill_d0a16_19 (by decide) ?_
    exact r_loc (by simp) h
