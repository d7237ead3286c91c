set_option maxRecDepth 100000 in
set_option maxHeartbeats 4000000 in
theorem w_L_law_28 {X : r_X} {w : r_V} {B : Nat} {l : Launch} {t : r_T} {Qz : State → Prop} (C : r_C X w B 4 cL_law RL) (E : r_E X l t) (ht : t.2.2.2.2 = room_1) {b L : Nat} {xs : Nat → Int32} (hX : r_XX X B b L xs) {cs sl : Nat} (hcs : cs ≤ t.2.2.2.2.cells) (hsl : sl ≤ t.2.2.2.2.slots) (hret : ∀ (lv : List (Nat × Value)) (σ : r_S), r_W X w B 4 cs sl Qz 460 lv [.int 1] σ) {σ : r_S} {a1 a2 : Nat} {x3 : Int32}
    (h : (((nI L) - 5) < x3 → (True)) ∧ (¬ ((nI L) - 5) < x3 → (vp_in x3 L ∧ (∀ z3 : Int32, z3 = (xs x3.toNatClampNeg) &&& 15 → ((z3 = 0 → (vp_in (x3 + 1) L ∧ (vp_in (x3 + 2) L ∧ (vp_in (x3 + 3) L ∧ (((xs ((x3 + 3).toNatClampNeg)) = 0 → (r_at σ a1 = some (.inl 7) ∧ (∃ Q10 : Int32 → r_S → Prop, r_M l w B tX7_hear [Value.ref (B + a1), Value.int (xs ((x3 + 1).toNatClampNeg)), Value.int (xs ((x3 + 2).toNatClampNeg)), Value.int 0] σ (r_QI σ Q10) ∧ (∀ (z14 : Int32) (σ12 : r_S), Q10 z14 σ12 → (((xs ((x3 + 3).toNatClampNeg)) = 0 → (r_at σ a2 = some (.inl 8) ∧ (∃ Q18 : Int32 → r_S → Prop, r_M l w B tX8_hear [Value.ref (B + a2), Value.int (xs ((x3 + 1).toNatClampNeg)), Value.int (xs ((x3 + 2).toNatClampNeg)), Value.int 0] σ12 (r_QI σ12 Q18) ∧ (∀ (z22 : Int32) (σ20 : r_S), Q18 z22 σ20 → ((z14 = z22 → (∀ z26 : Int32, z26 = x3 + 5 → (r_W X w B 4 cs sl Qz 28 [(0, Value.ref b), (1, Value.ref (B + a1)), (2, Value.ref (B + a2)), (3, Value.int z26)] [] σ20))) ∧ (¬ z14 = z22 → (False))))))) ∧ (¬ (xs ((x3 + 3).toNatClampNeg)) = 0 → (r_at σ a2 = some (.inl 8) ∧ (∃ Q28 : Int32 → r_S → Prop, r_M l w B tX8_hear [Value.ref (B + a2), Value.int (xs ((x3 + 1).toNatClampNeg)), Value.int (xs ((x3 + 2).toNatClampNeg)), Value.int 1] σ12 (r_QI σ12 Q28) ∧ (∀ (z32 : Int32) (σ30 : r_S), Q28 z32 σ30 → ((z14 = z32 → (∀ z36 : Int32, z36 = x3 + 5 → (r_W X w B 4 cs sl Qz 28 [(0, Value.ref b), (1, Value.ref (B + a1)), (2, Value.ref (B + a2)), (3, Value.int z36)] [] σ30))) ∧ (¬ z14 = z32 → (False)))))))))))) ∧ (¬ (xs ((x3 + 3).toNatClampNeg)) = 0 → (r_at σ a1 = some (.inl 7) ∧ (∃ Q38 : Int32 → r_S → Prop, r_M l w B tX7_hear [Value.ref (B + a1), Value.int (xs ((x3 + 1).toNatClampNeg)), Value.int (xs ((x3 + 2).toNatClampNeg)), Value.int 1] σ (r_QI σ Q38) ∧ (∀ (z42 : Int32) (σ40 : r_S), Q38 z42 σ40 → (((xs ((x3 + 3).toNatClampNeg)) = 0 → (r_at σ a2 = some (.inl 8) ∧ (∃ Q46 : Int32 → r_S → Prop, r_M l w B tX8_hear [Value.ref (B + a2), Value.int (xs ((x3 + 1).toNatClampNeg)), Value.int (xs ((x3 + 2).toNatClampNeg)), Value.int 0] σ40 (r_QI σ40 Q46) ∧ (∀ (z50 : Int32) (σ48 : r_S), Q46 z50 σ48 → ((z42 = z50 → (∀ z54 : Int32, z54 = x3 + 5 → (r_W X w B 4 cs sl Qz 28 [(0, Value.ref b), (1, Value.ref (B + a1)), (2, Value.ref (B + a2)), (3, Value.int z54)] [] σ48))) ∧ (¬ z42 = z50 → (False))))))) ∧ (¬ (xs ((x3 + 3).toNatClampNeg)) = 0 → (r_at σ a2 = some (.inl 8) ∧ (∃ Q56 : Int32 → r_S → Prop, r_M l w B tX8_hear [Value.ref (B + a2), Value.int (xs ((x3 + 1).toNatClampNeg)), Value.int (xs ((x3 + 2).toNatClampNeg)), Value.int 1] σ40 (r_QI σ40 Q56) ∧ (∀ (z60 : Int32) (σ58 : r_S), Q56 z60 σ58 → ((z42 = z60 → (∀ z64 : Int32, z64 = x3 + 5 → (r_W X w B 4 cs sl Qz 28 [(0, Value.ref b), (1, Value.ref (B + a1)), (2, Value.ref (B + a2)), (3, Value.int z64)] [] σ58))) ∧ (¬ z42 = z60 → (False))))))))))))))))) ∧ (¬ z3 = 0 → ((z3 = 1 → (vp_in (x3 + 1) L ∧ (r_at σ a1 = some (.inl 7) ∧ (∃ Q68 : Int32 → r_S → Prop, r_M l w B tX7_coin [Value.ref (B + a1), Value.int (xs ((x3 + 1).toNatClampNeg))] σ (r_QI σ Q68) ∧ (∀ (z72 : Int32) (σ70 : r_S), Q68 z72 σ70 → (r_at σ a2 = some (.inl 8) ∧ (∃ Q75 : Int32 → r_S → Prop, r_M l w B tX8_coin [Value.ref (B + a2), Value.int (xs ((x3 + 1).toNatClampNeg))] σ70 (r_QI σ70 Q75) ∧ (∀ (z79 : Int32) (σ77 : r_S), Q75 z79 σ77 → ((z72 = z79 → (∀ z83 : Int32, z83 = x3 + 5 → (r_W X w B 4 cs sl Qz 28 [(0, Value.ref b), (1, Value.ref (B + a1)), (2, Value.ref (B + a2)), (3, Value.int z83)] [] σ77))) ∧ (¬ z72 = z79 → (False))))))))))) ∧ (¬ z3 = 1 → ((z3 = 2 → (vp_in (x3 + 1) L ∧ (r_at σ a1 = some (.inl 7) ∧ (∃ Q87 : Int32 → r_S → Prop, r_M l w B tX7_threshold [Value.ref (B + a1), Value.int (xs ((x3 + 1).toNatClampNeg))] σ (r_QI σ Q87) ∧ (∀ (z91 : Int32) (σ89 : r_S), Q87 z91 σ89 → (r_at σ a2 = some (.inl 8) ∧ (∃ Q94 : Int32 → r_S → Prop, r_M l w B tX8_threshold [Value.ref (B + a2), Value.int (xs ((x3 + 1).toNatClampNeg))] σ89 (r_QI σ89 Q94) ∧ (∀ (z98 : Int32) (σ96 : r_S), Q94 z98 σ96 → ((z91 = z98 → (∀ z102 : Int32, z102 = x3 + 5 → (r_W X w B 4 cs sl Qz 28 [(0, Value.ref b), (1, Value.ref (B + a1)), (2, Value.ref (B + a2)), (3, Value.int z102)] [] σ96))) ∧ (¬ z91 = z98 → (False))))))))))) ∧ (¬ z3 = 2 → ((z3 = 3 → (vp_in (x3 + 1) L ∧ (vp_in (x3 + 2) L ∧ (vp_in (x3 + 3) L ∧ (r_at σ a1 = some (.inl 7) ∧ (∃ Q108 : Int32 → r_S → Prop, r_M l w B tX7_offer [Value.ref (B + a1), Value.int (xs ((x3 + 1).toNatClampNeg)), Value.int (xs ((x3 + 2).toNatClampNeg)), Value.int (xs ((x3 + 3).toNatClampNeg))] σ (r_QI σ Q108) ∧ (∀ (z112 : Int32) (σ110 : r_S), Q108 z112 σ110 → (r_at σ a2 = some (.inl 8) ∧ (∃ Q115 : Int32 → r_S → Prop, r_M l w B tX8_offer [Value.ref (B + a2), Value.int (xs ((x3 + 1).toNatClampNeg)), Value.int (xs ((x3 + 2).toNatClampNeg)), Value.int (xs ((x3 + 3).toNatClampNeg))] σ110 (r_QI σ110 Q115) ∧ (∀ (z119 : Int32) (σ117 : r_S), Q115 z119 σ117 → ((z112 = z119 → (∀ z123 : Int32, z123 = x3 + 5 → (r_W X w B 4 cs sl Qz 28 [(0, Value.ref b), (1, Value.ref (B + a1)), (2, Value.ref (B + a2)), (3, Value.int z123)] [] σ117))) ∧ (¬ z112 = z119 → (False))))))))))))) ∧ (¬ z3 = 3 → ((z3 = 4 → (vp_in (x3 + 1) L ∧ (vp_in (x3 + 2) L ∧ (vp_in (x3 + 3) L ∧ (vp_in (x3 + 4) L ∧ (r_at σ a1 = some (.inl 7) ∧ (∃ Q130 : Int32 → r_S → Prop, r_M l w B tX7_noise [Value.ref (B + a1), Value.int (xs ((x3 + 1).toNatClampNeg)), Value.long ((((xs ((x3 + 2).toNatClampNeg)).toInt64) <<< ((32 : Int32).toInt64 &&& 63)) ||| (((xs ((x3 + 3).toNatClampNeg)).toInt64) &&& 4294967295)), Value.int (xs ((x3 + 4).toNatClampNeg))] σ (r_QI σ Q130) ∧ (∀ (z134 : Int32) (σ132 : r_S), Q130 z134 σ132 → (r_at σ a2 = some (.inl 8) ∧ (∃ Q137 : Int32 → r_S → Prop, r_M l w B tX8_noise [Value.ref (B + a2), Value.int (xs ((x3 + 1).toNatClampNeg)), Value.long ((((xs ((x3 + 2).toNatClampNeg)).toInt64) <<< ((32 : Int32).toInt64 &&& 63)) ||| (((xs ((x3 + 3).toNatClampNeg)).toInt64) &&& 4294967295)), Value.int (xs ((x3 + 4).toNatClampNeg))] σ132 (r_QI σ132 Q137) ∧ (∀ (z141 : Int32) (σ139 : r_S), Q137 z141 σ139 → ((z134 = z141 → (∀ z145 : Int32, z145 = x3 + 5 → (r_W X w B 4 cs sl Qz 28 [(0, Value.ref b), (1, Value.ref (B + a1)), (2, Value.ref (B + a2)), (3, Value.int z145)] [] σ139))) ∧ (¬ z134 = z141 → (False)))))))))))))) ∧ (¬ z3 = 4 → ((z3 = 5 → (vp_in (x3 + 1) L ∧ (r_at σ a1 = some (.inl 7) ∧ (∃ Q149 : Int32 → r_S → Prop, r_M l w B tX7_run [Value.ref (B + a1), Value.int (xs ((x3 + 1).toNatClampNeg))] σ (r_QI σ Q149) ∧ (∀ (z153 : Int32) (σ151 : r_S), Q149 z153 σ151 → (r_at σ a2 = some (.inl 8) ∧ (∃ Q156 : Int32 → r_S → Prop, r_M l w B tX8_run [Value.ref (B + a2), Value.int (xs ((x3 + 1).toNatClampNeg))] σ151 (r_QI σ151 Q156) ∧ (∀ (z160 : Int32) (σ158 : r_S), Q156 z160 σ158 → ((z153 = z160 → (∀ z164 : Int32, z164 = x3 + 5 → (r_W X w B 4 cs sl Qz 28 [(0, Value.ref b), (1, Value.ref (B + a1)), (2, Value.ref (B + a2)), (3, Value.int z164)] [] σ158))) ∧ (¬ z153 = z160 → (False))))))))))) ∧ (¬ z3 = 5 → ((z3 = 6 → (vp_in (x3 + 1) L ∧ (vp_in (x3 + 2) L ∧ (r_at σ a1 = some (.inl 7) ∧ (∃ Q169 : Int32 → r_S → Prop, r_M l w B tX7_event [Value.ref (B + a1), Value.int (xs ((x3 + 1).toNatClampNeg)), Value.int (xs ((x3 + 2).toNatClampNeg))] σ (r_QI σ Q169) ∧ (∀ (z173 : Int32) (σ171 : r_S), Q169 z173 σ171 → (r_at σ a2 = some (.inl 8) ∧ (∃ Q176 : Int32 → r_S → Prop, r_M l w B tX8_event [Value.ref (B + a2), Value.int (xs ((x3 + 1).toNatClampNeg)), Value.int (xs ((x3 + 2).toNatClampNeg))] σ171 (r_QI σ171 Q176) ∧ (∀ (z180 : Int32) (σ178 : r_S), Q176 z180 σ178 → ((z173 = z180 → (∀ z184 : Int32, z184 = x3 + 5 → (r_W X w B 4 cs sl Qz 28 [(0, Value.ref b), (1, Value.ref (B + a1)), (2, Value.ref (B + a2)), (3, Value.int z184)] [] σ178))) ∧ (¬ z173 = z180 → (False)))))))))))) ∧ (¬ z3 = 6 → ((z3 = 7 → (vp_in (x3 + 1) L ∧ (vp_in (x3 + 2) L ∧ (r_at σ a1 = some (.inl 7) ∧ (∃ Q189 : Int32 → r_S → Prop, r_M l w B tX7_state [Value.ref (B + a1), Value.int (xs ((x3 + 1).toNatClampNeg)), Value.int (xs ((x3 + 2).toNatClampNeg))] σ (r_QI σ Q189) ∧ (∀ (z193 : Int32) (σ191 : r_S), Q189 z193 σ191 → (r_at σ a2 = some (.inl 8) ∧ (∃ Q196 : Int32 → r_S → Prop, r_M l w B tX8_state [Value.ref (B + a2), Value.int (xs ((x3 + 1).toNatClampNeg)), Value.int (xs ((x3 + 2).toNatClampNeg))] σ191 (r_QI σ191 Q196) ∧ (∀ (z200 : Int32) (σ198 : r_S), Q196 z200 σ198 → ((z193 = z200 → (∀ z204 : Int32, z204 = x3 + 5 → (r_W X w B 4 cs sl Qz 28 [(0, Value.ref b), (1, Value.ref (B + a1)), (2, Value.ref (B + a2)), (3, Value.int z204)] [] σ198))) ∧ (¬ z193 = z200 → (False)))))))))))) ∧ (¬ z3 = 7 → ((z3 = 8 → (vp_in (x3 + 1) L ∧ (vp_in (x3 + 2) L ∧ (r_at σ a1 = some (.inl 7) ∧ (∃ Q209 : Int32 → r_S → Prop, r_M l w B tX7_sent [Value.ref (B + a1), Value.int (xs ((x3 + 1).toNatClampNeg)), Value.int (xs ((x3 + 2).toNatClampNeg))] σ (r_QI σ Q209) ∧ (∀ (z213 : Int32) (σ211 : r_S), Q209 z213 σ211 → (r_at σ a2 = some (.inl 8) ∧ (∃ Q216 : Int32 → r_S → Prop, r_M l w B tX8_sent [Value.ref (B + a2), Value.int (xs ((x3 + 1).toNatClampNeg)), Value.int (xs ((x3 + 2).toNatClampNeg))] σ211 (r_QI σ211 Q216) ∧ (∀ (z220 : Int32) (σ218 : r_S), Q216 z220 σ218 → ((z213 = z220 → (∀ z224 : Int32, z224 = x3 + 5 → (r_W X w B 4 cs sl Qz 28 [(0, Value.ref b), (1, Value.ref (B + a1)), (2, Value.ref (B + a2)), (3, Value.int z224)] [] σ218))) ∧ (¬ z213 = z220 → (False)))))))))))) ∧ (¬ z3 = 8 → ((z3 = 9 → (r_at σ a1 = some (.inl 7) ∧ (∃ Q227 : Int64 → r_S → Prop, r_M l w B tX7_now [Value.ref (B + a1)] σ (r_QL σ Q227) ∧ (∀ (y231 : Int64) (σ229 : r_S), Q227 y231 σ229 → (r_at σ a2 = some (.inl 8) ∧ (∃ Q234 : Int64 → r_S → Prop, r_M l w B tX8_now [Value.ref (B + a2)] σ229 (r_QL σ229 Q234) ∧ (∀ (y238 : Int64) (σ236 : r_S), Q234 y238 σ236 → ((y231 = y238 → (∀ z242 : Int32, z242 = x3 + 5 → (r_W X w B 4 cs sl Qz 28 [(0, Value.ref b), (1, Value.ref (B + a1)), (2, Value.ref (B + a2)), (3, Value.int z242)] [] σ236))) ∧ (¬ y231 = y238 → (False)))))))))) ∧ (¬ z3 = 9 → (∀ z244 : Int32, z244 = x3 + 5 → (r_W X w B 4 cs sl Qz 28 [(0, Value.ref b), (1, Value.ref (B + a1)), (2, Value.ref (B + a2)), (3, Value.int z244)] [] σ)))))))))))))))))))))))))) :
    r_W X w B 4 cs sl Qz 28 [(0, Value.ref b), (1, Value.ref (B + a1)), (2, Value.ref (B + a2)), (3, Value.int x3)] [] σ := by
  have ht2 : t.2.2.2.2.frames = 9 ∧ t.2.2.2.2.locals = 332 := by rw [ht]; exact ⟨rfl, rfl⟩
  refine r_iload_n C dL_law_28 rfl (j := 3) rfl ?_
  refine r_aload_n C dL_law_29 rfl (j := 0) rfl ?_
  refine r_slen C hX dL_law_30 ?_
  refine r_iconst (v := 5) C dL_law_31 (by decide) ?_
  refine r_isub C dL_law_32 ?_
  refine r_icmp_gt (tgt := 459) C dL_law_33 (by decide) (fun c1 => ?_) (fun c1 => ?_)
  · have h := h.1 c1
    refine r_iconst (v := 1) C dL_law_459 (by decide) ?_
    exact hret _ _
  · have h := h.2 c1
    refine r_aload_n C dL_law_36 rfl (j := 0) rfl ?_
    refine r_iload_n C dL_law_37 rfl (j := 3) rfl ?_
    obtain ⟨g2, h⟩ := h
    refine r_sld C hX g2 dL_law_38 ?_
    refine r_bipush (v := 15) C dL_law_39 (by decide) ?_
    refine r_iand C dL_law_41 ?_
    refine r_topi (fun z3 e4 => ?_)
    have h := h z3 e4
    by_cases c5 : z3 = 0
    · have h := h.1 c5
      refine r_tableIn (tgt := 96) (off := 54) C dL_law_42 (by rw [c5]; decide) (by rw [c5]; decide) (by rw [c5]; rfl) (by decide) ?_
      refine r_aload_n C dL_law_96 rfl (j := 1) rfl ?_
      refine r_aload_n C dL_law_97 rfl (j := 0) rfl ?_
      refine r_iload_n C dL_law_98 rfl (j := 3) rfl ?_
      refine r_iconst (v := 1) C dL_law_99 (by decide) ?_
      refine r_iadd C dL_law_100 ?_
      obtain ⟨g6, h⟩ := h
      refine r_sld C hX g6 dL_law_101 ?_
      refine r_aload_n C dL_law_102 rfl (j := 0) rfl ?_
      refine r_iload_n C dL_law_103 rfl (j := 3) rfl ?_
      refine r_iconst (v := 2) C dL_law_104 (by decide) ?_
      refine r_iadd C dL_law_105 ?_
      obtain ⟨g7, h⟩ := h
      refine r_sld C hX g7 dL_law_106 ?_
      refine r_aload_n C dL_law_107 rfl (j := 0) rfl ?_
      refine r_iload_n C dL_law_108 rfl (j := 3) rfl ?_
      refine r_iconst (v := 3) C dL_law_109 (by decide) ?_
      refine r_iadd C dL_law_110 ?_
      obtain ⟨g8, h⟩ := h
      refine r_sld C hX g8 dL_law_111 ?_
      refine r_if_eq (tgt := 119) C dL_law_112 (by decide) (fun c9 => ?_) (fun c9 => ?_)
      · have h := h.1 c9
        refine r_iconst (v := 0) C dL_law_119 (by decide) ?_
        obtain ⟨g16, h⟩ := h
        obtain ⟨Q10, m11, h⟩ := h
        refine r_callVI (rest := []) C E [Value.int (xs ((x3 + 1).toNatClampNeg)), Value.int (xs ((x3 + 2).toNatClampNeg)), Value.int 0] (r_atT rfl g16) rfl ky_X7_hear kl_L_21 ki_X7_hear kx_X7_hear ⟨by rw [ht2.1]; exact Nat.le_of_ble_eq_true rfl, by rw [ht2.2]; exact Nat.le_of_ble_eq_true rfl⟩ ⟨rfl, rfl⟩ m11 rfl rfl (Nat.le_of_ble_eq_true rfl) hcs hsl dL_law_120 (fun z14 σ12 s13 q15 => ?_)
        have h := h z14 σ12 q15
        have s13 := s13.trans rfl
        refine r_aload_n C dL_law_123 rfl (j := 2) rfl ?_
        refine r_aload_n C dL_law_124 rfl (j := 0) rfl ?_
        refine r_iload_n C dL_law_125 rfl (j := 3) rfl ?_
        refine r_iconst (v := 1) C dL_law_126 (by decide) ?_
        refine r_iadd C dL_law_127 ?_
        refine r_sld C hX g6 dL_law_128 ?_
        refine r_aload_n C dL_law_129 rfl (j := 0) rfl ?_
        refine r_iload_n C dL_law_130 rfl (j := 3) rfl ?_
        refine r_iconst (v := 2) C dL_law_131 (by decide) ?_
        refine r_iadd C dL_law_132 ?_
        refine r_sld C hX g7 dL_law_133 ?_
        refine r_aload_n C dL_law_134 rfl (j := 0) rfl ?_
        refine r_iload_n C dL_law_135 rfl (j := 3) rfl ?_
        refine r_iconst (v := 3) C dL_law_136 (by decide) ?_
        refine r_iadd C dL_law_137 ?_
        refine r_sld C hX g8 dL_law_138 ?_
        refine r_if_eq (tgt := 146) C dL_law_139 (by decide) (fun c17 => ?_) (fun c17 => ?_)
        · have h := h.1 c17
          refine r_iconst (v := 0) C dL_law_146 (by decide) ?_
          obtain ⟨g24, h⟩ := h
          obtain ⟨Q18, m19, h⟩ := h
          refine r_callVI (rest := [Value.int z14]) C E [Value.int (xs ((x3 + 1).toNatClampNeg)), Value.int (xs ((x3 + 2).toNatClampNeg)), Value.int 0] (r_atT s13 g24) rfl ky_X8_hear kl_L_25 ki_X8_hear kx_X8_hear ⟨by rw [ht2.1]; exact Nat.le_of_ble_eq_true rfl, by rw [ht2.2]; exact Nat.le_of_ble_eq_true rfl⟩ ⟨rfl, rfl⟩ m19 rfl rfl (Nat.le_of_ble_eq_true rfl) hcs hsl dL_law_147 (fun z22 σ20 s21 q23 => ?_)
          have h := h z22 σ20 q23
          have s21 := s21.trans s13
          refine r_icmp_eq (tgt := 453) C dL_law_150 (by decide) (fun c25 => ?_) (fun c25 => ?_)
          · have h := h.1 c25
            obtain ⟨z26, e27⟩ : ∃ y : Int32, y = x3 + 5 := ⟨_, rfl⟩
            have h := h z26 e27
            refine r_iinc (v := z26) (lv' := [(3, Value.int z26), (0, Value.ref b), (1, Value.ref (B + a1)), (2, Value.ref (B + a2))]) C dL_law_453 (k := 3) rfl (by rw [e27]; rfl) (by decide) rfl ?_
            refine r_goto (tgt := 28) C dL_law_456 (by decide) ?_
            exact r_loc (by simp) h
          · have h := h.2 c25
            refine r_iconst (v := 0) C dL_law_153 (by decide) ?_
            exact h.elim
        · have h := h.2 c17
          refine r_iconst (v := 1) C dL_law_142 (by decide) ?_
          refine r_goto (tgt := 147) C dL_law_143 (by decide) ?_
          obtain ⟨g34, h⟩ := h
          obtain ⟨Q28, m29, h⟩ := h
          refine r_callVI (rest := [Value.int z14]) C E [Value.int (xs ((x3 + 1).toNatClampNeg)), Value.int (xs ((x3 + 2).toNatClampNeg)), Value.int 1] (r_atT s13 g34) rfl ky_X8_hear kl_L_25 ki_X8_hear kx_X8_hear ⟨by rw [ht2.1]; exact Nat.le_of_ble_eq_true rfl, by rw [ht2.2]; exact Nat.le_of_ble_eq_true rfl⟩ ⟨rfl, rfl⟩ m29 rfl rfl (Nat.le_of_ble_eq_true rfl) hcs hsl dL_law_147 (fun z32 σ30 s31 q33 => ?_)
          have h := h z32 σ30 q33
          have s31 := s31.trans s13
          refine r_icmp_eq (tgt := 453) C dL_law_150 (by decide) (fun c35 => ?_) (fun c35 => ?_)
          · have h := h.1 c35
            obtain ⟨z36, e37⟩ : ∃ y : Int32, y = x3 + 5 := ⟨_, rfl⟩
            have h := h z36 e37
            refine r_iinc (v := z36) (lv' := [(3, Value.int z36), (0, Value.ref b), (1, Value.ref (B + a1)), (2, Value.ref (B + a2))]) C dL_law_453 (k := 3) rfl (by rw [e37]; rfl) (by decide) rfl ?_
            refine r_goto (tgt := 28) C dL_law_456 (by decide) ?_
            exact r_loc (by simp) h
          · have h := h.2 c35
            refine r_iconst (v := 0) C dL_law_153 (by decide) ?_
            exact h.elim
      · have h := h.2 c9
        refine r_iconst (v := 1) C dL_law_115 (by decide) ?_
        refine r_goto (tgt := 120) C dL_law_116 (by decide) ?_
        obtain ⟨g44, h⟩ := h
        obtain ⟨Q38, m39, h⟩ := h
        refine r_callVI (rest := []) C E [Value.int (xs ((x3 + 1).toNatClampNeg)), Value.int (xs ((x3 + 2).toNatClampNeg)), Value.int 1] (r_atT rfl g44) rfl ky_X7_hear kl_L_21 ki_X7_hear kx_X7_hear ⟨by rw [ht2.1]; exact Nat.le_of_ble_eq_true rfl, by rw [ht2.2]; exact Nat.le_of_ble_eq_true rfl⟩ ⟨rfl, rfl⟩ m39 rfl rfl (Nat.le_of_ble_eq_true rfl) hcs hsl dL_law_120 (fun z42 σ40 s41 q43 => ?_)
        have h := h z42 σ40 q43
        have s41 := s41.trans rfl
        refine r_aload_n C dL_law_123 rfl (j := 2) rfl ?_
        refine r_aload_n C dL_law_124 rfl (j := 0) rfl ?_
        refine r_iload_n C dL_law_125 rfl (j := 3) rfl ?_
        refine r_iconst (v := 1) C dL_law_126 (by decide) ?_
        refine r_iadd C dL_law_127 ?_
        refine r_sld C hX g6 dL_law_128 ?_
        refine r_aload_n C dL_law_129 rfl (j := 0) rfl ?_
        refine r_iload_n C dL_law_130 rfl (j := 3) rfl ?_
        refine r_iconst (v := 2) C dL_law_131 (by decide) ?_
        refine r_iadd C dL_law_132 ?_
        refine r_sld C hX g7 dL_law_133 ?_
        refine r_aload_n C dL_law_134 rfl (j := 0) rfl ?_
        refine r_iload_n C dL_law_135 rfl (j := 3) rfl ?_
        refine r_iconst (v := 3) C dL_law_136 (by decide) ?_
        refine r_iadd C dL_law_137 ?_
        refine r_sld C hX g8 dL_law_138 ?_
        refine r_if_eq (tgt := 146) C dL_law_139 (by decide) (fun c45 => ?_) (fun c45 => ?_)
        · have h := h.1 c45
          refine r_iconst (v := 0) C dL_law_146 (by decide) ?_
          obtain ⟨g52, h⟩ := h
          obtain ⟨Q46, m47, h⟩ := h
          refine r_callVI (rest := [Value.int z42]) C E [Value.int (xs ((x3 + 1).toNatClampNeg)), Value.int (xs ((x3 + 2).toNatClampNeg)), Value.int 0] (r_atT s41 g52) rfl ky_X8_hear kl_L_25 ki_X8_hear kx_X8_hear ⟨by rw [ht2.1]; exact Nat.le_of_ble_eq_true rfl, by rw [ht2.2]; exact Nat.le_of_ble_eq_true rfl⟩ ⟨rfl, rfl⟩ m47 rfl rfl (Nat.le_of_ble_eq_true rfl) hcs hsl dL_law_147 (fun z50 σ48 s49 q51 => ?_)
          have h := h z50 σ48 q51
          have s49 := s49.trans s41
          refine r_icmp_eq (tgt := 453) C dL_law_150 (by decide) (fun c53 => ?_) (fun c53 => ?_)
          · have h := h.1 c53
            obtain ⟨z54, e55⟩ : ∃ y : Int32, y = x3 + 5 := ⟨_, rfl⟩
            have h := h z54 e55
            refine r_iinc (v := z54) (lv' := [(3, Value.int z54), (0, Value.ref b), (1, Value.ref (B + a1)), (2, Value.ref (B + a2))]) C dL_law_453 (k := 3) rfl (by rw [e55]; rfl) (by decide) rfl ?_
            refine r_goto (tgt := 28) C dL_law_456 (by decide) ?_
            exact r_loc (by simp) h
          · have h := h.2 c53
            refine r_iconst (v := 0) C dL_law_153 (by decide) ?_
            exact h.elim
        · have h := h.2 c45
          refine r_iconst (v := 1) C dL_law_142 (by decide) ?_
          refine r_goto (tgt := 147) C dL_law_143 (by decide) ?_
          obtain ⟨g62, h⟩ := h
          obtain ⟨Q56, m57, h⟩ := h
          refine r_callVI (rest := [Value.int z42]) C E [Value.int (xs ((x3 + 1).toNatClampNeg)), Value.int (xs ((x3 + 2).toNatClampNeg)), Value.int 1] (r_atT s41 g62) rfl ky_X8_hear kl_L_25 ki_X8_hear kx_X8_hear ⟨by rw [ht2.1]; exact Nat.le_of_ble_eq_true rfl, by rw [ht2.2]; exact Nat.le_of_ble_eq_true rfl⟩ ⟨rfl, rfl⟩ m57 rfl rfl (Nat.le_of_ble_eq_true rfl) hcs hsl dL_law_147 (fun z60 σ58 s59 q61 => ?_)
          have h := h z60 σ58 q61
          have s59 := s59.trans s41
          refine r_icmp_eq (tgt := 453) C dL_law_150 (by decide) (fun c63 => ?_) (fun c63 => ?_)
          · have h := h.1 c63
            obtain ⟨z64, e65⟩ : ∃ y : Int32, y = x3 + 5 := ⟨_, rfl⟩
            have h := h z64 e65
            refine r_iinc (v := z64) (lv' := [(3, Value.int z64), (0, Value.ref b), (1, Value.ref (B + a1)), (2, Value.ref (B + a2))]) C dL_law_453 (k := 3) rfl (by rw [e65]; rfl) (by decide) rfl ?_
            refine r_goto (tgt := 28) C dL_law_456 (by decide) ?_
            exact r_loc (by simp) h
          · have h := h.2 c63
            refine r_iconst (v := 0) C dL_law_153 (by decide) ?_
            exact h.elim
    have h := h.2 c5
    have c5 := r_neT c5
    by_cases c66 : z3 = 1
    · have h := h.1 c66
      refine r_tableIn (tgt := 155) (off := 113) C dL_law_42 (by rw [c66]; decide) (by rw [c66]; decide) (by rw [c66]; rfl) (by decide) ?_
      refine r_aload_n C dL_law_155 rfl (j := 1) rfl ?_
      refine r_aload_n C dL_law_156 rfl (j := 0) rfl ?_
      refine r_iload_n C dL_law_157 rfl (j := 3) rfl ?_
      refine r_iconst (v := 1) C dL_law_158 (by decide) ?_
      refine r_iadd C dL_law_159 ?_
      obtain ⟨g67, h⟩ := h
      refine r_sld C hX g67 dL_law_160 ?_
      obtain ⟨g74, h⟩ := h
      obtain ⟨Q68, m69, h⟩ := h
      refine r_callVI (rest := []) C E [Value.int (xs ((x3 + 1).toNatClampNeg))] (r_atT rfl g74) rfl ky_X7_coin kl_L_26 ki_X7_coin kx_X7_coin ⟨by rw [ht2.1]; exact Nat.le_of_ble_eq_true rfl, by rw [ht2.2]; exact Nat.le_of_ble_eq_true rfl⟩ ⟨rfl, rfl⟩ m69 rfl rfl (Nat.le_of_ble_eq_true rfl) hcs hsl dL_law_161 (fun z72 σ70 s71 q73 => ?_)
      have h := h z72 σ70 q73
      have s71 := s71.trans rfl
      refine r_aload_n C dL_law_164 rfl (j := 2) rfl ?_
      refine r_aload_n C dL_law_165 rfl (j := 0) rfl ?_
      refine r_iload_n C dL_law_166 rfl (j := 3) rfl ?_
      refine r_iconst (v := 1) C dL_law_167 (by decide) ?_
      refine r_iadd C dL_law_168 ?_
      refine r_sld C hX g67 dL_law_169 ?_
      obtain ⟨g81, h⟩ := h
      obtain ⟨Q75, m76, h⟩ := h
      refine r_callVI (rest := [Value.int z72]) C E [Value.int (xs ((x3 + 1).toNatClampNeg))] (r_atT s71 g81) rfl ky_X8_coin kl_L_30 ki_X8_coin kx_X8_coin ⟨by rw [ht2.1]; exact Nat.le_of_ble_eq_true rfl, by rw [ht2.2]; exact Nat.le_of_ble_eq_true rfl⟩ ⟨rfl, rfl⟩ m76 rfl rfl (Nat.le_of_ble_eq_true rfl) hcs hsl dL_law_170 (fun z79 σ77 s78 q80 => ?_)
      have h := h z79 σ77 q80
      have s78 := s78.trans s71
      refine r_icmp_eq (tgt := 453) C dL_law_173 (by decide) (fun c82 => ?_) (fun c82 => ?_)
      · have h := h.1 c82
        obtain ⟨z83, e84⟩ : ∃ y : Int32, y = x3 + 5 := ⟨_, rfl⟩
        have h := h z83 e84
        refine r_iinc (v := z83) (lv' := [(3, Value.int z83), (0, Value.ref b), (1, Value.ref (B + a1)), (2, Value.ref (B + a2))]) C dL_law_453 (k := 3) rfl (by rw [e84]; rfl) (by decide) rfl ?_
        refine r_goto (tgt := 28) C dL_law_456 (by decide) ?_
        exact r_loc (by simp) h
      · have h := h.2 c82
        refine r_iconst (v := 0) C dL_law_176 (by decide) ?_
        exact h.elim
    have h := h.2 c66
    have c66 := r_neT c66
    by_cases c85 : z3 = 2
    · have h := h.1 c85
      refine r_tableIn (tgt := 178) (off := 136) C dL_law_42 (by rw [c85]; decide) (by rw [c85]; decide) (by rw [c85]; rfl) (by decide) ?_
      refine r_aload_n C dL_law_178 rfl (j := 1) rfl ?_
      refine r_aload_n C dL_law_179 rfl (j := 0) rfl ?_
      refine r_iload_n C dL_law_180 rfl (j := 3) rfl ?_
      refine r_iconst (v := 1) C dL_law_181 (by decide) ?_
      refine r_iadd C dL_law_182 ?_
      obtain ⟨g86, h⟩ := h
      refine r_sld C hX g86 dL_law_183 ?_
      obtain ⟨g93, h⟩ := h
      obtain ⟨Q87, m88, h⟩ := h
      refine r_callVI (rest := []) C E [Value.int (xs ((x3 + 1).toNatClampNeg))] (r_atT rfl g93) rfl ky_X7_threshold kl_L_31 ki_X7_threshold kx_X7_threshold ⟨by rw [ht2.1]; exact Nat.le_of_ble_eq_true rfl, by rw [ht2.2]; exact Nat.le_of_ble_eq_true rfl⟩ ⟨rfl, rfl⟩ m88 rfl rfl (Nat.le_of_ble_eq_true rfl) hcs hsl dL_law_184 (fun z91 σ89 s90 q92 => ?_)
      have h := h z91 σ89 q92
      have s90 := s90.trans rfl
      refine r_aload_n C dL_law_187 rfl (j := 2) rfl ?_
      refine r_aload_n C dL_law_188 rfl (j := 0) rfl ?_
      refine r_iload_n C dL_law_189 rfl (j := 3) rfl ?_
      refine r_iconst (v := 1) C dL_law_190 (by decide) ?_
      refine r_iadd C dL_law_191 ?_
      refine r_sld C hX g86 dL_law_192 ?_
      obtain ⟨g100, h⟩ := h
      obtain ⟨Q94, m95, h⟩ := h
      refine r_callVI (rest := [Value.int z91]) C E [Value.int (xs ((x3 + 1).toNatClampNeg))] (r_atT s90 g100) rfl ky_X8_threshold kl_L_34 ki_X8_threshold kx_X8_threshold ⟨by rw [ht2.1]; exact Nat.le_of_ble_eq_true rfl, by rw [ht2.2]; exact Nat.le_of_ble_eq_true rfl⟩ ⟨rfl, rfl⟩ m95 rfl rfl (Nat.le_of_ble_eq_true rfl) hcs hsl dL_law_193 (fun z98 σ96 s97 q99 => ?_)
      have h := h z98 σ96 q99
      have s97 := s97.trans s90
      refine r_icmp_eq (tgt := 453) C dL_law_196 (by decide) (fun c101 => ?_) (fun c101 => ?_)
      · have h := h.1 c101
        obtain ⟨z102, e103⟩ : ∃ y : Int32, y = x3 + 5 := ⟨_, rfl⟩
        have h := h z102 e103
        refine r_iinc (v := z102) (lv' := [(3, Value.int z102), (0, Value.ref b), (1, Value.ref (B + a1)), (2, Value.ref (B + a2))]) C dL_law_453 (k := 3) rfl (by rw [e103]; rfl) (by decide) rfl ?_
        refine r_goto (tgt := 28) C dL_law_456 (by decide) ?_
        exact r_loc (by simp) h
      · have h := h.2 c101
        refine r_iconst (v := 0) C dL_law_199 (by decide) ?_
        exact h.elim
    have h := h.2 c85
    have c85 := r_neT c85
    by_cases c104 : z3 = 3
    · have h := h.1 c104
      refine r_tableIn (tgt := 201) (off := 159) C dL_law_42 (by rw [c104]; decide) (by rw [c104]; decide) (by rw [c104]; rfl) (by decide) ?_
      refine r_aload_n C dL_law_201 rfl (j := 1) rfl ?_
      refine r_aload_n C dL_law_202 rfl (j := 0) rfl ?_
      refine r_iload_n C dL_law_203 rfl (j := 3) rfl ?_
      refine r_iconst (v := 1) C dL_law_204 (by decide) ?_
      refine r_iadd C dL_law_205 ?_
      obtain ⟨g105, h⟩ := h
      refine r_sld C hX g105 dL_law_206 ?_
      refine r_aload_n C dL_law_207 rfl (j := 0) rfl ?_
      refine r_iload_n C dL_law_208 rfl (j := 3) rfl ?_
      refine r_iconst (v := 2) C dL_law_209 (by decide) ?_
      refine r_iadd C dL_law_210 ?_
      obtain ⟨g106, h⟩ := h
      refine r_sld C hX g106 dL_law_211 ?_
      refine r_aload_n C dL_law_212 rfl (j := 0) rfl ?_
      refine r_iload_n C dL_law_213 rfl (j := 3) rfl ?_
      refine r_iconst (v := 3) C dL_law_214 (by decide) ?_
      refine r_iadd C dL_law_215 ?_
      obtain ⟨g107, h⟩ := h
      refine r_sld C hX g107 dL_law_216 ?_
      obtain ⟨g114, h⟩ := h
      obtain ⟨Q108, m109, h⟩ := h
      refine r_callVI (rest := []) C E [Value.int (xs ((x3 + 1).toNatClampNeg)), Value.int (xs ((x3 + 2).toNatClampNeg)), Value.int (xs ((x3 + 3).toNatClampNeg))] (r_atT rfl g114) rfl ky_X7_offer kl_L_35 ki_X7_offer kx_X7_offer ⟨by rw [ht2.1]; exact Nat.le_of_ble_eq_true rfl, by rw [ht2.2]; exact Nat.le_of_ble_eq_true rfl⟩ ⟨rfl, rfl⟩ m109 rfl rfl (Nat.le_of_ble_eq_true rfl) hcs hsl dL_law_217 (fun z112 σ110 s111 q113 => ?_)
      have h := h z112 σ110 q113
      have s111 := s111.trans rfl
      refine r_aload_n C dL_law_220 rfl (j := 2) rfl ?_
      refine r_aload_n C dL_law_221 rfl (j := 0) rfl ?_
      refine r_iload_n C dL_law_222 rfl (j := 3) rfl ?_
      refine r_iconst (v := 1) C dL_law_223 (by decide) ?_
      refine r_iadd C dL_law_224 ?_
      refine r_sld C hX g105 dL_law_225 ?_
      refine r_aload_n C dL_law_226 rfl (j := 0) rfl ?_
      refine r_iload_n C dL_law_227 rfl (j := 3) rfl ?_
      refine r_iconst (v := 2) C dL_law_228 (by decide) ?_
      refine r_iadd C dL_law_229 ?_
      refine r_sld C hX g106 dL_law_230 ?_
      refine r_aload_n C dL_law_231 rfl (j := 0) rfl ?_
      refine r_iload_n C dL_law_232 rfl (j := 3) rfl ?_
      refine r_iconst (v := 3) C dL_law_233 (by decide) ?_
      refine r_iadd C dL_law_234 ?_
      refine r_sld C hX g107 dL_law_235 ?_
      obtain ⟨g121, h⟩ := h
      obtain ⟨Q115, m116, h⟩ := h
      refine r_callVI (rest := [Value.int z112]) C E [Value.int (xs ((x3 + 1).toNatClampNeg)), Value.int (xs ((x3 + 2).toNatClampNeg)), Value.int (xs ((x3 + 3).toNatClampNeg))] (r_atT s111 g121) rfl ky_X8_offer kl_L_39 ki_X8_offer kx_X8_offer ⟨by rw [ht2.1]; exact Nat.le_of_ble_eq_true rfl, by rw [ht2.2]; exact Nat.le_of_ble_eq_true rfl⟩ ⟨rfl, rfl⟩ m116 rfl rfl (Nat.le_of_ble_eq_true rfl) hcs hsl dL_law_236 (fun z119 σ117 s118 q120 => ?_)
      have h := h z119 σ117 q120
      have s118 := s118.trans s111
      refine r_icmp_eq (tgt := 453) C dL_law_239 (by decide) (fun c122 => ?_) (fun c122 => ?_)
      · have h := h.1 c122
        obtain ⟨z123, e124⟩ : ∃ y : Int32, y = x3 + 5 := ⟨_, rfl⟩
        have h := h z123 e124
        refine r_iinc (v := z123) (lv' := [(3, Value.int z123), (0, Value.ref b), (1, Value.ref (B + a1)), (2, Value.ref (B + a2))]) C dL_law_453 (k := 3) rfl (by rw [e124]; rfl) (by decide) rfl ?_
        refine r_goto (tgt := 28) C dL_law_456 (by decide) ?_
        exact r_loc (by simp) h
      · have h := h.2 c122
        refine r_iconst (v := 0) C dL_law_242 (by decide) ?_
        exact h.elim
    have h := h.2 c104
    have c104 := r_neT c104
    by_cases c125 : z3 = 4
    · have h := h.1 c125
      refine r_tableIn (tgt := 244) (off := 202) C dL_law_42 (by rw [c125]; decide) (by rw [c125]; decide) (by rw [c125]; rfl) (by decide) ?_
      refine r_aload_n C dL_law_244 rfl (j := 1) rfl ?_
      refine r_aload_n C dL_law_245 rfl (j := 0) rfl ?_
      refine r_iload_n C dL_law_246 rfl (j := 3) rfl ?_
      refine r_iconst (v := 1) C dL_law_247 (by decide) ?_
      refine r_iadd C dL_law_248 ?_
      obtain ⟨g126, h⟩ := h
      refine r_sld C hX g126 dL_law_249 ?_
      refine r_aload_n C dL_law_250 rfl (j := 0) rfl ?_
      refine r_iload_n C dL_law_251 rfl (j := 3) rfl ?_
      refine r_iconst (v := 2) C dL_law_252 (by decide) ?_
      refine r_iadd C dL_law_253 ?_
      obtain ⟨g127, h⟩ := h
      refine r_sld C hX g127 dL_law_254 ?_
      refine r_i2l (v := (xs ((x3 + 2).toNatClampNeg)).toInt64) C dL_law_255 rfl ?_
      refine r_bipush (v := 32) C dL_law_256 (by decide) ?_
      refine r_lshl (v := ((xs ((x3 + 2).toNatClampNeg)).toInt64) <<< ((32 : Int32).toInt64 &&& 63)) C dL_law_258 rfl ?_
      refine r_aload_n C dL_law_259 rfl (j := 0) rfl ?_
      refine r_iload_n C dL_law_260 rfl (j := 3) rfl ?_
      refine r_iconst (v := 3) C dL_law_261 (by decide) ?_
      refine r_iadd C dL_law_262 ?_
      obtain ⟨g128, h⟩ := h
      refine r_sld C hX g128 dL_law_263 ?_
      refine r_i2l (v := (xs ((x3 + 3).toNatClampNeg)).toInt64) C dL_law_264 rfl ?_
      refine r_ldc2 (v := 4294967295) C kj_L_40 dL_law_265 ?_
      refine r_land C dL_law_268 ?_
      refine r_lor C dL_law_269 ?_
      refine r_aload_n C dL_law_270 rfl (j := 0) rfl ?_
      refine r_iload_n C dL_law_271 rfl (j := 3) rfl ?_
      refine r_iconst (v := 4) C dL_law_272 (by decide) ?_
      refine r_iadd C dL_law_273 ?_
      obtain ⟨g129, h⟩ := h
      refine r_sld C hX g129 dL_law_274 ?_
      obtain ⟨g136, h⟩ := h
      obtain ⟨Q130, m131, h⟩ := h
      refine r_callVI (rest := []) C E [Value.int (xs ((x3 + 1).toNatClampNeg)), Value.long ((((xs ((x3 + 2).toNatClampNeg)).toInt64) <<< ((32 : Int32).toInt64 &&& 63)) ||| (((xs ((x3 + 3).toNatClampNeg)).toInt64) &&& 4294967295)), Value.int (xs ((x3 + 4).toNatClampNeg))] (r_atT rfl g136) rfl ky_X7_noise kl_L_42 ki_X7_noise kx_X7_noise ⟨by rw [ht2.1]; exact Nat.le_of_ble_eq_true rfl, by rw [ht2.2]; exact Nat.le_of_ble_eq_true rfl⟩ ⟨rfl, rfl⟩ m131 rfl rfl (Nat.le_of_ble_eq_true rfl) hcs hsl dL_law_275 (fun z134 σ132 s133 q135 => ?_)
      have h := h z134 σ132 q135
      have s133 := s133.trans rfl
      refine r_aload_n C dL_law_278 rfl (j := 2) rfl ?_
      refine r_aload_n C dL_law_279 rfl (j := 0) rfl ?_
      refine r_iload_n C dL_law_280 rfl (j := 3) rfl ?_
      refine r_iconst (v := 1) C dL_law_281 (by decide) ?_
      refine r_iadd C dL_law_282 ?_
      refine r_sld C hX g126 dL_law_283 ?_
      refine r_aload_n C dL_law_284 rfl (j := 0) rfl ?_
      refine r_iload_n C dL_law_285 rfl (j := 3) rfl ?_
      refine r_iconst (v := 2) C dL_law_286 (by decide) ?_
      refine r_iadd C dL_law_287 ?_
      refine r_sld C hX g127 dL_law_288 ?_
      refine r_i2l (v := (xs ((x3 + 2).toNatClampNeg)).toInt64) C dL_law_289 rfl ?_
      refine r_bipush (v := 32) C dL_law_290 (by decide) ?_
      refine r_lshl (v := ((xs ((x3 + 2).toNatClampNeg)).toInt64) <<< ((32 : Int32).toInt64 &&& 63)) C dL_law_292 rfl ?_
      refine r_aload_n C dL_law_293 rfl (j := 0) rfl ?_
      refine r_iload_n C dL_law_294 rfl (j := 3) rfl ?_
      refine r_iconst (v := 3) C dL_law_295 (by decide) ?_
      refine r_iadd C dL_law_296 ?_
      refine r_sld C hX g128 dL_law_297 ?_
      refine r_i2l (v := (xs ((x3 + 3).toNatClampNeg)).toInt64) C dL_law_298 rfl ?_
      refine r_ldc2 (v := 4294967295) C kj_L_40 dL_law_299 ?_
      refine r_land C dL_law_302 ?_
      refine r_lor C dL_law_303 ?_
      refine r_aload_n C dL_law_304 rfl (j := 0) rfl ?_
      refine r_iload_n C dL_law_305 rfl (j := 3) rfl ?_
      refine r_iconst (v := 4) C dL_law_306 (by decide) ?_
      refine r_iadd C dL_law_307 ?_
      refine r_sld C hX g129 dL_law_308 ?_
      obtain ⟨g143, h⟩ := h
      obtain ⟨Q137, m138, h⟩ := h
      refine r_callVI (rest := [Value.int z134]) C E [Value.int (xs ((x3 + 1).toNatClampNeg)), Value.long ((((xs ((x3 + 2).toNatClampNeg)).toInt64) <<< ((32 : Int32).toInt64 &&& 63)) ||| (((xs ((x3 + 3).toNatClampNeg)).toInt64) &&& 4294967295)), Value.int (xs ((x3 + 4).toNatClampNeg))] (r_atT s133 g143) rfl ky_X8_noise kl_L_46 ki_X8_noise kx_X8_noise ⟨by rw [ht2.1]; exact Nat.le_of_ble_eq_true rfl, by rw [ht2.2]; exact Nat.le_of_ble_eq_true rfl⟩ ⟨rfl, rfl⟩ m138 rfl rfl (Nat.le_of_ble_eq_true rfl) hcs hsl dL_law_309 (fun z141 σ139 s140 q142 => ?_)
      have h := h z141 σ139 q142
      have s140 := s140.trans s133
      refine r_icmp_eq (tgt := 453) C dL_law_312 (by decide) (fun c144 => ?_) (fun c144 => ?_)
      · have h := h.1 c144
        obtain ⟨z145, e146⟩ : ∃ y : Int32, y = x3 + 5 := ⟨_, rfl⟩
        have h := h z145 e146
        refine r_iinc (v := z145) (lv' := [(3, Value.int z145), (0, Value.ref b), (1, Value.ref (B + a1)), (2, Value.ref (B + a2))]) C dL_law_453 (k := 3) rfl (by rw [e146]; rfl) (by decide) rfl ?_
        refine r_goto (tgt := 28) C dL_law_456 (by decide) ?_
        exact r_loc (by simp) h
      · have h := h.2 c144
        refine r_iconst (v := 0) C dL_law_315 (by decide) ?_
        exact h.elim
    have h := h.2 c125
    have c125 := r_neT c125
    by_cases c147 : z3 = 5
    · have h := h.1 c147
      refine r_tableIn (tgt := 317) (off := 275) C dL_law_42 (by rw [c147]; decide) (by rw [c147]; decide) (by rw [c147]; rfl) (by decide) ?_
      refine r_aload_n C dL_law_317 rfl (j := 1) rfl ?_
      refine r_aload_n C dL_law_318 rfl (j := 0) rfl ?_
      refine r_iload_n C dL_law_319 rfl (j := 3) rfl ?_
      refine r_iconst (v := 1) C dL_law_320 (by decide) ?_
      refine r_iadd C dL_law_321 ?_
      obtain ⟨g148, h⟩ := h
      refine r_sld C hX g148 dL_law_322 ?_
      obtain ⟨g155, h⟩ := h
      obtain ⟨Q149, m150, h⟩ := h
      refine r_callVI (rest := []) C E [Value.int (xs ((x3 + 1).toNatClampNeg))] (r_atT rfl g155) rfl ky_X7_run kl_L_47 ki_X7_run kx_X7_run ⟨by rw [ht2.1]; exact Nat.le_of_ble_eq_true rfl, by rw [ht2.2]; exact Nat.le_of_ble_eq_true rfl⟩ ⟨rfl, rfl⟩ m150 rfl rfl (Nat.le_of_ble_eq_true rfl) hcs hsl dL_law_323 (fun z153 σ151 s152 q154 => ?_)
      have h := h z153 σ151 q154
      have s152 := s152.trans rfl
      refine r_aload_n C dL_law_326 rfl (j := 2) rfl ?_
      refine r_aload_n C dL_law_327 rfl (j := 0) rfl ?_
      refine r_iload_n C dL_law_328 rfl (j := 3) rfl ?_
      refine r_iconst (v := 1) C dL_law_329 (by decide) ?_
      refine r_iadd C dL_law_330 ?_
      refine r_sld C hX g148 dL_law_331 ?_
      obtain ⟨g162, h⟩ := h
      obtain ⟨Q156, m157, h⟩ := h
      refine r_callVI (rest := [Value.int z153]) C E [Value.int (xs ((x3 + 1).toNatClampNeg))] (r_atT s152 g162) rfl ky_X8_run kl_L_50 ki_X8_run kx_X8_run ⟨by rw [ht2.1]; exact Nat.le_of_ble_eq_true rfl, by rw [ht2.2]; exact Nat.le_of_ble_eq_true rfl⟩ ⟨rfl, rfl⟩ m157 rfl rfl (Nat.le_of_ble_eq_true rfl) hcs hsl dL_law_332 (fun z160 σ158 s159 q161 => ?_)
      have h := h z160 σ158 q161
      have s159 := s159.trans s152
      refine r_icmp_eq (tgt := 453) C dL_law_335 (by decide) (fun c163 => ?_) (fun c163 => ?_)
      · have h := h.1 c163
        obtain ⟨z164, e165⟩ : ∃ y : Int32, y = x3 + 5 := ⟨_, rfl⟩
        have h := h z164 e165
        refine r_iinc (v := z164) (lv' := [(3, Value.int z164), (0, Value.ref b), (1, Value.ref (B + a1)), (2, Value.ref (B + a2))]) C dL_law_453 (k := 3) rfl (by rw [e165]; rfl) (by decide) rfl ?_
        refine r_goto (tgt := 28) C dL_law_456 (by decide) ?_
        exact r_loc (by simp) h
      · have h := h.2 c163
        refine r_iconst (v := 0) C dL_law_338 (by decide) ?_
        exact h.elim
    have h := h.2 c147
    have c147 := r_neT c147
    by_cases c166 : z3 = 6
    · have h := h.1 c166
      refine r_tableIn (tgt := 340) (off := 298) C dL_law_42 (by rw [c166]; decide) (by rw [c166]; decide) (by rw [c166]; rfl) (by decide) ?_
      refine r_aload_n C dL_law_340 rfl (j := 1) rfl ?_
      refine r_aload_n C dL_law_341 rfl (j := 0) rfl ?_
      refine r_iload_n C dL_law_342 rfl (j := 3) rfl ?_
      refine r_iconst (v := 1) C dL_law_343 (by decide) ?_
      refine r_iadd C dL_law_344 ?_
      obtain ⟨g167, h⟩ := h
      refine r_sld C hX g167 dL_law_345 ?_
      refine r_aload_n C dL_law_346 rfl (j := 0) rfl ?_
      refine r_iload_n C dL_law_347 rfl (j := 3) rfl ?_
      refine r_iconst (v := 2) C dL_law_348 (by decide) ?_
      refine r_iadd C dL_law_349 ?_
      obtain ⟨g168, h⟩ := h
      refine r_sld C hX g168 dL_law_350 ?_
      obtain ⟨g175, h⟩ := h
      obtain ⟨Q169, m170, h⟩ := h
      refine r_callVI (rest := []) C E [Value.int (xs ((x3 + 1).toNatClampNeg)), Value.int (xs ((x3 + 2).toNatClampNeg))] (r_atT rfl g175) rfl ky_X7_event kl_L_51 ki_X7_event kx_X7_event ⟨by rw [ht2.1]; exact Nat.le_of_ble_eq_true rfl, by rw [ht2.2]; exact Nat.le_of_ble_eq_true rfl⟩ ⟨rfl, rfl⟩ m170 rfl rfl (Nat.le_of_ble_eq_true rfl) hcs hsl dL_law_351 (fun z173 σ171 s172 q174 => ?_)
      have h := h z173 σ171 q174
      have s172 := s172.trans rfl
      refine r_aload_n C dL_law_354 rfl (j := 2) rfl ?_
      refine r_aload_n C dL_law_355 rfl (j := 0) rfl ?_
      refine r_iload_n C dL_law_356 rfl (j := 3) rfl ?_
      refine r_iconst (v := 1) C dL_law_357 (by decide) ?_
      refine r_iadd C dL_law_358 ?_
      refine r_sld C hX g167 dL_law_359 ?_
      refine r_aload_n C dL_law_360 rfl (j := 0) rfl ?_
      refine r_iload_n C dL_law_361 rfl (j := 3) rfl ?_
      refine r_iconst (v := 2) C dL_law_362 (by decide) ?_
      refine r_iadd C dL_law_363 ?_
      refine r_sld C hX g168 dL_law_364 ?_
      obtain ⟨g182, h⟩ := h
      obtain ⟨Q176, m177, h⟩ := h
      refine r_callVI (rest := [Value.int z173]) C E [Value.int (xs ((x3 + 1).toNatClampNeg)), Value.int (xs ((x3 + 2).toNatClampNeg))] (r_atT s172 g182) rfl ky_X8_event kl_L_55 ki_X8_event kx_X8_event ⟨by rw [ht2.1]; exact Nat.le_of_ble_eq_true rfl, by rw [ht2.2]; exact Nat.le_of_ble_eq_true rfl⟩ ⟨rfl, rfl⟩ m177 rfl rfl (Nat.le_of_ble_eq_true rfl) hcs hsl dL_law_365 (fun z180 σ178 s179 q181 => ?_)
      have h := h z180 σ178 q181
      have s179 := s179.trans s172
      refine r_icmp_eq (tgt := 453) C dL_law_368 (by decide) (fun c183 => ?_) (fun c183 => ?_)
      · have h := h.1 c183
        obtain ⟨z184, e185⟩ : ∃ y : Int32, y = x3 + 5 := ⟨_, rfl⟩
        have h := h z184 e185
        refine r_iinc (v := z184) (lv' := [(3, Value.int z184), (0, Value.ref b), (1, Value.ref (B + a1)), (2, Value.ref (B + a2))]) C dL_law_453 (k := 3) rfl (by rw [e185]; rfl) (by decide) rfl ?_
        refine r_goto (tgt := 28) C dL_law_456 (by decide) ?_
        exact r_loc (by simp) h
      · have h := h.2 c183
        refine r_iconst (v := 0) C dL_law_371 (by decide) ?_
        exact h.elim
    have h := h.2 c166
    have c166 := r_neT c166
    by_cases c186 : z3 = 7
    · have h := h.1 c186
      refine r_tableIn (tgt := 373) (off := 331) C dL_law_42 (by rw [c186]; decide) (by rw [c186]; decide) (by rw [c186]; rfl) (by decide) ?_
      refine r_aload_n C dL_law_373 rfl (j := 1) rfl ?_
      refine r_aload_n C dL_law_374 rfl (j := 0) rfl ?_
      refine r_iload_n C dL_law_375 rfl (j := 3) rfl ?_
      refine r_iconst (v := 1) C dL_law_376 (by decide) ?_
      refine r_iadd C dL_law_377 ?_
      obtain ⟨g187, h⟩ := h
      refine r_sld C hX g187 dL_law_378 ?_
      refine r_aload_n C dL_law_379 rfl (j := 0) rfl ?_
      refine r_iload_n C dL_law_380 rfl (j := 3) rfl ?_
      refine r_iconst (v := 2) C dL_law_381 (by decide) ?_
      refine r_iadd C dL_law_382 ?_
      obtain ⟨g188, h⟩ := h
      refine r_sld C hX g188 dL_law_383 ?_
      obtain ⟨g195, h⟩ := h
      obtain ⟨Q189, m190, h⟩ := h
      refine r_callVI (rest := []) C E [Value.int (xs ((x3 + 1).toNatClampNeg)), Value.int (xs ((x3 + 2).toNatClampNeg))] (r_atT rfl g195) rfl ky_X7_state kl_L_56 ki_X7_state kx_X7_state ⟨by rw [ht2.1]; exact Nat.le_of_ble_eq_true rfl, by rw [ht2.2]; exact Nat.le_of_ble_eq_true rfl⟩ ⟨rfl, rfl⟩ m190 rfl rfl (Nat.le_of_ble_eq_true rfl) hcs hsl dL_law_384 (fun z193 σ191 s192 q194 => ?_)
      have h := h z193 σ191 q194
      have s192 := s192.trans rfl
      refine r_aload_n C dL_law_387 rfl (j := 2) rfl ?_
      refine r_aload_n C dL_law_388 rfl (j := 0) rfl ?_
      refine r_iload_n C dL_law_389 rfl (j := 3) rfl ?_
      refine r_iconst (v := 1) C dL_law_390 (by decide) ?_
      refine r_iadd C dL_law_391 ?_
      refine r_sld C hX g187 dL_law_392 ?_
      refine r_aload_n C dL_law_393 rfl (j := 0) rfl ?_
      refine r_iload_n C dL_law_394 rfl (j := 3) rfl ?_
      refine r_iconst (v := 2) C dL_law_395 (by decide) ?_
      refine r_iadd C dL_law_396 ?_
      refine r_sld C hX g188 dL_law_397 ?_
      obtain ⟨g202, h⟩ := h
      obtain ⟨Q196, m197, h⟩ := h
      refine r_callVI (rest := [Value.int z193]) C E [Value.int (xs ((x3 + 1).toNatClampNeg)), Value.int (xs ((x3 + 2).toNatClampNeg))] (r_atT s192 g202) rfl ky_X8_state kl_L_59 ki_X8_state kx_X8_state ⟨by rw [ht2.1]; exact Nat.le_of_ble_eq_true rfl, by rw [ht2.2]; exact Nat.le_of_ble_eq_true rfl⟩ ⟨rfl, rfl⟩ m197 rfl rfl (Nat.le_of_ble_eq_true rfl) hcs hsl dL_law_398 (fun z200 σ198 s199 q201 => ?_)
      have h := h z200 σ198 q201
      have s199 := s199.trans s192
      refine r_icmp_eq (tgt := 453) C dL_law_401 (by decide) (fun c203 => ?_) (fun c203 => ?_)
      · have h := h.1 c203
        obtain ⟨z204, e205⟩ : ∃ y : Int32, y = x3 + 5 := ⟨_, rfl⟩
        have h := h z204 e205
        refine r_iinc (v := z204) (lv' := [(3, Value.int z204), (0, Value.ref b), (1, Value.ref (B + a1)), (2, Value.ref (B + a2))]) C dL_law_453 (k := 3) rfl (by rw [e205]; rfl) (by decide) rfl ?_
        refine r_goto (tgt := 28) C dL_law_456 (by decide) ?_
        exact r_loc (by simp) h
      · have h := h.2 c203
        refine r_iconst (v := 0) C dL_law_404 (by decide) ?_
        exact h.elim
    have h := h.2 c186
    have c186 := r_neT c186
    by_cases c206 : z3 = 8
    · have h := h.1 c206
      refine r_tableIn (tgt := 406) (off := 364) C dL_law_42 (by rw [c206]; decide) (by rw [c206]; decide) (by rw [c206]; rfl) (by decide) ?_
      refine r_aload_n C dL_law_406 rfl (j := 1) rfl ?_
      refine r_aload_n C dL_law_407 rfl (j := 0) rfl ?_
      refine r_iload_n C dL_law_408 rfl (j := 3) rfl ?_
      refine r_iconst (v := 1) C dL_law_409 (by decide) ?_
      refine r_iadd C dL_law_410 ?_
      obtain ⟨g207, h⟩ := h
      refine r_sld C hX g207 dL_law_411 ?_
      refine r_aload_n C dL_law_412 rfl (j := 0) rfl ?_
      refine r_iload_n C dL_law_413 rfl (j := 3) rfl ?_
      refine r_iconst (v := 2) C dL_law_414 (by decide) ?_
      refine r_iadd C dL_law_415 ?_
      obtain ⟨g208, h⟩ := h
      refine r_sld C hX g208 dL_law_416 ?_
      obtain ⟨g215, h⟩ := h
      obtain ⟨Q209, m210, h⟩ := h
      refine r_callVI (rest := []) C E [Value.int (xs ((x3 + 1).toNatClampNeg)), Value.int (xs ((x3 + 2).toNatClampNeg))] (r_atT rfl g215) rfl ky_X7_sent kl_L_60 ki_X7_sent kx_X7_sent ⟨by rw [ht2.1]; exact Nat.le_of_ble_eq_true rfl, by rw [ht2.2]; exact Nat.le_of_ble_eq_true rfl⟩ ⟨rfl, rfl⟩ m210 rfl rfl (Nat.le_of_ble_eq_true rfl) hcs hsl dL_law_417 (fun z213 σ211 s212 q214 => ?_)
      have h := h z213 σ211 q214
      have s212 := s212.trans rfl
      refine r_aload_n C dL_law_420 rfl (j := 2) rfl ?_
      refine r_aload_n C dL_law_421 rfl (j := 0) rfl ?_
      refine r_iload_n C dL_law_422 rfl (j := 3) rfl ?_
      refine r_iconst (v := 1) C dL_law_423 (by decide) ?_
      refine r_iadd C dL_law_424 ?_
      refine r_sld C hX g207 dL_law_425 ?_
      refine r_aload_n C dL_law_426 rfl (j := 0) rfl ?_
      refine r_iload_n C dL_law_427 rfl (j := 3) rfl ?_
      refine r_iconst (v := 2) C dL_law_428 (by decide) ?_
      refine r_iadd C dL_law_429 ?_
      refine r_sld C hX g208 dL_law_430 ?_
      obtain ⟨g222, h⟩ := h
      obtain ⟨Q216, m217, h⟩ := h
      refine r_callVI (rest := [Value.int z213]) C E [Value.int (xs ((x3 + 1).toNatClampNeg)), Value.int (xs ((x3 + 2).toNatClampNeg))] (r_atT s212 g222) rfl ky_X8_sent kl_L_63 ki_X8_sent kx_X8_sent ⟨by rw [ht2.1]; exact Nat.le_of_ble_eq_true rfl, by rw [ht2.2]; exact Nat.le_of_ble_eq_true rfl⟩ ⟨rfl, rfl⟩ m217 rfl rfl (Nat.le_of_ble_eq_true rfl) hcs hsl dL_law_431 (fun z220 σ218 s219 q221 => ?_)
      have h := h z220 σ218 q221
      have s219 := s219.trans s212
      refine r_icmp_eq (tgt := 453) C dL_law_434 (by decide) (fun c223 => ?_) (fun c223 => ?_)
      · have h := h.1 c223
        obtain ⟨z224, e225⟩ : ∃ y : Int32, y = x3 + 5 := ⟨_, rfl⟩
        have h := h z224 e225
        refine r_iinc (v := z224) (lv' := [(3, Value.int z224), (0, Value.ref b), (1, Value.ref (B + a1)), (2, Value.ref (B + a2))]) C dL_law_453 (k := 3) rfl (by rw [e225]; rfl) (by decide) rfl ?_
        refine r_goto (tgt := 28) C dL_law_456 (by decide) ?_
        exact r_loc (by simp) h
      · have h := h.2 c223
        refine r_iconst (v := 0) C dL_law_437 (by decide) ?_
        exact h.elim
    have h := h.2 c206
    have c206 := r_neT c206
    by_cases c226 : z3 = 9
    · have h := h.1 c226
      refine r_tableIn (tgt := 439) (off := 397) C dL_law_42 (by rw [c226]; decide) (by rw [c226]; decide) (by rw [c226]; rfl) (by decide) ?_
      refine r_aload_n C dL_law_439 rfl (j := 1) rfl ?_
      obtain ⟨g233, h⟩ := h
      obtain ⟨Q227, m228, h⟩ := h
      refine r_callVL (rest := []) C E [] (r_atT rfl g233) rfl ky_X7_now kl_L_64 ki_X7_now kx_X7_now ⟨by rw [ht2.1]; exact Nat.le_of_ble_eq_true rfl, by rw [ht2.2]; exact Nat.le_of_ble_eq_true rfl⟩ ⟨rfl, rfl⟩ m228 rfl rfl (Nat.le_of_ble_eq_true rfl) hcs hsl dL_law_440 (fun y231 σ229 s230 q232 => ?_)
      have h := h y231 σ229 q232
      have s230 := s230.trans rfl
      refine r_aload_n C dL_law_443 rfl (j := 2) rfl ?_
      obtain ⟨g240, h⟩ := h
      obtain ⟨Q234, m235, h⟩ := h
      refine r_callVL (rest := [Value.long y231]) C E [] (r_atT s230 g240) rfl ky_X8_now kl_L_68 ki_X8_now kx_X8_now ⟨by rw [ht2.1]; exact Nat.le_of_ble_eq_true rfl, by rw [ht2.2]; exact Nat.le_of_ble_eq_true rfl⟩ ⟨rfl, rfl⟩ m235 rfl rfl (Nat.le_of_ble_eq_true rfl) hcs hsl dL_law_444 (fun y238 σ236 s237 q239 => ?_)
      have h := h y238 σ236 q239
      have s237 := s237.trans s230
      refine r_lcmp C dL_law_447 ?_
      refine r_if_eq (tgt := 453) C dL_law_448 (by decide) (fun c241 => ?_) (fun c241 => ?_)
      · have h := h.1 (lgc_eq.mp c241)
        obtain ⟨z242, e243⟩ : ∃ y : Int32, y = x3 + 5 := ⟨_, rfl⟩
        have h := h z242 e243
        refine r_iinc (v := z242) (lv' := [(3, Value.int z242), (0, Value.ref b), (1, Value.ref (B + a1)), (2, Value.ref (B + a2))]) C dL_law_453 (k := 3) rfl (by rw [e243]; rfl) (by decide) rfl ?_
        refine r_goto (tgt := 28) C dL_law_456 (by decide) ?_
        exact r_loc (by simp) h
      · have h := h.2 (fun q => c241 (lgc_eq.mpr q))
        refine r_iconst (v := 0) C dL_law_451 (by decide) ?_
        exact h.elim
    have h := h.2 c226
    have c226 := r_neT c226
    refine r_tableOut (tgt := 453) C dL_law_42 (by simp at *; omega) (by decide) ?_
    obtain ⟨z244, e245⟩ : ∃ y : Int32, y = x3 + 5 := ⟨_, rfl⟩
    have h := h z244 e245
    refine r_iinc (v := z244) (lv' := [(3, Value.int z244), (0, Value.ref b), (1, Value.ref (B + a1)), (2, Value.ref (B + a2))]) C dL_law_453 (k := 3) rfl (by rw [e245]; rfl) (by decide) rfl ?_
    refine r_goto (tgt := 28) C dL_law_456 (by decide) ?_
    exact r_loc (by simp) h
