/-! the law from its entry -/
section LC
variable {l : Launch} {w : r_V} {B : Nat}
theorem law_start {X : r_X} {t : r_T} {Qz : State → Prop} (C : r_C X w B 4 cL_law RL) (Ex : r_E X l t) (ht : t.2.2.2.2 = room_1) {b L : Nat} {xs : Nat → Int32} (hX : r_XX X B b L xs) (hL : L ≤ 2561) (hret : ∀ (lv : List (Nat × Value)) (σ : r_S), r_W X w B 4 149 9337 Qz 460 lv [.int 1] σ) : r_W X w B 4 0 0 Qz 0 [(0, Value.ref b)] [] z0 := by
  have hf : t.2.2.2.2.frames = 9 := by rw [ht]; rfl
  have hlo : t.2.2.2.2.locals = 332 := by rw [ht]; rfl
  have hce : t.2.2.2.2.cells = 600000 := by rw [ht]; rfl
  have hsl : t.2.2.2.2.slots = 7302249 := by rw [ht]; rfl
  have rmc : r_Rm t tL_cell := ⟨by rw [hf]; exact Nat.le_of_ble_eq_true rfl, by rw [hlo]; exact Nat.le_of_ble_eq_true rfl⟩
  have rm7 : r_Rm t tX7_init := ⟨by rw [hf]; exact Nat.le_of_ble_eq_true rfl, by rw [hlo]; exact Nat.le_of_ble_eq_true rfl⟩
  have rm8 : r_Rm t tX8_init := ⟨by rw [hf]; exact Nat.le_of_ble_eq_true rfl, by rw [hlo]; exact Nat.le_of_ble_eq_true rfl⟩
  generalize hx0 : r_cell0 L xs = x0
  obtain ⟨hok, -⟩ := cl_spec x0
  have e1 : z0.1.length + 1 = 1 := rfl
  have p1 : (r_push z0 (.inl 7)).1.length = 1 := rfl
  have a1 : r_at (r_push z0 (.inl 7)) 1 = some (.inl 7) := rfl
  have i7 := i_X7 (l := l) (w := w) (B := B) (x := x0) p1 a1
  have i8 := i_X8 (l := l) (w := w) (B := B) (m := mOf (cl x0)) (s8 := s8_ (cl x0)) (x := x0) (s8_len hok) (s8_at hok) (Mo_43 hok)
  have l8 : (rn (hL20 (cl x0) ++ oSts (cl x0) (cl x0)) (r_push z0 (.inl 7))).1.length + 1 = mOf (cl x0) := by
    have := s8_len hok
    unfold s8_ oC s1_ at this
    rw [plen1] at this
    exact this
  have s8e : s8_ (cl x0) = r_push (rn (hL20 (cl x0) ++ oSts (cl x0) (cl x0)) (r_push z0 (.inl 7))) (.inl 8) := rfl
  have fe : F_ (cl x0) = rn (oLoop (mOf (cl x0)) 6) (rn (mL43 (mOf (cl x0)) ++ [oI (mOf (cl x0)) 1 (nI (cl x0))]) (s8_ (cl x0))) := rfl
  have hinv := INV_F hok
  rw [fe] at hinv
  refine r_new C Ex cl_X7 (by decide) kc_L_7 kt_X7 kn_X7 (by rw [hce]; omega) (by rw [hsl]; omega) dL_law_0 ?_
  rw [e1]
  refine r_dup C dL_law_3 rfl ?_
  refine r_aload_n C dL_law_4 rfl (j := 0) rfl ?_
  refine r_iconst (v := 0) C dL_law_5 (by decide) ?_
  refine r_cellS C Ex hX hL kl_L_9 rmc (Nat.le_of_ble_eq_true rfl) (by rw [hce]; omega) (by rw [hsl]; omega) dL_law_6 ?_
  rw [hx0]
  refine r_callN (rest := [Value.ref (B + 1)]) C Ex [Value.int x0] ky_X7_init rfl rfl kl_L_15 ki_X7_init rm7 i7 rfl rfl (Nat.le_of_ble_eq_true rfl) (by rw [hce]; exact Nat.le_of_ble_eq_true rfl) (by rw [hsl]; exact Nat.le_of_ble_eq_true rfl) dL_law_9 (fun σ7 _ q7 => ?_)
  refine r_astore_n (lv' := [(1, Value.ref (B + 1)), (0, Value.ref b)]) C dL_law_12 rfl (by decide) rfl ?_
  refine r_new C Ex cl_X8 (by decide) kc_L_18 kt_X8 kn_X8 (by rw [hce]; exact Nat.le_of_ble_eq_true rfl) (by rw [hsl]; exact Nat.le_of_ble_eq_true rfl) dL_law_13 ?_
  have q8 : r_push σ7 (.inl 8) = s8_ (cl x0) := by rw [q7, s8e]
  have l7 : σ7.1.length + 1 = mOf (cl x0) := by rw [q7]; exact l8
  rw [q8, l7]
  clear q8 l7 q7 s8e l8
  refine r_dup C dL_law_16 rfl ?_
  refine r_aload_n C dL_law_17 rfl (j := 1) rfl ?_
  refine r_iconst (v := 0) C dL_law_18 (by decide) ?_
  refine r_cellS C Ex hX hL kl_L_9 rmc (Nat.le_of_ble_eq_true rfl) (by rw [hce]; exact Nat.le_of_ble_eq_true rfl) (by rw [hsl]; exact Nat.le_of_ble_eq_true rfl) dL_law_19 ?_
  rw [hx0]
  refine r_callN (rest := [Value.ref (B + mOf (cl x0))]) C Ex [Value.int x0] ky_X8_init rfl rfl kl_L_20 ki_X8_init rm8 i8 rfl rfl (Nat.le_of_ble_eq_true rfl) (by rw [hce]; exact Nat.le_of_ble_eq_true rfl) (by rw [hsl]; exact Nat.le_of_ble_eq_true rfl) dL_law_22 (fun σ8 _ q8 => ?_)
  rw [← q8] at hinv
  clear q8 fe i8 i7
  refine r_astore_n (lv' := [(2, Value.ref (B + mOf (cl x0))), (1, Value.ref (B + 1)), (0, Value.ref b)]) C dL_law_25 rfl (by decide) rfl ?_
  refine r_iconst (v := 1) C dL_law_26 (by decide) ?_
  refine r_istore_n (lv' := [(3, Value.int 1), (2, Value.ref (B + mOf (cl x0))), (1, Value.ref (B + 1)), (0, Value.ref b)]) C dL_law_27 rfl (by decide) rfl ?_
  have hw := law_loop (cs := 149) (sl := 9337) C Ex ht hX hL (by rw [hce]; omega) (by rw [hsl]; omega) hret hok L 0 σ8 (by omega) (by omega) hinv
  have e3 : nI (1 + 5 * 0) = 1 := rfl
  rw [e3] at hw
  exact r_loc (by simp) hw
end LC
