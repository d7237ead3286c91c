/-! the class's constructor -/
def oCoins (a0 c : Nat) : List Op := [oP (.inr (0, 400)), oR a0 0 (c + 1), oI a0 1 0, oI a0 2 0]
def oEv (a0 c : Nat) : List Op := [oP (.inr (0, 700)), oR a0 0 (c + 1), oP (.inr (0, 700)), oR a0 1 (c + 2), oP (.inr (0, 700)), oR a0 2 (c + 3), oI a0 3 0]
def oNo (a0 c : Nat) : List Op := [oP (.inr (0, 40)), oR a0 0 (c + 1), oP (.inr (1, 40)), oR a0 1 (c + 2), oP (.inr (1, 40)), oR a0 2 (c + 3), oI a0 3 0]
def oPay (a0 c : Nat) : List Op := [oP (.inr (0, 301)), oR a0 0 (c + 1), oP (.inr (0, 301)), oR a0 1 (c + 2), oP (.inr (0, 301)), oR a0 2 (c + 3), oP (.inr (2, 301)), oR a0 3 (c + 4), oI a0 4 0, oP (.inr (0, 36)), oR a0 5 (c + 5), oP (.inr (0, 36)), oR a0 6 (c + 6)]
section IO
variable {l : Launch} {w : r_V} {B a0 c N n : Nat} {σ : r_S}
theorem i_X0 (hat : r_at σ a0 = some (.inl 0)) (hc : σ.1.length = c) : r_M l w B tX0_init [.ref (B + a0)] σ (r_QN σ (fun σ' => σ' = rn (oCoins a0 c) σ)) := by
  refine r_enter (by decide) (Nat.le_of_ble_eq_true rfl) (fun X C E => ?_)
  refine c_X0_init_0 C E (r_Ex.of_eq rfl) (fun b4 e4 σ1 e1 => ?_)
  have hb : b4 = c + 1 := by rw [e4, hc]
  subst hb
  refine ⟨by rw [e1]; exact r_at_ext r_Ex.push hat, fun σ8 e8 σ12 e12 σ16 e16 => ?_⟩
  subst e16 e12 e8 e1
  rfl
theorem push_len {σ' : r_S} {sh : r_Sh} (h : σ.1.length = c) (e : σ' = r_push σ sh) : σ'.1.length = c + 1 := by
  rw [e]
  show (σ.1 ++ [_]).length = c + 1
  rw [List.length_append, h]
  rfl
theorem i_X1 (hat : r_at σ a0 = some (.inl 1)) (hc : σ.1.length = c) : r_M l w B tX1_init [.ref (B + a0)] σ (r_QN σ (fun σ' => σ' = rn (oEv a0 c) σ)) := by
  refine r_enter (by decide) (Nat.le_of_ble_eq_true rfl) (fun X C E => ?_)
  refine c_X1_init_0 C E (r_Ex.of_eq rfl) (fun b4 e4 σ1 e1 => ?_)
  have hb : b4 = c + 1 := by rw [e4, hc]
  subst hb
  refine ⟨by rw [e1]; exact r_at_ext r_Ex.push hat, fun σ8 e8 b15 e15 σ12 e12 σ19 e19 b26 e26 σ23 e23 σ30 e30 σ34 e34 => ?_⟩
  have l1 := push_len hc e1
  have l8 : σ8.1.length = c + 1 := by rw [e8]; exact l1
  have hb : b15 = c + 2 := by rw [e15, l8]
  subst hb
  have l12 := push_len l8 e12
  have l19 : σ19.1.length = c + 2 := by rw [e19]; exact l12
  have hb : b26 = c + 3 := by rw [e26, l19]
  subst hb
  subst e34 e30 e23 e19 e12 e8 e1
  rfl
theorem i_X3 (hat : r_at σ a0 = some (.inl 3)) (hc : σ.1.length = c) : r_M l w B tX3_init [.ref (B + a0)] σ (r_QN σ (fun σ' => σ' = rn (oNo a0 c) σ)) := by
  refine r_enter (by decide) (Nat.le_of_ble_eq_true rfl) (fun X C E => ?_)
  refine c_X3_init_0 C E (r_Ex.of_eq rfl) (fun b4 e4 σ1 e1 => ?_)
  have hb : b4 = c + 1 := by rw [e4, hc]
  subst hb
  refine ⟨by rw [e1]; exact r_at_ext r_Ex.push hat, fun σ8 e8 b15 e15 σ12 e12 σ19 e19 b26 e26 σ23 e23 σ30 e30 σ34 e34 => ?_⟩
  have l1 := push_len hc e1
  have l8 : σ8.1.length = c + 1 := by rw [e8]; exact l1
  have hb : b15 = c + 2 := by rw [e15, l8]
  subst hb
  have l12 := push_len l8 e12
  have l19 : σ19.1.length = c + 2 := by rw [e19]; exact l12
  have hb : b26 = c + 3 := by rw [e26, l19]
  subst hb
  subst e34 e30 e23 e19 e12 e8 e1
  rfl
theorem i_X4 (hat : r_at σ a0 = some (.inl 4)) (hc : σ.1.length = c) : r_M l w B tX4_init [.ref (B + a0)] σ (r_QN σ (fun σ' => σ' = rn (oPay a0 c) σ)) := by
  refine r_enter (by decide) (Nat.le_of_ble_eq_true rfl) (fun X C E => ?_)
  refine c_X4_init_0 C E (r_Ex.of_eq rfl) (fun b4 e4 σ1 e1 => ?_)
  have hb : b4 = c + 1 := by rw [e4, hc]
  subst hb
  refine ⟨by rw [e1]; exact r_at_ext r_Ex.push hat, fun σ8 e8 b15 e15 σ12 e12 σ19 e19 b26 e26 σ23 e23 σ30 e30 b37 e37 σ34 e34 σ41 e41 σ45 e45 b52 e52 σ49 e49 σ56 e56 b63 e63 σ60 e60 σ67 e67 => ?_⟩
  have l1 := push_len hc e1
  have l8 : σ8.1.length = c + 1 := by rw [e8]; exact l1
  have hb : b15 = c + 2 := by rw [e15, l8]
  subst hb
  have l12 := push_len l8 e12
  have l19 : σ19.1.length = c + 2 := by rw [e19]; exact l12
  have hb : b26 = c + 3 := by rw [e26, l19]
  subst hb
  have l23 := push_len l19 e23
  have l30 : σ30.1.length = c + 3 := by rw [e30]; exact l23
  have hb : b37 = c + 4 := by rw [e37, l30]
  subst hb
  have l34 := push_len l30 e34
  have l45 : σ45.1.length = c + 4 := by rw [e45, e41]; exact l34
  have hb : b52 = c + 5 := by rw [e52, l45]
  subst hb
  have l49 := push_len l45 e49
  have l56 : σ56.1.length = c + 5 := by rw [e56]; exact l49
  have hb : b63 = c + 6 := by rw [e63, l56]
  subst hb
  subst e67 e60 e56 e49 e45 e41 e34 e30 e23 e19 e12 e8 e1
  rfl
theorem i_min {x y : Int32} : r_M l w B tJ9_min_7cf53 [.int x, .int y] σ (r_QI σ (fun z σ' => σ' = σ ∧ z = if y < x then y else x)) := by
  refine r_enterF (by decide +kernel) (Nat.le_of_ble_eq_true rfl) (fun _ C E => ?_)
  refine w_J9_min_7cf53_0 C E rfl ?_
  exact ⟨fun c => ⟨rfl, by rw [if_pos c]⟩, fun c => ⟨rfl, by rw [if_neg c]⟩⟩
theorem i_max {x y : Int32} : r_M l w B tJ9_max_7cf53 [.int x, .int y] σ (r_QI σ (fun z σ' => σ' = σ ∧ z = if x < y then y else x)) := by
  refine r_enterF (by decide +kernel) (Nat.le_of_ble_eq_true rfl) (fun _ C E => ?_)
  refine w_J9_max_7cf53_0 C E rfl ?_
  exact ⟨fun c => ⟨rfl, by rw [if_pos c]⟩, fun c => ⟨rfl, by rw [if_neg c]⟩⟩
/-- how many stations there are -/
def cl (x : Int32) : Nat := if 2 ≤ x then (if x ≤ 6 then x.toNatClampNeg else 6) else 2
theorem cl_spec (x : Int32) : okN (cl x) ∧ (if 2 < (if x < 6 then x else 6) then (if x < 6 then x else 6) else 2) = nI (cl x) ∧ (2 ≤ x → x ≤ 6 → x = nI (cl x)) ∧ (2 ≤ x → ¬ x ≤ 6 → 6 = nI (cl x)) ∧ (¬ 2 ≤ x → 2 = nI (cl x)) := by
  unfold cl
  by_cases c2 : 2 ≤ x
  · rw [if_pos c2]
    by_cases c6 : x ≤ 6
    · rw [if_pos c6]
      obtain ⟨j, hj, rfl⟩ := nI_of2 (M := 6) (n := 6) rfl (fun q => by
        have := Int32.le_iff_toInt_le.mp c2
        have := Int32.lt_iff_toInt_lt.mp q
        have e2 : (2 : Int32).toInt = 2 := rfl
        have e0 : (0 : Int32).toInt = 0 := rfl
        omega) c6
      have hj2 : 2 ≤ j := (nI_leI (a := 2) (by omega) (by omega)).mp c2
      rw [nI_clampS (by omega)]
      refine ⟨⟨hj2, hj⟩, ?_, fun _ _ => rfl, fun _ q => absurd c6 q, fun q => absurd c2 q⟩
      have : j = 2 ∨ j = 3 ∨ j = 4 ∨ j = 5 ∨ j = 6 := by omega
      rcases this with rfl | rfl | rfl | rfl | rfl <;> decide +kernel
    · rw [if_neg c6]
      refine ⟨⟨by omega, by omega⟩, ?_, fun _ q => absurd q c6, fun _ _ => rfl, fun q => absurd c2 q⟩
      rw [if_neg (fun q => c6 (Int32.le_of_lt q))]
      decide +kernel
  · rw [if_neg c2]
    refine ⟨⟨by omega, by omega⟩, ?_, fun q => absurd q c2, fun q => absurd q c2, fun _ => rfl⟩
    have h1 : x < 2 := Int32.not_le.mp c2
    have h6 : x < 6 := Int32.lt_trans h1 (by decide)
    rw [if_pos h6, if_neg (fun q => c2 (Int32.le_of_lt q))]
    rfl
/-- nothing is made yet -/
def z0 : r_S := ([], fun _ _ => 0, fun _ _ => 0, fun _ _ => 0)
def oHead (n : Nat) : List Op := [oP (.inl 0)] ++ (oCoins 2 2 ++ ([oR 1 1 2, oP (.inl 4)] ++ (oPay 4 4 ++ ([oR 1 2 4, oP (.inl 3)] ++ (oNo 11 11 ++ ([oR 1 3 11, oP (.inl 1)] ++ (oEv 15 15 ++ ([oR 1 4 15, oP (.inl 5)] ++ (oRow 19 4 19 ++ [oR 1 5 19, oI 1 6 20, oL 1 7 0, oI 1 8 0, oP (.inr (3, n)), oR 1 0 21])))))))))
def oOne (n i : Nat) : List Op := [oP (.inl 6)] ++ (oSt (22 + 14 * i) n (22 + 14 * i) (nI i) (nI n) ++ [oR 21 i (22 + 14 * i)])
def oSts (n : Nat) : Nat → List Op
  | 0 => []
  | i + 1 => oSts n i ++ oOne n i
theorem rn_at {a : Nat} {sh : r_Sh} : ∀ (L : List Op) (σ : r_S), r_at σ a = some sh → r_at (rn L σ) a = some sh
  | [], _, h => h
  | o :: L, σ, h => by
    refine rn_at L (ap σ o) ?_
    rcases o with sh' | ⟨a', k', x | x | x⟩
    · exact r_at_ext r_Ex.push h
    · exact h
    · exact h
    · exact h
theorem rn_ex : ∀ (L : List Op) (σ : r_S), r_Ex σ (rn L σ)
  | [], _ => r_Ex.of_eq rfl
  | o :: L, σ => by
    have h1 : r_Ex σ (ap σ o) := by
      rcases o with sh' | ⟨a', k', x | x | x⟩
      · exact r_Ex.push
      · exact r_Ex.of_eq rfl
      · exact r_Ex.of_eq rfl
      · exact r_Ex.of_eq rfl
    exact h1.trans (rn_ex L (ap σ o))
def nR (a k : Nat) (o : Op) : Bool := match o with
  | .inr (a', k', .inr (.inr _)) => !(decide (a' = a) && decide (k' = k))
  | _ => true
theorem rn_gr {a k : Nat} : ∀ (L : List Op) (σ : r_S), L.all (nR a k) = true → a ≤ σ.1.length → r_gr (rn L σ) a k = r_gr σ a k
  | [], _, _, _ => rfl
  | o :: L, σ, h, ha => by
    rw [List.all_cons, Bool.and_eq_true] at h
    have h2 : a ≤ (ap σ o).1.length := by
      rcases o with sh' | ⟨a', k', x | x | x⟩
      · show a ≤ (σ.1 ++ [sh']).length
        rw [List.length_append]
        omega
      · exact ha
      · exact ha
      · exact ha
    have ih := rn_gr L (ap σ o) h.2 h2
    show r_gr (rn L (ap σ o)) a k = _
    rw [ih]
    rcases o with sh' | ⟨a', k', x | x | x⟩
    · show (if a = σ.1.length + 1 then 0 else σ.2.2.2 a k) = _
      rw [if_neg (by omega)]
      rfl
    · rfl
    · rfl
    · have h1 := h.1
      simp only [nR, Bool.not_eq_true', Bool.and_eq_false_iff, decide_eq_false_iff_not] at h1
      show (if a = a' ∧ k = k' then x else σ.2.2.2 a k) = _
      rw [if_neg (by omega)]
      rfl
theorem one_len {i : Nat} (h : σ.1.length = 21 + 14 * i) : (rn (oOne n i) σ).1.length = 21 + 14 * (i + 1) := by
  show (((((((((((((((σ.1 ++ [_]) ++ [_]) ++ [_]) ++ [_]) ++ [_]) ++ [_]) ++ [_]) ++ [_]) ++ [_]) ++ [_]) ++ [_]) ++ [_]) ++ [_]) ++ [_])).length = _
  simp only [List.length_append, List.length_cons, List.length_nil]
  omega
theorem i_loop {X : r_X} (C : r_C X w B 4 cX7_init RX7) (E : r_E X l tX7_init) {s1 : r_S} (hn6 : n ≤ 6) {L : List Op} : ∀ (k i : Nat) (σ : r_S), i + k = n → σ = rn (L ++ oSts n i) s1 → r_Ex s1 σ → σ.1.length = 21 + 14 * i → r_at σ 1 = some (.inl 7) → r_gr σ 1 0 = 21 → r_at σ 21 = some (.inr (3, n)) → r_W X w B 4 (20 + 14 * i) (3932 + 97 * i) (r_Z X w B tX7_init (r_QN s1 (fun σ' => σ' = rn (L ++ oSts n n) s1))) 97 [(0, Value.ref (B + 1)), (2, Value.int (nI n)), (3, Value.int (nI i))] [] σ := by
  intro k
  induction k with
  | zero =>
    intro i σ hi hσ hx hl h1 hg h21
    have hi : i = n := by omega
    subst hi
    refine c_X7_init_97 C E hx ⟨fun _ => ⟨?_, ?_, hσ⟩, fun c => absurd (nI_le (Nat.le_refl _) (by omega)) c⟩
    · show 20 + 14 * i ≤ 104; omega
    · show 3932 + 97 * i ≤ 4514; omega
  | succ k ih =>
    intro i σ hi hσ hx hl h1 hg h21
    refine c_X7_init_97 C E hx ⟨fun c => absurd c (nI_ge (by omega) (by omega)), fun _ => ⟨h1, n, by rw [hg]; exact h21, fun b7 e7 => ⟨?_, ?_, fun b15 e15 σ12 e12 => ?_⟩⟩⟩
    · show 20 + 14 * i + 1 ≤ 104; omega
    · show 3932 + 97 * i + 20 ≤ 4514; omega
    rw [hg] at e7
    subst e7
    have hb : b15 = 22 + 14 * i := by rw [e15, hl]; omega
    subst hb
    have l12 : σ12.1.length = 22 + 14 * i := by rw [push_len hl e12]; omega
    have at12 : r_at σ12 (22 + 14 * i) = some (.inl 6) := by
      rw [e12, show 22 + 14 * i = σ.1.length + 1 by omega]
      exact r_at_new
    refine ⟨_, i_X6 (x1 := nI i) at12 hn6 l12, ?_, ?_, fun σ22 q22 => ⟨vp_in_nI (by omega) (by omega), fun σ32 e32 z38 e38 => ?_⟩⟩
    · show 20 + 14 * i + 1 + 13 ≤ 104; omega
    · show 3932 + 97 * i + 20 + 77 ≤ 4514; omega
    rw [nI_clampS (by omega)] at e32
    have e32' : σ32 = rn (oOne n i) σ := by
      rw [e32, q22, e12]
      unfold oOne
      rw [rn_app, rn_app]
      rfl
    clear e32 q22 e12
    rw [e38, nI_1]
    have hσ' : σ32 = rn (L ++ oSts n (i + 1)) s1 := by
      rw [e32', hσ]
      show _ = rn (L ++ (oSts n i ++ oOne n i)) _
      rw [← List.append_assoc, rn_app (M := oOne n i)]
    have hx' : r_Ex s1 σ32 := by
      refine hx.trans ?_
      rw [e32']
      exact rn_ex _ _
    have hl' : σ32.1.length = 21 + 14 * (i + 1) := by rw [e32']; exact one_len hl
    have hg' : r_gr σ32 1 0 = 21 := by
      rw [e32', rn_gr (oOne n i) σ ?_ (by omega)]
      · exact hg
      · simp [oOne, oSt, oFrame, oRow, nR, oP, oI, oL, oR]
    have := ih (i + 1) σ32 (by omega) hσ' hx' hl' (by rw [e32']; exact rn_at _ _ h1) hg' (by rw [e32']; exact rn_at _ _ h21)
    rw [show 20 + 14 * (i + 1) = 20 + 14 * i + 14 by omega, show 3932 + 97 * (i + 1) = 3932 + 97 * i + 97 by omega] at this
    exact this
end IO
