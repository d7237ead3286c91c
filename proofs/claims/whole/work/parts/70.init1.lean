/-! the constructors, as rows of single deeds -/
abbrev Op : Type := r_Sh ⊕ (Nat × Nat × (Int32 ⊕ (Int64 ⊕ Nat)))
def oP (sh : r_Sh) : Op := .inl sh
def oI (a k : Nat) (x : Int32) : Op := .inr (a, k, .inl x)
def oL (a k : Nat) (x : Int64) : Op := .inr (a, k, .inr (.inl x))
def oR (a k r : Nat) : Op := .inr (a, k, .inr (.inr r))
def ap (σ : r_S) (o : Op) : r_S := match o with
  | .inl sh => r_push σ sh
  | .inr (a, k, .inl x) => r_ui σ a k x
  | .inr (a, k, .inr (.inl x)) => r_ul σ a k x
  | .inr (a, k, .inr (.inr r)) => r_ur σ a k r
def rn (L : List Op) (σ : r_S) : r_S := L.foldl ap σ
def oRow (a0 N c : Nat) : List Op := [oI a0 1 0, oP (.inr (0, N)), oR a0 0 (c + 1)]
def oFrame (a0 n c : Nat) : List Op := [oI a0 0 0, oI a0 1 0, oI a0 2 0, oI a0 3 0, oP (.inl 5)] ++ (oRow (c + 1) 4 (c + 1) ++ [oR a0 4 (c + 1), oP (.inr (1, n)), oR a0 5 (c + 3)])
def oSt (a0 n c : Nat) (x1 x2 : Int32) : List Op := [oI a0 3 3, oI a0 4 0, oI a0 5 0, oI a0 6 0, oI a0 7 3, oL a0 8 0, oI a0 9 0, oI a0 10 0, oL a0 11 0, oL a0 12 0, oP (.inl 5)] ++ (oRow (c + 1) 10 (c + 1) ++ ([oR a0 15 (c + 1), oP (.inl 5)] ++ (oRow (c + 3) 4 (c + 3) ++ ([oR a0 16 (c + 3), oP (.inr (0, 5)), oR a0 17 (c + 5), oI a0 18 0, oL a0 19 (-1), oI a0 0 x1, oI a0 1 ((1 : Int32) <<< (x1 &&& 31)), oI a0 2 ((((1 : Int32) <<< (x2 &&& 31)) - 1) ^^^ ((1 : Int32) <<< (x1 &&& 31))), oP (.inl 2)] ++ (oFrame (c + 6) n (c + 6) ++ ([oR a0 13 (c + 6), oP (.inl 2)] ++ (oFrame (c + 10) n (c + 10) ++ [oR a0 14 (c + 10)])))))))
section IN
variable {l : Launch} {w : r_V} {B a0 c N n : Nat} {σ : r_S}
theorem rn_app {L M : List Op} : rn (L ++ M) σ = rn M (rn L σ) := List.foldl_append
theorem i_X5 (hat : r_at σ a0 = some (.inl 5)) (hN : N ≤ 10) (hc : σ.1.length = c) : r_M l w B tX5_init [.ref (B + a0), .int (nI N)] σ (r_QN σ (fun σ' => σ' = rn (oRow a0 N c) σ)) := by
  refine r_enter (by decide) (Nat.le_of_ble_eq_true rfl) (fun X C E => ?_)
  refine c_X5_init_0 C E (r_Ex.of_eq rfl) ⟨hat, fun σ2 e2 => ⟨N, hN, rfl, fun b12 e12 σ9 e9 σ16 e16 => ?_⟩⟩
  subst e2
  have hb : b12 = c + 1 := e12.trans (congrArg (· + 1) hc)
  subst hb e9 e16
  rfl
theorem i_X2 (hat : r_at σ a0 = some (.inl 2)) (hN : n ≤ 6) (hc : σ.1.length = c) : r_M l w B tX2_init [.ref (B + a0), .int (nI n)] σ (r_QN σ (fun σ' => σ' = rn (oFrame a0 n c) σ)) := by
  refine r_enter (by decide) (Nat.le_of_ble_eq_true rfl) (fun X C E => ?_)
  refine c_X2_init_0 C E (r_Ex.of_eq rfl) ⟨hat, fun σ2 e2 σ6 e6 σ10 e10 σ14 e14 b21 e21 σ18 e18 => ?_⟩
  subst e2 e6 e10 e14
  have hb : b21 = c + 1 := e21.trans (congrArg (· + 1) hc)
  subst hb
  have hl18 : σ18.1.length = c + 1 := by
    rw [e18]
    show (σ.1 ++ [_]).length = c + 1
    rw [List.length_append, hc]
    rfl
  have hat18 : r_at σ18 (c + 1) = some (.inl 5) := by
    rw [e18, ← hc]
    exact r_at_new
  refine ⟨_, i_X5 (N := 4) hat18 (by omega) hl18, fun σ27 q27 σ33 e33 => ⟨n, hN, rfl, fun b43 e43 σ40 e40 σ47 e47 => ?_⟩⟩
  have hb : b43 = c + 3 := by
    rw [e43, e33, q27]
    show (σ18.1 ++ [_]).length + 1 = c + 3
    rw [List.length_append, hl18]
    rfl
  subst hb e47 e40 e33 q27 e18
  rfl
theorem i_X6 {x1 : Int32} (hat : r_at σ a0 = some (.inl 6)) (hN : n ≤ 6) (hc : σ.1.length = c) : r_M l w B tX6_init [.ref (B + a0), .int x1, .int (nI n)] σ (r_QN σ (fun σ' => σ' = rn (oSt a0 n c x1 (nI n)) σ)) := by
  refine r_enter (by decide) (Nat.le_of_ble_eq_true rfl) (fun X C E => ?_)
  refine c_X6_init_0 C E (r_Ex.of_eq rfl) ⟨hat, fun σ2 e2 σ6 e6 σ10 e10 σ14 e14 σ18 e18 σ22 e22 σ26 e26 σ30 e30 σ34 e34 σ38 e38 b45 e45 σ42 e42 => ?_⟩
  subst e2 e6 e10 e14 e18 e22 e26 e30 e34 e38
  have hb : b45 = c + 1 := e45.trans (congrArg (· + 1) hc)
  subst hb
  have hl42 : σ42.1.length = c + 1 := by
    rw [e42]
    show (σ.1 ++ [_]).length = c + 1
    rw [List.length_append, hc]
    rfl
  have hat42 : r_at σ42 (c + 1) = some (.inl 5) := by
    rw [e42, ← hc]
    exact r_at_new
  refine ⟨_, i_X5 (N := 10) hat42 (by omega) hl42, fun σ51 q51 σ57 e57 b64 e64 σ61 e61 => ?_⟩
  have hl57 : σ57.1.length = c + 2 := by
    rw [e57, q51]
    show (σ42.1 ++ [_]).length = c + 2
    rw [List.length_append, hl42]
    rfl
  have hb : b64 = c + 3 := by rw [e64, hl57]
  subst hb
  have hl61 : σ61.1.length = c + 3 := by
    rw [e61]
    show (σ57.1 ++ [_]).length = c + 3
    rw [List.length_append, hl57]
    rfl
  have hat61 : r_at σ61 (c + 3) = some (.inl 5) := by
    rw [e61, show c + 3 = σ57.1.length + 1 by omega]
    exact r_at_new
  refine ⟨_, i_X5 (N := 4) hat61 (by omega) hl61, fun σ70 q70 σ76 e76 b83 e83 σ80 e80 σ87 e87 σ91 e91 σ95 e95 σ99 e99 σ103 e103 σ107 e107 b114 e114 σ111 e111 => ?_⟩
  have hl76 : σ76.1.length = c + 4 := by
    rw [e76, q70]
    show (σ61.1 ++ [_]).length = c + 4
    rw [List.length_append, hl61]
    rfl
  have hb : b83 = c + 5 := by rw [e83, hl76]
  subst hb
  have hl107 : σ107.1.length = c + 5 := by
    rw [e107, e103, e99, e95, e91, e87, e80]
    show (σ76.1 ++ [_]).length = c + 5
    rw [List.length_append, hl76]
    rfl
  have hb : b114 = c + 6 := by rw [e114, hl107]
  subst hb
  have hl111 : σ111.1.length = c + 6 := by
    rw [e111]
    show (σ107.1 ++ [_]).length = c + 6
    rw [List.length_append, hl107]
    rfl
  have hat111 : r_at σ111 (c + 6) = some (.inl 2) := by
    rw [e111, show c + 6 = σ107.1.length + 1 by omega]
    exact r_at_new
  refine ⟨_, i_X2 hat111 hN hl111, fun σ120 q120 σ126 e126 b133 e133 σ130 e130 => ?_⟩
  have hl126 : σ126.1.length = c + 9 := by
    rw [e126, q120]
    show (((σ111.1 ++ [_]) ++ [_]) ++ [_]).length = c + 9
    rw [List.length_append, List.length_append, List.length_append, hl111]
    rfl
  have hb : b133 = c + 10 := by rw [e133, hl126]
  subst hb
  have hl130 : σ130.1.length = c + 10 := by
    rw [e130]
    show (σ126.1 ++ [_]).length = c + 10
    rw [List.length_append, hl126]
    rfl
  have hat130 : r_at σ130 (c + 10) = some (.inl 2) := by
    rw [e130, show c + 10 = σ126.1.length + 1 by omega]
    exact r_at_new
  refine ⟨_, i_X2 hat130 hN hl130, fun σ139 q139 σ145 e145 => ?_⟩
  have eg : r_gi σ103 a0 1 = (1 : Int32) <<< (x1 &&& 31) := by
    rw [e103]
    exact if_pos ⟨rfl, rfl⟩
  rw [eg] at e107
  show σ145 = rn _ σ
  rw [e145, q139, e130, e126, q120, e111, e107, e103, e99, e95, e91, e87, e80, e76, q70, e61, e57, q51, e42]
  rfl
end IN
