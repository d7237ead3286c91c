/-! The class's side: the shapes of all cells when there are n stations (n = 2 .. 6), and the state without the shapes -/
abbrev Ku : Type := (Nat → Nat → Int32) × (Nat → Nat → Int64) × (Nat → Nat → Nat)
def shSt (n : Nat) : List r_Sh := [.inl 6, .inl 5, .inr (0, 10), .inl 5, .inr (0, 4), .inr (0, 5), .inl 2, .inl 5, .inr (0, 4), .inr (1, n), .inl 2, .inl 5, .inr (0, 4), .inr (1, n)]
def shSts (n : Nat) : Nat → List r_Sh
  | 0 => []
  | k + 1 => shSts n k ++ shSt n
def shC : List r_Sh := [.inl 7, .inl 0, .inr (0, 400), .inl 4, .inr (0, 301), .inr (0, 301), .inr (0, 301), .inr (2, 301), .inr (0, 36), .inr (0, 36), .inl 3, .inr (0, 40), .inr (1, 40), .inr (1, 40), .inl 1, .inr (0, 700), .inr (0, 700), .inr (0, 700), .inl 5, .inr (0, 4)]
def shMo : List r_Sh := .inl 8 :: moTab.map (fun q => .inr (q.2.2.1, q.2.2.2))
def shp (n : Nat) : List r_Sh := shC ++ (.inr (3, n) :: shSts n n) ++ shMo
def atS (n a : Nat) : Option r_Sh := if a = 0 then none else (shp n)[a - 1]?
/-- where the reference's object lies -/
def mOf (n : Nat) : Nat := 22 + 14 * n
def okN (n : Nat) : Prop := 2 ≤ n ∧ n ≤ 6
theorem okN.cases {n : Nat} (h : okN n) {P : Nat → Prop} (h2 : P 2) (h3 : P 3) (h4 : P 4) (h5 : P 5) (h6 : P 6) : P n := by
  obtain ⟨a, b⟩ := h
  rcases (show n = 2 ∨ n = 3 ∨ n = 4 ∨ n = 5 ∨ n = 6 by omega) with rfl | rfl | rfl | rfl | rfl <;> assumption
theorem shp_len {n : Nat} (h : okN n) : (shp n).length = 65 + 14 * n := by
  refine h.cases (P := fun n => (shp n).length = 65 + 14 * n) ?_ ?_ ?_ ?_ ?_ <;> decide
def shOk (n : Nat) : Bool := (List.range (66 + 14 * n)).all (fun a => match atS n a with
  | some (.inl 5) => (decide (atS n (a + 1) = some (.inr (0, 4))) || decide (atS n (a + 1) = some (.inr (0, 10)))) && decide (a + 1 < mOf n) && decide (0 < a)
  | some (.inl 2) => (decide (atS n (a + 1) = some (.inl 5))) && (decide (atS n (a + 2) = some (.inr (0, 4)))) && (decide (atS n (a + 3) = some (.inr (1, n)))) && decide (a + 3 < mOf n) && decide (0 < a)
  | some (.inl 6) => (decide (atS n (a + 1) = some (.inl 5))) && (decide (atS n (a + 2) = some (.inr (0, 10)))) && (decide (atS n (a + 3) = some (.inl 5))) && (decide (atS n (a + 4) = some (.inr (0, 4)))) && (decide (atS n (a + 5) = some (.inr (0, 5)))) && decide (a + 13 < mOf n) && decide (0 < a) && (decide (atS n (a + 6) = some (.inl 2))) && (decide (atS n (a + 10) = some (.inl 2))) && decide (a = 22 + 14 * ((a - 22) / 14)) && decide ((a - 22) / 14 < n)
  | _ => true)
theorem shOk_all {n : Nat} (h : okN n) : shOk n = true := by
  refine h.cases (P := fun n => shOk n = true) ?_ ?_ ?_ ?_ ?_ <;> decide +kernel
theorem atS_lt {n a : Nat} {sh : r_Sh} (hn : okN n) (h : atS n a = some sh) : a < 66 + 14 * n := by
  unfold atS at h
  by_cases ha : a = 0
  · omega
  · rw [if_neg ha] at h
    have h1 := (List.getElem?_eq_some_iff.mp h).1
    rw [shp_len hn] at h1
    omega
theorem at_row {n a : Nat} (hn : okN n) (h : atS n a = some (.inl 5)) : (atS n (a + 1) = some (.inr (0, 4)) ∨ atS n (a + 1) = some (.inr (0, 10))) ∧ a + 1 < mOf n ∧ 0 < a := by
  have q := List.all_eq_true.mp (shOk_all hn) a (List.mem_range.mpr (atS_lt hn h))
  simp only [h, Bool.and_eq_true, Bool.or_eq_true, decide_eq_true_eq] at q
  exact ⟨q.1.1, q.1.2, q.2⟩
theorem at_frame {n a : Nat} (hn : okN n) (h : atS n a = some (.inl 2)) : atS n (a + 1) = some (.inl 5) ∧ atS n (a + 2) = some (.inr (0, 4)) ∧ atS n (a + 3) = some (.inr (1, n)) ∧ a + 3 < mOf n ∧ 0 < a := by
  have q := List.all_eq_true.mp (shOk_all hn) a (List.mem_range.mpr (atS_lt hn h))
  simp only [h, Bool.and_eq_true, decide_eq_true_eq] at q
  exact ⟨q.1.1.1.1, q.1.1.1.2, q.1.1.2, q.1.2, q.2⟩
theorem at_stat {n a : Nat} (hn : okN n) (h : atS n a = some (.inl 6)) : atS n (a + 1) = some (.inl 5) ∧ atS n (a + 2) = some (.inr (0, 10)) ∧ atS n (a + 3) = some (.inl 5) ∧ atS n (a + 4) = some (.inr (0, 4)) ∧ atS n (a + 5) = some (.inr (0, 5)) ∧ a + 13 < mOf n ∧ 0 < a ∧ atS n (a + 6) = some (.inl 2) ∧ atS n (a + 10) = some (.inl 2) ∧ a = 22 + 14 * ((a - 22) / 14) ∧ (a - 22) / 14 < n := by
  have q := List.all_eq_true.mp (shOk_all hn) a (List.mem_range.mpr (atS_lt hn h))
  simp only [h, Bool.and_eq_true, decide_eq_true_eq] at q
  obtain ⟨⟨⟨⟨⟨⟨⟨⟨⟨⟨q1, q2⟩, q3⟩, q4⟩, q5⟩, q6⟩, q7⟩, q8⟩, q9⟩, q10⟩, q11⟩ := q
  exact ⟨q1, q2, q3, q4, q5, q6, q7, q8, q9, q10, q11⟩
theorem at_st {n i : Nat} (hn : okN n) (hi : i < n) : atS n (22 + 14 * i) = some (.inl 6) := by
  have key : ∀ n, okN n → ∀ i, i < n → atS n (22 + 14 * i) = some (.inl 6) := by
    intro n hn
    refine hn.cases (P := fun n => ∀ i, i < n → atS n (22 + 14 * i) = some (.inl 6)) ?_ ?_ ?_ ?_ ?_ <;> decide
  exact key n hn i hi
theorem at_c {n a : Nat} {sh : r_Sh} (h : shC[a]? = some sh) : atS n (a + 1) = some sh := by
  unfold atS
  rw [if_neg (by omega), Nat.add_sub_cancel]
  unfold shp
  have h1 : a < shC.length := (List.getElem?_eq_some_iff.mp h).1
  rw [List.append_assoc, List.getElem?_append_left h1]
  exact h
theorem at_21 {n : Nat} : atS n 21 = some (.inr (3, n)) := rfl
/-- the references of the class's cells -/
def CoK (n : Nat) (κ : Ku) : Prop :=
  (κ.2.2 1 0 = 21 ∧ κ.2.2 1 1 = 2 ∧ κ.2.2 1 2 = 4 ∧ κ.2.2 1 3 = 11 ∧ κ.2.2 1 4 = 15 ∧ κ.2.2 1 5 = 19 ∧ κ.2.2 2 0 = 3 ∧ κ.2.2 4 0 = 5 ∧ κ.2.2 4 1 = 6 ∧ κ.2.2 4 2 = 7 ∧ κ.2.2 4 3 = 8 ∧ κ.2.2 4 5 = 9 ∧ κ.2.2 4 6 = 10 ∧ κ.2.2 11 0 = 12 ∧ κ.2.2 11 1 = 13 ∧ κ.2.2 11 2 = 14 ∧ κ.2.2 15 0 = 16 ∧ κ.2.2 15 1 = 17 ∧ κ.2.2 15 2 = 18) ∧
  (∀ a, atS n a = some (.inl 5) → κ.2.2 a 0 = a + 1) ∧ (∀ a, atS n a = some (.inl 2) → κ.2.2 a 4 = a + 1 ∧ κ.2.2 a 5 = a + 3) ∧
  (∀ a, atS n a = some (.inl 6) → κ.2.2 a 15 = a + 1 ∧ κ.2.2 a 16 = a + 3 ∧ κ.2.2 a 17 = a + 5 ∧ atS n (κ.2.2 a 13) = some (.inl 2) ∧ atS n (κ.2.2 a 14) = some (.inl 2)) ∧
  ∀ i, i < n → κ.2.2 21 i = 22 + 14 * i
def ki (κ : Ku) (a k : Nat) (x : Int32) : Ku := (fun a' k' => if a' = a ∧ k' = k then x else κ.1 a' k', κ.2)
def kl (κ : Ku) (a k : Nat) (x : Int64) : Ku := (κ.1, fun a' k' => if a' = a ∧ k' = k then x else κ.2.1 a' k', κ.2.2)
def kr (κ : Ku) (a k : Nat) (x : Nat) : Ku := (κ.1, κ.2.1, fun a' k' => if a' = a ∧ k' = k then x else κ.2.2 a' k')
/-- nothing from the reference's object on has changed -/
def Gr (n : Nat) (κ κ' : Ku) : Prop := ∀ a k, mOf n ≤ a → κ'.1 a k = κ.1 a k ∧ κ'.2.1 a k = κ.2.1 a k ∧ κ'.2.2 a k = κ.2.2 a k
theorem Gr.rf {n : Nat} {κ : Ku} : Gr n κ κ := fun _ _ _ => ⟨rfl, rfl, rfl⟩
theorem Gr.trans {n : Nat} {κ κ' κ'' : Ku} (h : Gr n κ κ') (h2 : Gr n κ' κ'') : Gr n κ κ'' := fun a k ha => ⟨(h2 a k ha).1.trans (h a k ha).1, (h2 a k ha).2.1.trans (h a k ha).2.1, (h2 a k ha).2.2.trans (h a k ha).2.2⟩
theorem Gr.i {n : Nat} {κ κ' : Ku} {a k : Nat} {x : Int32} (h : Gr n κ κ') (ha : a < mOf n) : Gr n κ (ki κ' a k x) := fun a' k' h' => ⟨by simp only [ki]; rw [if_neg (by omega)]; exact (h a' k' h').1, (h a' k' h').2⟩
theorem Gr.l {n : Nat} {κ κ' : Ku} {a k : Nat} {x : Int64} (h : Gr n κ κ') (ha : a < mOf n) : Gr n κ (kl κ' a k x) := fun a' k' h' => ⟨(h a' k' h').1, by simp only [kl]; rw [if_neg (by omega)]; exact (h a' k' h').2.1, (h a' k' h').2.2⟩
theorem Gr.r {n : Nat} {κ κ' : Ku} {a k x : Nat} (h : Gr n κ κ') (ha : a < mOf n) : Gr n κ (kr κ' a k x) := fun a' k' h' => ⟨(h a' k' h').1, (h a' k' h').2.1, by simp only [kr]; rw [if_neg (by omega)]; exact (h a' k' h').2.2⟩
theorem CoK.r {n : Nat} {κ : Ku} {a k x : Nat} (hn : okN n) (h : CoK n κ) (ha : atS n a = some (.inl 6)) (hk : k = 13 ∨ k = 14) (hx : atS n x = some (.inl 2)) : CoK n (kr κ a k x) := by
  have h22 : 22 ≤ a := by
    obtain ⟨-, -, -, -, -, -, -, -, -, h1, -⟩ := at_stat hn ha
    omega
  obtain ⟨⟨c1, c2, c3, c4, c5, c6, c7, c8, c9, c10, c11, c12, c13, c14, c15, c16, c17, c18, c19⟩, h5, h2, h6, hs⟩ := h
  have ne : ∀ a' k', (k' ≠ 13 ∧ k' ≠ 14 ∨ a' ≠ a) → (kr κ a k x).2.2 a' k' = κ.2.2 a' k' := fun a' k' q => if_neg (by omega)
  refine ⟨⟨?_, ?_, ?_, ?_, ?_, ?_, ?_, ?_, ?_, ?_, ?_, ?_, ?_, ?_, ?_, ?_, ?_, ?_, ?_⟩, fun b hb => ?_, fun b hb => ?_, fun b hb => ?_, fun i hi => ?_⟩
  all_goals try (rw [ne _ _ (by omega)]; assumption)
  · rw [ne _ _ (Or.inl (by omega))]; exact h5 b hb
  · rw [ne _ _ (Or.inl (by omega)), ne _ _ (Or.inl (by omega))]; exact h2 b hb
  · obtain ⟨q1, q2, q3, q4, q5⟩ := h6 b hb
    rw [ne _ _ (Or.inl (by omega)), ne _ _ (Or.inl (by omega)), ne _ _ (Or.inl (by omega))]
    refine ⟨q1, q2, q3, ?_, ?_⟩
    · by_cases hc : b = a ∧ 13 = k
      · show atS n (if b = a ∧ 13 = k then x else κ.2.2 b 13) = _
        rw [if_pos hc]; exact hx
      · show atS n (if b = a ∧ 13 = k then x else κ.2.2 b 13) = _
        rw [if_neg hc]; exact q4
    · by_cases hc : b = a ∧ 14 = k
      · show atS n (if b = a ∧ 14 = k then x else κ.2.2 b 14) = _
        rw [if_pos hc]; exact hx
      · show atS n (if b = a ∧ 14 = k then x else κ.2.2 b 14) = _
        rw [if_neg hc]; exact q5
  · rw [ne _ _ (Or.inr (by omega))]; exact hs i hi
section RWK
variable {X : r_X} {w : r_V} {B nL cells slots : Nat} {Q : State → Prop} {cc : ByteArray} {own : String} {pc : Nat} {lv : List (Nat × Value)} {rest st : List Value} {σ : r_S}
theorem r_getE (C : r_C X w B nL cc own) {a ci k index e : Nat} {fin : Bool} (hat : r_at σ a = some (.inl ci)) (F : r_Fa own index ci k fin) (hR : r_isR (kTf ci k) = true) (he : σ.2.2.2 a k = e) (hne : e ≠ 0) (hdg : decode cc pc = .ok (.getfield index, 3)) (kk : r_W X w B nL cells slots Q (pc + 3) lv (.ref (B + e) :: rest) σ) : r_W X w B nL cells slots Q pc lv (.ref (B + a) :: rest) σ := by
  subst he
  exact r_getR C hat F hR hne hdg kk
theorem r_aalE (C : r_C X w B nL cc own) {a ti n e : Nat} {cn : String} (hat : r_at σ a = some (.inr (ti, n))) (A : r_Ta ti (.object cn)) {i : Int32} (hin : vp_in i n) (he : σ.2.2.2 a i.toNatClampNeg = e) (hne : e ≠ 0) (hdg : decode cc pc = .ok (.aaload, 1)) (kk : r_W X w B nL cells slots Q (pc + 1) lv (.ref (B + e) :: rest) σ) : r_W X w B nL cells slots Q pc lv (.int i :: .ref (B + a) :: rest) σ := by
  subst he
  exact r_aald C hat A hin hne hdg kk
end RWK
def ZKI (n : Nat) (κ : Ku) (Q : Int32 → Ku → Prop) : Option Value → r_S → Prop := r_QI (shp n, κ) (fun z σ' => Gr n κ σ'.2 ∧ CoK n σ'.2 ∧ Q z σ'.2)
def ZKL (n : Nat) (κ : Ku) (Q : Int64 → Ku → Prop) : Option Value → r_S → Prop := r_QL (shp n, κ) (fun z σ' => Gr n κ σ'.2 ∧ CoK n σ'.2 ∧ Q z σ'.2)
def ZKV (n : Nat) (κ : Ku) (Q : Ku → Prop) : Option Value → r_S → Prop := r_QV (shp n, κ) (fun σ' => Gr n κ σ'.2 ∧ CoK n σ'.2 ∧ Q σ'.2)
def r_KI (l : Launch) (w : r_V) (B n : Nat) (t : r_T) (as : List Value) (κ : Ku) (Q : Int32 → Ku → Prop) : Prop := r_M l w B t as (shp n, κ) (ZKI n κ Q)
def r_KL (l : Launch) (w : r_V) (B n : Nat) (t : r_T) (as : List Value) (κ : Ku) (Q : Int64 → Ku → Prop) : Prop := r_M l w B t as (shp n, κ) (ZKL n κ Q)
def r_KV (l : Launch) (w : r_V) (B n : Nat) (t : r_T) (as : List Value) (κ : Ku) (Q : Ku → Prop) : Prop := r_M l w B t as (shp n, κ) (ZKV n κ Q)
