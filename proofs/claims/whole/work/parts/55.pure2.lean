/-! the class's one walk over the payloads is the reference's two -/
section PV
variable {n T s r E : Nat} {μ ν : Mu} {t : Int64}
theorem T3_keep : ∀ k, k ≤ 300 → ∀ X : Mu, (∀ g j, g ≠ 0 → g ≠ 7 → g ≠ 9 → g ≠ 14 → g ≠ 15 → (it (fT3 s r t) 1 k X).1 g j = X.1 g j) ∧ (∀ j, k < j → (it (fT3 s r t) 1 k X).1 7 j = X.1 7 j)
  | 0, _, X => ⟨fun _ _ _ _ _ _ _ => rfl, fun _ _ => rfl⟩
  | k + 1, hk, X => by
    obtain ⟨h1, h2⟩ := T3_keep k (by omega) X
    rw [it_snoc]
    generalize it (fT3 s r t) 1 k X = Z at *
    unfold fT3
    split
    · refine ⟨fun g j g0 g7 g9 g14 g15 => ?_, fun j hj => ?_⟩
      · show (if g = 9 ∧ j = 6 * s + r then _ else (fHand (nI (1 + k)) t Z).1 g j) = _
        rw [if_neg (fun q => g9 q.1), fHand_1 ⟨g0, g7, g14, g15⟩]
        exact h1 g j g0 g7 g9 g14 g15
      · show (fHand (nI (1 + k)) t Z).1 7 j = _
        rw [fHand_7 (by omega), if_neg (by omega)]
        exact h2 j (by omega)
    · exact ⟨h1, fun j hj => h2 j (by omega)⟩
/-- nothing is at the wanted number: nothing is handed over -/
theorem T3_id : ∀ k, k ≤ 300 → ∀ X : Mu, (∀ p, 1 ≤ p → p ≤ k → X.1 2 p = nI s → X.1 3 p = nI r → ¬ X.1 5 p = X.1 9 (6 * s + r)) → it (fT3 s r t) 1 k X = X
  | 0, _, _, _ => rfl
  | k + 1, hk, X, h => by
    rw [it_snoc, T3_id k (by omega) X (fun p p1 p2 => h p p1 (by omega))]
    unfold fT3
    rw [if_neg]
    intro q
    exact h (1 + k) (by omega) (by omega) q.2.1 q.2.2.1 q.2.2.2
theorem one_pass {X : Mu} {W : Int32} (hW : X.1 9 (6 * s + r) = W) (hP : pN μ ≤ 300)
    (hn : ∀ p, 1 ≤ p → p ≤ pN μ → ∃ k : Nat, X.1 5 p = nI k ∧ k < 300)
    (hm : ∀ p q, 1 ≤ p → p < q → q ≤ pN μ → X.1 2 p = nI s → X.1 2 q = nI s → X.1 3 p = nI r → X.1 3 q = nI r → X.1 5 p < X.1 5 q) :
    ∀ k, k ≤ pN μ → it (cRel s r t) 1 k X = it (fT3 s r t) 1 k (it (fT1 s r W t) 1 k X) ∧ ∀ p', k < p' → p' ≤ pN μ → X.1 2 p' = nI s → X.1 3 p' = nI r → W ≤ X.1 5 p' → (it (cRel s r t) 1 k X).1 9 (6 * s + r) ≤ X.1 5 p'
  | 0, _ => ⟨rfl, fun p' _ _ _ _ h => by show X.1 9 (6 * s + r) ≤ _; rw [hW]; exact h⟩
  | k + 1, hk => by
    obtain ⟨ih1, ih2⟩ := one_pass hW hP hn hm k (by omega)
    obtain ⟨y1, y2⟩ := pass1 (s := s) (r := r) (t := t) (μ := X) (start := W) k (by omega)
    rw [it_snoc, it_snoc (f := fT3 s r t), it_snoc (f := fT1 s r W t)]
    generalize hY : it (fT1 s r W t) 1 k X = Y at *
    obtain ⟨z1, z2⟩ := T3_keep (s := s) (r := r) (t := t) k (by omega) Y
    have Y9 : Y.1 9 (6 * s + r) = W := by rw [y1 9 _ (by decide) (by decide) (by decide) (by decide)]; exact hW
    have hp1 : 1 ≤ 1 + k := by omega
    have hpP : 1 + k ≤ pN μ := by omega
    have Y2 : ∀ q, Y.1 2 q = X.1 2 q := fun q => y1 2 q (by decide) (by decide) (by decide) (by decide)
    have Y3 : ∀ q, Y.1 3 q = X.1 3 q := fun q => y1 3 q (by decide) (by decide) (by decide) (by decide)
    have Y5 : ∀ q, Y.1 5 q = X.1 5 q := fun q => y1 5 q (by decide) (by decide) (by decide) (by decide)
    obtain ⟨kp, ekp, hkp⟩ := hn (1 + k) hp1 hpP
    by_cases c : ¬ Y.1 7 (1 + k) = 0 ∧ Y.1 2 (1 + k) = nI s ∧ Y.1 3 (1 + k) = nI r ∧ ¬ W ≤ Y.1 5 (1 + k)
    · -- below the wanted number
      obtain ⟨c1, c2, c3, c4⟩ := c
      have c2' : X.1 2 (1 + k) = nI s := by rw [← Y2]; exact c2
      have c3' : X.1 3 (1 + k) = nI r := by rw [← Y3]; exact c3
      have c4' : X.1 5 (1 + k) < W := by rw [← Y5]; exact Int32.not_le.mp c4
      have low : ∀ q, 1 ≤ q → q ≤ k → X.1 2 q = nI s → X.1 3 q = nI r → ¬ X.1 5 q = W := fun q q1 q2 e2 e3 e5 => by
        have := hm q (1 + k) q1 (by omega) hpP e2 c2' e3 c3'
        rw [e5] at this
        exact Int32.lt_irrefl (Int32.lt_trans this c4')
      have eZ : it (fT3 s r t) 1 k Y = Y := T3_id k (by omega) Y (fun q q1 q2 e2 e3 => by
        rw [Y2] at e2
        rw [Y3] at e3
        rw [Y5, Y9]
        exact low q q1 q2 e2 e3)
      have e1 : fT1 s r W t (1 + k) Y = fHand (nI (1 + k)) t Y := by unfold fT1; rw [if_pos ⟨c1, c2, c3, c4⟩]
      have eZ2 : it (fT3 s r t) 1 k (fT1 s r W t (1 + k) Y) = fT1 s r W t (1 + k) Y := by
        rw [e1]
        refine T3_id k (by omega) _ (fun q q1 q2 e2 e3 => ?_)
        rw [fHand_1 (by decide), Y2] at e2
        rw [fHand_1 (by decide), Y3] at e3
        rw [fHand_1 (by decide), fHand_1 (by decide), Y5, Y9]
        exact low q q1 q2 e2 e3
      have e3 : fT3 s r t (1 + k) (fHand (nI (1 + k)) t Y) = fHand (nI (1 + k)) t Y := by
        unfold fT3
        rw [if_neg]
        intro q
        exact q.1 (by rw [fHand_7 (by omega), if_pos rfl])
      have eC : cRel s r t (1 + k) Y = fHand (nI (1 + k)) t Y := by
        unfold cRel
        rw [Y9, Y5, if_pos ⟨c1, c2, c3, by exact Int32.le_of_lt c4'⟩, if_neg (fun q => by rw [q] at c4'; exact Int32.lt_irrefl c4')]
      rw [ih1, eZ, eZ2, e1, e3, eC]
      refine ⟨rfl, fun p' q1 q2 q3 q4 q5 => ?_⟩
      rw [fHand_1 (by decide), Y9]
      exact q5
    · have e1 : fT1 s r W t (1 + k) Y = Y := by unfold fT1; rw [if_neg c]
      rw [e1, ih1]
      rw [ih1] at ih2
      generalize hZ : it (fT3 s r t) 1 k Y = Z at *
      have Z2 : ∀ q, Z.1 2 q = X.1 2 q := fun q => by rw [z1 2 q (by decide) (by decide) (by decide) (by decide) (by decide)]; exact Y2 q
      have Z3 : ∀ q, Z.1 3 q = X.1 3 q := fun q => by rw [z1 3 q (by decide) (by decide) (by decide) (by decide) (by decide)]; exact Y3 q
      have Z5 : ∀ q, Z.1 5 q = X.1 5 q := fun q => by rw [z1 5 q (by decide) (by decide) (by decide) (by decide) (by decide)]; exact Y5 q
      have Z7 : Z.1 7 (1 + k) = Y.1 7 (1 + k) := z2 _ (by omega)
      have g9 : (fHand (nI (1 + k)) t Z).1 9 (6 * s + r) = Z.1 9 (6 * s + r) := fHand_1 (by decide)
      have eq : cRel s r t (1 + k) Z = fT3 s r t (1 + k) Z := by
        unfold cRel fT3
        by_cases d : ¬ Z.1 7 (1 + k) = 0 ∧ Z.1 2 (1 + k) = nI s ∧ Z.1 3 (1 + k) = nI r
        · obtain ⟨d1, d2, d3⟩ := d
          have hge : W ≤ X.1 5 (1 + k) := by
            by_cases q : W ≤ X.1 5 (1 + k)
            · exact q
            · exact absurd ⟨by rw [← Z7]; exact d1, by rw [Y2, ← Z2]; exact d2, by rw [Y3, ← Z3]; exact d3, by rw [Y5]; exact q⟩ c
          have hle := ih2 (1 + k) (by omega) hpP (by rw [← Z2]; exact d2) (by rw [← Z3]; exact d3) hge
          rw [Z5]
          by_cases q : X.1 5 (1 + k) = Z.1 9 (6 * s + r)
          · rw [if_pos ⟨d1, d2, d3, by rw [q]; exact Int32.le_refl _⟩, if_pos q, if_pos ⟨d1, d2, d3, q⟩, g9]
          · rw [if_neg (fun c => q (Int32.le_antisymm c.2.2.2 hle)), if_neg (fun c => q c.2.2.2)]
        · rw [if_neg (fun q => d ⟨q.1, q.2.1, q.2.2.1⟩), if_neg (fun q => d ⟨q.1, q.2.1, q.2.2.1⟩)]
      refine ⟨eq, fun p' q1 q2 q3 q4 q5 => ?_⟩
      have old := ih2 p' (by omega) q2 q3 q4 q5
      rw [eq]
      unfold fT3
      split
      · rename_i d
        show (if 9 = 9 ∧ 6 * s + r = 6 * s + r then (fHand (nI (1 + k)) t Z).1 9 (6 * s + r) + 1 else _) ≤ _
        rw [if_pos ⟨rfl, rfl⟩, g9, ← d.2.2.2, Z5, ekp, nI_1]
        obtain ⟨k', ek', hk'⟩ := hn p' (by omega) q2
        have := hm (1 + k) p' hp1 (by omega) q2 (by rw [← Z2]; exact d.2.1) q3 (by rw [← Z3]; exact d.2.2.1) q4
        rw [ekp, ek'] at this
        have := (nI_ltI (by omega) (by omega)).mp this
        rw [ek']
        exact nI_le (by omega) (by omega)
      · exact old
/-- which of the payloads are whole, as bits; at: where the next one begins -/
def gB (sl : Nat → Int32) (bd : Int64) : List Int32 → Int32 → Nat
  | [], _ => 0
  | p :: L, at1 => (if bd &&& maskOf at1 (sl p.toNatClampNeg) = 0 then 1 else 0) + 2 * gB sl bd L (at1 + sl p.toNatClampNeg)
theorem gB_lt {sl : Nat → Int32} {bd : Int64} : ∀ (L : List Int32) (a : Int32), gB sl bd L a < 2 ^ L.length
  | [], _ => by simp [gB]
  | p :: L, a => by
    have := gB_lt (sl := sl) (bd := bd) L (a + sl p.toNatClampNeg)
    simp only [gB, List.length_cons, Nat.pow_succ]
    split <;> omega
def lst (tr : Nat → Int32) : Nat → Nat → List Int32
  | _, 0 => []
  | i, j + 1 => tr i :: lst tr (i + 1) j
theorem lst_eq {tr : Nat → Int32} : ∀ (c i : Nat), (List.range c).map (fun k => tr (i + k)) = lst tr i c
  | 0, _ => rfl
  | c + 1, i => by
    rw [List.range_succ_eq_map, List.map_cons, List.map_map]
    show tr (i + 0) :: _ = tr i :: _
    rw [Nat.add_zero, ← lst_eq c (i + 1)]
    congr 1
    refine List.map_congr_left (fun k _ => ?_)
    show tr (i + (k + 1)) = tr (i + 1 + k)
    rw [show i + (k + 1) = i + 1 + k by omega]
theorem or_bits : ∀ k : Fin 4, ∀ b : Fin 16, b.val < 2 ^ k.val → nI b.val ||| ((1 : Int32) <<< (nI k.val &&& 31)) = nI (b.val + 2 ^ k.val) := by decide +kernel
theorem mkd_hold {p : Int32} (h : ν.1 7 p.toNatClampNeg = 0 ∨ ν.1 7 p.toNatClampNeg = 1) : mkd s r p ν = cHold s r p ν := by
  unfold mkd cHold
  by_cases c : ν.1 5 p.toNatClampNeg < ν.1 9 (6 * s + r)
  · rw [if_pos c, if_pos c]
    refine ui_same ?_
    rcases h with h | h
    · rw [if_pos h]; exact h
    · rw [if_neg (by rw [h]; decide)]; exact h
  · rw [if_neg c, if_neg c]
    split <;> rfl
theorem hold_01 {p : Int32} (h : ∀ q, ν.1 7 q = 0 ∨ ν.1 7 q = 1) : ∀ q, (cHold s r p ν).1 7 q = 0 ∨ (cHold s r p ν).1 7 q = 1 := by
  intro q
  unfold cHold
  split
  · exact h q
  · show (if 7 = 7 ∧ q = p.toNatClampNeg then (1 : Int32) else ν.1 7 q) = 0 ∨ (if 7 = 7 ∧ q = p.toNatClampNeg then (1 : Int32) else ν.1 7 q) = 1
    split
    · exact Or.inr rfl
    · exact h q
theorem hold_g {p : Int32} {g j : Nat} (hg : g ≠ 7) : (cHold s r p ν).1 g j = ν.1 g j := by
  unfold cHold
  split
  · rfl
  · exact if_neg (fun q => hg q.1)
theorem hold_2 {p : Int32} : (cHold s r p ν).2 = ν.2 := by
  unfold cHold
  split <;> rfl
theorem fT2_eq {c : Nat} (hc : c ≤ 4) {tr sl : Nat → Int32} {bd : Int64} : ∀ (j k : Nat) (at1 : Int32) (b0 : Nat) (ν : Mu), k + j = c → b0 < 2 ^ k → (∀ q, ν.1 7 q = 0 ∨ ν.1 7 q = 1) → (∀ q, ν.1 34 q = tr q) → (∀ q, ν.1 4 q = sl q) → ν.2 43 (6 * s + r) = bd → fT2 s r j k (nI b0) at1 ν = (nI (b0 + 2 ^ k * gB sl bd (lst tr (4 * s + k) j) at1), (sel (gB sl bd (lst tr (4 * s + k) j) at1) (lst tr (4 * s + k) j)).foldl (fun ν p => cHold s r p ν) ν)
  | 0, k, at1, b0, ν, _, _, _, _, _, _ => by
    show (nI b0, ν) = (nI (b0 + 2 ^ k * 0), ν)
    rw [Nat.mul_zero, Nat.add_zero]
  | j + 1, k, at1, b0, ν, hk, hb, h01, h34, h4, h43 => by
    have hk4 : k < 4 := by omega
    have hb16 : b0 < 16 := Nat.lt_of_lt_of_le hb (by have : 2 ^ k ≤ 2 ^ 4 := Nat.pow_le_pow_right (by omega) (by omega); omega)
    simp only [fT2, lst, gB, sel]
    rw [h43, h34, h4]
    by_cases c0 : bd &&& maskOf at1 (sl (tr (4 * s + k)).toNatClampNeg) = 0
    · rw [if_pos c0, if_pos c0, or_bits ⟨k, hk4⟩ ⟨b0, hb16⟩ hb, mkd_hold (h01 _)]
      have ih := fT2_eq hc (tr := tr) (sl := sl) (bd := bd) j (k + 1) (at1 + sl (tr (4 * s + k)).toNatClampNeg) (b0 + 2 ^ k) (cHold s r (tr (4 * s + k)) ν) (by omega) (by rw [Nat.pow_succ]; omega) (hold_01 h01) (fun q => by rw [hold_g (by decide)]; exact h34 q) (fun q => by rw [hold_g (by decide)]; exact h4 q) (by rw [hold_2]; exact h43)
      rw [ih]
      generalize gB sl bd (lst tr (4 * s + (k + 1)) j) (at1 + sl (tr (4 * s + k)).toNatClampNeg) = G
      have m1 : (1 + 2 * G) % 2 = 1 := by omega
      have d1 : (1 + 2 * G) / 2 = G := by omega
      have e1 : b0 + 2 ^ k + 2 ^ (k + 1) * G = b0 + 2 ^ k * (1 + 2 * G) := by
        rw [Nat.pow_succ, Nat.mul_add, Nat.mul_one, Nat.mul_assoc]
        omega
      rw [if_pos m1, d1, e1]
      rfl
    · rw [if_neg c0, if_neg c0]
      have ih := fT2_eq hc (tr := tr) (sl := sl) (bd := bd) j (k + 1) (at1 + sl (tr (4 * s + k)).toNatClampNeg) b0 ν (by omega) (by rw [Nat.pow_succ]; omega) h01 h34 h4 h43
      rw [ih]
      generalize gB sl bd (lst tr (4 * s + (k + 1)) j) (at1 + sl (tr (4 * s + k)).toNatClampNeg) = G
      have m1 : ¬ (0 + 2 * G) % 2 = 1 := by omega
      have d1 : (0 + 2 * G) / 2 = G := by omega
      have e1 : b0 + 2 ^ (k + 1) * G = b0 + 2 ^ k * (0 + 2 * G) := by
        rw [Nat.pow_succ, Nat.zero_add, Nat.mul_assoc]
      rw [if_neg m1, d1, e1]
      rfl
theorem T1_id {start : Int32} : ∀ k, ∀ X : Mu, (∀ p, 1 ≤ p → p ≤ k → ¬ X.1 7 p = 0 → X.1 2 p = nI s → X.1 3 p = nI r → start ≤ X.1 5 p) → it (fT1 s r start t) 1 k X = X
  | 0, _, _ => rfl
  | k + 1, X, h => by
    rw [it_snoc, T1_id k X (fun p p1 p2 => h p p1 (by omega))]
    unfold fT1
    rw [if_neg]
    intro q
    exact q.2.2.2 (h (1 + k) (by omega) (by omega) q.1 q.2.1 q.2.2.1)
theorem holds_g {g j : Nat} (hg : g ≠ 7) : ∀ (D : List Int32) (ν : Mu), (D.foldl (fun ν p => cHold s r p ν) ν).1 g j = ν.1 g j
  | [], _ => rfl
  | a :: D, ν => by
    simp only [List.foldl_cons]
    rw [holds_g hg D, hold_g hg]
theorem sel_mem : ∀ (b : Nat) (L : List Int32), ∀ p ∈ sel b L, p ∈ L
  | _, [], p, h => by simp [sel] at h
  | b, a :: L, p, h => by
    simp only [sel, List.mem_append] at h
    rcases h with h | h
    · split at h
      · simp at h; simp [h]
      · simp at h
    · simp [sel_mem (b / 2) L p h]
/-- take, as the class does it -/
theorem take_eq (hn : okN n) (h : MI n E μ) (hs : s < n) (hr : r < n) : fTake s r t μ = (nI (gB (μ.1 4) (μ.2 43 (6 * s + r)) (tl (μ.1 34) (μ.1 35) s) 1), cTake s r t (sel (gB (μ.1 4) (μ.2 43 (6 * s + r)) (tl (μ.1 34) (μ.1 35) s) 1) (tl (μ.1 34) (μ.1 35) s)) μ) := by
  have hn6 := hn.2
  have hP := h.pay.2
  obtain ⟨c, c4, ec, -⟩ := h.tr s hs
  have hmem0 := (h.tr s hs).mem
  have etl : tl (μ.1 34) (μ.1 35) s = lst (μ.1 34) (4 * s) c := by
    unfold tl
    rw [ec, nI_clampS (by omega)]
    exact lst_eq c (4 * s)
  obtain ⟨m1, m2, m3⟩ := h.take1 hn (t := t) hs hr
  -- the wanted number
  generalize hst : μ.1 5 (μ.1 34 (4 * s)).toNatClampNeg = start
  generalize hW : (cWant s r start μ).1 9 (6 * s + r) = W
  have hW' : (if μ.1 9 (6 * s + r) < start then start else μ.1 9 (6 * s + r)) = W := by
    rw [← hW]
    exact (if_pos ⟨rfl, rfl⟩ : (if 9 = 9 ∧ 6 * s + r = 6 * s + r then (if μ.1 9 (6 * s + r) < start then start else μ.1 9 (6 * s + r)) else μ.1 9 (6 * s + r)) = _).symm
  have e1 : fTake1 s r t μ = it (fT1 s r W t) 1 (pN μ) (cWant s r start μ) := by
    unfold fTake1
    rw [hst]
    by_cases q : start ≤ μ.1 9 (6 * s + r)
    · have eW : W = μ.1 9 (6 * s + r) := by rw [← hW', if_neg (Int32.not_lt.mpr q)]
      have eC : cWant s r start μ = μ := by
        unfold cWant
        rw [if_neg (Int32.not_lt.mpr q)]
        exact ui_same rfl
      rw [if_pos q, eC, T1_id]
      intro p p1 p2 p3 p4 p5
      rw [eW]
      exact h.hb.2 p s r p1 p2 p3 p4 p5 hs hr
    · have eW : W = start := by rw [← hW', if_pos (Int32.not_le.mp q)]
      rw [if_neg q, eW, ← T1_ui9 (pN μ) hP]
      unfold cWant
      rw [if_pos (Int32.not_le.mp q)]
  have e2 : fTake2 s r (fTake1 s r t μ) = (nI (gB (μ.1 4) (μ.2 43 (6 * s + r)) (lst (μ.1 34) (4 * s) c) 1), (sel (gB (μ.1 4) (μ.2 43 (6 * s + r)) (lst (μ.1 34) (4 * s) c) 1) (lst (μ.1 34) (4 * s) c)).foldl (fun ν p => cHold s r p ν) (fTake1 s r t μ)) := by
    unfold fTake2
    have g35 : ((fTake1 s r t μ).1 35 s).toNatClampNeg = c := by
      rw [m2 35 s (by decide) (by decide) (by decide) (by decide) (by decide), ec, nI_clampS (by omega)]
    have g43 : (fTake1 s r t μ).2 43 (6 * s + r) = μ.2 43 (6 * s + r) := by
      rw [e1]
      exact it_inv1 (f := fT1 s r W t) (hi := pN μ + 1) (P := fun _ (ν : Mu) => ν.2 43 (6 * s + r) = μ.2 43 (6 * s + r)) (fun q ν _ _ h => by
        unfold fT1
        split
        · rw [fHand_2 (by decide)]; exact h
        · exact h) (pN μ) 1 _ (Nat.le_refl 1) (by omega) rfl
    rw [g35]
    have := fT2_eq (s := s) (r := r) (c := c) c4 (tr := μ.1 34) (sl := μ.1 4) (bd := μ.2 43 (6 * s + r)) c 0 1 0 (fTake1 s r t μ) (by omega) (by simp) (fun q => by
      rcases m1.hb.1 q with q | q
      · exact Or.inl q
      · exact Or.inr q.1) (fun q => m2 34 q (by decide) (by decide) (by decide) (by decide) (by decide)) (fun q => m2 4 q (by decide) (by decide) (by decide) (by decide) (by decide)) g43
    rw [nI_0] at this
    rw [this]
    simp
  have hmem : ∀ p ∈ lst (μ.1 34) (4 * s) c, ∃ q : Nat, p = nI q ∧ 1 ≤ q ∧ q ≤ pN μ ∧ μ.1 2 q = nI s ∧ μ.1 3 q = qTo μ s := by rw [← etl]; exact hmem0
  rw [etl]
  generalize hG : gB (μ.1 4) (μ.2 43 (6 * s + r)) (lst (μ.1 34) (4 * s) c) 1 = b at *
  have hD : ∀ p ∈ sel b (lst (μ.1 34) (4 * s) c), ∃ q : Nat, p = nI q ∧ q < 1000000 := fun p hp => by
    obtain ⟨q, e, q1, q2, -⟩ := hmem p (sel_mem _ _ p hp)
    exact ⟨q, e, by omega⟩
  unfold fTake cTake
  rw [e2, hst]
  refine Prod.ext rfl ?_
  show it (fT3 s r t) 1 (pN μ) ((sel b (lst (μ.1 34) (4 * s) c)).foldl (fun ν p => cHold s r p ν) (fTake1 s r t μ)) = it (cRel s r t) 1 (pN μ) ((sel b (lst (μ.1 34) (4 * s) c)).foldl (fun ν p => cHold s r p ν) (cWant s r start μ))
  have eh := (T1_holds (μ := μ) (s := s) (r := r) (t := t) (start := W) (W := W) rfl (sel b (lst (μ.1 34) (4 * s) c)) (cWant s r start μ) hW hD).resolve_right (by omega)
  rw [e1, ← eh]
  have g9 : ((sel b (lst (μ.1 34) (4 * s) c)).foldl (fun ν p => cHold s r p ν) (cWant s r start μ)).1 9 (6 * s + r) = W := by rw [holds_g (by decide)]; exact hW
  have gg : ∀ g j, g ≠ 7 → g ≠ 9 → ((sel b (lst (μ.1 34) (4 * s) c)).foldl (fun ν p => cHold s r p ν) (cWant s r start μ)).1 g j = μ.1 g j := fun g j g7 g9 => by
    rw [holds_g g7]
    exact if_neg (fun q => g9 q.1)
  refine ((one_pass (μ := μ) (s := s) (r := r) (t := t) g9 hP (fun p p1 p2 => ?_) (fun p q p1 pq q2 a1 a2 a3 a4 => ?_) (pN μ) (Nat.le_refl _)).1).symm
  · obtain ⟨-, -, -, k, -, -, -, ek, -, -, -, -, hk⟩ := h.pl p p1 p2
    exact ⟨k, by rw [gg 5 p (by decide) (by decide)]; exact ek, hk⟩
  · rw [gg 2 _ (by decide) (by decide)] at a1 a2
    rw [gg 3 _ (by decide) (by decide)] at a3 a4
    rw [gg 5 _ (by decide) (by decide), gg 5 _ (by decide) (by decide)]
    exact h.nu.1 p q p1 pq q2 (a1.trans a2.symm) (a3.trans a4.symm)
end PV
