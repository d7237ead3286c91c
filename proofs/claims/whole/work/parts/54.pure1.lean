/-! the reference, pure: two passes and one; what is told bit by bit and by rows -/
def G3 (n T : Nat) (μ : Mu) : Prop := ∀ s r, s < n → r < n → fSends μ s (lN T) = true → ∀ a, μ.2 39 s = lN a → a ≤ T → T < a + 64 → (μ.2 43 (6 * s + r)).toBitVec.getLsbD (T - a) = false → fSends μ r (lN T) = false
def Q3 (μ2 ν : Mu) : Prop := (∀ j, ν.1 37 j = μ2.1 37 j) ∧ (∀ j, ν.2 39 j = μ2.2 39 j) ∧ (∀ j, ν.2 40 j = μ2.2 40 j) ∧ ∀ j, ν.2 43 j = μ2.2 43 j
section PU
variable {n T s r E : Nat} {μ ν : Mu} {t : Int64}
theorem Q3.sends (h : Q3 μ ν) (j : Nat) : fSends ν j t = fSends μ j t := by
  unfold fSends
  rw [h.1, h.2.1, h.2.2.1]
theorem Q3.g3 (h : Q3 μ ν) (hG : G3 n T μ) : G3 n T ν := by
  intro s r hs hr q1 a q2 q3 q4 q5
  rw [h.sends] at q1 ⊢
  rw [h.2.1] at q2
  rw [h.2.2.2] at q5
  exact hG s r hs hr q1 a q2 q3 q4 q5
theorem G3.two (hn : okN n) : G3 n T (fTwo n (lN T) μ) := by
  have hn6 := hn.2
  have main : ∀ i, i ≤ n → ∀ ν : Mu, (ν.1 = μ.1 ∧ (∀ g j, g ≠ 43 → ν.2 g j = μ.2 g j) ∧ ∀ s r, s < i → r < n → fSends μ s (lN T) = true → ∀ a, μ.2 39 s = lN a → a ≤ T → T < a + 64 → (ν.2 43 (6 * s + r)).toBitVec.getLsbD (T - a) = false → fSends μ r (lN T) = false) → True := fun _ _ _ _ => trivial
  have sd : ∀ ν : Mu, ν.1 = μ.1 → (∀ g j, g ≠ 43 → ν.2 g j = μ.2 g j) → ∀ j, fSends ν j (lN T) = fSends μ j (lN T) := fun ν h1 h2 j => by
    unfold fSends
    rw [h1, h2 39 j (by decide), h2 40 j (by decide)]
  have key := it_inv (f := fTwo1 n (lN T)) (hi := n) (P := fun i (ν : Mu) => ν.1 = μ.1 ∧ (∀ g j, g ≠ 43 → ν.2 g j = μ.2 g j) ∧ ∀ s r, s < i → r < n → fSends μ s (lN T) = true → ∀ a, μ.2 39 s = lN a → a ≤ T → T < a + 64 → (ν.2 43 (6 * s + r)).toBitVec.getLsbD (T - a) = false → fSends μ r (lN T) = false) (fun i ν hi q => by
    obtain ⟨q1, q2, q3⟩ := q
    unfold fTwo1
    by_cases hS : fSends ν i (lN T) = true
    · rw [if_pos hS]
      have inn := it_inv (f := fTwo2 n (lN T) i) (hi := n) (P := fun j (ρ : Mu) => ρ.1 = μ.1 ∧ (∀ g j, g ≠ 43 → ρ.2 g j = μ.2 g j) ∧ (∀ s r, s < i → r < n → fSends μ s (lN T) = true → ∀ a, μ.2 39 s = lN a → a ≤ T → T < a + 64 → (ρ.2 43 (6 * s + r)).toBitVec.getLsbD (T - a) = false → fSends μ r (lN T) = false) ∧ ∀ r, r < j → ∀ a, μ.2 39 i = lN a → a ≤ T → T < a + 64 → (ρ.2 43 (6 * i + r)).toBitVec.getLsbD (T - a) = false → fSends μ r (lN T) = false) (fun j ρ hj p => by
        obtain ⟨p1, p2, p3, p4⟩ := p
        have gv : ∀ x y : Nat, (fTwo2 n (lN T) i j ρ).2 43 (6 * x + y) = if 6 * x + y = 6 * i + j then (if fGood n (lN T) i j ρ then ρ.2 43 (6 * i + j) else ρ.2 43 (6 * i + j) ||| fBit (lN T) (ρ.2 39 i)) else ρ.2 43 (6 * x + y) := fun x y => by
          unfold fTwo2
          simp [ul]
        refine ⟨p1, fun g k hg => ?_, fun s r hs hr c1 a c2 c3 c4 c5 => ?_, fun r hr a c2 c3 c4 c5 => ?_⟩
        · unfold fTwo2
          show (if g = 43 ∧ k = 6 * i + j then _ else ρ.2 g k) = _
          rw [if_neg (fun c => hg c.1)]
          exact p2 g k hg
        · rw [gv, if_neg (by omega)] at c5
          exact p3 s r hs hr c1 a c2 c3 c4 c5
        · by_cases e : r = j
          · subst e
            rw [gv, if_pos rfl] at c5
            by_cases hg : fGood n (lN T) i r ρ = true
            · unfold fGood at hg
              simp only [Bool.and_eq_true, Bool.not_eq_true'] at hg
              rw [← sd ρ p1 p2]
              exact hg.2.1
            · rw [if_neg hg] at c5
              unfold fBit at c5
              rw [p2 39 i (by decide), c2, lN_sub c3, lN_i, Int64.toBitVec_or, BitVec.getLsbD_or, bit1 (by omega) (by omega)] at c5
              simp at c5
          · rw [gv, if_neg (by omega)] at c5
            exact p4 r (by omega) a c2 c3 c4 c5) n 0 ν (by omega) ⟨q1, q2, q3, fun r hr => absurd hr (by omega)⟩
      obtain ⟨p1, p2, p3, p4⟩ := inn
      refine ⟨p1, p2, fun s r hs hr c1 a c2 c3 c4 c5 => ?_⟩
      by_cases e : s = i
      · subst e
        exact p4 r hr a c2 c3 c4 c5
      · exact p3 s r (by omega) hr c1 a c2 c3 c4 c5
    · rw [if_neg hS]
      refine ⟨q1, q2, fun s r hs hr c1 a c2 c3 c4 c5 => ?_⟩
      by_cases e : s = i
      · subst e
        rw [← sd ν q1 q2] at c1
        exact absurd c1 hS
      · exact q3 s r (by omega) hr c1 a c2 c3 c4 c5) n 0 μ (by omega) ⟨rfl, fun _ _ _ => rfl, fun s r hs => absurd hs (by omega)⟩
  obtain ⟨k1, k2, k3⟩ := key
  intro s r hs hr q1 a q2 q3 q4 q5
  have e1 := sd _ k1 k2
  rw [show fSends (fTwo n (lN T) μ) s (lN T) = fSends μ s (lN T) from e1 s] at q1
  rw [show fSends (fTwo n (lN T) μ) r (lN T) = fSends μ r (lN T) from e1 r]
  rw [show (fTwo n (lN T) μ).2 39 s = μ.2 39 s from k2 39 s (by decide)] at q2
  exact k3 s r hs hr q1 a q2 q3 q4 q5
/-! one pass -/
def cWant (s r : Nat) (start : Int32) (μ : Mu) : Mu := ui μ 9 (6 * s + r) (if μ.1 9 (6 * s + r) < start then start else μ.1 9 (6 * s + r))
def cHold (s r : Nat) (p : Int32) (μ : Mu) : Mu := if μ.1 5 p.toNatClampNeg < μ.1 9 (6 * s + r) then μ else ui μ 7 p.toNatClampNeg 1
def cRel (s r : Nat) (t : Int64) (p : Nat) (μ : Mu) : Mu := if ¬ μ.1 7 p = 0 ∧ μ.1 2 p = nI s ∧ μ.1 3 p = nI r ∧ μ.1 5 p ≤ μ.1 9 (6 * s + r) then (if μ.1 5 p = μ.1 9 (6 * s + r) then ui (fHand (nI p) t μ) 9 (6 * s + r) (μ.1 9 (6 * s + r) + 1) else fHand (nI p) t μ) else μ
def cTake (s r : Nat) (t : Int64) (D : List Int32) (μ : Mu) : Mu := it (cRel s r t) 1 (pN μ) (D.foldl (fun ν p => cHold s r p ν) (cWant s r (μ.1 5 (μ.1 34 (4 * s)).toNatClampNeg) μ))
theorem it_snoc {α : Type} {f : Nat → α → α} : ∀ (k i : Nat) (a : α), it f i (k + 1) a = f (i + k) (it f i k a)
  | 0, i, a => rfl
  | k + 1, i, a => by
    show it f (i + 1) (k + 1) (f i a) = f (i + (k + 1)) (it f (i + 1) k (f i a))
    rw [it_snoc k (i + 1) (f i a), show i + 1 + k = i + (k + 1) by omega]
theorem ui_same {g k : Nat} {x : Int32} (h : μ.1 g k = x) : ui μ g k x = μ := by
  refine Prod.ext (funext fun g' => funext fun k' => ?_) rfl
  show (if g' = g ∧ k' = k then x else μ.1 g' k') = μ.1 g' k'
  by_cases q : g' = g ∧ k' = k
  · rw [if_pos q, q.1, q.2, h]
  · rw [if_neg q]
theorem ui_comm {g k g2 k2 : Nat} {x y : Int32} (h : g ≠ g2 ∨ k ≠ k2) : ui (ui μ g k x) g2 k2 y = ui (ui μ g2 k2 y) g k x := by
  refine Prod.ext (funext fun g' => funext fun k' => ?_) rfl
  show (if g' = g2 ∧ k' = k2 then y else if g' = g ∧ k' = k then x else μ.1 g' k') = (if g' = g ∧ k' = k then x else if g' = g2 ∧ k' = k2 then y else μ.1 g' k')
  by_cases q1 : g' = g2 ∧ k' = k2
  · rw [if_pos q1, if_neg (by omega), if_pos q1]
  · rw [if_neg q1, if_neg q1]
theorem ui_ul {g k g2 k2 : Nat} {x : Int32} {y : Int64} : ui (ul μ g k y) g2 k2 x = ul (ui μ g2 k2 x) g k y := rfl
theorem tell_comm {p k : Int32} {g i : Nat} {x : Int32} (hg : g ≠ 0 ∧ g ≠ 14 ∧ g ≠ 15) : fTell p k t (ui μ g i x) = ui (fTell p k t μ) g i x := by
  have e : (ui μ g i x).1 0 21 = μ.1 0 21 := if_neg (fun q => hg.1 q.1.symm)
  unfold fTell
  rw [e]
  split
  · rw [ui_comm (Or.inl hg.1)]
  · rw [ui_comm (g := g) (Or.inl hg.2.1), ui_comm (g := g) (Or.inl hg.2.2)]
    show ui (ul (ui _ g i x) 16 _ t) 0 21 _ = _
    rw [← ui_ul, ui_comm (Or.inl hg.1)]
theorem hand_comm {p g i : Nat} {x : Int32} (hp : p < 1000000) (hg : g ≠ 0 ∧ g ≠ 14 ∧ g ≠ 15) (h7 : g ≠ 7 ∨ i ≠ p) : fHand (nI p) t (ui μ g i x) = ui (fHand (nI p) t μ) g i x := by
  unfold fHand
  rw [nI_clampS hp, ui_comm h7, tell_comm hg]
/-- a pass leaves the other tables alone -/
theorem pass1 {start : Int32} : ∀ k, k ≤ 300 → (∀ g j, g ≠ 0 → g ≠ 7 → g ≠ 14 → g ≠ 15 → (it (fT1 s r start t) 1 k μ).1 g j = μ.1 g j) ∧ (∀ j, k < j → (it (fT1 s r start t) 1 k μ).1 7 j = μ.1 7 j)
  | 0, _ => ⟨fun _ _ _ _ _ _ => rfl, fun _ _ => rfl⟩
  | k + 1, hk => by
    obtain ⟨h1, h2⟩ := pass1 (start := start) k (by omega)
    rw [it_snoc]
    unfold fT1
    split
    · refine ⟨fun g j g0 g7 g14 g15 => by rw [fHand_1 ⟨g0, g7, g14, g15⟩]; exact h1 g j g0 g7 g14 g15, fun j hj => ?_⟩
      rw [fHand_7 (by omega), if_neg (by omega)]
      exact h2 j (by omega)
    · exact ⟨h1, fun j hj => h2 j (by omega)⟩
theorem T1_ui9 {start : Int32} {q : Nat} {x : Int32} : ∀ k, k ≤ 300 → it (fT1 s r start t) 1 k (ui μ 9 q x) = ui (it (fT1 s r start t) 1 k μ) 9 q x
  | 0, _ => rfl
  | k + 1, hk => by
    rw [it_snoc, it_snoc, T1_ui9 k (by omega)]
    generalize it (fT1 s r start t) 1 k μ = ν
    unfold fT1
    show (if ¬ ν.1 7 (1 + k) = 0 ∧ ν.1 2 (1 + k) = nI s ∧ ν.1 3 (1 + k) = nI r ∧ ¬ start ≤ ν.1 5 (1 + k) then _ else _) = _
    split
    · rw [hand_comm (by omega) (by decide) (Or.inl (by decide))]
    · rfl
theorem T1_hold {start W : Int32} {p : Nat} (hW : μ.1 9 (6 * s + r) = W) (hs : start = W) (hp : p < 1000000) : ∀ k, k ≤ 300 → it (fT1 s r start t) 1 k (cHold s r (nI p) μ) = cHold s r (nI p) (it (fT1 s r start t) 1 k μ) := by
  intro k hk
  have gen : ∀ k, k ≤ 300 → ∀ ν : Mu, it (fT1 s r start t) 1 k μ = ν → ν.1 9 (6 * s + r) = W ∧ ν.1 5 p = μ.1 5 p := by
    intro k hk ν hν
    induction k generalizing ν with
    | zero => rw [← hν]; exact ⟨hW, rfl⟩
    | succ k ih =>
      rw [it_snoc] at hν
      obtain ⟨a1, a2⟩ := ih (by omega) _ rfl
      rw [← hν]
      unfold fT1
      split
      · exact ⟨by rw [fHand_1 (by decide)]; exact a1, by rw [fHand_1 (by decide)]; exact a2⟩
      · exact ⟨a1, a2⟩
  by_cases c : μ.1 5 p < W
  · have e1 : cHold s r (nI p) μ = μ := by unfold cHold; rw [nI_clampS hp, hW, if_pos c]
    obtain ⟨a1, a2⟩ := gen k hk _ rfl
    have e2 : cHold s r (nI p) (it (fT1 s r start t) 1 k μ) = it (fT1 s r start t) 1 k μ := by unfold cHold; rw [nI_clampS hp, a1, a2, if_pos c]
    rw [e1, e2]
  · have e1 : cHold s r (nI p) μ = ui μ 7 p 1 := by unfold cHold; rw [nI_clampS hp, hW, if_neg c]
    have e2 : ∀ k, k ≤ 300 → cHold s r (nI p) (it (fT1 s r start t) 1 k μ) = ui (it (fT1 s r start t) 1 k μ) 7 p 1 := fun k hk => by
      obtain ⟨a1, a2⟩ := gen k hk _ rfl
      unfold cHold; rw [nI_clampS hp, a1, a2, if_neg c]
    rw [e1, e2 k hk]
    induction k with
    | zero => rfl
    | succ k ih =>
      rw [it_snoc, it_snoc, ih (by omega)]
      obtain ⟨a1, a2⟩ := gen k (by omega) _ rfl
      generalize it (fT1 s r start t) 1 k μ = ν at *
      by_cases e : 1 + k = p
      · have no : ∀ ρ : Mu, ρ.1 5 p = μ.1 5 p → fT1 s r start t (1 + k) ρ = ρ := fun ρ q => by
          unfold fT1
          rw [if_neg (fun c2 => c2.2.2.2 (by rw [e, q, hs]; exact Int32.not_lt.mp c))]
        rw [no _ a2, no _ (by exact a2)]
      · unfold fT1
        have g7 : (ui ν 7 p 1).1 7 (1 + k) = ν.1 7 (1 + k) := if_neg (fun q => e q.2)
        rw [g7]
        show (if ¬ ν.1 7 (1 + k) = 0 ∧ ν.1 2 (1 + k) = nI s ∧ ν.1 3 (1 + k) = nI r ∧ ¬ start ≤ ν.1 5 (1 + k) then _ else _) = _
        split
        · rw [hand_comm (by omega) (by decide) (Or.inr (fun q => e q.symm))]
        · rfl
theorem T1_holds {start W : Int32} (hs : start = W) : ∀ (D : List Int32) (ν : Mu), ν.1 9 (6 * s + r) = W → (∀ p ∈ D, ∃ q : Nat, p = nI q ∧ q < 1000000) → it (fT1 s r start t) 1 (pN μ) (D.foldl (fun ν p => cHold s r p ν) ν) = D.foldl (fun ν p => cHold s r p ν) (it (fT1 s r start t) 1 (pN μ) ν) ∨ 300 < pN μ
  | [], _, _, _ => Or.inl rfl
  | a :: D, ν, hν, hD => by
    by_cases hP : 300 < pN μ
    · exact Or.inr hP
    left
    obtain ⟨q, rfl, hq⟩ := hD a (by simp)
    have h9 : (cHold s r (nI q) ν).1 9 (6 * s + r) = W := by
      unfold cHold
      split
      · exact hν
      · exact hν
    have h := (T1_holds hs D (cHold s r (nI q) ν) h9 (fun p hp => hD p (by simp [hp]))).resolve_right hP
    simp only [List.foldl_cons]
    rw [h, T1_hold hν hs hq (pN μ) (by omega)]
end PU
