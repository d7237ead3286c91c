/-! take -/
def fT1 (s r : Nat) (start : Int32) (t : Int64) (p : Nat) (μ : Mu) : Mu := if ¬ μ.1 7 p = 0 ∧ μ.1 2 p = nI s ∧ μ.1 3 p = nI r ∧ ¬ start ≤ μ.1 5 p then fHand (nI p) t μ else μ
def fT3 (s r : Nat) (t : Int64) (p : Nat) (μ : Mu) : Mu := if ¬ μ.1 7 p = 0 ∧ μ.1 2 p = nI s ∧ μ.1 3 p = nI r ∧ μ.1 5 p = μ.1 9 (6 * s + r) then ui (fHand (nI p) t μ) 9 (6 * s + r) ((fHand (nI p) t μ).1 9 (6 * s + r) + 1) else μ
def mkd (s r : Nat) (p : Int32) (μ : Mu) : Mu := ui μ 7 p.toNatClampNeg (if μ.1 7 p.toNatClampNeg = 0 then (if μ.1 5 p.toNatClampNeg < μ.1 9 (6 * s + r) then 0 else 1) else 1)
def fT2 (s r : Nat) : Nat → Nat → Int32 → Int32 → Mu → Int32 × Mu
  | 0, _, bits, _, μ => (bits, μ)
  | j + 1, k, bits, at1, μ => if μ.2 43 (6 * s + r) &&& maskOf at1 (μ.1 4 (μ.1 34 (4 * s + k)).toNatClampNeg) = 0 then fT2 s r j (k + 1) (bits ||| ((1 : Int32) <<< (nI k &&& 31))) (at1 + μ.1 4 (μ.1 34 (4 * s + k)).toNatClampNeg) (mkd s r (μ.1 34 (4 * s + k)) μ) else fT2 s r j (k + 1) bits (at1 + μ.1 4 (μ.1 34 (4 * s + k)).toNatClampNeg) μ
def fTake1 (s r : Nat) (t : Int64) (μ : Mu) : Mu := if μ.1 5 (μ.1 34 (4 * s)).toNatClampNeg ≤ μ.1 9 (6 * s + r) then μ else ui (it (fT1 s r (μ.1 5 (μ.1 34 (4 * s)).toNatClampNeg) t) 1 (pN μ) μ) 9 (6 * s + r) (μ.1 5 (μ.1 34 (4 * s)).toNatClampNeg)
def fTake2 (s r : Nat) (μ : Mu) : Int32 × Mu := fT2 s r (μ.1 35 s).toNatClampNeg 0 0 1 μ
def fTake (s r : Nat) (t : Int64) (μ : Mu) : Int32 × Mu := ((fTake2 s r (fTake1 s r t μ)).1, it (fT3 s r t) 1 (pN μ) (fTake2 s r (fTake1 s r t μ)).2)
theorem hc_set {h h' : Nat → Int32} {p : Nat} (hp : ∀ i, i ≠ p → h' i = h i) : ∀ N, p < N → hc h' N + (if h p = 0 then 0 else 1) = hc h N + (if h' p = 0 then 0 else 1)
  | 0, q => absurd q (by omega)
  | N + 1, q => by
    simp only [hc]
    by_cases e : p = N
    · subst e
      have key : ∀ M, M ≤ p → hc h' M = hc h M := by
        intro M
        induction M with
        | zero => intro _; rfl
        | succ M ih => intro hM; simp only [hc]; rw [ih (by omega), hp M (by omega)]
      rw [key p (Nat.le_refl _)]
      omega
    · have := hc_set hp N (by omega)
      rw [hp N (fun q => e q.symm)]
      omega
section MF7
variable {l : Launch} {w : r_V} {B m n E : Nat} {μ : Mu}
/-- one payload's 'held' is set -/
theorem MI.held (h : MI n E μ) {p : Nat} {x : Int32} (E' : Nat) (hx : x = 0 ∨ (x = 1 ∧ 1 ≤ p ∧ p ≤ pN μ)) (hp : p < 301) (hE : E + (if x = 0 then 0 else 1) ≤ E' + (if μ.1 7 p = 0 then 0 else 1)) (hw : ¬ x = 0 → ∀ a b, μ.1 2 p = nI a → μ.1 3 p = nI b → a < n → b < n → μ.1 9 (6 * a + b) ≤ μ.1 5 p) : MI n E' (ui μ 7 p x) := by
  have g : ∀ i, (ui μ 7 p x).1 7 i = if i = p then x else μ.1 7 i := fun i => by simp [ui]
  refine ⟨h.n1, h.pay, h.coin, h.noi, ?_, h.wid, h.pl, h.nu, h.tr, h.dk, ⟨fun q => ?_, fun q a b q1 q2 q3 q4 q5 q6 q7 => ?_⟩, h.wh⟩
  · obtain ⟨e, e1, e2⟩ := h.ev
    have := hc_set (h := μ.1 7) (h' := (ui μ 7 p x).1 7) (p := p) (fun i hi => by rw [g, if_neg hi]) 301 hp
    rw [g p, if_pos rfl] at this
    exact ⟨e, e1, by omega⟩
  · rw [g]
    by_cases e : q = p
    · subst e
      rw [if_pos rfl]
      exact hx
    · rw [if_neg e]
      exact h.hb.1 q
  · rw [g] at q3
    by_cases e : q = p
    · subst e
      rw [if_pos rfl] at q3
      exact hw q3 a b q4 q5 q6 q7
    · rw [if_neg e] at q3
      exact h.hb.2 q a b q1 q2 q3 q4 q5 q6 q7
theorem MI.heldIn (h : MI n E μ) {p : Nat} (hp : ¬ μ.1 7 p = 0) : 1 ≤ p ∧ p ≤ pN μ := by
  rcases h.hb.1 p with q | q
  · exact absurd q hp
  · exact q.2
theorem MI.hand (h : MI n E μ) {p : Nat} {t : Int64} (hp : ¬ μ.1 7 p = 0) : MI n E (fHand (nI p) t μ) := by
  obtain ⟨p1, p2⟩ := h.heldIn hp
  have hP := h.pay.2
  have e1 : 1 ≤ E := by
    obtain ⟨e, q1, q2⟩ := h.ev
    have := hc_set (h := μ.1 7) (h' := (ui μ 7 p 0).1 7) (p := p) (fun i hi => by simp [ui, hi]) 301 (by omega)
    rw [if_neg hp] at this
    have q3 : (ui μ 7 p 0).1 7 p = 0 := by simp [ui]
    rw [if_pos q3] at this
    omega
  have h1 : MI n (E - 1) (ui μ 7 p 0) := h.held (E - 1) (Or.inl rfl) (by omega) (by rw [if_neg hp, if_pos rfl]; omega) (fun q => absurd rfl q)
  unfold fHand
  rw [nI_clampS (by omega)]
  have := h1.tell (nI p) 1 t
  rw [Nat.sub_add_cancel e1] at this
  exact this
theorem fHand_1 {p : Nat} {t : Int64} {g i : Nat} (hg : g ≠ 0 ∧ g ≠ 7 ∧ g ≠ 14 ∧ g ≠ 15) : (fHand (nI p) t μ).1 g i = μ.1 g i := by
  unfold fHand fTell
  split <;> simp [ui, ul, hg]
theorem fHand_0 {p : Nat} {t : Int64} {i : Nat} (hi : i ≠ 21) : (fHand (nI p) t μ).1 0 i = μ.1 0 i := by
  unfold fHand fTell
  split <;> simp [ui, ul, hi]
theorem fHand_7 {p : Nat} {t : Int64} (hp : p < 1000000) {i : Nat} : (fHand (nI p) t μ).1 7 i = if i = p then 0 else μ.1 7 i := by
  unfold fHand fTell
  rw [nI_clampS hp]
  split <;> simp [ui, ul]
theorem MI.t3 (hn : okN n) (h : MI n E μ) {s r p : Nat} {t : Int64} (hs : s < n) (hr : r < n) : MI n E (fT3 s r t p μ) := by
  unfold fT3
  split
  · rename_i c
    obtain ⟨c1, c2, c3, c4⟩ := c
    obtain ⟨p1, p2⟩ := h.heldIn c1
    have hP := h.pay.2
    have hH := h.hand (t := t) c1
    have g9 : ∀ i, (fHand (nI p) t μ).1 9 i = μ.1 9 i := fun i => fHand_1 (by decide)
    have gw : ∀ i, (ui (fHand (nI p) t μ) 9 (6 * s + r) ((fHand (nI p) t μ).1 9 (6 * s + r) + 1)).1 9 i = if i = 6 * s + r then μ.1 9 (6 * s + r) + 1 else μ.1 9 i := fun i => by simp [ui, g9]
    refine ⟨hH.n1, hH.pay, hH.coin, hH.noi, hH.ev, hH.wid, hH.pl, hH.nu, hH.tr, hH.dk, ⟨hH.hb.1, fun q a b q1 q2 q3 q4 q5 q6 q7 => ?_⟩, hH.wh⟩
    rw [gw]
    have q3' : ¬ (fHand (nI p) t μ).1 7 q = 0 := q3
    have q4' : μ.1 2 q = nI a := by rw [← q4]; exact (fHand_1 (by decide)).symm
    have q5' : μ.1 3 q = nI b := by rw [← q5]; exact (fHand_1 (by decide)).symm
    have q2' : q ≤ pN μ := by
      have : pN (fHand (nI p) t μ) = pN μ := by unfold pN; rw [fHand_0 (by decide)]
      rw [← this]; exact q2
    have e5 : (ui (fHand (nI p) t μ) 9 (6 * s + r) ((fHand (nI p) t μ).1 9 (6 * s + r) + 1)).1 5 q = μ.1 5 q := by
      show (fHand (nI p) t μ).1 5 q = _
      exact fHand_1 (by decide)
    rw [e5]
    rw [fHand_7 (by omega)] at q3'
    have hqp : q ≠ p := fun e => by rw [if_pos e] at q3'; exact q3' rfl
    rw [if_neg hqp] at q3'
    have old := h.hb.2 q a b q1 q2' q3' q4' q5' q6 q7
    by_cases e : 6 * a + b = 6 * s + r
    · have hn6 : a = s ∧ b = r := by
        have := hn.2
        constructor <;> omega
      obtain ⟨rfl, rfl⟩ := hn6
      rw [if_pos e]
      rw [e] at old
      obtain ⟨a1, b1, c1', k1, -, -, -, ek1, -, -, -, -, hk1⟩ := h.pl p p1 p2
      obtain ⟨a2, b2, c2', k2, -, -, -, ek2, -, -, -, -, hk2⟩ := h.pl q q1 q2'
      have hne : k1 ≠ k2 := by
        intro e2
        subst e2
        rcases Nat.lt_or_gt_of_ne hqp with hlt | hlt
        · have := h.nu.1 q p q1 hlt p2 (by rw [q4', c2]) (by rw [q5', c3])
          rw [ek1, ek2] at this
          exact absurd this (nI_nlt (Nat.le_refl _) (by omega))
        · have := h.nu.1 p q p1 hlt q2' (by rw [q4', c2]) (by rw [q5', c3])
          rw [ek1, ek2] at this
          exact absurd this (nI_nlt (Nat.le_refl _) (by omega))
      rw [← c4, ek1, ek2] at old
      rw [← c4, ek1, ek2, nI_1]
      have := (nI_leI (by omega) (by omega)).mp old
      exact nI_le (by omega) (by omega)
    · rw [if_neg e]
      exact old
  · exact h
theorem it_inv1 {α : Type} {f : Nat → α → α} {P : Nat → α → Prop} {hi : Nat} (hs : ∀ i a, 1 ≤ i → i < hi → P i a → P (i + 1) (f i a)) : ∀ (k i : Nat) (a : α), 1 ≤ i → i + k = hi → P i a → P hi (it f i k a)
  | 0, i, a, h1, h, q => by
    have : i = hi := by omega
    subst this
    exact q
  | k + 1, i, a, h1, h, q => it_inv1 hs k (i + 1) (f i a) (by omega) (by omega) (hs i a h1 (by omega) q)
/-- what the first pass leaves as it was, and what it has done up to p -/
def PT1 (n E s r : Nat) (start : Int32) (μ : Mu) (i : Nat) (ν : Mu) : Prop := MI n E ν ∧ (∀ g j, g ≠ 0 → g ≠ 7 → g ≠ 14 → g ≠ 15 → ν.1 g j = μ.1 g j) ∧ (∀ j, j ≠ 21 → ν.1 0 j = μ.1 0 j) ∧ ∀ q, 1 ≤ q → q < i → ¬ ν.1 7 q = 0 → ν.1 2 q = nI s → ν.1 3 q = nI r → start ≤ ν.1 5 q
theorem PT1.step {s r i : Nat} {start : Int32} {t : Int64} {ν : Mu} (hi : i < 1000000) (h : PT1 n E s r start μ i ν) : PT1 n E s r start μ (i + 1) (fT1 s r start t i ν) := by
  obtain ⟨h1, h2, h3, h4⟩ := h
  unfold fT1
  split
  · rename_i c
    refine ⟨h1.hand c.1, fun g j g0 g7 g14 g15 => by rw [fHand_1 ⟨g0, g7, g14, g15⟩]; exact h2 g j g0 g7 g14 g15, fun j hj => by rw [fHand_0 hj]; exact h3 j hj, fun q q1 q2 q3 q4 q5 => ?_⟩
    rw [fHand_7 hi] at q3
    by_cases e : q = i
    · rw [if_pos e] at q3; exact absurd rfl q3
    · rw [if_neg e] at q3
      rw [fHand_1 (by decide)] at q4 q5 ⊢
      exact h4 q q1 (by omega) q3 q4 q5
  · rename_i c
    refine ⟨h1, h2, h3, fun q q1 q2 q3 q4 q5 => ?_⟩
    by_cases e : q = i
    · subst e
      by_cases q6 : start ≤ ν.1 5 q
      · exact q6
      · exact absurd ⟨q3, q4, q5, q6⟩ c
    · exact h4 q q1 (by omega) q3 q4 q5
theorem MI.take1 (hn : okN n) (h : MI n E μ) {s r : Nat} {t : Int64} (hs : s < n) (hr : r < n) : MI n E (fTake1 s r t μ) ∧ (∀ g j, g ≠ 0 → g ≠ 7 → g ≠ 14 → g ≠ 15 → g ≠ 9 → (fTake1 s r t μ).1 g j = μ.1 g j) ∧ ∀ j, j ≠ 21 → (fTake1 s r t μ).1 0 j = μ.1 0 j := by
  unfold fTake1
  split
  · exact ⟨h, fun _ _ _ _ _ _ _ => rfl, fun _ _ => rfl⟩
  · have hP := h.pay.2
    generalize μ.1 5 (μ.1 34 (4 * s)).toNatClampNeg = start
    obtain ⟨h1, h2, h3, h4⟩ := it_inv1 (hi := pN μ + 1) (P := PT1 n E s r start μ) (fun i ν i1 i2 q => q.step (by omega)) (pN μ) 1 μ (Nat.le_refl 1) (by omega) ⟨h, fun _ _ _ _ _ _ => rfl, fun _ _ => rfl, fun q q1 q2 => absurd q2 (by omega)⟩
    generalize it (fT1 s r start t) 1 (pN μ) μ = ν at *
    have hpn : pN ν = pN μ := by unfold pN; rw [h3 5 (by decide)]
    refine ⟨⟨h1.n1, h1.pay, h1.coin, h1.noi, h1.ev, h1.wid, h1.pl, h1.nu, h1.tr, h1.dk, ⟨h1.hb.1, fun q a b q1 q2 q3 q4 q5 q6 q7 => ?_⟩, h1.wh⟩, fun g j g0 g7 g14 g15 g9 => ?_, fun j hj => ?_⟩
    · show (if 9 = 9 ∧ 6 * a + b = 6 * s + r then start else ν.1 9 (6 * a + b)) ≤ ν.1 5 q
      have q2' : q ≤ pN ν := q2
      by_cases e : 6 * a + b = 6 * s + r
      · rw [if_pos ⟨rfl, e⟩]
        have hab : a = s ∧ b = r := by
          have := hn.2
          constructor <;> omega
        exact h4 q q1 (by omega) q3 (by rw [← hab.1]; exact q4) (by rw [← hab.2]; exact q5)
      · rw [if_neg (fun c => e c.2)]
        exact h1.hb.2 q a b q1 q2' q3 q4 q5 q6 q7
    · show (if g = 9 ∧ j = 6 * s + r then start else ν.1 g j) = _
      rw [if_neg (fun c => g9 c.1)]
      exact h2 g j g0 g7 g14 g15
    · show ν.1 0 j = _
      exact h3 j hj
/-- what the marking leaves alone -/
def PT2 (n E : Nat) (μ : Mu) (ν : Mu) : Prop := MI n E ν ∧ (∀ g j, g ≠ 7 → ν.1 g j = μ.1 g j) ∧ ν.2 = μ.2
theorem PT2.mark {s r k : Nat} {ν : Mu} (hn : okN n) (hs : s < n) (hr : r < n) (hq : qTo μ s = nI r) (h : PT2 n E μ ν) (hk : k < (μ.1 35 s).toNatClampNeg) : PT2 n (E + 1) μ (mkd s r (ν.1 34 (4 * s + k)) ν) := by
  obtain ⟨h1, h2, h3⟩ := h
  have hn6 := hn.2
  obtain ⟨c, c4, e1, e2, -⟩ := h1.tr s hs
  have e1' : μ.1 35 s = nI c := by rw [← h2 35 s (by decide)]; exact e1
  rw [e1', nI_clampS (by omega)] at hk
  obtain ⟨p, p1, p2, p3, p4, p5⟩ := e2 k hk
  have hP := h1.pay.2
  have hq' : qTo ν s = nI r := by unfold qTo; rw [h2 3 _ (by decide), h2 34 _ (by decide)]; exact hq
  have p5' : ν.1 3 p = nI r := by rw [p5]; exact hq'
  unfold mkd
  rw [p1, nI_clampS (by omega)]
  refine ⟨h1.held (E + 1) ?_ (by omega) ?_ (fun q a b q1 q2 q3 q4 => ?_), fun g j g7 => ?_, h3⟩
  · split
    · split
      · exact Or.inl rfl
      · exact Or.inr ⟨rfl, p2, p3⟩
    · exact Or.inr ⟨rfl, p2, p3⟩
  · have k1 : (if (1 : Int32) = 0 then 0 else 1) = 1 := rfl
    have k0 : (if (0 : Int32) = 0 then 0 else 1) = 0 := rfl
    by_cases c0 : ν.1 7 p = 0
    · rw [if_pos c0, if_pos c0]
      by_cases c1 : ν.1 5 p < ν.1 9 (6 * s + r)
      · rw [if_pos c1, k0]; omega
      · rw [if_neg c1, k1]; omega
    · rw [if_neg c0, if_neg c0, k1]; omega
  · have hab : a = s ∧ b = r := by
      rw [p4] at q1
      rw [p5'] at q2
      exact ⟨(nI_inj (by omega) (by omega) q1).symm, (nI_inj (by omega) (by omega) q2).symm⟩
    obtain ⟨rfl, rfl⟩ := hab
    by_cases c0 : ν.1 7 p = 0
    · rw [if_pos c0] at q
      by_cases c1 : ν.1 5 p < ν.1 9 (6 * a + b)
      · rw [if_pos c1] at q; exact absurd rfl q
      · exact Int32.not_lt.mp c1
    · exact h1.hb.2 p a b p2 p3 c0 q1 q2 q3 q4
  · show (if g = 7 ∧ j = p then _ else ν.1 g j) = _
    rw [if_neg (fun c => g7 c.1)]
    exact h2 g j g7
theorem PT2.all {s r : Nat} (hn : okN n) (hs : s < n) (hr : r < n) (hq : qTo μ s = nI r) : ∀ (j k : Nat) (bits at1 : Int32) (ν : Mu) (E : Nat), k + j = (μ.1 35 s).toNatClampNeg → PT2 n E μ ν → PT2 n (E + j) μ (fT2 s r j k bits at1 ν).2
  | 0, k, bits, at1, ν, E, _, h => h
  | j + 1, k, bits, at1, ν, E, hk, h => by
    simp only [fT2]
    split
    · have := PT2.all hn hs hr hq j (k + 1) (bits ||| ((1 : Int32) <<< (nI k &&& 31))) (at1 + ν.1 4 (ν.1 34 (4 * s + k)).toNatClampNeg) _ (E + 1) (by omega) (h.mark (k := k) hn hs hr hq (by omega))
      rw [show E + (j + 1) = E + 1 + j by omega]
      exact this
    · have := PT2.all hn hs hr hq j (k + 1) bits (at1 + ν.1 4 (ν.1 34 (4 * s + k)).toNatClampNeg) ν (E + 1) (by omega) ⟨h.1.up (by omega), h.2⟩
      rw [show E + (j + 1) = E + 1 + j by omega]
      exact this
theorem MI.take2 (hn : okN n) (h : MI n E μ) {s r : Nat} (hs : s < n) (hr : r < n) (hq : qTo μ s = nI r) : PT2 n (E + 4) μ (fTake2 s r μ).2 := by
  have hl := (h.tr s hs).len
  have := PT2.all hn hs hr hq (μ.1 35 s).toNatClampNeg 0 0 1 μ E (by omega) ⟨h, fun _ _ _ => rfl, rfl⟩
  exact ⟨this.1.up (by omega), this.2⟩
theorem MI.take (hn : okN n) (h : MI n E μ) {s r : Nat} {t : Int64} (hs : s < n) (hr : r < n) (hq : qTo μ s = nI r) : MI n (E + 4) (fTake s r t μ).2 := by
  obtain ⟨h1, h2, h3⟩ := h.take1 hn (t := t) hs hr
  have hq1 : qTo (fTake1 s r t μ) s = nI r := by
    unfold qTo
    rw [h2 3 _ (by decide) (by decide) (by decide) (by decide) (by decide), h2 34 _ (by decide) (by decide) (by decide) (by decide) (by decide)]
    exact hq
  have h4 := (h1.take2 hn hs hr hq1).1
  exact it_inv1 (hi := pN μ + 1) (P := fun _ ν => MI n (E + 4) ν) (fun i ν _ _ q => MI.t3 hn q hs hr) (pN μ) 1 _ (Nat.le_refl 1) (by omega) h4
theorem k_take {s r : Nat} {t : Int64} (hn : okN n) (hs : s < n) (hr : r < n) (h : MI n E μ) (hE : E + 4 < 2 ^ 30) (hq : qTo μ s = nI r) : r_MI l w B m tX8_take [.int (nI s), .int (nI r), .long t] μ (fun z μ' => z = (fTake s r t μ).1 ∧ μ' = (fTake s r t μ).2) := by
  have hn6 := hn.2
  have hP := h.pay.2
  refine r_MI.of (by decide) (fun _ => Nat.le_of_ble_eq_true rfl) (fun X σ0 C Ex => ?_)
  refine u_X8_take_0 C Ex (fun z1 e1 => ?_)
  rw [six] at e1
  subst e1
  have v36 : vp_in (nI (6 * s + r)) 36 := vp_in_nI (by omega) (by decide)
  have c36 : (nI (6 * s + r)).toNatClampNeg = 6 * s + r := nI_clampS (by omega)
  have c6 : (nI s).toNatClampNeg = s := nI_clampS (by omega)
  rw [four0, nI_clampS (show 4 * s < 1000000 by omega), c36]
  obtain ⟨h1, h2, h3⟩ := h.take1 hn (t := t) hs hr
  have hq1 : qTo (fTake1 s r t μ) s = nI r := by
    unfold qTo
    rw [h2 3 _ (by decide) (by decide) (by decide) (by decide) (by decide), h2 34 _ (by decide) (by decide) (by decide) (by decide) (by decide)]
    exact hq
  have hpn1 : pN (fTake1 s r t μ) = pN μ := by unfold pN; rw [h3 5 (by decide)]
  have h4 := h1.take2 hn hs hr hq1
  -- the third pass
  have key3 : ∀ (k i : Nat) (ν : Mu), 1 ≤ i → i + k = pN μ + 1 → MI n (E + 4) ν → ν.1 0 5 = nI (pN μ) → it (fT3 s r t) i k ν = (fTake s r t μ).2 → r_Wm X w B 13 m σ0 (r_Z X w B tX8_take (ZMI m σ0 (fun z μ' => z = (fTake s r t μ).1 ∧ μ' = (fTake s r t μ).2))) 246 [(0, Value.ref (B + m)), (1, Value.int (nI s)), (2, Value.int (nI r)), (3, Value.long t), (5, Value.int (nI (6 * s + r))), (7, Value.int (fTake s r t μ).1), (9, Value.int (nI i))] [] ν := by
    intro k
    induction k with
    | zero =>
      intro i ν i1 hi hν h5 hF
      exact u_X8_take_246 C Ex ⟨fun _ => ⟨rfl, hF⟩, fun c => absurd (by rw [h5]; exact nI_lt (by omega) (by omega)) c⟩
    | succ k ih =>
      intro i ν i1 hi hν h5 hF
      have ihn := ih (i + 1) (fT3 s r t i ν) (by omega) (by omega) (MI.t3 hn hν hs hr) (by
        unfold fT3
        split
        · show (fHand (nI i) t ν).1 0 5 = _
          rw [fHand_0 (by decide)]
          exact h5
        · exact h5) hF
      have skip : ¬ (¬ ν.1 7 i = 0 ∧ ν.1 2 i = nI s ∧ ν.1 3 i = nI r ∧ ν.1 5 i = ν.1 9 (6 * s + r)) → ∀ z : Int32, z = nI i + 1 → r_Wm X w B 13 m σ0 (r_Z X w B tX8_take (ZMI m σ0 (fun z μ' => z = (fTake s r t μ).1 ∧ μ' = (fTake s r t μ).2))) 246 [(0, Value.ref (B + m)), (1, Value.int (nI s)), (2, Value.int (nI r)), (3, Value.long t), (5, Value.int (nI (6 * s + r))), (7, Value.int (fTake s r t μ).1), (9, Value.int z)] [] ν := by
        intro q z e
        rw [e, nI_1]
        unfold fT3 at ihn
        rw [if_neg q] at ihn
        exact ihn
      refine u_X8_take_246 C Ex ⟨fun c => absurd c (by rw [h5]; exact nI_nlt (by omega) (by omega)), fun _ => ⟨vp_in_nI (by omega) (by decide), ?_⟩⟩
      rw [nI_clampS (show i < 1000000 by omega), c36]
      refine ⟨fun c => skip (fun q => q.1 c), fun c => ⟨fun c1 => ⟨fun c2 => ⟨v36, fun c3 => ⟨_, k_hand (by omega) (hν.evIn (by omega)), fun μ12 q μ19 e19 z e => ?_⟩, fun c3 => skip (fun q => c3 q.2.2.2)⟩, fun c2 => skip (fun q => c2 q.2.2.1)⟩, fun c1 => skip (fun q => c1 q.2.1)⟩⟩
      rw [e, nI_1, e19, q]
      unfold fT3 at ihn
      rw [if_pos ⟨c, c1, c2, c3⟩] at ihn
      exact ihn
  have fin3 : r_Wm X w B 13 m σ0 (r_Z X w B tX8_take (ZMI m σ0 (fun z μ' => z = (fTake s r t μ).1 ∧ μ' = (fTake s r t μ).2))) 246 [(0, Value.ref (B + m)), (1, Value.int (nI s)), (2, Value.int (nI r)), (3, Value.long t), (5, Value.int (nI (6 * s + r))), (7, Value.int (fTake s r t μ).1), (9, Value.int 1)] [] (fTake2 s r (fTake1 s r t μ)).2 := by
    have h0 := key3 (pN μ) 1 (fTake2 s r (fTake1 s r t μ)).2 (Nat.le_refl 1) (by omega) h4.1 (by rw [h4.2.1 0 5 (by decide), h3 5 (by decide)]; exact h.pay.1) rfl
    exact h0
  -- the marking
  have key2 : ∀ (j k : Nat) (bits at1 : Int32) (ν : Mu) (E' : Nat), k + j = ((fTake1 s r t μ).1 35 s).toNatClampNeg → PT2 n E' (fTake1 s r t μ) ν → fT2 s r j k bits at1 ν = fTake2 s r (fTake1 s r t μ) → r_Wm X w B 13 m σ0 (r_Z X w B tX8_take (ZMI m σ0 (fun z μ' => z = (fTake s r t μ).1 ∧ μ' = (fTake s r t μ).2))) 122 [(0, Value.ref (B + m)), (1, Value.int (nI s)), (2, Value.int (nI r)), (3, Value.long t), (5, Value.int (nI (6 * s + r))), (7, Value.int bits), (8, Value.int at1), (9, Value.int (nI k))] [] ν := by
    intro j
    obtain ⟨c, c4, ec, -⟩ := h1.tr s hs
    rw [ec, nI_clampS (by omega)]
    induction j with
    | zero =>
      intro k bits at1 ν E' hk hν hF
      refine u_X8_take_122 C Ex ⟨vp_in_nI (by omega) (by decide), ?_⟩
      rw [c6, hν.2.1 35 s (by decide), ec]
      refine ⟨fun _ => ?_, fun q => absurd (nI_le (by omega) (by omega)) q⟩
      have e1 : bits = (fTake s r t μ).1 := by
        show _ = (fTake2 s r (fTake1 s r t μ)).1
        rw [← hF]
        rfl
      have e2 : ν = (fTake2 s r (fTake1 s r t μ)).2 := by rw [← hF]; rfl
      rw [e1, e2]
      exact fin3
    | succ j ih =>
      intro k bits at1 ν E' hk hν hF
      have hkc : k < c := by omega
      obtain ⟨c', c4', ec', ecc, -⟩ := hν.1.tr s hs
      have hcc : c' = c := by
        rw [hν.2.1 35 s (by decide), ec] at ec'
        exact (nI_inj (by omega) (by omega) ec').symm
      subst hcc
      obtain ⟨p, p1, p2, p3, -⟩ := ecc k hkc
      have hPν : pN ν ≤ 300 := hν.1.pay.2
      refine u_X8_take_122 C Ex ⟨vp_in_nI (by omega) (by decide), ?_⟩
      rw [c6, hν.2.1 35 s (by decide), ec]
      refine ⟨fun q => absurd q (nI_ge (by omega) (by omega)), fun _ => ?_⟩
      rw [four, nI_clampS (show 4 * s + k < 1000000 by omega)]
      refine ⟨vp_in_nI (by omega) (by decide), fun z4 e4 => ?_⟩
      subst e4
      refine ⟨by rw [p1]; exact vp_in_nI (by omega) (by decide), fun y7 e7 z9 e9 => ?_⟩
      rw [c36]
      refine ⟨v36, fun q z13 e13 z19 e19 => ⟨by rw [e19]; split <;> (try split) <;> simp, fun μ23 e23 z29 e29 => ?_⟩, fun q z31 e31 => ?_⟩
      · rw [e29, nI_1]
        refine ih (k + 1) z13 z9 μ23 (E' + 1) (by omega) ?_ ?_
        · rw [e23, e19]
          exact hν.mark hn hs hr hq1 (by rw [ec, nI_clampS (by omega)]; exact hkc)
        · rw [← hF]
          simp only [fT2]
          rw [e7] at q
          have q' : ν.2 43 (6 * s + r) &&& maskOf at1 (ν.1 4 (ν.1 34 (4 * s + k)).toNatClampNeg) = 0 := q
          rw [if_pos q', e13, e9, e23, e19]
          rfl
      · rw [e31, nI_1]
        refine ih (k + 1) bits z9 ν E' (by omega) hν ?_
        rw [← hF]
        simp only [fT2]
        rw [e7] at q
        have q' : ¬ ν.2 43 (6 * s + r) &&& maskOf at1 (ν.1 4 (ν.1 34 (4 * s + k)).toNatClampNeg) = 0 := q
        rw [if_neg q', e9]
  have fin2 : r_Wm X w B 13 m σ0 (r_Z X w B tX8_take (ZMI m σ0 (fun z μ' => z = (fTake s r t μ).1 ∧ μ' = (fTake s r t μ).2))) 122 [(0, Value.ref (B + m)), (1, Value.int (nI s)), (2, Value.int (nI r)), (3, Value.long t), (5, Value.int (nI (6 * s + r))), (7, Value.int 0), (8, Value.int 1), (9, Value.int 0)] [] (fTake1 s r t μ) :=
    key2 ((fTake1 s r t μ).1 35 s).toNatClampNeg 0 0 1 (fTake1 s r t μ) E (by omega) ⟨h1, fun _ _ _ => rfl, rfl⟩ rfl
  obtain ⟨p, ep, hp, -⟩ := h.tr0 hs
  refine ⟨vp_in_nI (by omega) (by decide), by rw [ep]; exact vp_in_nI (by omega) (by decide), fun z5 e5 => ⟨v36, fun c => ?_, fun c => ?_⟩⟩
  · rw [e5] at c
    have e : fTake1 s r t μ = μ := by unfold fTake1; rw [if_pos c]
    rw [e] at fin2
    exact fin2
  · subst e5
    have eT : fTake1 s r t μ = ui (it (fT1 s r (μ.1 5 (μ.1 34 (4 * s)).toNatClampNeg) t) 1 (pN μ) μ) 9 (6 * s + r) (μ.1 5 (μ.1 34 (4 * s)).toNatClampNeg) := by unfold fTake1; rw [if_neg c]
    have key1 : ∀ (k i : Nat) (ν : Mu), 1 ≤ i → i + k = pN μ + 1 → PT1 n E s r (μ.1 5 (μ.1 34 (4 * s)).toNatClampNeg) μ i ν → ui (it (fT1 s r (μ.1 5 (μ.1 34 (4 * s)).toNatClampNeg) t) i k ν) 9 (6 * s + r) (μ.1 5 (μ.1 34 (4 * s)).toNatClampNeg) = fTake1 s r t μ → r_Wm X w B 13 m σ0 (r_Z X w B tX8_take (ZMI m σ0 (fun z μ' => z = (fTake s r t μ).1 ∧ μ' = (fTake s r t μ).2))) 38 [(0, Value.ref (B + m)), (1, Value.int (nI s)), (2, Value.int (nI r)), (3, Value.long t), (5, Value.int (nI (6 * s + r))), (6, Value.int (μ.1 5 (μ.1 34 (4 * s)).toNatClampNeg)), (7, Value.int (nI i))] [] ν := by
      generalize μ.1 5 (μ.1 34 (4 * s)).toNatClampNeg = start
      intro k
      induction k with
      | zero =>
        intro i ν i1 hi hν hF
        have h5 : ν.1 0 5 = nI (pN μ) := by rw [hν.2.2.1 5 (by decide)]; exact h.pay.1
        refine u_X8_take_38 C Ex ⟨fun _ => ?_, fun c => absurd (by rw [h5]; exact nI_lt (by omega) (by omega)) c⟩
        rw [c36]
        refine ⟨v36, fun μ3 e3 => ?_⟩
        have : μ3 = fTake1 s r t μ := by rw [e3]; exact hF
        rw [this]
        exact fin2
      | succ k ih =>
        intro i ν i1 hi hν hF
        have h5 : ν.1 0 5 = nI (pN μ) := by rw [hν.2.2.1 5 (by decide)]; exact h.pay.1
        have ihn := ih (i + 1) (fT1 s r start t i ν) (by omega) (by omega) (hν.step (by omega)) hF
        have skip : ¬ (¬ ν.1 7 i = 0 ∧ ν.1 2 i = nI s ∧ ν.1 3 i = nI r ∧ ¬ start ≤ ν.1 5 i) → ∀ z : Int32, z = nI i + 1 → r_Wm X w B 13 m σ0 (r_Z X w B tX8_take (ZMI m σ0 (fun z μ' => z = (fTake s r t μ).1 ∧ μ' = (fTake s r t μ).2))) 38 [(0, Value.ref (B + m)), (1, Value.int (nI s)), (2, Value.int (nI r)), (3, Value.long t), (5, Value.int (nI (6 * s + r))), (6, Value.int start), (7, Value.int z)] [] ν := by
          intro q z e
          rw [e, nI_1]
          unfold fT1 at ihn
          rw [if_neg q] at ihn
          exact ihn
        refine u_X8_take_38 C Ex ⟨fun c => absurd c (by rw [h5]; exact nI_nlt (by omega) (by omega)), fun _ => ⟨vp_in_nI (by omega) (by decide), ?_⟩⟩
        rw [nI_clampS (show i < 1000000 by omega)]
        refine ⟨fun c => skip (fun q => q.1 c), fun c => ⟨fun c1 => ⟨fun c2 => ⟨fun c3 => skip (fun q => q.2.2.2 c3), fun c3 => ⟨_, k_hand (by omega) (hν.1.evIn (by omega)), fun μ12 q z e => ?_⟩⟩, fun c2 => skip (fun q => c2 q.2.2.1)⟩, fun c1 => skip (fun q => c1 q.2.1)⟩⟩
        rw [e, nI_1, q]
        unfold fT1 at ihn
        rw [if_pos ⟨c, c1, c2, c3⟩] at ihn
        exact ihn
    have h0 := key1 (pN μ) 1 μ (Nat.le_refl 1) (by omega) ⟨h, fun _ _ _ _ _ _ => rfl, fun _ _ => rfl, fun q q1 q2 => absurd q2 (by omega)⟩ eT.symm
    exact h0
end MF7
