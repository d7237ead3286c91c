/-! run, and the methods that are asked from outside -/
def thr (μ : Mu) : Mu := ui μ 0 0 0
def stn (n : Nat) (x : Int32) : Bool := decide (0 ≤ x) && decide (x < nI n)
def fSlot (n : Nat) (μ : Mu) : Mu := ul (fFour n (μ.2 0 2) (fThree n (μ.2 0 2) (fTwo n (μ.2 0 2) (fOne n (μ.2 0 2) μ)))) 0 2 (μ.2 0 2 + 1)
def fRun (n k : Nat) (μ : Mu) : Mu := it (fun _ μ => fSlot n μ) 0 k μ
def aHear (n : Nat) (a b on : Int32) (μ : Mu) : Int32 × Mu := if stn n a = true ∧ stn n b = true then (if a = b then (-12, thr μ) else (if μ.1 1 (6 * a.toNatClampNeg + b.toNatClampNeg) = on then 1 else 0, ui (thr μ) 1 (6 * a.toNatClampNeg + b.toNatClampNeg) (if on = 0 then 1 else 0))) else (-11, thr μ)
def fCoin (x : Int32) (μ : Mu) : Mu := if 400 ≤ μ.1 0 14 then thr μ else ui (ui (thr μ) 10 (μ.1 0 14).toNatClampNeg x) 0 14 (μ.1 0 14 + 1)
def aCoin (x : Int32) (μ : Mu) : Int32 × Mu := if 0 ≤ x then ((fCoin x μ).1 0 14 - (fCoin x μ).1 0 15, fCoin x μ) else (-12, thr μ)
def aThr (x : Int32) (μ : Mu) : Int32 × Mu := if x < 0 ∨ ¬ x ≤ 100 then (-12, thr μ) else (μ.1 0 3, ui (thr μ) 0 3 x)
def fOffer (a b z : Int32) (μ : Mu) : Mu := ui (ui (ui (ui (ui (ui (ui (thr μ) 0 5 (μ.1 0 5 + 1)) 2 (pN μ + 1) a) 3 (pN μ + 1) b) 4 (pN μ + 1) z) 5 (pN μ + 1) (μ.1 8 (6 * a.toNatClampNeg + b.toNatClampNeg))) 8 (6 * a.toNatClampNeg + b.toNatClampNeg) (μ.1 8 (6 * a.toNatClampNeg + b.toNatClampNeg) + 1)) 6 (pN μ + 1) 1
def aOffer (n : Nat) (a b z : Int32) (μ : Mu) : Int32 × Mu := if stn n a = true ∧ stn n b = true then (if a = b ∨ z < 1 ∨ ¬ z ≤ 8 then (-12, thr μ) else if pN μ = 300 ∨ kc μ a.toNatClampNeg (pN μ) = 10 then (-14, thr μ) else (nI (pN μ + 1), if kc μ a.toNatClampNeg (pN μ) = 0 then fDraw a.toNatClampNeg (fOffer a b z μ) else fOffer a b z μ)) else (-11, thr μ)
def fNoiseA (x : Int32) (y : Int64) (k : Int32) (μ : Mu) : Mu := ui (ui (ul (ui (thr μ) 11 (nN μ) x) 12 (nN μ) y) 13 (nN μ) k) 0 17 (μ.1 0 17 + 1)
def aNoise (n : Nat) (x : Int32) (y : Int64) (k : Int32) (μ : Mu) : Int32 × Mu := if stn n x = true then (if y < μ.2 0 2 ∨ 1000000 < y ∨ k < 1 ∨ ¬ k ≤ 1000 then (-12, thr μ) else if nN μ = 40 then (-14, thr μ) else (μ.1 0 17 + 1, fNoiseA x y k μ)) else (-11, thr μ)
def aRun (n : Nat) (x : Int32) (μ : Mu) : Int32 × Mu := if x < 1 ∨ ¬ x ≤ 2000 then (-12, thr μ) else ((fRun n x.toNatClampNeg (thr μ)).1 0 21 - μ.1 0 21, fRun n x.toNatClampNeg (thr μ))
def aEvent (x k : Int32) (μ : Mu) : Int32 := if x < 0 ∨ μ.1 0 21 ≤ x ∨ 700 ≤ x ∨ k < 0 ∨ ¬ k ≤ 2 then -1 else if k = 0 then μ.1 14 x.toNatClampNeg else if k = 1 then μ.1 15 x.toNatClampNeg else (μ.2 16 x.toNatClampNeg).toInt32
def aState (n : Nat) (x k : Int32) (μ : Mu) : Int32 := if stn n x = true then (if k = 0 then μ.1 17 x.toNatClampNeg else if k = 1 then μ.1 19 x.toNatClampNeg else if k = 2 then μ.1 18 x.toNatClampNeg else if k = 3 then (if μ.2 22 x.toNatClampNeg ≤ μ.2 0 2 then 0 else (μ.2 22 x.toNatClampNeg - μ.2 0 2).toInt32) else if k = 4 then μ.1 37 x.toNatClampNeg else if k = 5 then μ.1 20 x.toNatClampNeg else if k = 6 then μ.1 21 x.toNatClampNeg else if k = 7 then nI (kc μ x.toNatClampNeg (pN μ)) else -12) else -11
def aSent (n : Nat) (x k : Int32) (μ : Mu) : Int32 := if stn n x = true then (if k < 1 ∨ ¬ k ≤ 4 then -12 else μ.1 33 ((4 * x + k) - 1).toNatClampNeg) else -11
section MFA
variable {l : Launch} {w : r_V} {B m n E : Nat} {μ : Mu}
theorem stn_iff (hn : okN n) {x : Int32} : stn n x = true ↔ ∃ j : Nat, j < n ∧ x = nI j := by
  have hn6 := hn.2
  unfold stn
  simp only [Bool.and_eq_true, decide_eq_true_eq]
  constructor
  · intro h
    rcases pk_ix x (n := n) (by omega) with q | q | q
    · exact absurd h.1 (Int32.not_le.mpr q)
    · exact absurd h.2 (Int32.not_lt.mpr q)
    · exact q
  · rintro ⟨j, h1, rfl⟩
    exact ⟨nI_pos' (by omega), nI_lt h1 (by omega)⟩
theorem stn_z {x z n1 : Int32} (h1 : n1 = nI n) (hz : z = if x < 0 then 0 else if n1 ≤ x then 0 else 1) : (z = 0 ↔ stn n x = false) ∧ (¬ z = 0 → stn n x = true) := by
  subst h1
  unfold stn
  rw [hz]
  by_cases c1 : x < 0
  · rw [if_pos c1, decide_eq_false (Int32.not_le.mpr c1)]
    simp
  · rw [if_neg c1, decide_eq_true (Int32.not_lt.mp c1)]
    by_cases c2 : nI n ≤ x
    · rw [if_pos c2, decide_eq_false (Int32.not_lt.mpr c2)]
      simp
    · rw [if_neg c2, decide_eq_true (Int32.not_le.mp c2)]
      simp
theorem MI.thr (h : MI n E μ) : MI n E (thr μ) := h
theorem six' {i j : Nat} (hi : i < 6) (hj : j < 6) : ((6 : Int32) * nI i + nI j).toNatClampNeg = 6 * (nI i).toNatClampNeg + (nI j).toNatClampNeg := by rw [six, nI_clampS (by omega), nI_clampS (by omega), nI_clampS (by omega)]
theorem k_hear {a b on : Int32} (hn : okN n) (h : MI n E μ) : r_MI l w B m tX8_hear [.int a, .int b, .int on] μ (fun z μ' => z = (aHear n a b on μ).1 ∧ μ' = (aHear n a b on μ).2) := by
  have hn6 := hn.2
  refine r_MI.of (by decide) (fun _ => Nat.le_of_ble_eq_true rfl) (fun X σ0 C Ex => ?_)
  refine u_X8_hear_0 C Ex (fun μ1 e1 => ?_)
  have h1 : μ1 = thr μ := e1
  refine ⟨_, k_isStation, fun z11 μ9 q => ?_⟩
  obtain ⟨rfl, e11⟩ := q
  obtain ⟨s1, s2⟩ := stn_z (n := n) (by rw [h1]; exact h.n1) e11
  unfold aHear
  refine ⟨fun c => ?_, fun c => ⟨_, k_isStation, fun z21 μ19 q => ?_⟩⟩
  · rw [if_neg (fun q => by rw [s1.mp c] at q; exact absurd q.1 (by decide))]
    exact ⟨rfl, h1⟩
  · obtain ⟨rfl, e21⟩ := q
    obtain ⟨t1, t2⟩ := stn_z (n := n) (by rw [h1]; exact h.n1) e21
    refine ⟨fun c' => ?_, fun c' => ?_⟩
    · rw [if_neg (fun q => by rw [t1.mp c'] at q; exact absurd q.2 (by decide))]
      exact ⟨rfl, h1⟩
    · rw [if_pos ⟨s2 c, t2 c'⟩]
      obtain ⟨i, hi, rfl⟩ := (stn_iff hn).mp (s2 c)
      obtain ⟨j, hj, rfl⟩ := (stn_iff hn).mp (t2 c')
      rw [six' (by omega) (by omega), six]
      refine ⟨fun q => ?_, fun q => ⟨vp_in_nI (by omega) (by decide), fun z31 e31 z36 e36 => ⟨by rw [e36]; exact ite10 _, fun μ40 e40 => ?_⟩⟩⟩
      · rw [if_pos q]
        exact ⟨rfl, h1⟩
      · rw [if_neg q, e31, e40, e36, h1]
        exact ⟨rfl, rfl⟩
theorem k_coin {x : Int32} (h : MI n E μ) : r_MI l w B m tX8_coin [.int x] μ (fun z μ' => z = (aCoin x μ).1 ∧ μ' = (aCoin x μ).2) := by
  refine r_MI.of (by decide) (fun _ => Nat.le_of_ble_eq_true rfl) (fun X σ0 C Ex => ?_)
  refine u_X8_coin_0 C Ex (fun μ1 e1 => ?_)
  have h1 : μ1 = thr μ := e1
  have g14 : μ1.1 0 14 = μ.1 0 14 := by rw [h1]; rfl
  unfold aCoin fCoin
  rw [g14]
  obtain ⟨a, b, ea, eb, hab, ha⟩ := h.coin
  refine ⟨fun c => ⟨fun c2 => ?_, fun c2 => ⟨?_, fun μ10 e10 μ16 e16 => ?_⟩⟩, fun c => ?_⟩
  · rw [if_pos c, if_pos c2, h1]
    exact ⟨rfl, rfl⟩
  · rw [ea] at c2 ⊢
    have : a < 400 := Nat.not_le.mp (fun q => c2 (nI_le (a := 400) q (by omega)))
    exact vp_in_nI this (by decide)
  · rw [if_pos c, if_neg c2]
    have g2 : μ10.1 0 14 = μ.1 0 14 := by rw [e10]; exact g14
    rw [g2] at e16
    rw [e16, e10, h1]
    exact ⟨rfl, rfl⟩
  · rw [if_neg c]
    exact ⟨rfl, h1⟩
theorem k_threshold {x : Int32} : r_MI l w B m tX8_threshold [.int x] μ (fun z μ' => z = (aThr x μ).1 ∧ μ' = (aThr x μ).2) := by
  refine r_MI.of (by decide) (fun _ => Nat.le_of_ble_eq_true rfl) (fun X σ0 C Ex => ?_)
  refine u_X8_threshold_0 C Ex (fun μ1 e1 => ?_)
  have h1 : μ1 = thr μ := e1
  unfold aThr
  refine ⟨fun c => ?_, fun c => ⟨fun c2 z9 e9 μ11 e11 => ?_, fun c2 => ?_⟩⟩
  · rw [if_pos (Or.inl c)]
    exact ⟨rfl, h1⟩
  · rw [if_neg (fun q => q.elim c (fun q => q c2)), e9, e11, h1]
    exact ⟨rfl, rfl⟩
  · rw [if_pos (Or.inr c2)]
    exact ⟨rfl, h1⟩
theorem k_noiseA {x k : Int32} {y : Int64} (hn : okN n) (h : MI n E μ) : r_MI l w B m tX8_noise [.int x, .long y, .int k] μ (fun z μ' => z = (aNoise n x y k μ).1 ∧ μ' = (aNoise n x y k μ).2) := by
  have hn6 := hn.2
  refine r_MI.of (by decide) (fun _ => Nat.le_of_ble_eq_true rfl) (fun X σ0 C Ex => ?_)
  refine u_X8_noise_0 C Ex (fun μ1 e1 => ?_)
  have h1 : μ1 = thr μ := e1
  refine ⟨_, k_isStation, fun z11 μ9 q => ?_⟩
  obtain ⟨rfl, e11⟩ := q
  obtain ⟨s1, s2⟩ := stn_z (n := n) (by rw [h1]; exact h.n1) e11
  have g2 : μ9.2 0 2 = μ.2 0 2 := by rw [h1]; rfl
  have g17 : μ9.1 0 17 = nI (nN μ) := by rw [h1]; exact h.noi.1
  have hN := h.noi.2
  unfold aNoise
  refine ⟨fun c => ?_, fun c => ?_⟩
  · rw [if_neg (fun q => by rw [s1.mp c] at q; exact absurd q (by decide))]
    exact ⟨rfl, h1⟩
  · rw [if_pos (s2 c), g2]
    refine ⟨fun c1 => ?_, fun c1 => ⟨fun c2 => ?_, fun c2 => ⟨fun c3 => ?_, fun c3 => ⟨fun c4 => ?_, fun c4 => ?_⟩⟩⟩⟩
    · rw [if_pos (Or.inl c1)]; exact ⟨rfl, h1⟩
    · rw [if_pos (Or.inr (Or.inl c2))]; exact ⟨rfl, h1⟩
    · rw [if_pos (Or.inr (Or.inr (Or.inl c3)))]; exact ⟨rfl, h1⟩
    · rw [if_neg (fun q => q.elim c1 (fun q => q.elim c2 (fun q => q.elim c3 (fun q => q c4))))]
      have h40 : μ9.1 0 17 = 40 ↔ nN μ = 40 := by
        rw [g17, show (40 : Int32) = nI 40 from rfl]
        exact nI_eq (by omega) (by omega)
      refine ⟨fun c5 => ?_, fun c5 => ?_⟩
      · rw [if_pos (h40.mp c5)]; exact ⟨rfl, h1⟩
      · rw [if_neg (fun q => c5 (h40.mpr q))]
        have hlt : nN μ < 40 := by
          have : nN μ ≠ 40 := fun q => c5 (h40.mpr q)
          omega
        have hv : vp_in (nI (nN μ)) 40 := vp_in_nI hlt (by decide)
        have hc : (nI (nN μ)).toNatClampNeg = nN μ := nI_clampS (by omega)
        rw [g17, hc]
        refine ⟨hv, fun μ23 e23 => ?_⟩
        have k23 : μ23.1 0 17 = nI (nN μ) := by rw [e23]; exact g17
        rw [k23, hc]
        refine ⟨hv, fun μ30 e30 => ?_⟩
        have k30 : μ30.1 0 17 = nI (nN μ) := by rw [e30]; exact k23
        rw [k30, hc]
        refine ⟨hv, fun μ37 e37 μ43 e43 => ?_⟩
        have k37 : μ37.1 0 17 = nI (nN μ) := by rw [e37]; exact k30
        rw [k37, ← h.noi.1] at e43
        have : μ43 = fNoiseA x y k μ := by rw [e43, e37, e30, e23, h1]; rfl
        rw [this]
        exact ⟨by simp [fNoiseA, ui], rfl⟩
    · rw [if_pos (Or.inr (Or.inr (Or.inr c4)))]; exact ⟨rfl, h1⟩
theorem k_event {x k : Int32} : r_MI l w B m tX8_event [.int x, .int k] μ (fun z μ' => z = aEvent x k μ ∧ μ' = thr μ) := by
  refine r_MI.of (by decide) (fun _ => Nat.le_of_ble_eq_true rfl) (fun X σ0 C Ex => ?_)
  refine u_X8_event_0 C Ex (fun μ1 e1 => ?_)
  have h1 : μ1 = thr μ := e1
  have g21 : μ1.1 0 21 = μ.1 0 21 := by rw [h1]; rfl
  have g14 : μ1.1 14 = μ.1 14 := by rw [h1]; rfl
  have g15 : μ1.1 15 = μ.1 15 := by rw [h1]; rfl
  have g16 : μ1.2 16 = μ.2 16 := by rw [h1]; rfl
  rw [g21, g14, g15, g16]
  unfold aEvent
  refine ⟨fun c => ?_, fun c => ⟨fun c1 => ?_, fun c1 => ⟨fun c2 => ?_, fun c2 => ⟨fun c3 => ?_, fun c3 => ⟨fun c4 => ?_, fun c4 => ?_⟩⟩⟩⟩⟩
  · rw [if_pos (Or.inl c)]; exact ⟨rfl, h1⟩
  · rw [if_pos (Or.inr (Or.inl c1))]; exact ⟨rfl, h1⟩
  · rw [if_pos (Or.inr (Or.inr (Or.inl c2)))]; exact ⟨rfl, h1⟩
  · rw [if_pos (Or.inr (Or.inr (Or.inr (Or.inl c3))))]; exact ⟨rfl, h1⟩
  · have hno : ¬ (x < 0 ∨ μ.1 0 21 ≤ x ∨ 700 ≤ x ∨ k < 0 ∨ ¬ k ≤ 2) := fun q => q.elim c (fun q => q.elim c1 (fun q => q.elim c2 (fun q => q.elim c3 (fun q => q c4))))
    have hv : vp_in x 700 := by
      rcases pk_ix x (n := 700) (by omega) with q | q | ⟨j, hj, rfl⟩
      · exact absurd q c
      · exact absurd q c2
      · exact vp_in_nI hj (by decide)
    exact ⟨⟨fun _ => hv, fun _ => ⟨fun _ => hv, fun _ => hv⟩⟩, fun z e => ⟨by rw [if_neg hno]; exact e, h1⟩⟩
  · rw [if_pos (Or.inr (Or.inr (Or.inr (Or.inr c4))))]; exact ⟨rfl, h1⟩
theorem k_state {x k : Int32} (hn : okN n) (h : MI n E μ) : r_MI l w B m tX8_state [.int x, .int k] μ (fun z μ' => z = aState n x k μ ∧ μ' = thr μ) := by
  have hn6 := hn.2
  refine r_MI.of (by decide) (fun _ => Nat.le_of_ble_eq_true rfl) (fun X σ0 C Ex => ?_)
  refine u_X8_state_0 C Ex (fun μ1 e1 => ?_)
  have h1 : μ1 = thr μ := e1
  refine ⟨_, k_isStation, fun z11 μ9 q => ?_⟩
  obtain ⟨rfl, e11⟩ := q
  obtain ⟨s1, s2⟩ := stn_z (n := n) (by rw [h1]; exact h.n1) e11
  have hM : MI n E μ9 := by rw [h1]; exact h.thr
  unfold aState
  refine ⟨fun c => ?_, fun c => ?_⟩
  · rw [if_neg (fun q => by rw [s1.mp c] at q; exact absurd q (by decide))]
    exact ⟨rfl, h1⟩
  · rw [if_pos (s2 c)]
    obtain ⟨i, hi, rfl⟩ := (stn_iff hn).mp (s2 c)
    have hv : vp_in (nI i) 6 := vp_in_nI (by omega) (by decide)
    have ci : (nI i).toNatClampNeg = i := nI_clampS (by omega)
    rw [ci]
    have gg : ∀ g j, g ≠ 0 → μ9.1 g j = μ.1 g j := fun g j hg => by rw [h1]; simp [thr, ui, hg]
    have g2 : μ9.2 = μ.2 := by rw [h1]; rfl
    refine ⟨fun c0 => ⟨hv, by rw [if_pos c0]; exact gg 17 _ (by decide), h1⟩, fun c0 => ?_⟩
    rw [if_neg c0]
    refine ⟨fun c1 => ⟨hv, by rw [if_pos c1]; exact gg 19 _ (by decide), h1⟩, fun c1 => ?_⟩
    rw [if_neg c1]
    refine ⟨fun c2 => ⟨hv, by rw [if_pos c2]; exact gg 18 _ (by decide), h1⟩, fun c2 => ?_⟩
    rw [if_neg c2]
    refine ⟨fun c3 => ⟨hv, fun z e => ⟨by rw [if_pos c3, e, g2], h1⟩⟩, fun c3 => ?_⟩
    rw [if_neg c3]
    refine ⟨fun c4 => ⟨hv, by rw [if_pos c4]; exact gg 37 _ (by decide), h1⟩, fun c4 => ?_⟩
    rw [if_neg c4]
    refine ⟨fun c5 => ⟨hv, by rw [if_pos c5]; exact gg 20 _ (by decide), h1⟩, fun c5 => ?_⟩
    rw [if_neg c5]
    refine ⟨fun c6 => ⟨hv, by rw [if_pos c6]; exact gg 21 _ (by decide), h1⟩, fun c6 => ?_⟩
    rw [if_neg c6]
    refine ⟨fun c7 => ⟨_, k_keeps (by omega) hM.pay.2 hM.pay.1, fun z μ39 q => ?_⟩, fun c7 => by rw [if_neg c7]; exact ⟨rfl, h1⟩⟩
    obtain ⟨rfl, e⟩ := q
    rw [if_pos c7, e]
    have e1 : pN μ39 = pN μ := by rw [h1]; rfl
    have e2 : kc μ39 i (pN μ39) = kc μ i (pN μ) := by rw [e1, kc_eq, kc_eq, h1]; rfl
    rw [e2]
    exact ⟨rfl, h1⟩
theorem k_sent {x k : Int32} (hn : okN n) (h : MI n E μ) : r_MI l w B m tX8_sent [.int x, .int k] μ (fun z μ' => z = aSent n x k μ ∧ μ' = thr μ) := by
  have hn6 := hn.2
  refine r_MI.of (by decide) (fun _ => Nat.le_of_ble_eq_true rfl) (fun X σ0 C Ex => ?_)
  refine u_X8_sent_0 C Ex (fun μ1 e1 => ?_)
  have h1 : μ1 = thr μ := e1
  refine ⟨_, k_isStation, fun z11 μ9 q => ?_⟩
  obtain ⟨rfl, e11⟩ := q
  obtain ⟨s1, s2⟩ := stn_z (n := n) (by rw [h1]; exact h.n1) e11
  have g33 : μ9.1 33 = μ.1 33 := by rw [h1]; rfl
  unfold aSent
  refine ⟨⟨fun _ => trivial, fun c => ⟨fun _ => trivial, fun c1 => ⟨fun c2 => ?_, fun _ => trivial⟩⟩⟩, fun z e => ⟨?_, h1⟩⟩
  · obtain ⟨i, hi, rfl⟩ := (stn_iff hn).mp (s2 c)
    obtain ⟨j, hj, rfl⟩ := nI_of2 (M := 4) (n := 4) rfl (fun q => c1 (Int32.lt_trans q (by decide))) c2
    have hj1 : 1 ≤ j := by
      by_cases q : j = 0
      · subst q; exact absurd (by decide) c1
      · omega
    rw [four0, nI_add, show (1 : Int32) = nI 1 from rfl, pk_sub (by omega)]
    exact vp_in_nI (by omega) (by decide)
  · rw [e, g33]
    by_cases c : z11 = 0
    · rw [if_pos c, if_neg (fun q => by rw [s1.mp c] at q; exact absurd q (by decide))]
    · rw [if_neg c, if_pos (s2 c)]
      by_cases c1 : k < 1
      · rw [if_pos c1, if_pos (Or.inl c1)]
      · rw [if_neg c1]
        by_cases c2 : k ≤ 4
        · rw [if_pos c2, if_neg (fun q => q.elim c1 (fun q => q c2))]
        · rw [if_neg c2, if_pos (Or.inr c2)]
theorem k_now : r_ML l w B m tX8_now [] μ (fun z μ' => z = μ.2 0 2 ∧ μ' = thr μ) := by
  refine r_ML.of (by decide) (fun _ => Nat.le_of_ble_eq_true rfl) (fun X σ0 C Ex => ?_)
  refine u_X8_now_0 C Ex (fun μ1 e1 => ?_)
  have h1 : μ1 = thr μ := e1
  exact ⟨by rw [h1]; rfl, h1⟩
theorem k_offer {a b z : Int32} (hn : okN n) (h : MI n E μ) : r_MI l w B m tX8_offer [.int a, .int b, .int z] μ (fun y μ' => y = (aOffer n a b z μ).1 ∧ μ' = (aOffer n a b z μ).2) := by
  have hn6 := hn.2
  refine r_MI.of (by decide) (fun _ => Nat.le_of_ble_eq_true rfl) (fun X σ0 C Ex => ?_)
  refine u_X8_offer_0 C Ex (fun μ1 e1 => ?_)
  have h1 : μ1 = thr μ := e1
  refine ⟨_, k_isStation, fun z11 μ9 q => ?_⟩
  obtain ⟨rfl, e11⟩ := q
  obtain ⟨s1, s2⟩ := stn_z (n := n) (by rw [h1]; exact h.n1) e11
  refine ⟨fun c => ?_, fun c => ⟨_, k_isStation, fun z21 μ19 q => ?_⟩⟩
  · unfold aOffer
    rw [if_neg (fun q => by rw [s1.mp c] at q; exact absurd q.1 (by decide))]
    exact ⟨rfl, h1⟩
  obtain ⟨rfl, e21⟩ := q
  obtain ⟨t1, t2⟩ := stn_z (n := n) (by rw [h1]; exact h.n1) e21
  refine ⟨fun c' => ?_, fun c' => ?_⟩
  · unfold aOffer
    rw [if_neg (fun q => by rw [t1.mp c'] at q; exact absurd q.2 (by decide))]
    exact ⟨rfl, h1⟩
  have hst := And.intro (s2 c) (t2 c')
  obtain ⟨i, hi, rfl⟩ := (stn_iff hn).mp (s2 c)
  obtain ⟨j, hj, rfl⟩ := (stn_iff hn).mp (t2 c')
  have ci : (nI i).toNatClampNeg = i := nI_clampS (by omega)
  have cj : (nI j).toNatClampNeg = j := nI_clampS (by omega)
  have out : (nI i = nI j ∨ z < 1 ∨ ¬ z ≤ 8) → -12 = (aOffer n (nI i) (nI j) z μ).1 ∧ μ19 = (aOffer n (nI i) (nI j) z μ).2 := fun q => by
    unfold aOffer
    rw [if_pos hst, if_pos q]
    exact ⟨rfl, h1⟩
  refine ⟨fun q => out (Or.inl q), fun q => ⟨fun q1 => out (Or.inr (Or.inl q1)), fun q1 => ⟨fun q2 => ?_, fun q2 => out (Or.inr (Or.inr q2))⟩⟩⟩
  have hM : MI n E μ19 := by rw [h1]; exact h.thr
  have epn : pN μ19 = pN μ := by rw [h1]; rfl
  have ekc : kc μ19 i (pN μ19) = kc μ i (pN μ) := by rw [epn, kc_eq, kc_eq, h1]; rfl
  have hP := h.pay.2
  have hkl : kc μ i (pN μ) ≤ 300 := by rw [kc_eq]; exact Nat.le_trans (kL_len _ _ _ _) hP
  refine ⟨_, k_keeps (by omega) hM.pay.2 hM.pay.1, fun z34 μ32 q3 => ?_⟩
  obtain ⟨rfl, e34⟩ := q3
  rw [ekc] at e34
  have g5 : μ32.1 0 5 = nI (pN μ) := by rw [h1]; exact h.pay.1
  rw [g5]
  have hno : ¬ (nI i = nI j ∨ z < 1 ∨ ¬ z ≤ 8) := fun r => r.elim q (fun r => r.elim q1 (fun r => r q2))
  have h300 : nI (pN μ) = 300 ↔ pN μ = 300 := by rw [show (300 : Int32) = nI 300 from rfl]; exact nI_eq (by omega) (by omega)
  have h10 : z34 = 10 ↔ kc μ i (pN μ) = 10 := by rw [e34, show (10 : Int32) = nI 10 from rfl]; exact nI_eq (by omega) (by omega)
  have h0 : z34 = 0 ↔ kc μ i (pN μ) = 0 := by rw [e34, ← nI_0]; exact nI_eq (by omega) (by omega)
  have room : (pN μ = 300 ∨ kc μ i (pN μ) = 10) → -14 = (aOffer n (nI i) (nI j) z μ).1 ∧ μ32 = (aOffer n (nI i) (nI j) z μ).2 := fun r => by
    unfold aOffer
    rw [if_pos hst, if_neg hno, ci, if_pos r]
    exact ⟨rfl, h1⟩
  refine ⟨fun q3 => room (Or.inl (h300.mp q3)), fun q3 => ⟨fun q4 => room (Or.inr (h10.mp q4)), fun q4 μ41 e41 => ?_⟩⟩
  have hroom : ¬ (pN μ = 300 ∨ kc μ i (pN μ) = 10) := fun r => r.elim (fun r => q3 (h300.mpr r)) (fun r => q4 (h10.mpr r))
  have hlt : pN μ < 300 := by
    have : pN μ ≠ 300 := fun r => hroom (Or.inl r)
    omega
  rw [nI_1] at e41
  have hv : vp_in (nI (pN μ + 1)) 301 := vp_in_nI (by omega) (by decide)
  have hc : (nI (pN μ + 1)).toNatClampNeg = pN μ + 1 := nI_clampS (by omega)
  have k41 : μ41.1 0 5 = nI (pN μ + 1) := by rw [e41]; simp [ui]
  rw [k41, hc]
  refine ⟨hv, fun μ48 e48 => ?_⟩
  have k48 : μ48.1 0 5 = nI (pN μ + 1) := by rw [e48]; exact k41
  rw [k48, hc]
  refine ⟨hv, fun μ55 e55 => ?_⟩
  have k55 : μ55.1 0 5 = nI (pN μ + 1) := by rw [e55]; exact k48
  rw [k55, hc]
  refine ⟨hv, fun μ62 e62 => ?_⟩
  have k62 : μ62.1 0 5 = nI (pN μ + 1) := by rw [e62]; exact k55
  have k628 : μ62.1 8 = μ.1 8 := by rw [e62, e55, e48, e41, h1]; rfl
  rw [k62, hc, six, nI_clampS (show 6 * i + j < 1000000 by omega), k628]
  refine ⟨vp_in_nI (by omega) (by decide), hv, fun μ70 e70 μ76 e76 => ?_⟩
  have k70 : μ70.1 0 5 = nI (pN μ + 1) := by rw [e70]; exact k62
  have k708 : μ70.1 8 = μ.1 8 := by rw [e70]; exact k628
  rw [k708] at e76
  have k76 : μ76.1 0 5 = nI (pN μ + 1) := by rw [e76]; exact k70
  rw [k76, hc]
  refine ⟨hv, fun μ83 e83 => ?_⟩
  have eF : μ83 = fOffer (nI i) (nI j) z μ := by
    rw [e83, e76, e70, e62, e55, e48, e41, h1]
    unfold fOffer
    rw [ci, cj, h.pay.1, nI_1]
  have k83 : μ83.1 0 5 = nI (pN μ + 1) := by rw [e83]; exact k76
  unfold aOffer
  rw [if_pos hst, if_neg hno, ci, if_neg hroom]
  refine ⟨fun q5 => ?_, fun q5 => ?_⟩
  · rw [if_pos (h0.mp q5)]
    have c15 : μ83.1 0 14 = μ.1 0 14 ∧ μ83.1 0 15 = μ.1 0 15 ∧ μ83.1 17 i = μ.1 17 i := by rw [eF]; exact ⟨rfl, rfl, rfl⟩
    refine ⟨_, k_draw (by omega) (by rw [c15.1, c15.2.1]; exact h.drIn) (by rw [c15.2.2]; exact h.wi1 hi), fun μ92 q6 => ?_⟩
    rw [q6, eF]
    refine ⟨?_, rfl⟩
    rw [← k83, eF]
    rfl
  · rw [if_neg (fun r => q5 (h0.mpr r)), k83, eF]
    exact ⟨rfl, rfl⟩
/-! the invariant, over the calls from outside -/
theorem MI.hearA (h : MI n E μ) {a b on : Int32} : MI n E (aHear n a b on μ).2 := by
  unfold aHear
  split
  · split <;> exact h
  · exact h
theorem MI.coinA (h : MI n E μ) {x : Int32} : MI n E (aCoin x μ).2 := by
  unfold aCoin fCoin
  split
  · split
    · exact h
    · rename_i c
      obtain ⟨a, b, ea, eb, hab, ha⟩ := h.coin
      refine ⟨h.n1, h.pay, ⟨a + 1, b, ?_, eb, by omega, ?_⟩, h.noi, h.ev, h.wid, h.pl, h.nu, h.tr, h.dk, h.hb, h.wh⟩
      · show μ.1 0 14 + 1 = _
        rw [ea, nI_1]
      · rw [ea] at c
        have : a < 400 := Nat.not_le.mp (fun q => c (nI_le (a := 400) q (by omega)))
        omega
  · exact h
theorem MI.thrA (h : MI n E μ) {x : Int32} : MI n E (aThr x μ).2 := by
  unfold aThr
  split <;> exact h
theorem MI.noiseA (h : MI n E μ) {x k : Int32} {y : Int64} : MI n E (aNoise n x y k μ).2 := by
  unfold aNoise
  split
  · split
    · exact h
    · split
      · exact h
      · rename_i c
        have hN := h.noi.2
        have e : (fNoiseA x y k μ).1 0 17 = nI (nN μ + 1) := by
          show μ.1 0 17 + 1 = _
          rw [h.noi.1, nI_1]
        have e2 : nN (fNoiseA x y k μ) = nN μ + 1 := by
          show ((fNoiseA x y k μ).1 0 17).toNatClampNeg = _
          rw [e, nI_clampS (by omega)]
        exact ⟨h.n1, h.pay, h.coin, ⟨by rw [e2]; exact e, by rw [e2]; omega⟩, h.ev, h.wid, h.pl, h.nu, h.tr, h.dk, h.hb, h.wh⟩
  · exact h
theorem sz_congr {sl sl' : Nat → Int32} : ∀ (L : List Int32) (x : Int32), (∀ p ∈ L, sl' p.toNatClampNeg = sl p.toNatClampNeg) → L.foldl (fun a p => a + sl' p.toNatClampNeg) x = L.foldl (fun a p => a + sl p.toNatClampNeg) x
  | [], _, _ => rfl
  | a :: L, x, h => by
    simp only [List.foldl_cons]
    rw [h a (by simp), sz_congr L _ (fun p hp => h p (by simp [hp]))]
theorem TR.mem {i : Nat} (h : TR μ i) : ∀ p ∈ tl (μ.1 34) (μ.1 35) i, ∃ q : Nat, p = nI q ∧ 1 ≤ q ∧ q ≤ pN μ ∧ μ.1 2 q = nI i ∧ μ.1 3 q = qTo μ i := by
  obtain ⟨c, c4, e1, e2, -⟩ := h
  intro p hp
  unfold tl at hp
  rw [e1, nI_clampS (by omega)] at hp
  obtain ⟨k, hk, rfl⟩ := List.mem_map.mp hp
  exact e2 k (List.mem_range.mp hk)
theorem MI.offer0 (hn : okN n) (h : MI n E μ) {i j c : Nat} (hi : i < n) (hj : j < n) (hc : 1 ≤ c ∧ c ≤ 8) (hP : pN μ < 300) : MI n E (fOffer (nI i) (nI j) (nI c) μ) := by
  have hn6 := hn.2
  have ci : (nI i).toNatClampNeg = i := nI_clampS (by omega)
  have cj : (nI j).toNatClampNeg = j := nI_clampS (by omega)
  obtain ⟨k0, ek0, hk0⟩ := h.nu.2.2 i j hi hj
  generalize hν : fOffer (nI i) (nI j) (nI c) μ = ν
  have g5 : ν.1 0 5 = nI (pN μ + 1) := by
    rw [← hν]
    show μ.1 0 5 + 1 = _
    rw [h.pay.1, nI_1]
  have epn : pN ν = pN μ + 1 := by unfold pN at *; rw [g5, nI_clampS (by omega)]
  have n2 : ∀ p, ν.1 2 p = if p = pN μ + 1 then nI i else μ.1 2 p := fun p => by
    rw [← hν]
    show (if 2 = 2 ∧ p = pN μ + 1 then nI i else μ.1 2 p) = _
    simp
  have n3 : ∀ p, ν.1 3 p = if p = pN μ + 1 then nI j else μ.1 3 p := fun p => by
    rw [← hν]
    show (if 3 = 3 ∧ p = pN μ + 1 then nI j else μ.1 3 p) = _
    simp
  have n4 : ∀ p, ν.1 4 p = if p = pN μ + 1 then nI c else μ.1 4 p := fun p => by
    rw [← hν]
    show (if 4 = 4 ∧ p = pN μ + 1 then nI c else μ.1 4 p) = _
    simp
  have n5 : ∀ p, ν.1 5 p = if p = pN μ + 1 then nI k0 else μ.1 5 p := fun p => by
    rw [← hν, ← ek0]
    show (if 5 = 5 ∧ p = pN μ + 1 then μ.1 8 (6 * (nI i).toNatClampNeg + (nI j).toNatClampNeg) else μ.1 5 p) = _
    rw [ci, cj]
    simp
  have n8 : ∀ q, ν.1 8 q = if q = 6 * i + j then nI (k0 + 1) else μ.1 8 q := fun q => by
    rw [← hν, ← nI_1, ← ek0]
    show (if 8 = 8 ∧ q = 6 * (nI i).toNatClampNeg + (nI j).toNatClampNeg then μ.1 8 (6 * (nI i).toNatClampNeg + (nI j).toNatClampNeg) + 1 else μ.1 8 q) = _
    rw [ci, cj]
    simp
  have n7 : ν.1 7 = μ.1 7 := by rw [← hν]; rfl
  have n9 : ν.1 9 = μ.1 9 := by rw [← hν]; rfl
  have n34 : ν.1 34 = μ.1 34 := by rw [← hν]; rfl
  have n35 : ν.1 35 = μ.1 35 := by rw [← hν]; rfl
  have n36 : ν.1 36 = μ.1 36 := by rw [← hν]; rfl
  have old : ∀ p, p ≤ pN μ → ν.1 2 p = μ.1 2 p ∧ ν.1 3 p = μ.1 3 p ∧ ν.1 4 p = μ.1 4 p ∧ ν.1 5 p = μ.1 5 p := fun p hp => by
    rw [n2, n3, n4, n5, if_neg (by omega), if_neg (by omega), if_neg (by omega), if_neg (by omega)]
    exact ⟨rfl, rfl, rfl, rfl⟩
  have hq : ∀ s, s < n → qTo ν s = qTo μ s := fun s hs => by
    obtain ⟨p, ep, -, hp⟩ := h.tr0 hs
    unfold qTo
    rw [n34, ep, nI_clampS (by omega)]
    exact (old p hp).2.1
  have new2 : ν.1 2 (pN μ + 1) = nI i := by rw [n2, if_pos rfl]
  have new3 : ν.1 3 (pN μ + 1) = nI j := by rw [n3, if_pos rfl]
  have new4 : ν.1 4 (pN μ + 1) = nI c := by rw [n4, if_pos rfl]
  have new5 : ν.1 5 (pN μ + 1) = nI k0 := by rw [n5, if_pos rfl]
  refine ⟨by rw [← hν]; exact h.n1, ⟨by rw [g5, epn], by omega⟩, by rw [← hν]; exact h.coin, by rw [← hν]; exact h.noi, by rw [n7, ← hν]; exact h.ev, by rw [← hν]; exact h.wid, fun p p1 p2 => ?_, ⟨fun p q p1 pq q2 e2 e3 => ?_, fun p a b p1 p2 e2 e3 ha hb => ?_, fun a b ha hb => ?_⟩, fun s hs => ?_, by rw [← hν]; exact h.dk, ⟨fun p => ?_, fun p a b p1 p2 p3 e2 e3 ha hb => ?_⟩, fun s hs => ?_⟩
  · by_cases e : p = pN μ + 1
    · rw [e]
      exact ⟨i, j, c, k0, new2, new3, new4, new5, hi, hj, hc.1, hc.2, by omega⟩
    · obtain ⟨o2, o3, o4, o5⟩ := old p (by omega)
      unfold PL
      rw [o2, o3, o4, o5]
      exact h.pl p p1 (by omega)
  · by_cases e : q = pN μ + 1
    · obtain ⟨o2, o3, o4, o5⟩ := old p (by omega)
      rw [e, o2, new2] at e2
      rw [e, o3, new3] at e3
      rw [e, o5, new5]
      have := h.nu.2.1 p i j p1 (by omega) e2 e3 hi hj
      rw [ek0] at this
      exact this
    · obtain ⟨o2, o3, o4, o5⟩ := old p (by omega)
      obtain ⟨r2, r3, r4, r5⟩ := old q (by omega)
      rw [o2, r2] at e2
      rw [o3, r3] at e3
      rw [o5, r5]
      exact h.nu.1 p q p1 pq (by omega) e2 e3
  · by_cases e : p = pN μ + 1
    · rw [e, new2] at e2
      rw [e, new3] at e3
      have ea : i = a := nI_inj (by omega) (by omega) e2
      have eb : j = b := nI_inj (by omega) (by omega) e3
      subst ea
      subst eb
      rw [e, new5, n8, if_pos rfl]
      exact nI_lt (by omega) (by omega)
    · obtain ⟨o2, o3, o4, o5⟩ := old p (by omega)
      rw [o2] at e2
      rw [o3] at e3
      rw [o5, n8]
      have := h.nu.2.1 p a b p1 (by omega) e2 e3 ha hb
      by_cases e : 6 * a + b = 6 * i + j
      · rw [if_pos e]
        rw [e, ek0] at this
        exact Int32.lt_trans this (nI_lt (by omega) (by omega))
      · rw [if_neg e]
        exact this
  · rw [n8, epn]
    by_cases e : 6 * a + b = 6 * i + j
    · rw [if_pos e]
      exact ⟨k0 + 1, rfl, by omega⟩
    · rw [if_neg e]
      obtain ⟨k, e1, e2⟩ := h.nu.2.2 a b ha hb
      exact ⟨k, e1, by omega⟩
  · have ht := h.tr s hs
    have hmem := ht.mem
    obtain ⟨d, d4, e1, e2, e3, e4⟩ := ht
    have hq' := hq s hs
    unfold qTo at hq'
    refine ⟨d, d4, by rw [n35]; exact e1, fun k hk => ?_, fun q => by rw [n34]; exact e3 q, ?_⟩
    · obtain ⟨p, p1, p2, p3, p4, p5⟩ := e2 k hk
      obtain ⟨o2, o3, -⟩ := old p p3
      exact ⟨p, by rw [n34]; exact p1, p2, by omega, by rw [o2]; exact p4, by rw [o3, hq']; exact p5⟩
    · rw [n36, n34, n35]
      rcases e4 with e4 | e4
      · exact Or.inl e4
      right
      rw [e4]
      unfold sz
      refine (sz_congr _ _ (fun p hp => ?_)).symm
      obtain ⟨q, rfl, q1, q2, -⟩ := hmem p hp
      rw [nI_clampS (by omega)]
      exact (old q q2).2.2.1
  · rw [n7, epn]
    rcases h.hb.1 p with q | ⟨q1, q2, q3⟩
    · exact Or.inl q
    · exact Or.inr ⟨q1, q2, by omega⟩
  · rw [n7] at p3
    obtain ⟨-, q3⟩ := h.heldIn p3
    obtain ⟨o2, o3, o4, o5⟩ := old p q3
    rw [o2] at e2
    rw [o3] at e3
    rw [n9, o5]
    exact h.hb.2 p a b p1 q3 p3 e2 e3 ha hb
  · have hw := h.wh s hs
    have hq' := hq s hs
    unfold WH
    rw [hq']
    rw [← hν]
    exact hw
theorem MI.offerA (hn : okN n) (h : MI n E μ) {a b z : Int32} : MI n E (aOffer n a b z μ).2 := by
  unfold aOffer
  split
  · rename_i c
    obtain ⟨i, hi, rfl⟩ := (stn_iff hn).mp c.1
    obtain ⟨j, hj, rfl⟩ := (stn_iff hn).mp c.2
    split
    · exact h
    · rename_i c1
      split
      · exact h
      · rename_i c2
        obtain ⟨d, hd, rfl⟩ := nI_of2 (x := z) (M := 8) (n := 8) rfl (fun q => c1 (Or.inr (Or.inl (Int32.lt_trans q (by decide))))) (Decidable.not_not.mp (fun q => c1 (Or.inr (Or.inr q))))
        have hd1 : 1 ≤ d := by
          by_cases q : d = 0
          · subst q; exact absurd (Or.inr (Or.inl (by decide))) c1
          · omega
        have hP := h.pay.2
        have hlt : pN μ < 300 := by
          have : pN μ ≠ 300 := fun q => c2 (Or.inl q)
          omega
        have h0 := h.offer0 hn hi hj ⟨hd1, hd⟩ hlt
        show MI n E (if _ then _ else _)
        split
        · exact h0.draw _
        · exact h0
  · exact h
end MFA
