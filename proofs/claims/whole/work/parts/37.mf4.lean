/-! stepOne, stepTwo -/
/-- may station s begin an attempt -/
def fMay (μ : Mu) (s : Nat) (t : Int64) : Bool := !fSends μ s t && (decide (μ.2 23 s < 0) && (decide (μ.2 26 s < 0) && (!decide (kL (μ.1 2) (μ.1 6) s (pN μ) = []) && (decide (μ.1 19 s = 0) && (!decide (μ.1 20 s < μ.1 21 s) && !decide (t < μ.2 22 s))))))
def fOneB (n : Nat) (t : Int64) (s : Nat) (μ : Mu) : Mu := if μ.2 26 s = t then fBegin n s (μ.1 27 s) (μ.1 28 s) (μ.1 29 s) (μ.1 30 s) t (ul μ 26 s (-1)) else if fMay μ s t then fAttempt n s t μ else μ
def fOne1 (n : Nat) (t : Int64) (s : Nat) (μ : Mu) : Mu := fOneB n t s (if μ.2 23 s = t then fFail s t μ else μ)
def fOne (n : Nat) (t : Int64) (μ : Mu) : Mu := it (fOne1 n t) 0 n μ
def fGood (n : Nat) (t : Int64) (s r : Nat) (μ : Mu) : Bool := fHears μ r s && (!fSends μ r t && (!fAny n μ r s t && !fNoise μ r t))
def fBit (t f : Int64) : Int64 := (1 : Int64) <<< ((t - f).toInt32.toInt64 &&& 63)
def fTwo2 (n : Nat) (t : Int64) (s r : Nat) (μ : Mu) : Mu := ul μ 43 (6 * s + r) (if fGood n t s r μ then μ.2 43 (6 * s + r) else μ.2 43 (6 * s + r) ||| fBit t (μ.2 39 s))
def fTwo1 (n : Nat) (t : Int64) (s : Nat) (μ : Mu) : Mu := if fSends μ s t then it (fTwo2 n t s) 0 n μ else μ
def fTwo (n : Nat) (t : Int64) (μ : Mu) : Mu := it (fTwo1 n t) 0 n μ
section MF6
variable {l : Launch} {w : r_V} {B m n E : Nat} {μ : Mu}
theorem MI.nodue (h : MI n E μ) (s : Nat) : MI n E (ul μ 26 s (-1)) := by
  refine ⟨h.n1, h.pay, h.coin, h.noi, h.ev, h.wid, h.pl, h.nu, h.tr, fun i hi => ?_, h.hb, fun i hi => ⟨(h.wh i hi).1, (h.wh i hi).2.1, fun q => ?_⟩⟩
  · unfold DK
    by_cases e : i = s
    · subst e
      left
      simp [ul]
    · have := h.dk i hi
      simp only [ul, e, and_false, if_false]
      exact this
  · by_cases e : i = s
    · subst e
      simp [ul] at q
    · simp [ul, e] at q
      exact (h.wh i hi).2.2 q
theorem MI.oneB (h : MI n E μ) {s : Nat} {t : Int64} (hs : s < n) (ht : 0 ≤ t) : MI n E (fOneB n t s μ) := by
  unfold fOneB
  split
  · rename_i c
    refine (h.nodue s).begin (fun q => ?_)
    have hd := h.dk s hs
    have h3 : μ.1 27 s = 3 := by
      have hd2 : ¬ μ.1 27 s = 1 := by
        rcases hd with hd | hd | hd | hd
        · exact absurd hd (by rw [c]; exact Int64.not_lt.mpr ht)
        · rw [hd]; decide
        · rw [hd]; decide
        · rw [hd]; decide
      exact q.resolve_left hd2
    exact (h.wh s hs).2.2 (by rw [c]; exact ht) h3
  · split
    · rename_i c
      simp only [fMay, Bool.and_eq_true, Bool.not_eq_true', decide_eq_true_eq, decide_eq_false_iff_not] at c
      obtain ⟨-, c2, c3, c4, -⟩ := c
      exact h.attempt hs c4 c2 c3
    · exact h
theorem MI.one1 (h : MI n E μ) {s : Nat} {t : Int64} (hs : s < n) (ht : 0 ≤ t) : MI n (E + 1) (fOne1 n t s μ) := by
  unfold fOne1
  split
  · exact (h.fail hs).oneB hs ht
  · exact (h.up (by omega)).oneB hs ht
theorem k_oneB {s : Nat} {t : Int64} (hn : okN n) (hs : s < n) (h : MI n E μ) (hE : E < 2 ^ 30) (ht : 0 ≤ t) {X : r_X} {σ0 : r_S} (C : r_C X w B 4 cX8_stepOne RX8) (Ex : r_E X l tX8_stepOne) {Q : Mu → Prop} (hk : r_Wm X w B 4 m σ0 (r_Z X w B tX8_stepOne (ZMV m σ0 Q)) 2 [(0, Value.ref (B + m)), (1, Value.long t), (3, Value.int (nI (s + 1)))] [] (fOneB n t s μ)) : r_Wm X w B 4 m σ0 (r_Z X w B tX8_stepOne (ZMV m σ0 Q)) 27 [(0, Value.ref (B + m)), (1, Value.long t), (3, Value.int (nI s))] [] μ := by
  have hn6 := hn.2
  have hE1 : (nI s).toNatClampNeg = s := nI_clampS (by omega)
  have hkl : kc μ s (pN μ) ≤ 300 := by rw [kc_eq]; exact Nat.le_trans (kL_len _ _ _ _) h.pay.2
  refine u_X8_stepOne_27 C Ex ⟨vp_in_nI (by omega) (by decide), ?_⟩
  rw [hE1]
  unfold fOneB at hk
  refine ⟨fun c μ3 e3 => ?_, fun c => ⟨_, k_sends (by omega), fun z μ22 q => ?_⟩⟩
  · rw [if_pos c] at hk
    have hd : μ.1 27 s = 1 ∨ μ.1 27 s = 2 ∨ μ.1 27 s = 3 ∨ μ.1 27 s = 4 := by
      rcases h.dk s hs with hd | hd
      · exact absurd hd (by rw [c]; exact Int64.not_lt.mpr ht)
      · exact Or.inr hd
    have g : μ3.1 = μ.1 := by rw [e3]; rfl
    rw [g]
    refine ⟨_, k_begin hn hs (by rw [g]; exact h.n1) hd, fun μ11 q z e => ?_⟩
    rw [e, nI_1, q, e3]
    exact hk
  · obtain ⟨rfl, rfl⟩ := q
    rw [if_neg c] at hk
    have skip : fMay μ22 s t = false → r_Wm X w B 4 m σ0 (r_Z X w B tX8_stepOne (ZMV m σ0 Q)) 2 [(0, Value.ref (B + m)), (1, Value.long t), (3, Value.int (nI (s + 1)))] [] μ22 := fun q => by
      rw [q] at hk
      exact hk
    refine ⟨fun c0 => ?_, fun c0 z e => ?_⟩
    · have c0' : fSends μ22 s t = false := by
        by_cases q : fSends μ22 s t = true
        · rw [if_pos q] at c0; exact absurd c0 (by decide)
        · simpa using q
      refine ⟨fun c1 z e => ?_, fun c1 => ⟨fun c2 z e => ?_, fun c2 => ⟨_, k_keeps (by omega) h.pay.2 h.pay.1, fun z μ38 q => ?_⟩⟩⟩
      · rw [e, nI_1]
        exact skip (by unfold fMay; rw [decide_eq_false (Int64.not_lt.mpr c1)]; simp)
      · rw [e, nI_1]
        exact skip (by unfold fMay; rw [decide_eq_false (Int64.not_lt.mpr c2)]; simp)
      · obtain ⟨rfl, rfl⟩ := q
        refine ⟨fun c3 z e => ?_, fun c3 => ⟨fun c4 => ⟨fun c5 z e => ?_, fun c5 => ⟨fun c6 z e => ?_, fun c6 => ⟨_, k_attempt hn hs h ?_, fun μ57 q z e => ?_⟩⟩⟩, fun c4 z e => ?_⟩⟩
        · rw [e, nI_1]
          have : kL (μ38.1 2) (μ38.1 6) s (pN μ38) = [] := by
            rw [← List.length_eq_zero_iff, ← kc_eq]
            by_cases q : kc μ38 s (pN μ38) = 0
            · exact q
            · exact absurd c3 (nI_nle (by omega) (by omega))
          exact skip (by unfold fMay; rw [decide_eq_true this]; simp)
        · rw [e, nI_1]
          exact skip (by unfold fMay; rw [decide_eq_true c5]; simp)
        · rw [e, nI_1]
          exact skip (by unfold fMay; rw [decide_eq_true c6]; simp)
        · intro q
          apply c3
          rw [kc_eq, q]
          decide
        · rw [e, nI_1, q]
          have hne : ¬ kL (μ38.1 2) (μ38.1 6) s (pN μ38) = [] := by
            intro q
            apply c3
            rw [kc_eq, q]
            decide
          have : fMay μ38 s t = true := by
            unfold fMay
            rw [c0', decide_eq_true (Int64.not_le.mp c1), decide_eq_true (Int64.not_le.mp c2), decide_eq_false hne, decide_eq_true c4, decide_eq_false c5, decide_eq_false c6]
            rfl
          rw [if_pos this] at hk
          exact hk
        · rw [e, nI_1]
          exact skip (by unfold fMay; rw [decide_eq_false c4]; simp)
    · have c0' : fSends μ22 s t = true := by
        by_cases q : fSends μ22 s t = true
        · exact q
        · rw [if_neg q] at c0; exact absurd rfl c0
      rw [e, nI_1]
      exact skip (by unfold fMay; rw [c0']; simp)
theorem k_stepOne {t : Int64} (hn : okN n) (h : MI n E μ) (hE : E + n < 2 ^ 30) (ht : 0 ≤ t) : r_MV l w B m tX8_stepOne [.long t] μ (fun μ' => μ' = fOne n t μ) := by
  have hn6 := hn.2
  refine r_MV.of (by decide) (fun _ => Nat.le_of_ble_eq_true rfl) (fun X σ0 C Ex => ?_)
  refine u_X8_stepOne_0 C Ex ?_
  have key : ∀ (k i : Nat) (ν : Mu), i + k = n → MI n (E + i) ν → it (fOne1 n t) i k ν = fOne n t μ → r_Wm X w B 4 m σ0 (r_Z X w B tX8_stepOne (ZMV m σ0 (fun μ' => μ' = fOne n t μ))) 2 [(0, Value.ref (B + m)), (1, Value.long t), (3, Value.int (nI i))] [] ν := by
    intro k
    induction k with
    | zero =>
      intro i ν hi hν hF
      have hi : i = n := by omega
      subst hi
      exact u_X8_stepOne_2 C Ex ⟨fun _ => hF, fun c => absurd (by rw [hν.n1]; exact nI_le (Nat.le_refl _) (by omega)) c⟩
    | succ k ih =>
      intro i ν hi hν hF
      have ihn := ih (i + 1) (fOne1 n t i ν) (by omega) (hν.one1 (by omega) ht) hF
      refine u_X8_stepOne_2 C Ex ⟨fun c => absurd c (by rw [hν.n1]; exact nI_ge (by omega) (by omega)), fun _ => ⟨vp_in_nI (by omega) (by decide), ?_⟩⟩
      rw [nI_clampS (by omega)]
      refine ⟨fun c => ⟨_, k_fail hn (by omega) hν (by omega), fun μ6 q => ?_⟩, fun c => ?_⟩
      · rw [q]
        refine k_oneB hn (by omega) (hν.fail (by omega)) (by omega) ht C Ex ?_
        unfold fOne1 at ihn
        rw [if_pos c] at ihn
        exact ihn
      · refine k_oneB hn (by omega) hν (by omega) ht C Ex ?_
        unfold fOne1 at ihn
        rw [if_neg c] at ihn
        exact ihn
  have h0 := key n 0 μ (by omega) h rfl
  rw [nI_0] at h0
  exact h0
theorem it_inv {α : Type} {f : Nat → α → α} {P : Nat → α → Prop} {hi : Nat} (hs : ∀ i a, i < hi → P i a → P (i + 1) (f i a)) : ∀ (k i : Nat) (a : α), i + k = hi → P i a → P hi (it f i k a)
  | 0, i, a, h, q => by
    have : i = hi := by omega
    subst this
    exact q
  | k + 1, i, a, h, q => it_inv hs k (i + 1) (f i a) (by omega) (hs i a (by omega) q)
theorem MI.one (h : MI n E μ) {t : Int64} (ht : 0 ≤ t) : MI n (E + n) (fOne n t μ) := it_inv (P := fun i ν => MI n (E + i) ν) (fun _ _ hi q => q.one1 hi ht) n 0 μ (by omega) h
theorem MI.bad (h : MI n E μ) (i : Nat) (x : Int64) : MI n E (ul μ 43 i x) := h
theorem MI.two (h : MI n E μ) {t : Int64} : MI n E (fTwo n t μ) := it_inv (hi := n) (P := fun _ ν => MI n E ν) (fun i ν _ q => by
  unfold fTwo1
  split
  · exact it_inv (hi := n) (P := fun _ ν => MI n E ν) (fun _ _ _ q => q.bad _ _) n 0 ν (by omega) q
  · exact q) n 0 μ (by omega) h
theorem k_two {s : Nat} {t : Int64} (hn : okN n) (hs : s < n) (F : Mu) {X : r_X} {σ0 : r_S} (C : r_C X w B 6 cX8_stepTwo RX8) (Ex : r_E X l tX8_stepTwo) {Q : Mu → Prop} (hk : r_Wm X w B 6 m σ0 (r_Z X w B tX8_stepTwo (ZMV m σ0 Q)) 2 [(0, Value.ref (B + m)), (1, Value.long t), (3, Value.int (nI (s + 1)))] [] F) : ∀ (k i : Nat) (ν : Mu), i + k = n → MI n E ν → fSends ν s t = true → it (fTwo2 n t s) i k ν = F → r_Wm X w B 6 m σ0 (r_Z X w B tX8_stepTwo (ZMV m σ0 Q)) 13 [(0, Value.ref (B + m)), (1, Value.long t), (3, Value.int (nI s)), (4, Value.int (nI i))] [] ν := by
  have hn6 := hn.2
  have hE1 : (nI s).toNatClampNeg = s := nI_clampS (by omega)
  intro k
  induction k with
  | zero =>
    intro i ν hi hν hS hF
    have hi : i = n := by omega
    subst hi
    refine u_X8_stepTwo_13 C Ex ⟨fun _ z e => ?_, fun c => absurd (by rw [hν.n1]; exact nI_le (Nat.le_refl _) (by omega)) c⟩
    rw [e, nI_1]
    have hF : ν = F := hF
    rw [hF]
    exact hk
  | succ k ih =>
    intro i ν hi hν hS hF
    have ihn := fun x => ih (i + 1) (ul ν 43 (6 * s + i) x) (by omega) (hν.bad _ _) hS
    have hif : ∀ (b : Bool) (z : Int32), z = (if b then 1 else 0) → (z = 0 ↔ b = false) := fun b z e => by cases b <;> simp [e]
    refine u_X8_stepTwo_13 C Ex ⟨fun c => absurd c (by rw [hν.n1]; exact nI_ge (by omega) (by omega)), fun _ => ⟨_, k_sends (by omega), fun z μ6 q => ?_⟩⟩
    obtain ⟨rfl, e8⟩ := q
    rw [hS] at e8
    refine ⟨fun c => absurd (e8.symm.trans c) (by decide), fun _ => ⟨_, k_hears (by omega) (by omega), fun z20 μ18 q => ?_⟩⟩
    obtain ⟨rfl, e20⟩ := q
    rw [six, hE1, nI_clampS (show 6 * s + i < 1000000 by omega)]
    have v36 : vp_in (nI (6 * s + i)) 36 := vp_in_nI (by omega) (by decide)
    have v6 : vp_in (nI s) 6 := vp_in_nI (by omega) (by decide)
    have bad : fGood n t s i μ18 = false → ∀ μ29 : Mu, μ29 = ul μ18 43 (6 * s + i) (μ18.2 43 (6 * s + i) ||| fBit t (μ18.2 39 s)) → ∀ z35 : Int32, z35 = nI i + 1 → r_Wm X w B 6 m σ0 (r_Z X w B tX8_stepTwo (ZMV m σ0 Q)) 13 [(0, Value.ref (B + m)), (1, Value.long t), (3, Value.int (nI s)), (4, Value.int z35)] [] μ29 := by
      intro hg μ29 e29 z e
      rw [e, nI_1, e29]
      refine ihn _ ?_
      rw [← hF]
      show _ = it (fTwo2 n t s) (i + 1) k (fTwo2 n t s i μ18)
      unfold fTwo2
      rw [hg]
      rfl
    refine ⟨fun c => ⟨v36, v6, bad (by unfold fGood; rw [(hif _ _ e20).mp c]; rfl)⟩, fun c => ⟨_, k_sends (by omega), fun z41 μ39 q => ?_⟩⟩
    obtain ⟨rfl, e41⟩ := q
    have g1 : fHears μ39 i s = true := by
      by_cases q : fHears μ39 i s = true
      · exact q
      · exact absurd ((hif _ _ e20).mpr (by simpa using q)) c
    refine ⟨fun c2 => ⟨_, k_any hn6 (by omega) (by omega) hν.n1, fun z51 μ49 q => ?_⟩, fun c2 => ⟨v36, v6, bad ?_⟩⟩
    · obtain ⟨rfl, e51⟩ := q
      have g2 := (hif _ _ e41).mp c2
      refine ⟨fun c3 => ⟨_, k_noise (by omega) hν.noi.2 hν.noi.1, fun z61 μ59 q z68 e68 => ?_⟩, fun c3 => ⟨v36, v6, bad ?_⟩⟩
      · obtain ⟨rfl, e61⟩ := q
        have g3 := (hif _ _ e51).mp c3
        refine ⟨⟨fun _ => ⟨v36, v6⟩, fun _ => v36⟩, fun y77 e77 => ⟨v36, fun μ81 e81 z87 e87 => ?_⟩⟩
        rw [e87, nI_1, e81]
        refine ihn _ ?_
        rw [← hF]
        show _ = it (fTwo2 n t s) (i + 1) k (fTwo2 n t s i μ59)
        unfold fTwo2
        have : fGood n t s i μ59 = !fNoise μ59 i t := by unfold fGood; rw [g1, g2, g3]; simp
        rw [this, e77, e68, e61]
        cases fNoise μ59 i t <;> rfl
      · have : fAny n μ49 i s t = true := by
          by_cases q : fAny n μ49 i s t = true
          · exact q
          · exact absurd ((hif _ _ e51).mpr (by simpa using q)) c3
        unfold fGood
        rw [this]
        simp
    · have : fSends μ39 i t = true := by
        by_cases q : fSends μ39 i t = true
        · exact q
        · exact absurd ((hif _ _ e41).mpr (by simpa using q)) c2
      unfold fGood
      rw [this]
      simp
theorem k_stepTwo {t : Int64} (hn : okN n) (h : MI n E μ) : r_MV l w B m tX8_stepTwo [.long t] μ (fun μ' => μ' = fTwo n t μ) := by
  have hn6 := hn.2
  have hn2 := hn.1
  refine r_MV.of (by decide) (fun _ => Nat.le_of_ble_eq_true rfl) (fun X σ0 C Ex => ?_)
  refine u_X8_stepTwo_0 C Ex ?_
  have key : ∀ (k i : Nat) (ν : Mu), i + k = n → MI n E ν → it (fTwo1 n t) i k ν = fTwo n t μ → r_Wm X w B 6 m σ0 (r_Z X w B tX8_stepTwo (ZMV m σ0 (fun μ' => μ' = fTwo n t μ))) 2 [(0, Value.ref (B + m)), (1, Value.long t), (3, Value.int (nI i))] [] ν := by
    intro k
    induction k with
    | zero =>
      intro i ν hi hν hF
      have hi : i = n := by omega
      subst hi
      exact u_X8_stepTwo_2 C Ex ⟨fun _ => hF, fun c => absurd (by rw [hν.n1]; exact nI_le (Nat.le_refl _) (by omega)) c⟩
    | succ k ih =>
      intro i ν hi hν hF
      have hν1 : MI n E (fTwo1 n t i ν) := by
        unfold fTwo1
        split
        · exact it_inv (hi := n) (P := fun _ ν => MI n E ν) (fun _ _ _ q => q.bad _ _) n 0 ν (by omega) hν
        · exact hν
      have ihn := ih (i + 1) (fTwo1 n t i ν) (by omega) hν1 hF
      refine u_X8_stepTwo_2 C Ex ⟨fun c => absurd c (by rw [hν.n1]; exact nI_ge (by omega) (by omega)), fun _ => ?_⟩
      by_cases hS : fSends ν i t = true
      · have h0 := k_two (s := i) hn (by omega) (fTwo1 n t i ν) C Ex ihn n 0 ν (by omega) hν hS (by unfold fTwo1; rw [if_pos hS])
        rw [nI_0] at h0
        exact h0
      · have e1 : fTwo1 n t i ν = ν := by unfold fTwo1; rw [if_neg hS]
        rw [e1] at ihn
        refine u_X8_stepTwo_13 C Ex ⟨fun c => absurd c (by rw [hν.n1]; exact nI_ge (a := 0) (by omega) (by omega)), fun _ => ⟨_, k_sends (by omega), fun z μ6 q => ?_⟩⟩
        obtain ⟨rfl, e8⟩ := q
        rw [if_neg hS] at e8
        refine ⟨fun _ z e => ?_, fun c => absurd e8 c⟩
        rw [e, nI_1]
        exact ihn
  have h0 := key n 0 μ (by omega) h rfl
  rw [nI_0] at h0
  exact h0
end MF6
