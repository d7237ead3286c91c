/-! run: the time, a slot, the loop -/
section MFB
variable {l : Launch} {w : r_V} {B m n E : Nat} {μ : Mu}
theorem tm_fail {s : Nat} {t : Int64} : (fFail s t μ).2 0 2 = μ.2 0 2 := by
  rw [fFail_eq]
  have h0 : (fFail0 s t μ).2 0 2 = μ.2 0 2 := by
    unfold fFail0
    split
    · rfl
    · show (fTell _ _ _ _).2 0 2 = _
      rw [fTell_2 (by decide)]
      rfl
  unfold fKeepDraw
  split
  · exact h0
  · exact h0
theorem tm_begin {s : Nat} {a b c d : Int32} {t : Int64} : (fBegin n s a b c d t μ).2 0 2 = μ.2 0 2 := by
  rw [fBegin_eq]
  rfl
theorem tm_one1 {s : Nat} {t : Int64} : (fOne1 n t s μ).2 0 2 = μ.2 0 2 := by
  unfold fOne1 fOneB
  generalize hν : (if μ.2 23 s = t then fFail s t μ else μ) = ν
  have h1 : ν.2 0 2 = μ.2 0 2 := by
    rw [← hν]
    split
    · exact tm_fail
    · rfl
  split
  · rw [tm_begin]; exact h1
  · split
    · unfold fAttempt
      rw [tm_begin]
      exact h1
    · exact h1
theorem tm_one {t : Int64} : (fOne n t μ).2 0 2 = μ.2 0 2 := it_inv (hi := n) (P := fun _ ν => ν.2 0 2 = μ.2 0 2) (fun _ _ _ q => tm_one1.trans q) n 0 μ (by omega) rfl
theorem tm_two {t : Int64} : (fTwo n t μ).2 0 2 = μ.2 0 2 := it_inv (hi := n) (P := fun _ ν => ν.2 0 2 = μ.2 0 2) (fun i ν _ q => by
  unfold fTwo1
  split
  · exact it_inv (f := fTwo2 n t i) (hi := n) (P := fun _ (ν : Mu) => ν.2 0 2 = μ.2 0 2) (fun _ _ _ q => q) n 0 ν (by omega) q
  · exact q) n 0 μ (by omega) rfl
theorem fHand_2 {p : Int32} {t : Int64} {g i : Nat} (hg : g ≠ 16) : (fHand p t μ).2 g i = μ.2 g i := by
  unfold fHand
  rw [fTell_2 hg]
  rfl
theorem fT2_2 {s r : Nat} : ∀ (j k : Nat) (bits at1 : Int32) (ν : Mu), (fT2 s r j k bits at1 ν).2.2 = ν.2
  | 0, _, _, _, _ => rfl
  | j + 1, k, bits, at1, ν => by
    simp only [fT2]
    split
    · rw [fT2_2 j]
      rfl
    · rw [fT2_2 j]
theorem fTake_2 {s r : Nat} {t : Int64} {g i : Nat} (hg : g ≠ 16) : (fTake s r t μ).2.2 g i = μ.2 g i := by
  have h1 : (fTake1 s r t μ).2 g i = μ.2 g i := by
    unfold fTake1
    split
    · rfl
    · show (it (fT1 s r (μ.1 5 (μ.1 34 (4 * s)).toNatClampNeg) t) 1 (pN μ) μ).2 g i = _
      exact it_inv1 (f := fT1 s r (μ.1 5 (μ.1 34 (4 * s)).toNatClampNeg) t) (hi := pN μ + 1) (P := fun _ ν => ν.2 g i = μ.2 g i) (fun q ν _ _ h => by
        unfold fT1
        split
        · rw [fHand_2 hg]; exact h
        · exact h) (pN μ) 1 μ (Nat.le_refl 1) (by omega) rfl
  refine it_inv1 (f := fT3 s r t) (hi := pN μ + 1) (P := fun _ (ν : Mu) => ν.2 g i = μ.2 g i) (fun q ν _ _ h => ?_) (pN μ) 1 _ (Nat.le_refl 1) (by omega) ?_
  · unfold fT3
    split
    · show (fHand (nI q) t ν).2 g i = _
      rw [fHand_2 hg]; exact h
    · exact h
  · unfold fTake2
    rw [fT2_2]
    exact h1
theorem tm_ack {r : Nat} {bits : Int32} {t : Int64} : (fAck r bits t μ).2 0 2 = μ.2 0 2 := by
  have h1 : (fAckL r bits t μ).2 0 2 = μ.2 0 2 := it_inv (f := fA1 r bits t) (hi := (μ.1 35 r).toNatClampNeg) (P := fun _ (ν : Mu) => ν.2 0 2 = μ.2 0 2) (fun _ _ _ q => (fA1_2 (g := 0) (by decide)).trans q) (μ.1 35 r).toNatClampNeg 0 (ul μ 23 r (-1)) (by omega) rfl
  unfold fAck
  split
  · rw [tm_fail]; exact h1
  · unfold fKeepDraw
    split
    · exact h1
    · exact h1
theorem tm_rec {s r : Nat} {t : Int64} : (fRec s r t μ).2 0 2 = μ.2 0 2 := by
  have hT : (fTake s r t μ).2.2 0 2 = μ.2 0 2 := fTake_2 (by decide)
  unfold fRec
  split
  · split
    · split
      · rfl
      · rfl
    · split
      · split
        · exact hT
        · exact hT
      · split
        · split
          · rfl
          · exact tm_ack
        · rfl
  · rfl
theorem tm_three {t : Int64} : (fThree n t μ).2 0 2 = μ.2 0 2 := it_inv (hi := n) (P := fun _ ν => ν.2 0 2 = μ.2 0 2) (fun i ν _ q => by
  unfold fThree1
  split
  · have h1 : (it (fThree2 t i) 0 n ν).2 0 2 = μ.2 0 2 := it_inv (f := fThree2 t i) (hi := n) (P := fun _ (ν : Mu) => ν.2 0 2 = μ.2 0 2) (fun r ρ _ h => by
      unfold fThree2
      split
      · unfold fReceive
        rw [tm_rec]
        exact h
      · exact h) n 0 ν (by omega) q
    unfold fEnd
    split
    · exact h1
    · exact h1
  · exact q) n 0 μ (by omega) rfl
theorem tm_four {t : Int64} : (fFour n t μ).2 0 2 = μ.2 0 2 := it_inv (f := fFour2 t) (hi := n) (P := fun _ (ν : Mu) => ν.2 0 2 = μ.2 0 2) (fun _ _ _ q => q) n 0 _ (by omega) (it_inv (f := fFour1 n t) (hi := n) (P := fun _ (ν : Mu) => ν.2 0 2 = μ.2 0 2) (fun i ν _ q => by
  have hA : (fFourA n t i ν).2 0 2 = μ.2 0 2 := by
    unfold fFourA
    split <;> exact q
  unfold fFour1 fFourB
  split
  · split <;> exact hA
  · exact hA) n 0 μ (by omega) rfl)
theorem MI.slot (hn : okN n) (h : MI n E μ) (ht : 0 ≤ μ.2 0 2) : MI n (E + 200) (fSlot n μ) := by
  have hn6 := hn.2
  have h1 := (((h.one ht).two (t := μ.2 0 2)).three hn (t := μ.2 0 2)).four (t := μ.2 0 2)
  have h2 : MI n (E + n + 180) (fSlot n μ) := h1
  exact h2.up (by omega)
theorem tm_slot : (fSlot n μ).2 0 2 = μ.2 0 2 + 1 := rfl
theorem k_run {x : Int32} {T : Nat} (hn : okN n) (h : MI n E μ) (hT : μ.2 0 2 = lN T) (hT2 : T + 2000 < 2 ^ 31) (hE : E + 400000 < 2 ^ 30) : r_MI l w B m tX8_run [.int x] μ (fun z μ' => z = (aRun n x μ).1 ∧ μ' = (aRun n x μ).2) := by
  have hn6 := hn.2
  refine r_MI.of (by decide) (fun _ => Nat.le_of_ble_eq_true rfl) (fun X σ0 C Ex => ?_)
  refine u_X8_run_0 C Ex (fun μ1 e1 => ?_)
  have h1 : μ1 = thr μ := e1
  unfold aRun
  refine ⟨fun c => ?_, fun c => ⟨fun c2 z9 e9 => ?_, fun c2 => ?_⟩⟩
  · rw [if_pos (Or.inl c)]; exact ⟨rfl, h1⟩
  · rw [if_neg (fun q => q.elim c (fun q => q c2))]
    obtain ⟨k, hk, rfl⟩ := nI_of2 (M := 2000) (n := 2000) rfl (fun q => c (Int32.lt_trans q (by decide))) c2
    have e9' : z9 = μ.1 0 21 := by rw [e9, h1]; rfl
    rw [nI_clampS (by omega), e9']
    have key : ∀ (j i : Nat) (ν : Mu), i + j = k → MI n (E + 200 * i) ν → ν.2 0 2 = lN (T + i) → it (fun _ μ => fSlot n μ) i j ν = fRun n k (thr μ) → r_Wm X w B 4 m σ0 (r_Z X w B tX8_run (ZMI m σ0 (fun z μ' => z = (fRun n k (thr μ)).1 0 21 - μ.1 0 21 ∧ μ' = fRun n k (thr μ)))) 27 [(0, Value.ref (B + m)), (1, Value.int (nI k)), (2, Value.int (μ.1 0 21)), (3, Value.int (nI i))] [] ν := by
      intro j
      induction j with
      | zero =>
        intro i ν hi hν ht hF
        have hF : ν = fRun n k (thr μ) := hF
        exact u_X8_run_27 C Ex ⟨fun _ => ⟨by rw [hF], hF⟩, fun c => absurd (nI_le (by omega) (by omega)) c⟩
      | succ j ih =>
        intro i ν hi hν ht hF
        have h0 : 0 ≤ ν.2 0 2 := by
          rw [ht]
          exact (pk_lLE (a := 0) (by omega) (by omega)).mpr (Nat.zero_le _)
        have hs := hν.slot hn h0
        rw [show E + 200 * i + 200 = E + 200 * (i + 1) by omega] at hs
        have ihn := ih (i + 1) (fSlot n ν) (by omega) hs (by rw [tm_slot, ht, lN_1]; rfl) hF
        refine u_X8_run_27 C Ex ⟨fun c => absurd c (nI_ge (by omega) (by omega)), fun _ => ?_⟩
        have m1 := hν.one h0
        refine ⟨_, k_stepOne hn hν (by omega) h0, fun μ4 q4 => ?_⟩
        have t4 : μ4.2 0 2 = ν.2 0 2 := by rw [q4, tm_one]
        rw [t4]
        refine ⟨_, k_stepTwo hn (E := E + 200 * i + n) (by rw [q4]; exact m1), fun μ13 q13 => ?_⟩
        have t13 : μ13.2 0 2 = ν.2 0 2 := by rw [q13, tm_two, t4]
        rw [t13]
        refine ⟨_, k_stepThree hn (E := E + 200 * i + n) (by rw [q13, q4]; exact m1.two) (by omega), fun μ22 q22 => ?_⟩
        have t22 : μ22.2 0 2 = ν.2 0 2 := by rw [q22, tm_three, t13]
        rw [t22]
        refine ⟨_, k_stepFour hn (E := E + 200 * i + n + 180) (by rw [q22, q13, q4]; exact m1.two.three hn), fun μ31 q31 μ38 e38 z e => ?_⟩
        have t31 : μ31.2 0 2 = ν.2 0 2 := by rw [q31, tm_four, t22]
        rw [e, nI_1]
        have : μ38 = fSlot n ν := by rw [e38, t31, q31, q22, q13, q4]; rfl
        rw [this]
        exact ihn
    have h0 := key k 0 μ1 (by omega) (by rw [h1]; exact h.thr) (by rw [h1]; exact hT) (by rw [h1]; rfl)
    rw [nI_0] at h0
    exact h0
  · rw [if_pos (Or.inr c2)]; exact ⟨rfl, h1⟩
theorem MI.runN (hn : okN n) (h : MI n E μ) {T k : Nat} (hT : μ.2 0 2 = lN T) (hT2 : T + k < 2 ^ 31) : MI n (E + 200 * k) (fRun n k μ) ∧ (fRun n k μ).2 0 2 = lN (T + k) :=
  it_inv (hi := k) (P := fun i ν => MI n (E + 200 * i) ν ∧ ν.2 0 2 = lN (T + i)) (fun i ν hi q => by
    have h0 : 0 ≤ ν.2 0 2 := by
      rw [q.2]
      exact (pk_lLE (a := 0) (by omega) (by omega)).mpr (Nat.zero_le _)
    have hs := q.1.slot hn h0
    rw [show E + 200 * i + 200 = E + 200 * (i + 1) by omega] at hs
    exact ⟨hs, by rw [tm_slot, q.2, lN_1]; rfl⟩) k 0 μ (by omega) ⟨h, hT⟩
end MFB
