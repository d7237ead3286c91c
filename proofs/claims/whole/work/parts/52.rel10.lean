/-! stepTwo and markGoodSlots -/
theorem bit1all : ∀ k : Fin 64, ∀ j : Fin 64, ((1 : Int64) <<< ((nI k.val).toInt64 &&& 63)).toBitVec.getLsbD j.val = decide (j.val = k.val) := by decide +kernel
theorem bit1 {k j : Nat} (hk : k < 64) (hj : j < 64) : ((1 : Int64) <<< ((nI k).toInt64 &&& 63)).toBitVec.getLsbD j = decide (j = k) := bit1all ⟨k, hk⟩ ⟨j, hj⟩
theorem Bits.good {k : Nat} {g b : Int64} (hk : k < 64) (h : Bits k g b) : Bits (k + 1) (g ||| ((1 : Int64) <<< ((nI k).toInt64 &&& 63))) b := by
  intro j hj
  obtain ⟨h1, h2⟩ := h j hj
  rw [Int64.toBitVec_or, BitVec.getLsbD_or, bit1 hk hj, h1]
  refine ⟨?_, fun q => by have := h2 q; omega⟩
  by_cases e : j = k
  · subst e
    have : b.toBitVec.getLsbD j = false := by
      by_cases q : b.toBitVec.getLsbD j = true
      · exact absurd (h2 q) (by omega)
      · simpa using q
    simp [this]
  · by_cases q : j < k
    · simp [q, e, show j < k + 1 by omega]
    · simp [q, e, show ¬ j < k + 1 by omega]
theorem Bits.bad {k : Nat} {g b : Int64} (hk : k < 64) (h : Bits k g b) : Bits (k + 1) g (b ||| ((1 : Int64) <<< ((nI k).toInt64 &&& 63))) := by
  intro j hj
  obtain ⟨h1, h2⟩ := h j hj
  rw [Int64.toBitVec_or, BitVec.getLsbD_or, bit1 hk hj, h1]
  by_cases e : j = k
  · subst e
    simp
  · by_cases q : j < k
    · simp [q, e, show j < k + 1 by omega]
    · simp only [q, e, decide_false, Bool.false_and, Bool.or_false, show ¬ j < k + 1 by omega]
      exact ⟨trivial, fun c => absurd (h2 c) q⟩
theorem Rel.mark {n T d i dO sO : Nat} {A A' : Bk} {V : Vw} {bad' : Nat → Int64} (h : Rel n T d 0 false i A V) (hds : dO = 6 ∧ sO = 10 ∨ dO = 10 ∧ sO = 6) (p1 : A.2.2 0 13 = 22 + 14 * i + dO) (p2 : A.2.2 0 14 = 22 + 14 * i + sO) (hk : ¬ V.1 37 = 0) (g : ∀ o, o ≠ sO → A'.1 o = A.1 o) (g3 : ∀ k, A'.1 sO k = if k = 3 then A.1 sO 3 + 1 else A.1 sO k) (gl : ∀ o, o ≠ sO + 3 → A'.2.1 o = A.2.1 o) (gr : A'.2.2 = A.2.2) (hb : ∀ a, V.2.1 39 = lN a → a ≤ T → T < a + 33 → ∀ r, r < n → Bits (T - a + 1) (A'.2.1 (sO + 3) r) (bad' r)) : Rel n T d 1 false i A' (V.1, V.2.1, V.2.2.1, bad', V.2.2.2.2) := by
  obtain ⟨hO, hW, hB, hK, hTr, hL, dO', sO', hds', p1', p2', ⟨L, hRL, hD⟩, ⟨L2, hRL2, hk2, hS⟩⟩ := h
  have e1 : dO' = dO := by omega
  have e2 : sO' = sO := by omega
  subst e1
  subst e2
  have hO' : Own n T i A' V := by unfold Own at *; rw [g 0 (by omega), gl 0 (by omega)]; exact hO
  have hW' : Wt T d A' V := by unfold Wt at *; rw [g 0 (by omega), gl 0 (by omega)]; exact hW
  have hB' : Bg A' V := by unfold Bg at *; rw [g 5 (by omega)]; exact hB
  refine ⟨hO', hW', hB', hK.same (g 1 (by omega)) (g 2 (by omega)), hTr.same (g 3 (by omega)) (g 4 (by omega)), hL, dO', sO', hds, by rw [gr]; exact p1, by rw [gr]; exact p2, ⟨L, hRL.same (g _ (by omega)) (g _ (by omega)), ?_⟩, ⟨L2, hRL2.same (g _ (by omega)) (g _ (by omega)), ?_, ?_⟩⟩
  · show (V.2.1 26 = -1 ∧ A'.1 dO' 0 = 0) ∨ _
    rw [g dO' (by omega), gl 0 (by omega), gl (dO' + 3) (by omega)]
    exact hD
  · rw [g3]; exact hk2
  · rcases hS with q | ⟨a, b, z, r, s1, s2, s3, s4, s5, s6, s7, s8, s9, s10, s11, s12, s13, s14, s15, s16, s17⟩
    · exact absurd q hk
    · refine Or.inr ⟨a, b, z, r, s1, s2, s3, s4, s5, s6, by rw [g3]; exact s7, s8, s9, by rw [g3]; exact s10, s11, s12, s13, ?_, fun r hr => hb a s2 s4 (by omega) r hr, s16, s17⟩
      rw [g3]
      show A.1 sO' 3 + 1 = _
      rw [s14, nI_1]
section RB
variable {l : Launch} {w : r_V} {B : Nat} {n T s r E : Nat} {S : Int32} {d m : Nat → Nat} {e : Nat → Bool} {κ κ' : Ku} {μ μ' : Mu}
theorem R.sends {lim cur : Nat} (hTb : T + 100 < 2 ^ 31) (h : R n T S d m e lim cur κ μ) (hs : s < n) : fSends μ s (lN T) = knd μ s := by
  obtain ⟨dO, sO, hds, p1, p2, -, ⟨L2, -, -, hS⟩⟩ := h.ptr hs
  unfold fSends knd
  rcases hS with w1 | ⟨a, b, z, r, x1, x2, x3, x4, x5, x6, -⟩
  · have w1 : μ.1 37 s = 0 := w1
    rw [w1]; rfl
  · have x1 : μ.1 37 s = 1 ∨ μ.1 37 s = 2 ∨ μ.1 37 s = 3 ∨ μ.1 37 s = 4 := x1
    have x2 : μ.2 39 s = lN a := x2
    have x3 : μ.2 40 s = lN b := x3
    have y1 : ¬ lN T < lN a := fun q => by have := (lN_lt (by omega) (by omega)).mp q; omega
    have y2 : ¬ lN b < lN T := fun q => by have := (lN_lt (by omega) (by omega)).mp q; omega
    rw [x2, x3, decide_eq_false y1, decide_eq_false y2]
    rcases x1 with x | x | x | x <;> rw [x] <;> rfl
theorem mask_and {f g : Nat → Bool} : mkM n f &&& mkM n g = mkM n (fun j => f j && g j) := by
  apply Nat.eq_of_testBit_eq
  intro i
  rw [Nat.testBit_and, mkM_bit, mkM_bit, mkM_bit]
  cases decide (i < n) <;> simp
theorem mask_one (hs : s < n) : (2 : Nat) ^ s = mkM n (fun j => decide (j = s)) := by
  apply Nat.eq_of_testBit_eq
  intro i
  rw [mkM_bit, Nat.testBit_two_pow]
  by_cases e : s = i
  · subst e; simp [hs]
  · simp [e, show ¬ i = s from fun q => e q.symm]
theorem mask_eq {f g : Nat → Bool} : mkM n f = mkM n g ↔ ∀ j, j < n → f j = g j := by
  constructor
  · intro h j hj
    have := congrArg (fun x => x.testBit j) h
    simp only [mkM_bit, hj, decide_true, Bool.true_and] at this
    exact this
  · intro h
    exact mkM_congr h
theorem mask_0 {f : Nat → Bool} : mkM n f = 0 ↔ ∀ j, j < n → f j = false := by
  have h0 : (0 : Nat) = mkM n (fun _ => false) := by
    apply Nat.eq_of_testBit_eq
    intro i
    rw [mkM_bit]
    simp
  rw [h0, mask_eq]
theorem mk31 (hn : okN n) {f : Nat → Bool} : mkM n f < 2 ^ 31 := by
  have := mkM_lt (f := f) (n := n)
  have := pw6 hn.2
  omega
theorem send_bit (hn : okN n) (hs : s < n) {f : Nat → Bool} : nI (mkM n f) &&& nI (2 ^ s) = 0 ↔ f s = false := by
  have hn6 := hn.2
  have h2 : (2 : Nat) ^ s < 2 ^ 31 := by have := pw6 (i := s) (by omega); omega
  rw [nI_and (mk31 hn) h2, mask_one hs, mask_and, ← nI_0, nI_eq (mk31 hn) (by omega), mask_0]
  constructor
  · intro h
    have := h s hs
    simpa using this
  · intro h j hj
    by_cases e : j = s
    · subst e; simp [h]
    · simp [e]
theorem hear_one (hn : okN n) (hs : s < n) {f g : Nat → Bool} (hf : f s = true) : nI (mkM n f) &&& nI (mkM n g) = nI (2 ^ s) ↔ g s = true ∧ ∀ j, j < n → j ≠ s → (g j && f j) = false := by
  have hn6 := hn.2
  have h2 : (2 : Nat) ^ s < 2 ^ 31 := by have := pw6 (i := s) (by omega); omega
  rw [nI_and (mk31 hn) (mk31 hn), mask_and, nI_eq (mk31 hn) h2, mask_one hs, mask_eq]
  constructor
  · intro h
    refine ⟨by have := h s hs; simpa [hf] using this, fun j hj hjs => ?_⟩
    have := h j hj
    rw [Bool.and_comm]
    simpa [hjs] using this
  · intro h j hj
    by_cases e : j = s
    · subst e; simp [hf, h.1]
    · have := h.2 j hj e
      rw [Bool.and_comm] at this
      rw [this]; simp [e]
theorem any_eq (hn : okN n) {lim cur : Nat} (hTb : T + 100 < 2 ^ 31) (h : R n T S d m e lim cur κ μ) : fAny n μ r s (lN T) = false ↔ ∀ j, j < n → j ≠ s → (fHears μ r j && knd μ j) = false := by
  unfold fAny
  rw [List.any_eq_false]
  constructor
  · intro q j hj hjs
    have := q j (List.mem_range.mpr hj)
    rw [h.sends hTb hj] at this
    simpa [hjs] using this
  · intro q j hj
    have hj := List.mem_range.mp hj
    rw [h.sends hTb hj]
    by_cases e : j = s
    · simp [e]
    · have := q j hj e
      rw [this]; simp
theorem noise_eq {lim cur : Nat} (h : R n T S d m e lim cur κ μ) {t : Int64} : (List.range (nN μ)).any (kCov κ (nI r) t) = fNoise μ r t := by
  obtain ⟨-, b1, b2, b3, b4, b5, b6, b7, b8, b9, b10, -⟩ := h.gl
  unfold fNoise
  congr 1
  funext k
  unfold kCov fCov
  have e8 : κ.1 12 k = μ.1 11 k := b8 k
  have e9 : κ.2.1 13 k = μ.2 12 k := b9 k
  have e10 : κ.2.1 14 k = μ.2 12 k + (μ.1 13 k).toInt64 := b10 k
  rw [e8, e9, e10, Bool.and_assoc]
theorem c_isGood {lim cur : Nat} (hn : okN n) (hTb : T + 100 < 2 ^ 31) (h : R n T (SN n μ) d m e lim cur κ μ) (hM : MI n E μ) (hs : s < n) (hr : r < n) (hk : knd μ s = true) {κ9 : Ku} (hC : CoK n κ9) (h1 : κ9.1 = κ.1) (h2 : ∀ a, a < 22 → κ9.2.1 a = κ.2.1 a) : r_KI l w B n tX7_isGood [.ref (B + 1), .ref (B + (22 + 14 * r)), .ref (B + (22 + 14 * s))] κ9 (fun z κ' => κ' = κ9 ∧ z = if fGood n (lN T) s r μ then 1 else 0) := by
  have hS : κ.1 1 8 = SN n μ := h.gl.pays.2.2.2.2.2.2.2.2
  obtain ⟨r0, r1, r2, -⟩ := h.stat hr
  obtain ⟨-, s1, -⟩ := h.stat hs
  have ht : κ9.2.1 1 7 = lN T := by rw [h2 1 (by omega)]; exact h.gl.time.1
  refine r_enter (by decide) (Nat.le_of_ble_eq_true rfl) (fun X C Ex => ?_)
  refine v_X7_isGood_0 C Ex hn hC Gr.rf (at_st hn hr) (at_st hn hs) ?_
  rw [h1, hS, r0, r1, r2, s1, ht]
  unfold SN
  rw [send_bit hn hr, hear_one hn hs hk, ← any_eq hn hTb h]
  have e17 : κ9.1 11 3 = nI (nN μ) := by rw [h1]; exact h.gl.1.2.2.2.2.2.2.2.1.trans hM.noi.1
  have ecov : (List.range (nN μ)).any (kCov κ9 (nI r) (lN T)) = fNoise μ r (lN T) := by
    rw [← noise_eq h]
    congr 1
    funext k
    unfold kCov
    rw [h1, h2 13 (by omega), h2 14 (by omega)]
  refine ⟨fun c1 => ⟨fun c2 => ⟨_, s_Noise_cover hn hC hM.noi.2 e17, fun z κ5 q z13 e13 => ?_⟩, fun c2 => ⟨rfl, ?_⟩⟩, fun c1 => ⟨rfl, ?_⟩⟩
  · obtain ⟨rfl, ez⟩ := q
    rw [ecov] at ez
    have eg : fGood n (lN T) s r μ = !fNoise μ r (lN T) := by
      unfold fGood
      rw [c2.1, h.sends hTb hr, c1, c2.2]
      simp
    refine ⟨by rw [e13]; exact ite10 _, rfl, ?_⟩
    rw [e13, ez, eg]
    cases fNoise μ r (lN T) <;> rfl
  · have eg : fGood n (lN T) s r μ = false := by
      unfold fGood
      rw [h.sends hTb hr, c1]
      by_cases q1 : fHears μ r s = true
      · have : fAny n μ r s (lN T) = true := by
          by_cases q : fAny n μ r s (lN T) = true
          · exact q
          · exact absurd ⟨q1, by simpa using q⟩ c2
        rw [this]; simp
      · have q1 : fHears μ r s = false := by simpa using q1
        rw [q1]; rfl
    rw [eg]; rfl
  · have eg : fGood n (lN T) s r μ = false := by
      unfold fGood
      have : knd μ r = true := by
        by_cases q : knd μ r = true
        · exact q
        · exact absurd (by simpa using q) c1
      rw [h.sends hTb hr, this]; simp
    rw [eg]; rfl
end RB
