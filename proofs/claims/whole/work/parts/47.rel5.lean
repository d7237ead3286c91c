/-! a frame begins -/
def vbeg (V : Vw) (n wN : Nat) (other size tale : Int32) (t last : Int64) : Vw := (fun g => if g = 37 then nI wN else if g = 38 then other else if g = 41 then size else if g = 42 then tale else V.1 g, fun g => if g = 39 then t else if g = 40 then last else V.2.1 g, fun k => if k + 1 = wN then V.2.2.1 k + 1 else V.2.2.1 k, fun r => if r < n then 0 else V.2.2.2.1 r, V.2.2.2.2)
def vtl (V : Vw) (tls : Nat → List Int32) : Vw := (V.1, V.2.1, V.2.2.1, V.2.2.2.1, tls, V.2.2.2.2.2)
section R5
variable {n T s : Nat} {μ : Mu}
theorem beg_ix {wN : Nat} (hs : s < 6) (hw : 1 ≤ wN ∧ wN ≤ 4) : ((4 * nI s + nI wN) - 1).toNatClampNeg = 4 * s + wN - 1 := by
  rw [four0, nI_add, show (1 : Int32) = nI 1 from rfl, pk_sub (by omega), nI_clampS (by omega)]
theorem view_begin {wN : Nat} {other size tale : Int32} {t : Int64} (hn : okN n) (hs : s < n) (hw : 1 ≤ wN ∧ wN ≤ 4) : view (fBegin n s (nI wN) other size tale t μ) s = vbeg (view μ s) n wN other size tale t ((t + (if nI wN = 3 then size else 2).toInt64) - 1) := by
  have hn6 := hn.2
  rw [fBegin_eq]
  refine Prod.ext (funext fun g => ?_) (Prod.ext (funext fun g => ?_) (Prod.ext (funext fun k => ?_) (Prod.ext (funext fun r => ?_) rfl)))
  · show (if okg g = true then (zb n s (fBeg0 s (nI wN) other size tale t μ)).1 g s else 0) = (if g = 37 then nI wN else if g = 38 then other else if g = 41 then size else if g = 42 then tale else if okg g = true then μ.1 g s else 0)
    by_cases hk : okg g = true
    · have h33 : g ≠ 33 := by
        intro q
        subst q
        exact absurd hk (by decide)
      rw [if_pos hk, if_pos hk]
      simp only [zb, fBeg0, ui, ul]
      by_cases h37 : g = 37
      · subst h37; simp
      · by_cases h38 : g = 38
        · subst h38; simp
        · by_cases h41 : g = 41
          · subst h41; simp
          · by_cases h42 : g = 42
            · subst h42; simp
            · simp [h33, h37, h38, h41, h42]
    · rw [if_neg hk, if_neg hk]
      have h37 : g ≠ 37 := fun q => hk (by rw [q]; decide)
      have h38 : g ≠ 38 := fun q => hk (by rw [q]; decide)
      have h41 : g ≠ 41 := fun q => hk (by rw [q]; decide)
      have h42 : g ≠ 42 := fun q => hk (by rw [q]; decide)
      rw [if_neg h37, if_neg h38, if_neg h41, if_neg h42]
  · show (if okl g = true then (zb n s (fBeg0 s (nI wN) other size tale t μ)).2 g s else 0) = (if g = 39 then t else if g = 40 then _ else if okl g = true then μ.2 g s else 0)
    by_cases hk : okl g = true
    · have h43 : g ≠ 43 := by
        intro q
        subst q
        exact absurd hk (by decide)
      rw [if_pos hk, if_pos hk]
      simp only [zb, fBeg0, ui, ul]
      by_cases h39 : g = 39
      · subst h39; simp
      · by_cases h40 : g = 40
        · subst h40; simp
        · simp [h43, h39, h40]
    · rw [if_neg hk, if_neg hk]
      have h39 : g ≠ 39 := fun q => hk (by rw [q]; decide)
      have h40 : g ≠ 40 := fun q => hk (by rw [q]; decide)
      rw [if_neg h39, if_neg h40]
  · show (if k < 4 then (if 33 = 33 ∧ 4 * s + k = ((4 * nI s + nI wN) - 1).toNatClampNeg then μ.1 33 ((4 * nI s + nI wN) - 1).toNatClampNeg + 1 else μ.1 33 (4 * s + k)) else 0) = (if k + 1 = wN then (if k < 4 then μ.1 33 (4 * s + k) else 0) + 1 else if k < 4 then μ.1 33 (4 * s + k) else 0)
    rw [beg_ix (by omega) hw]
    by_cases h4 : k < 4
    · rw [if_pos h4, if_pos h4]
      by_cases hk : k + 1 = wN
      · rw [if_pos hk, if_pos ⟨rfl, by omega⟩, show 4 * s + wN - 1 = 4 * s + k by omega]
      · rw [if_neg hk, if_neg (by omega)]
    · rw [if_neg h4, if_neg h4, if_neg (by omega)]
  · show (if r < 6 then (if 43 = 43 ∧ (6 * s ≤ 6 * s + r ∧ 6 * s + r < 6 * s + n) then 0 else μ.2 43 (6 * s + r)) else 0) = (if r < n then 0 else if r < 6 then μ.2 43 (6 * s + r) else 0)
    by_cases h6 : r < 6
    · rw [if_pos h6, if_pos h6]
      by_cases hr : r < n
      · rw [if_pos hr, if_pos ⟨rfl, by omega⟩]
      · rw [if_neg hr, if_neg (by omega)]
    · rw [if_neg h6, if_neg h6, if_neg (by omega)]
theorem view_begin_ne {i wN : Nat} {other size tale : Int32} {t : Int64} (hn : okN n) (hs : s < n) (hi : i ≠ s) (hw : 1 ≤ wN ∧ wN ≤ 4) : view (fBegin n s (nI wN) other size tale t μ) i = view μ i := by
  have hn6 := hn.2
  rw [fBegin_eq]
  refine Prod.ext (funext fun g => ?_) (Prod.ext (funext fun g => ?_) (Prod.ext (funext fun k => ?_) (Prod.ext (funext fun r => ?_) rfl)))
  · show (if okg g = true then (zb n s (fBeg0 s (nI wN) other size tale t μ)).1 g i else 0) = (if okg g = true then μ.1 g i else 0)
    by_cases hk : okg g = true
    · have h33 : g ≠ 33 := by
        intro q
        subst q
        exact absurd hk (by decide)
      rw [if_pos hk, if_pos hk]
      simp [zb, fBeg0, ui, ul, hi, h33]
    · rw [if_neg hk, if_neg hk]
  · show (if okl g = true then (zb n s (fBeg0 s (nI wN) other size tale t μ)).2 g i else 0) = (if okl g = true then μ.2 g i else 0)
    by_cases hk : okl g = true
    · have h43 : g ≠ 43 := by
        intro q
        subst q
        exact absurd hk (by decide)
      rw [if_pos hk, if_pos hk]
      simp [zb, fBeg0, ui, ul, hi, h43]
    · rw [if_neg hk, if_neg hk]
  · show (if k < 4 then (if 33 = 33 ∧ 4 * i + k = ((4 * nI s + nI wN) - 1).toNatClampNeg then μ.1 33 ((4 * nI s + nI wN) - 1).toNatClampNeg + 1 else μ.1 33 (4 * i + k)) else 0) = (if k < 4 then μ.1 33 (4 * i + k) else 0)
    rw [beg_ix (by omega) hw]
    by_cases h4 : k < 4
    · rw [if_pos h4, if_pos h4, if_neg (by omega)]
    · rw [if_neg h4, if_neg h4]
  · show (if r < 6 then (if 43 = 43 ∧ (6 * s ≤ 6 * i + r ∧ 6 * i + r < 6 * s + n) then 0 else μ.2 43 (6 * i + r)) else 0) = (if r < 6 then μ.2 43 (6 * i + r) else 0)
    by_cases h6 : r < 6
    · rw [if_pos h6, if_pos h6, if_neg (by omega)]
    · rw [if_neg h6, if_neg h6]
theorem view_att {i : Nat} {D : List Nat} : view (fAtt0 s D μ) i = vtl (if i = s then vui (view μ s) 36 (sz (μ.1 4) (D.map nI)) else view μ i) (tl ((fAtt0 s D μ).1 34) ((fAtt0 s D μ).1 35)) := by
  have h1 : ∀ g, okg g = true → g ≠ 36 → (fAtt0 s D μ).1 g i = μ.1 g i := fun g hk h36 => by
    have h34 : g ≠ 34 := by
      intro q
      subst q
      exact absurd hk (by decide)
    have h35 : g ≠ 35 := by
      intro q
      subst q
      exact absurd hk (by decide)
    simp [fAtt0, ui, wr, h34, h35, h36]
  by_cases e : i = s
  · subst e
    rw [if_pos rfl]
    refine Prod.ext (funext fun g => ?_) rfl
    show (if okg g = true then (fAtt0 i D μ).1 g i else 0) = (if g = 36 then sz (μ.1 4) (D.map nI) else if okg g = true then μ.1 g i else 0)
    by_cases hk : okg g = true
    · rw [if_pos hk, if_pos hk]
      by_cases h36 : g = 36
      · subst h36
        rw [if_pos rfl, fAtt0_36, if_pos rfl]
      · rw [if_neg h36]
        exact h1 g hk h36
    · rw [if_neg hk, if_neg hk, if_neg (fun q => hk (by rw [q]; decide))]
  · rw [if_neg e]
    refine Prod.ext (funext fun g => ?_) rfl
    show (if okg g = true then (fAtt0 s D μ).1 g i else 0) = (if okg g = true then μ.1 g i else 0)
    by_cases hk : okg g = true
    · rw [if_pos hk, if_pos hk]
      by_cases h36 : g = 36
      · subst h36
        rw [fAtt0_36, if_neg e]
      · exact h1 g hk h36
    · rw [if_neg hk, if_neg hk]
theorem Bits.zero {g b : Int64} (hg : g = 0) (hb : b = 0) : Bits 0 g b := by
  subst hg
  subst hb
  intro j hj
  have : (0 : Int64).toBitVec.getLsbD j = false := by
    show (0#64).getLsbD j = false
    simp
  rw [this]
  simp
theorem gmo_begin {what other size tale : Int32} {t : Int64} : gmo (fBegin n s what other size tale t μ) = gmo μ := by
  rw [fBegin_eq]
  refine Prod.ext (funext fun g => funext fun k => ?_) (funext fun g => funext fun k => ?_)
  · show (if g < 17 ∧ g ≠ 1 ∧ g ≠ 6 ∧ ¬ (g = 0 ∧ k = 0) then (zb n s (fBeg0 s what other size tale t μ)).1 g k else 0) = (if g < 17 ∧ g ≠ 1 ∧ g ≠ 6 ∧ ¬ (g = 0 ∧ k = 0) then μ.1 g k else 0)
    by_cases h1 : g < 17 ∧ g ≠ 1 ∧ g ≠ 6 ∧ ¬ (g = 0 ∧ k = 0)
    · rw [if_pos h1, if_pos h1]
      have q : g ≠ 33 ∧ g ≠ 42 ∧ g ≠ 41 ∧ g ≠ 38 ∧ g ≠ 37 := by omega
      simp [zb, fBeg0, ui, ul, q]
    · rw [if_neg h1, if_neg h1]
  · show (if g < 17 then (zb n s (fBeg0 s what other size tale t μ)).2 g k else 0) = (if g < 17 then μ.2 g k else 0)
    by_cases h1 : g < 17
    · rw [if_pos h1, if_pos h1]
      have q : g ≠ 43 ∧ g ≠ 40 ∧ g ≠ 39 := by omega
      simp [zb, fBeg0, ui, ul, q]
    · rw [if_neg h1, if_neg h1]
theorem gmo_att {D : List Nat} : gmo (fAtt0 s D μ) = gmo μ := by
  refine Prod.ext (funext fun g => funext fun k => ?_) rfl
  show (if g < 17 ∧ g ≠ 1 ∧ g ≠ 6 ∧ ¬ (g = 0 ∧ k = 0) then (fAtt0 s D μ).1 g k else 0) = (if g < 17 ∧ g ≠ 1 ∧ g ≠ 6 ∧ ¬ (g = 0 ∧ k = 0) then μ.1 g k else 0)
  by_cases h1 : g < 17 ∧ g ≠ 1 ∧ g ≠ 6 ∧ ¬ (g = 0 ∧ k = 0)
  · rw [if_pos h1, if_pos h1]
    have q : g ≠ 34 ∧ g ≠ 35 ∧ g ≠ 36 := by omega
    simp [fAtt0, ui, wr, q]
  · rw [if_neg h1, if_neg h1]
end R5
section R6
variable {n T d m i : Nat} {A : Bk} {V : Vw}
/-- the due frame begins -/
theorem Rel.beginDue {wN : Nat} (h : Rel n T 0 0 false i A V) (hT : V.2.1 26 = lN T) (hTb : T < 2 ^ 31) (hw : V.1 27 = nI wN) (hw4 : 1 ≤ wN ∧ wN ≤ 4) (hne : ¬ V.2.1 23 = lN T) (hi6 : i < n) : ∃ dO sO : Nat, (dO = 6 ∧ sO = 10 ∨ dO = 10 ∧ sO = 6) ∧ A.2.2 0 13 = 22 + 14 * i + dO ∧ A.2.2 0 14 = 22 + 14 * i + sO ∧ A.1 dO 0 = nI wN ∧ Rel n T 1 0 false i (bki (bkr (bki (bkr A 0 13 (22 + 14 * i + sO)) sO 0 0) 0 14 (22 + 14 * i + dO)) 5 wN (A.1 5 wN + 1)) (vbeg (vul V 26 (-1)) n wN (V.1 28) (V.1 29) (V.1 30) (lN T) ((lN T + (if nI wN = 3 then V.1 29 else 2).toInt64) - 1)) := by
  obtain ⟨hO, hW, hB, hK, hTr, hL, dO, sO, hds, p1, p2, ⟨L, hRL, hD⟩, ⟨L2, hRL2, hk2, hS⟩⟩ := h
  have hT1 : ¬ lN T = -1 := by
    intro q
    have := congrArg Int64.toInt q
    rw [pk_lT (by omega)] at this
    exact absurd this (by rw [show ((-1 : Int64)).toInt = -1 from rfl]; omega)
  rcases hD with ⟨hD, -⟩ | ⟨a, z, r, d1, d2, d3, d4, d5, d6, d7, d8, d9, d10, d11, d12, d13, d14, d15, d16⟩
  · exact absurd (hT.symm.trans hD) hT1
  have ha : a = T := by
    rw [hT] at d1
    exact ((pk_lEQ (by omega) (by omega)).mp d1).symm
  subst ha
  have hW' : Wt a 1 A V := by
    rcases hW with hW | ⟨b, w1, w2, w3, w4, w5, w6, w7⟩
    · exact Or.inl hW
    · refine Or.inr ⟨b, w1, ?_, w3, w4, w5, w6, w7⟩
      have : b ≠ a := fun q => hne (by rw [w1, q])
      omega
  have h23 : V.1 27 = 3 → V.2.1 23 = -1 := fun q => (hL.2.1 q).resolve_left (by rw [hT]; exact hT1)
  have hwk : nI wN = 2 ∨ nI wN = 3 ∨ nI wN = 4 := by rw [← hw]; exact d6
  -- the last slot
  have hz1 : 1 ≤ (if nI wN = 3 then z else 2) := by
    split
    · rename_i q; exact d13 (hw.trans q)
    · omega
  have hlast : (lN a + (if nI wN = 3 then V.1 29 else 2).toInt64) - 1 = lN (a + (if nI wN = 3 then z else 2) - 1) := by
    have e1 : (if nI wN = 3 then V.1 29 else 2) = nI (if nI wN = 3 then z else 2) := by
      split
      · exact d11
      · rfl
    rw [e1, nI_l (by split <;> omega), lN_add, show (1 : Int64) = lN 1 from rfl, lN_sub (by omega)]
  have hz33 : (if nI wN = 3 then z else 2) ≤ 33 := by split <;> omega
  have hne0 : nI wN = 1 ∨ nI wN = 2 ∨ nI wN = 3 ∨ nI wN = 4 := Or.inr hwk
  have hwN : wN = 2 ∨ wN = 3 ∨ wN = 4 := by
    rcases hwk with q | q | q
    · exact Or.inl (nI_inj (b := 2) (by omega) (by omega) q)
    · exact Or.inr (Or.inl (nI_inj (b := 3) (by omega) (by omega) q))
    · exact Or.inr (Or.inr (nI_inj (b := 4) (by omega) (by omega) q))
  have key : ∀ dO sO : Nat, (dO = 6 ∧ sO = 10 ∨ dO = 10 ∧ sO = 6) → RA A (dO + 1) 4 L → RA A (sO + 1) 4 L2 → A.1 dO 1 = V.1 28 → A.1 dO 2 = V.1 29 → A.1 dO 3 = 0 → (∀ r, r < n → A.2.1 (dO + 3) r = 0) → A.1 dO 0 = V.1 27 → Rel n a 1 0 false i (bki (bkr (bki (bkr A 0 13 (22 + 14 * i + sO)) sO 0 0) 0 14 (22 + 14 * i + dO)) 5 wN (A.1 5 wN + 1)) (vbeg (vul V 26 (-1)) n wN (V.1 28) (V.1 29) (V.1 30) (lN a) ((lN a + (if nI wN = 3 then V.1 29 else 2).toInt64) - 1)) := by
    intro dO sO hds r1 r2 f1 f2 f3 f4 f0
    have hSd : ∀ A' : Bk, RA A' (dO + 1) 4 L → A'.1 dO 0 = nI wN → A'.1 dO 1 = V.1 28 → A'.1 dO 2 = V.1 29 → A'.1 dO 3 = 0 → (∀ r, r < n → A'.2.1 (dO + 3) r = 0) → Sd n a 0 false i dO A' (vbeg (vul V 26 (-1)) n wN (V.1 28) (V.1 29) (V.1 30) (lN a) ((lN a + (if nI wN = 3 then V.1 29 else 2).toInt64) - 1)) := by
      intro A' q1 q2 q3 q4 q5 q6
      refine ⟨L, q1, q2, Or.inr ⟨a, a + (if nI wN = 3 then z else 2) - 1, z, r, hne0, rfl, hlast, Nat.le_refl _, by omega, by omega, q3, d8, d9, q4, d11, d12, ?_, ?_, fun r hr => ?_, ?_, fun q => absurd q (by decide)⟩⟩
      · show a + (if nI wN = 3 then z else 2) - 1 + 1 = a + (if nI wN = 3 then z else 2)
        omega
      · rw [Nat.sub_self]
        exact q5
      · rw [Nat.sub_self]
        refine Bits.zero (q6 r hr) ?_
        show (if r < n then (0 : Int64) else _) = 0
        rw [if_pos hr]
      · rw [hw] at d16
        exact d16
    have hLg : Lg false (vbeg (vul V 26 (-1)) n wN (V.1 28) (V.1 29) (V.1 30) (lN a) ((lN a + (if nI wN = 3 then V.1 29 else 2).toInt64) - 1)) := by
      refine ⟨Or.inr rfl, fun _ => Or.inl rfl, fun q _ => ?_, fun q => (hL.2.2.2.2 (hw.trans q)).resolve_left (by rw [hT]; exact hT1), fun _ => Or.inl rfl⟩
      have q' : nI wN = 1 ∨ nI wN = 3 := q
      have h3 : nI wN = 3 := by
        rcases hwN with rfl | rfl | rfl
        · exact absurd q' (by decide)
        · rfl
        · exact absurd q' (by decide)
      exact h23 (hw.trans h3)
    rw [hw] at f0
    obtain ⟨b1, b2, b3, b4⟩ := hB
    rcases hwN with rfl | rfl | rfl
    · rcases hds with ⟨rfl, rfl⟩ | ⟨rfl, rfl⟩
      · exact ⟨hO, hW', ⟨b1, congrArg (· + 1) b2, b3, b4⟩, hK, hTr, hLg, 10, 6, Or.inr ⟨rfl, rfl⟩, rfl, rfl, ⟨L2, r2, Or.inl ⟨rfl, rfl⟩⟩, hSd _ r1 f0 f1 f2 f3 f4⟩
      · exact ⟨hO, hW', ⟨b1, congrArg (· + 1) b2, b3, b4⟩, hK, hTr, hLg, 6, 10, Or.inl ⟨rfl, rfl⟩, rfl, rfl, ⟨L2, r2, Or.inl ⟨rfl, rfl⟩⟩, hSd _ r1 f0 f1 f2 f3 f4⟩
    · rcases hds with ⟨rfl, rfl⟩ | ⟨rfl, rfl⟩
      · exact ⟨hO, hW', ⟨b1, b2, congrArg (· + 1) b3, b4⟩, hK, hTr, hLg, 10, 6, Or.inr ⟨rfl, rfl⟩, rfl, rfl, ⟨L2, r2, Or.inl ⟨rfl, rfl⟩⟩, hSd _ r1 f0 f1 f2 f3 f4⟩
      · exact ⟨hO, hW', ⟨b1, b2, congrArg (· + 1) b3, b4⟩, hK, hTr, hLg, 6, 10, Or.inl ⟨rfl, rfl⟩, rfl, rfl, ⟨L2, r2, Or.inl ⟨rfl, rfl⟩⟩, hSd _ r1 f0 f1 f2 f3 f4⟩
    · rcases hds with ⟨rfl, rfl⟩ | ⟨rfl, rfl⟩
      · exact ⟨hO, hW', ⟨b1, b2, b3, congrArg (· + 1) b4⟩, hK, hTr, hLg, 10, 6, Or.inr ⟨rfl, rfl⟩, rfl, rfl, ⟨L2, r2, Or.inl ⟨rfl, rfl⟩⟩, hSd _ r1 f0 f1 f2 f3 f4⟩
      · exact ⟨hO, hW', ⟨b1, b2, b3, congrArg (· + 1) b4⟩, hK, hTr, hLg, 6, 10, Or.inl ⟨rfl, rfl⟩, rfl, rfl, ⟨L2, r2, Or.inl ⟨rfl, rfl⟩⟩, hSd _ r1 f0 f1 f2 f3 f4⟩
  exact ⟨dO, sO, hds, p1, p2, d5.trans hw, key dO sO hds hRL hRL2 d7 d10 d14 d15 d5⟩
end R6
