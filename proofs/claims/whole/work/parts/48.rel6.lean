/-! stepOne and beginFrames -/
theorem lN_m1 {a : Nat} (h : a < 2 ^ 31) : ¬ lN a = -1 := by
  intro q
  have := congrArg Int64.toInt q
  rw [pk_lT (by omega)] at this
  exact absurd this (by rw [show ((-1 : Int64)).toInt = -1 from rfl]; omega)
theorem lN_ne {a b : Nat} (ha : a < 2 ^ 31) (hb : b < 2 ^ 31) : lN a = lN b ↔ a = b := pk_lEQ (by omega) (by omega)
section R7
variable {l : Launch} {w : r_V} {B : Nat} {n T s E : Nat} {S : Int32} {d m : Nat → Nat} {e : Nat → Bool} {κ κ' : Ku} {μ μ' : Mu}
theorem R.beginDue (hn : okN n) (h : R n T S d m e 1 n κ μ) (hM : MI n E μ) (hs : s < n) (hTb : T + 10 < 2 ^ 31) (hd : d s = 0) (hm : m s = 0) (he : e s = false) (hT : μ.2 26 s = lN T) (hne : ¬ μ.2 23 s = lN T) {d' : Nat → Nat} (hd1 : d' s = 1) (hd2 : ∀ i, i ≠ s → d' i = d i) : κ.2.2 (22 + 14 * s) 13 ≠ κ.2.2 (22 + 14 * s) 14 ∧ vp_in (κ.1 (κ.2.2 (22 + 14 * s) 13) 0) 5 ∧ R n T S d' m e 1 n (kBegun (kSwap κ (22 + 14 * s)) (22 + 14 * s)) (fBegin n s (μ.1 27 s) (μ.1 28 s) (μ.1 29 s) (μ.1 30 s) (lN T) (ul μ 26 s (-1))) := by
  have hat := at_st hn hs
  have hn6 := hn.2
  have hk : ∃ wN : Nat, μ.1 27 s = nI wN ∧ 1 ≤ wN ∧ wN ≤ 4 := by
    rcases hM.dk s hs with q | q | q | q
    · rw [hT] at q
      exact absurd q (Int64.not_lt.mpr ((pk_lLE (a := 0) (by omega) (by omega)).mpr (Nat.zero_le _)))
    · exact ⟨2, q, by omega, by omega⟩
    · exact ⟨3, q, by omega, by omega⟩
    · exact ⟨4, q, by omega, by omega⟩
  obtain ⟨wN, hw, hw4⟩ := hk
  have hrel := h.rel s hs
  rw [hd, hm, he] at hrel
  obtain ⟨dO, sO, hds, p1, p2, hk0, hr⟩ := hrel.beginDue (wN := wN) hT (by omega) hw hw4 hne hs
  have p1 : κ.2.2 (22 + 14 * s) 13 = 22 + 14 * s + dO := p1
  have p2 : κ.2.2 (22 + 14 * s) 14 = 22 + 14 * s + sO := p2
  have hk0 : κ.1 (22 + 14 * s + dO) 0 = nI wN := by
    have q : (blk κ s).1 dO 0 = κ.1 (22 + 14 * s + dO) 0 := if_pos (by omega)
    rw [← q]; exact hk0
  have hO : dO < 14 ∧ sO < 14 ∧ dO ≠ sO := by omega
  obtain ⟨-, -, -, f1, f2⟩ := h.co.2.2.2.1 _ hat
  -- the class's state
  have eSw : kSwap κ (22 + 14 * s) = kr (ki (kr κ (22 + 14 * s) 13 (22 + 14 * s + sO)) (22 + 14 * s + sO) 0 0) (22 + 14 * s) 14 (22 + 14 * s + dO) := by unfold kSwap; rw [p1, p2]
  have e14 : (kSwap κ (22 + 14 * s)).2.2 (22 + 14 * s) 14 = 22 + 14 * s + dO := by rw [eSw]; simp [kr]
  have ek : (kSwap κ (22 + 14 * s)).1 (22 + 14 * s + dO) 0 = nI wN := by
    rw [eSw]
    show (if 22 + 14 * s + dO = 22 + 14 * s + sO ∧ 0 = 0 then 0 else κ.1 (22 + 14 * s + dO) 0) = _
    rw [if_neg (by omega)]
    exact hk0
  have e5 : (kSwap κ (22 + 14 * s)).1 (22 + 14 * s + 5) wN = κ.1 (22 + 14 * s + 5) wN := by
    rw [eSw]
    show (if 22 + 14 * s + 5 = 22 + 14 * s + sO ∧ wN = 0 then 0 else κ.1 (22 + 14 * s + 5) wN) = _
    rw [if_neg (by omega)]
  have eB : kBegun (kSwap κ (22 + 14 * s)) (22 + 14 * s) = ki (kr (ki (kr κ (22 + 14 * s) 13 (22 + 14 * s + sO)) (22 + 14 * s + sO) 0 0) (22 + 14 * s) 14 (22 + 14 * s + dO)) (22 + 14 * s + 5) wN (κ.1 (22 + 14 * s + 5) wN + 1) := by
    unfold kBegun
    rw [e14, ek, nI_clampS (by omega), e5, eSw]
  have hblk : blk (kBegun (kSwap κ (22 + 14 * s)) (22 + 14 * s)) s = bki (bkr (bki (bkr (blk κ s) 0 13 (22 + 14 * s + sO)) sO 0 0) 0 14 (22 + 14 * s + dO)) 5 wN ((blk κ s).1 5 wN + 1) := by
    rw [eB, blk_ki (by omega)]
    have q1 := blk_kr (κ := ki (kr κ (22 + 14 * s) 13 (22 + 14 * s + sO)) (22 + 14 * s + sO) 0 0) (s := s) (o := 0) (k := 14) (x := 22 + 14 * s + dO) (by omega)
    rw [Nat.add_zero] at q1
    rw [q1, blk_ki (by omega)]
    have q2 := blk_kr (κ := κ) (s := s) (o := 0) (k := 13) (x := 22 + 14 * s + sO) (by omega)
    rw [Nat.add_zero] at q2
    rw [q2]
    rfl
  have hAg : Ag [22 + 14 * s, 22 + 14 * s + sO, 22 + 14 * s + 5] κ (kBegun (kSwap κ (22 + 14 * s)) (22 + 14 * s)) := by
    rw [eB]
    exact (((Ag.rr.wide (by simp)).trans (Ag.ii.wide (by simp))).trans (Ag.rr.wide (by simp))).trans (Ag.ii.wide (by simp))
  have hC : CoK n (kBegun (kSwap κ (22 + 14 * s)) (22 + 14 * s)) := by
    rw [eB]
    have c1 := CoK.r hn h.co hat (Or.inl rfl) (show atS n (22 + 14 * s + sO) = some (.inl 2) by rw [← p2]; exact f2)
    have c2 : CoK n (ki (kr κ (22 + 14 * s) 13 (22 + 14 * s + sO)) (22 + 14 * s + sO) 0 0) := c1
    exact CoK.r hn c2 hat (Or.inr rfl) (show atS n (22 + 14 * s + dO) = some (.inl 2) by rw [← p1]; exact f1)
  refine ⟨by rw [p1, p2]; omega, by rw [p1, hk0]; exact vp_in_nI (by omega) (by decide), ?_⟩
  -- the reference's
  rw [hw]
  have hV : ∀ i, i ≠ s → view (fBegin n s (nI wN) (μ.1 28 s) (μ.1 29 s) (μ.1 30 s) (lN T) (ul μ 26 s (-1))) i = view μ i := fun i hi => by
    rw [view_begin_ne hn hs hi hw4, view_ul_ne (by decide) hi]
  have hVs : view (fBegin n s (nI wN) (μ.1 28 s) (μ.1 29 s) (μ.1 30 s) (lN T) (ul μ 26 s (-1))) s = vbeg (vul (view μ s) 26 (-1)) n wN (μ.1 28 s) (μ.1 29 s) (μ.1 30 s) (lN T) ((lN T + (if nI wN = 3 then μ.1 29 s else 2).toInt64) - 1) := by
    rw [view_begin hn hs hw4, view_ul (by decide)]
  refine h.one hs hC hAg (by intro a ha; simp at ha; omega) (by rw [gmo_begin, gmo_ul (by omega)]) (fun i _ hi => hV i hi) hd2 (fun _ _ => rfl) (fun _ _ => rfl) ?_ ?_ ?_
  · rw [hVs, hblk, hd1, hm, he]
    exact hr
  · intro i hi a r q1 q2 q3 q4 q5
    by_cases hi' : i = s
    · subst hi'
      rw [hVs] at q1
      exact absurd q1.symm (lN_m1 (by omega))
    · rw [hV i hi'] at q1 q2 q5
      rcases h.ad i hi a r q1 q2 q3 q4 q5 with q | q
      · refine Or.inl ?_
        unfold Wf at q ⊢
        by_cases hr' : r = s
        · subst hr'; rw [hVs]; exact q
        · rw [hV r hr']; exact q
      · omega
  · intro i hi a r q1 q2 q3 q4 q5 q6
    have hWf : Wf (view μ) i r a → Wf (view (fBegin n s (nI wN) (μ.1 28 s) (μ.1 29 s) (μ.1 30 s) (lN T) (ul μ 26 s (-1)))) i r a := fun q => by
      unfold Wf at q ⊢
      by_cases hr' : r = s
      · subst hr'; rw [hVs]; exact q
      · rw [hV r hr']; exact q
    by_cases hi' : i = s
    · subst hi'
      rw [hVs] at q1 q2 q6
      have q2 : lN T = lN a := q2
      have ha : T = a := (lN_ne (by omega) (by omega)).mp q2
      have q1 : nI wN = 4 := q1
      rcases h.ad i hi a r (by rw [← ha]; exact hT) (by rw [← q1, ← hw]; rfl) (by omega) q5 q6 with q | q
      · exact hWf q
      · omega
    · rw [hV i hi'] at q1 q2 q6
      exact hWf (h.as i hi a r q1 q2 q3 q4 q5 q6)
/-! an attempt -/
theorem Rel.tl {d m i : Nat} {e : Bool} {A : Bk} {V : Vw} {tls : Nat → List Int32} (hTb : T + 10 < 2 ^ 31) (h : Rel n T d m e i A V) (h1 : tls i = V.2.2.2.2.1 i) (h2 : ¬ V.2.1 26 = -1 → V.1 27 = 4 → tls (V.1 28).toNatClampNeg = V.2.2.2.2.1 (V.1 28).toNatClampNeg) (h3 : V.1 37 = 4 → tls (V.1 38).toNatClampNeg = V.2.2.2.2.1 (V.1 38).toNatClampNeg) : Rel n T d m e i A (vtl V tls) := by
  obtain ⟨hO, hW, hB, hK, hTr, hL, dO, sO, hds, p1, p2, ⟨L, hRL, hD⟩, ⟨L2, hRL2, hk2, hS⟩⟩ := h
  have hTr' : RA A 3 4 (tls i) := by rw [h1]; exact hTr
  refine ⟨hO, hW, hB, hK, hTr', hL, dO, sO, hds, p1, p2, ⟨L, hRL, ?_⟩, ⟨L2, hRL2, hk2, ?_⟩⟩
  · rcases hD with hD | ⟨a, z, r, d1, d2, d3, d4, d5, d6, d7, d8, d9, d10, d11, d12, d13, d14, d15, d16, d17⟩
    · exact Or.inl hD
    · have q : ¬ V.2.1 26 = -1 := by rw [d1]; exact lN_m1 (by omega)
      exact Or.inr ⟨a, z, r, d1, d2, d3, d4, d5, d6, d7, d8, d9, d10, d11, d12, d13, d14, d15, fun c => (d16 c).trans h1.symm, fun c => by
          have e := h2 q c
          obtain ⟨b, b1, b2, b3⟩ := d17 c
          exact ⟨b, b1, by show b < 2 ^ (tls (V.1 28).toNatClampNeg).length; rw [e]; exact b2, by show L = sel b (tls (V.1 28).toNatClampNeg); rw [e]; exact b3⟩⟩
  · rcases hS with hS | ⟨a, b, z, r, s1, s2, s3, s4, s5, s6, s7, s8, s9, s10, s11, s12, s13, s14, s15, ⟨s16, s17⟩, s18⟩
    · exact Or.inl hS
    · exact Or.inr ⟨a, b, z, r, s1, s2, s3, s4, s5, s6, s7, s8, s9, s10, s11, s12, s13, s14, s15, ⟨fun c => (s16 c).trans h1.symm, fun c => by
        have e := h3 c
        obtain ⟨b, b1, b2, b3⟩ := s17 c
        exact ⟨b, b1, by show b < 2 ^ (tls (V.1 38).toNatClampNeg).length; rw [e]; exact b2, by show L2 = sel b (tls (V.1 38).toNatClampNeg); rw [e]; exact b3⟩⟩, s18⟩
end R7
