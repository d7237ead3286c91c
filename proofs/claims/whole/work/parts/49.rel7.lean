/-! beginAttempt -/
theorem blk_cell {κ : Ku} {i o : Nat} (ho : o < 14) : (blk κ i).1 o = κ.1 (22 + 14 * i + o) := funext fun _ => if_pos ho
theorem blk_celll {κ : Ku} {i o : Nat} (ho : o < 14) : (blk κ i).2.1 o = κ.2.1 (22 + 14 * i + o) := funext fun _ => if_pos ho
theorem blk_cellr {κ : Ku} {i o : Nat} (ho : o < 14) : (blk κ i).2.2 o = κ.2.2 (22 + 14 * i + o) := funext fun _ => if_pos ho
theorem RA.same {A A' : Bk} {o N : Nat} {L : List Int32} (h : RA A o N L) (h1 : A'.1 o = A.1 o) (h2 : A'.1 (o + 1) = A.1 (o + 1)) : RA A' o N L := by
  unfold RA at *
  rw [h1, h2]
  exact h
theorem Rel.attempt {n T i dO sO wN z b : Nat} {A A' : Bk} {V : Vw} {tls : Nat → List Int32} {szz : Int32} {L : List Int32} (hTb : T + 100 < 2 ^ 31) (h : Rel n T 0 0 false i A V) (h23 : V.2.1 23 = -1) (h26 : V.2.1 26 = -1) (hds : dO = 6 ∧ sO = 10 ∨ dO = 10 ∧ sO = 6) (p1 : A.2.2 0 13 = 22 + 14 * i + dO) (p2 : A.2.2 0 14 = 22 + 14 * i + sO)
    (g0 : A'.1 0 = A.1 0) (g0l : A'.2.1 0 = A.2.1 0) (gr : A'.2.2 0 = A.2.2 0) (g1 : A'.1 1 = A.1 1) (g2 : A'.1 2 = A.1 2) (gd0 : A'.1 dO = A.1 dO) (gd1 : A'.1 (dO + 1) = A.1 (dO + 1)) (gd2 : A'.1 (dO + 2) = A.1 (dO + 2))
    (hTr : RA A' 3 4 (tls i)) (hB : ∀ k, A'.1 5 k = if k = wN then A.1 5 k + 1 else A.1 5 k) (hs0 : A'.1 sO 0 = nI wN) (hs1 : A'.1 sO 1 = nI b) (hs2 : A'.1 sO 2 = nI z) (hs3 : A'.1 sO 3 = 0) (hs4 : ∀ r, r < n → A'.2.1 (sO + 3) r = 0) (hL : RA A' (sO + 1) 4 L) (hL3 : wN = 3 → L = tls i) (hw : wN = 1 ∨ wN = 3) (hb : b < n) (hz : 1 ≤ z ∧ z ≤ 33) (hszz : szz = nI z) :
    Rel n T 1 0 false i A' (vbeg (vtl (vui V 36 szz) tls) n wN (nI b) (nI z) 0 (lN T) ((lN T + (if nI wN = 3 then nI z else 2).toInt64) - 1)) := by
  obtain ⟨hO, hW, ⟨b1, b2, b3, b4⟩, hK, -, hLg, dO', sO', hds', p1', p2', ⟨L1, hRL, hD⟩, -⟩ := h
  have e1 : dO' = dO := by omega
  subst e1
  have hO' : Own n T i A' V := by unfold Own at *; rw [g0, g0l]; exact hO
  have hW' : Wt T 1 A' V := by
    rcases hW with hW | ⟨a, w1, w2, w3, -⟩
    · exact Or.inl ⟨h23, by rw [g0]; exact hW.2⟩
    · exact absurd (w1.symm.trans h23) (lN_m1 (by omega))
  have hD0 : A.1 dO' 0 = 0 := by
    rcases hD with ⟨-, hD⟩ | ⟨a, z, r, d1, d2, d3, -⟩
    · exact hD
    · exact absurd (d1.symm.trans h26) (lN_m1 (by omega))
  have hlast : (lN T + (if nI wN = 3 then nI z else 2).toInt64) - 1 = lN (T + (if nI wN = 3 then z else 2) - 1) := by
    have e1 : (if nI wN = 3 then nI z else 2) = nI (if nI wN = 3 then z else 2) := by
      split
      · rfl
      · rfl
    rw [e1, nI_l (by split <;> omega), lN_add, show (1 : Int64) = lN 1 from rfl, lN_sub (by split <;> omega)]
  have hz1 : 1 ≤ (if nI wN = 3 then z else 2) ∧ (if nI wN = 3 then z else 2) ≤ 33 := by split <;> omega
  refine ⟨hO', hW', ?_, hK.same g1 g2, hTr, ⟨Or.inr h26, fun _ => Or.inl h26, fun _ _ => h23, fun _ => hszz.symm, fun _ => Or.inl h26⟩, dO', sO, hds, by rw [gr]; exact p1, by rw [gr]; exact p2, ⟨L1, hRL.same gd1 gd2, Or.inl ⟨h26, by rw [gd0]; exact hD0⟩⟩, ⟨L, hL, hs0, Or.inr ⟨T, T + (if nI wN = 3 then z else 2) - 1, z, b, ?_, rfl, hlast, Nat.le_refl _, by omega, by omega, hs1, rfl, hb, hs2, rfl, hz.2, ?_, ?_, fun r hr => ?_, ⟨fun q => ?_, fun q => ?_⟩, fun q => absurd q (by decide)⟩⟩⟩
  · rcases hw with rfl | rfl
    · refine ⟨?_, ?_, ?_, ?_⟩
      · rw [hB]; exact congrArg (· + 1) b1
      · rw [hB]; exact b2
      · rw [hB]; exact b3
      · rw [hB]; exact b4
    · refine ⟨?_, ?_, ?_, ?_⟩
      · rw [hB]; exact b1
      · rw [hB]; exact b2
      · rw [hB]; exact congrArg (· + 1) b3
      · rw [hB]; exact b4
  · rcases hw with rfl | rfl
    · exact Or.inl rfl
    · exact Or.inr (Or.inr (Or.inl rfl))
  · show T + (if nI wN = 3 then z else 2) - 1 + 1 = T + (if nI wN = 3 then z else 2)
    omega
  · rw [Nat.sub_self]; exact hs3
  · rw [Nat.sub_self]
    refine Bits.zero (hs4 r hr) ?_
    show (if r < n then (0 : Int64) else _) = 0
    rw [if_pos hr]
  · have q : nI wN = 3 := q
    exact hL3 (nI_inj (b := 3) (by omega) (by omega) q)
  · have q : nI wN = 4 := q
    rcases hw with rfl | rfl
    · exact absurd q (by decide)
    · exact absurd q (by decide)
theorem tw_congr {α : Type} {P Q : α → Bool} : ∀ {L : List α}, (∀ a ∈ L, P a = Q a) → L.takeWhile P = L.takeWhile Q
  | [], _ => rfl
  | b :: L, h => by
    have hb := h b (by simp)
    by_cases q : P b = true
    · rw [List.takeWhile_cons_of_pos q, List.takeWhile_cons_of_pos (by rw [← hb]; exact q), tw_congr (fun a ha => h a (by simp [ha]))]
    · rw [List.takeWhile_cons_of_neg q, List.takeWhile_cons_of_neg (by rw [← hb]; exact q)]
theorem getD_map0 {K : List Nat} : (K.map nI).getD 0 0 = nI (K.headD 0) := by
  cases K with
  | nil => rfl
  | cons a K => rfl
theorem firstOf_eq {κ : Ku} {f t : Nat → Int32} {K : List Nat} {x : Int32} (h5 : ∀ p, κ.1 5 p = f p * 6 + t p) (hK : ∀ p ∈ K, p < 1000000 ∧ f p = x) : firstOf κ (K.map nI) = (aL t K).map nI := by
  by_cases h0 : K = []
  · subst h0; rfl
  have hh : K.headD 0 ∈ K := by
    cases K with
    | nil => exact absurd rfl h0
    | cons a K => simp
  unfold firstOf aL
  rw [getD_map0, List.takeWhile_map, List.map_take]
  congr 2
  refine tw_congr (fun p hp => ?_)
  have a1 := hK p hp
  have a2 := hK _ hh
  show decide (κ.1 5 (nI p).toNatClampNeg = κ.1 5 (nI (K.headD 0)).toNatClampNeg) = decide (t p = t (K.headD 0))
  rw [nI_clampS a1.1, nI_clampS a2.1, h5, h5, a1.2, a2.2]
  by_cases q : t p = t (K.headD 0)
  · simp [q]
  · have q2 : ¬ x * 6 + t p = x * 6 + t (K.headD 0) := fun c => q (Int32.add_right_inj _ |>.mp c)
    simp [q, q2]
section R8
variable {l : Launch} {w : r_V} {B : Nat} {n T s E : Nat} {S : Int32} {d m : Nat → Nat} {e : Nat → Bool} {κ κ' : Ku} {μ μ' : Mu}
/-- what an attempt takes -/
theorem att_facts (hn : okN n) (hM : MI n E μ) (hs : s < n) (hK : ¬ kL (μ.1 2) (μ.1 6) s (pN μ) = []) : ∃ b z : Nat, b < n ∧ 1 ≤ z ∧ z ≤ 33 ∧ qTo (fAtt0 s (attL s μ) μ) s = nI b ∧ μ.1 3 ((attL s μ).headD 0) = nI b ∧ sz (μ.1 4) ((attL s μ).map nI) = nI z ∧ (attL s μ).length ≤ 4 ∧ attL s μ ≠ [] ∧ (attL s μ).headD 0 ≤ 300 ∧ μ.1 2 ((attL s μ).headD 0) = nI s ∧ ∀ p ∈ attL s μ, 1 ≤ p ∧ p ≤ pN μ := by
  have hP := hM.pay.2
  have hat := aL_head (to := μ.1 3) hK
  have hne : attL s μ ≠ [] := hat.1
  have hl : (attL s μ).length ≤ 4 := aL_len
  have hmem : ∀ p ∈ attL s μ, 1 ≤ p ∧ p ≤ pN μ ∧ μ.1 2 p = nI s := fun p hp => by
    obtain ⟨q1, q2⟩ := aL_sub p hp
    obtain ⟨q3, q4, q5, q6⟩ := kL_mem q1
    exact ⟨q3, q4, q5⟩
  have hh : (attL s μ).headD 0 ∈ attL s μ := by
    revert hne
    generalize attL s μ = D
    intro hne
    cases D with
    | nil => exact absurd rfl hne
    | cons a D => simp
  obtain ⟨hh1, hh2, hh3⟩ := hmem _ hh
  obtain ⟨a, b, c, k, ea, eb, ec, ek, ha, hb, hc1, hc8, hk⟩ := hM.pl _ hh1 hh2
  obtain ⟨z, ez, z1, z2⟩ := sz_bound (sl := μ.1 4) ((attL s μ).map nI) 1 (fun p hp => by
    obtain ⟨q, hq, rfl⟩ := List.mem_map.mp hp
    obtain ⟨q1, q2, -⟩ := hmem q hq
    obtain ⟨a, b, c, k, -, -, ec, -, -, -, hc1, hc8, -⟩ := hM.pl q q1 q2
    rw [nI_clampS (by omega)]
    exact ⟨c, ec, hc1, hc8⟩)
  rw [List.length_map] at z1 z2
  refine ⟨b, z, hb, by omega, by omega, ?_, eb, ez, hl, hne, by omega, hh3, fun p hp => ⟨(hmem p hp).1, (hmem p hp).2.1⟩⟩
  unfold qTo
  have h34s : (fAtt0 s (attL s μ) μ).1 34 (4 * s) = nI ((attL s μ).headD 0) := wr_head hne
  rw [h34s, nI_clampS (by omega)]
  exact eb
theorem R.attempt (hn : okN n) (h : R n T S d m e 1 n κ μ) (hM : MI n E μ) (hs : s < n) (hTb : T + 100 < 2 ^ 31) (hd : d s = 0) (hm : m s = 0) (he : e s = false) (hw : μ.2 23 s = -1) (hdu : μ.2 26 s = -1) (hK : ¬ kL (μ.1 2) (μ.1 6) s (pN μ) = []) (hN : NP n T 1 (view μ) s) {d' : Nat → Nat} (hd1 : d' s = 1) (hd2 : ∀ i, i ≠ s → d' i = d i)
    {wN b z dO sO : Nat} (hwN : wN = 1 ∨ wN = 3) (hwe : (if sz (μ.1 4) ((attL s μ).map nI) < μ.1 0 3 then (3 : Int32) else 1) = nI wN) (hq : qTo (fAtt0 s (attL s μ) μ) s = nI b) (hz : sz (μ.1 4) ((attL s μ).map nI) = nI z) (hb : b < n) (hz2 : 1 ≤ z ∧ z ≤ 33) (hds : dO = 6 ∧ sO = 10 ∨ dO = 10 ∧ sO = 6) (p1 : κ.2.2 (22 + 14 * s) 13 = 22 + 14 * s + dO) (p2 : κ.2.2 (22 + 14 * s) 14 = 22 + 14 * s + sO)
    (hC : CoK n κ') (hA : Ag [22 + 14 * s + 3, 22 + 14 * s + 4, 22 + 14 * s + sO, 22 + 14 * s + sO + 1, 22 + 14 * s + sO + 2, 22 + 14 * s + sO + 3, 22 + 14 * s + 5] κ κ')
    (hTr : Rw n κ' (22 + 14 * s + 3) 4 ((attL s μ).map nI)) (hB : ∀ k, κ'.1 (22 + 14 * s + 5) k = if k = wN then κ.1 (22 + 14 * s + 5) k + 1 else κ.1 (22 + 14 * s + 5) k) (hs0 : κ'.1 (22 + 14 * s + sO) 0 = nI wN) (hs1 : κ'.1 (22 + 14 * s + sO) 1 = nI b) (hs2 : κ'.1 (22 + 14 * s + sO) 2 = nI z) (hs3 : κ'.1 (22 + 14 * s + sO) 3 = 0) (hs4 : ∀ r, r < n → κ'.2.1 (22 + 14 * s + sO + 3) r = 0) {L : List Int32} (hL : Rw n κ' (22 + 14 * s + sO + 1) 4 L) (hL3 : wN = 3 → L = (attL s μ).map nI) :
    R n T S d' m e 1 n κ' (fAttempt n s (lN T) μ) := by
  have hn6 := hn.2
  have hl : (attL s μ).length ≤ 4 := aL_len
  have hw4 : 1 ≤ wN ∧ wN ≤ 4 := by omega
  have eF : fAttempt n s (lN T) μ = fBegin n s (nI wN) (nI b) (nI z) 0 (lN T) (fAtt0 s (attL s μ) μ) := by unfold fAttempt; rw [hwe, hq, hz]
  rw [eF]
  generalize htl : tl ((fAtt0 s (attL s μ) μ).1 34) ((fAtt0 s (attL s μ) μ).1 35) = tls
  have htls : tls s = (attL s μ).map nI := by rw [← htl]; exact fAtt0_tl hl
  have htlo : ∀ i, i < n → i ≠ s → tls i = tl (μ.1 34) (μ.1 35) i := fun i hi hi' => by rw [← htl]; exact fAtt0_tlo hi' hl (hM.tr i hi)
  have hVs : view (fBegin n s (nI wN) (nI b) (nI z) 0 (lN T) (fAtt0 s (attL s μ) μ)) s = vbeg (vtl (vui (view μ s) 36 (sz (μ.1 4) ((attL s μ).map nI))) tls) n wN (nI b) (nI z) 0 (lN T) ((lN T + (if nI wN = 3 then nI z else 2).toInt64) - 1) := by
    rw [view_begin hn hs hw4, view_att, if_pos rfl, htl]
  have hV : ∀ i, i ≠ s → view (fBegin n s (nI wN) (nI b) (nI z) 0 (lN T) (fAtt0 s (attL s μ) μ)) i = vtl (view μ i) tls := fun i hi => by
    rw [view_begin_ne hn hs hi hw4, view_att, if_neg hi, htl]
  have hg : gmo (fBegin n s (nI wN) (nI b) (nI z) 0 (lN T) (fAtt0 s (attL s μ) μ)) = gmo μ := by rw [gmo_begin, gmo_att]
  have hO : dO < 11 ∧ sO < 11 := by omega
  have cell : ∀ o, o < 14 → o ≠ 3 → o ≠ 4 → o ≠ 5 → o ≠ sO → o ≠ sO + 1 → o ≠ sO + 2 → o ≠ sO + 3 → (blk κ' s).1 o = (blk κ s).1 o ∧ (blk κ' s).2.1 o = (blk κ s).2.1 o ∧ (blk κ' s).2.2 o = (blk κ s).2.2 o := fun o ho h3 h4 h5 hs0 hs1 hs2 hs3 => by
    rw [blk_cell ho, blk_cell ho, blk_celll ho, blk_celll ho, blk_cellr ho, blk_cellr ho]
    exact hA _ (by simp; omega)
  refine ⟨hC, ?_, fun i hi => ?_, ?_, ?_⟩
  · rw [hA.toGlo (by intro a ha; simp at ha; omega), hg]
    exact h.gl
  · by_cases hi' : i = s
    · subst hi'
      rw [hd1, hm, he, hVs]
      have hrel := h.rel i hi
      rw [hd, hm, he] at hrel
      have ra : ∀ (o : Nat) (L : List Int32), o + 1 < 14 → Rw n κ' (22 + 14 * i + o) 4 L → RA (blk κ' i) o 4 L := fun o L ho q => by
        obtain ⟨-, -, q1, q2, q3⟩ := q
        refine ⟨q1, ?_, fun k hk => ?_⟩
        · rw [blk_cell (by omega)]; exact q2
        · rw [blk_cell (by omega)]; exact q3 k hk
      refine Rel.attempt (dO := dO) (sO := sO) hTb hrel hw hdu hds (by rw [blk_cellr (by omega)]; exact p1) (by rw [blk_cellr (by omega)]; exact p2) (cell 0 (by omega) (by omega) (by omega) (by omega) (by omega) (by omega) (by omega) (by omega)).1 (cell 0 (by omega) (by omega) (by omega) (by omega) (by omega) (by omega) (by omega) (by omega)).2.1 (cell 0 (by omega) (by omega) (by omega) (by omega) (by omega) (by omega) (by omega) (by omega)).2.2 (cell 1 (by omega) (by omega) (by omega) (by omega) (by omega) (by omega) (by omega) (by omega)).1 (cell 2 (by omega) (by omega) (by omega) (by omega) (by omega) (by omega) (by omega) (by omega)).1 (cell dO (by omega) (by omega) (by omega) (by omega) (by omega) (by omega) (by omega) (by omega)).1 (cell (dO + 1) (by omega) (by omega) (by omega) (by omega) (by omega) (by omega) (by omega) (by omega)).1 (cell (dO + 2) (by omega) (by omega) (by omega) (by omega) (by omega) (by omega) (by omega) (by omega)).1 ?_ ?_ ?_ ?_ ?_ ?_ ?_ (L := L) ?_ ?_ hwN hb hz2 hz
      · rw [htls]; exact ra 3 _ (by omega) hTr
      · intro k; rw [blk_cell (by omega), blk_cell (by omega)]; exact hB k
      · rw [blk_cell (by omega)]; exact hs0
      · rw [blk_cell (by omega)]; exact hs1
      · rw [blk_cell (by omega)]; exact hs2
      · rw [blk_cell (by omega)]; exact hs3
      · intro r hr; rw [blk_celll (by omega)]; exact hs4 r hr
      · exact ra (sO + 1) _ (by omega) hL
      · intro q; rw [htls]; exact hL3 q
    · rw [hA.toBlk (by intro a ha; simp at ha; omega), hd2 i hi', hV i hi']
      have hrel := h.rel i hi
      refine hrel.tl (by omega) (htlo i hi hi') (fun c1 c2 => ?_) (fun c => ?_)
      · obtain ⟨-, -, -, -, -, -, dO1, sO1, -, -, -, ⟨L1, -, hD⟩, -⟩ := hrel
        rcases hD with ⟨q, -⟩ | ⟨a, z1, r, x1, x2, x3, x4, x5, x6, x7, x8, x9, -⟩
        · exact absurd q c1
        · have hrs : r ≠ s := fun q => hN.1 i hi a x1 c2 x3 (by rw [← q]; exact x8)
          rw [x8, nI_clampS (by omega)]
          exact htlo r x9 hrs
      · obtain ⟨-, -, -, -, -, -, dO1, sO1, -, -, -, -, ⟨L1, -, -, hS⟩⟩ := hrel
        rcases hS with q | ⟨a, b1, z1, r, x1, x2, x3, x4, x5, x6, x7, x8, x9, x10, x11, x12, x13, -⟩
        · exact absurd (q.symm.trans c) (by decide)
        · rw [c] at x13
          have : b1 + 1 = a + 2 := x13
          have hrs : r ≠ s := fun q => hN.2 i hi a c x2 x4 (by omega) (by rw [← q]; exact x8)
          rw [x8, nI_clampS (by omega)]
          exact htlo r x9 hrs
  · intro i hi a r q1 q2 q3 q4 q5
    by_cases hi' : i = s
    · subst hi'
      rw [hVs] at q1
      exact absurd (q1.symm.trans hdu) (lN_m1 (by omega))
    · rw [hV i hi'] at q1 q2 q5
      rcases h.ad i hi a r q1 q2 q3 q4 q5 with q | q
      · refine Or.inl ?_
        unfold Wf at q ⊢
        by_cases hr' : r = s
        · subst hr'; rw [hVs]; exact q
        · rw [hV r hr']; exact q
      · omega
  · intro i hi a r q1 q2 q3 q4 q5 q6
    by_cases hi' : i = s
    · subst hi'
      rw [hVs] at q1
      have q1 : nI wN = 4 := q1
      rcases hwN with rfl | rfl
      · exact absurd q1 (by decide)
      · exact absurd q1 (by decide)
    · rw [hV i hi'] at q1 q2 q6
      have q := h.as i hi a r q1 q2 q3 q4 q5 q6
      unfold Wf at q ⊢
      by_cases hr' : r = s
      · subst hr'; rw [hVs]; exact q
      · rw [hV r hr']; exact q
end R8
