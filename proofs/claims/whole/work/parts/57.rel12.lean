/-! a reply becomes due -/
def vdue (V : Vw) (t : Int64) (what other size tale : Int32) : Vw := vui (vui (vui (vui (vul V 26 (t + 2)) 27 what) 28 other) 29 size) 30 tale
theorem Rel.due {n T m i dO sO s z : Nat} {e : Bool} {A A' : Bk} {V : Vw} {what tale : Int32} {L : List Int32} (hTb : T + 100 < 2 ^ 31) (h : Rel n T 1 m e i A V) (hk0 : V.1 37 = 0) (hds : dO = 6 ∧ sO = 10 ∨ dO = 10 ∧ sO = 6) (p1 : A.2.2 0 13 = 22 + 14 * i + dO) (p2 : A.2.2 0 14 = 22 + 14 * i + sO) (hw : what = 2 ∨ what = 3 ∨ what = 4) (hs : s < n) (hz : z ≤ 33) (hw3 : what = 3 → 1 ≤ z ∧ V.2.1 23 = -1 ∧ nI z = V.1 36)
    (g : ∀ o, o ≠ dO → o ≠ dO + 1 → o ≠ dO + 2 → A'.1 o = A.1 o) (gl0 : ∀ k, A'.2.1 0 k = if k = 12 then lN T + 2 else A.2.1 0 k) (gl : ∀ o, o ≠ 0 → o ≠ dO + 3 → A'.2.1 o = A.2.1 o) (gr : A'.2.2 0 = A.2.2 0)
    (f0 : A'.1 dO 0 = what) (f1 : A'.1 dO 1 = nI s) (f2 : A'.1 dO 2 = nI z) (f3 : A'.1 dO 3 = 0) (f4 : ∀ r, r < n → A'.2.1 (dO + 3) r = 0) (hL : RA A' (dO + 1) 4 L) (hF : FRow i L what (nI s) tale V.2.2.2.2.1) : Rel n T 1 m e i A' (vdue V (lN T) what (nI s) (nI z) tale) := by
  obtain ⟨hO, hW, hB, hK, hTr, hLg, dO', sO', hds', p1', p2', -, ⟨L2, hRL2, hk2, hS⟩⟩ := h
  have e1 : dO' = dO := by omega
  have e2 : sO' = sO := by omega
  subst e1
  subst e2
  have hO' : Own n T i A' V := by
    unfold Own at *
    rw [g 0 (by omega) (by omega) (by omega), gl0, gl0]
    exact hO
  have hW' : Wt T 1 A' V := by
    unfold Wt at *
    rw [g 0 (by omega) (by omega) (by omega), gl0]
    exact hW
  have hB' : Bg A' V := by unfold Bg at *; rw [g 5 (by omega) (by omega) (by omega)]; exact hB
  have h2 : lN T + 2 = lN (T + 2) := by rw [show (2 : Int64) = lN 2 from rfl, lN_add]
  refine ⟨hO', hW', hB', hK.same (g 1 (by omega) (by omega) (by omega)) (g 2 (by omega) (by omega) (by omega)), hTr.same (g 3 (by omega) (by omega) (by omega)) (g 4 (by omega) (by omega) (by omega)), ⟨Or.inl hk0, fun q => Or.inr (hw3 q).2.1, hLg.2.2.1, hLg.2.2.2.1, fun q => Or.inr (hw3 q).2.2⟩, dO', sO', hds, by rw [gr]; exact p1, by rw [gr]; exact p2, ⟨L, hL, Or.inr ⟨T + 2, z, s, h2, by omega, by omega, ?_, f0, hw, f1, rfl, hs, f2, rfl, hz, fun q => (hw3 q).1, f3, f4, hF⟩⟩, ⟨L2, hRL2.same (g _ (by omega) (by omega) (by omega)) (g _ (by omega) (by omega) (by omega)), ?_, Or.inl hk0⟩⟩
  · rw [gl0]
    rfl
  · rw [g sO' (by omega) (by omega) (by omega)]
    exact hk2
section RD
variable {l : Launch} {w : r_V} {B : Nat} {n T s r E lim cur : Nat} {S : Int32} {d m : Nat → Nat} {e : Nat → Bool} {κ κ' : Ku} {μ μ' : Mu}
theorem view_due {what other size tale : Int32} {t : Int64} : view (fDue r what other size tale t μ) r = vdue (view μ r) t what other size tale := by
  unfold fDue vdue
  rw [view_ui (by decide), view_ui (by decide), view_ui (by decide), view_ui (by decide), view_ul (by decide)]
theorem view_due_ne {i : Nat} {what other size tale : Int32} {t : Int64} (hi : i ≠ r) : view (fDue r what other size tale t μ) i = view μ i := by
  unfold fDue
  rw [view_ui_ne (by decide) hi, view_ui_ne (by decide) hi, view_ui_ne (by decide) hi, view_ui_ne (by decide) hi, view_ul_ne (by decide) hi]
theorem gmo_due {what other size tale : Int32} {t : Int64} : gmo (fDue r what other size tale t μ) = gmo μ := by
  unfold fDue
  rw [gmo_ui (by omega), gmo_ui (by omega), gmo_ui (by omega), gmo_ui (by omega), gmo_ul (by omega)]
/-- the due frame is made, its row filled, its slot set -/
theorem R.due {dO sO z : Nat} {what tale : Int32} {L : List Int32} {κb : Ku} (hn : okN n) (hTb : T + 100 < 2 ^ 31) (h : R n T S d m e lim cur κ μ) (hd : d r = 1) (hr : r < n) (hs : s < n) (hsr : s ≠ r) (hk0 : μ.1 37 r = 0) (hds : dO = 6 ∧ sO = 10 ∨ dO = 10 ∧ sO = 6) (p1 : κ.2.2 (22 + 14 * r) 13 = 22 + 14 * r + dO) (p2 : κ.2.2 (22 + 14 * r) 14 = 22 + 14 * r + sO) (hw : what = 2 ∨ what = 3 ∨ what = 4) (hz : z ≤ 33) (hw3 : what = 3 → 1 ≤ z ∧ μ.2 23 r = -1 ∧ nI z = μ.1 36 r) (hF : FRow r L what (nI s) tale (tl (μ.1 34) (μ.1 35))) (hAd : what = 4 → s = cur ∧ μ.1 37 s = 3 ∧ μ.1 38 s = nI r)
    (hO : OI [22 + 14 * r + dO + 1, 22 + 14 * r + dO + 2] (kMake κ n (22 + 14 * r + dO) what (nI s) (nI z)) κb) (hR : Rw n κb (22 + 14 * r + dO + 1) 4 L) : R n T S d m e lim cur (kl κb (22 + 14 * r) 12 (lN T + 2)) (fDue r what (nI s) (nI z) tale (lN T) μ) := by
  have hAm : Ag [22 + 14 * r + dO, 22 + 14 * r + dO + 1, 22 + 14 * r + dO + 3] κ (kMake κ n (22 + 14 * r + dO) what (nI s) (nI z)) := by
    unfold kMake
    exact (((((Ag.ii.wide (by simp)).trans (Ag.ii.wide (by simp))).trans (Ag.ii.wide (by simp))).trans (Ag.ii.wide (by simp))).trans (Ag.ii.wide (by simp))).trans (Ag.fill.wide (by simp))
  have m1 : ∀ k, (kMake κ n (22 + 14 * r + dO) what (nI s) (nI z)).1 (22 + 14 * r + dO) k = if k = 3 then 0 else if k = 2 then nI z else if k = 1 then nI s else if k = 0 then what else κ.1 (22 + 14 * r + dO) k := fun k => by
    simp [kMake, kfill, ki]
  have mz : ∀ q, q < n → (kMake κ n (22 + 14 * r + dO) what (nI s) (nI z)).2.1 (22 + 14 * r + dO + 3) q = 0 := fun q hq => by simp [kMake, kfill, hq]
  have hAb : Ag [22 + 14 * r + dO, 22 + 14 * r + dO + 1, 22 + 14 * r + dO + 2, 22 + 14 * r + dO + 3] κ κb := (hAm.wide (by simp)).trans (hO.ag.wide (by simp))
  have hA : Ag [22 + 14 * r, 22 + 14 * r + dO, 22 + 14 * r + dO + 1, 22 + 14 * r + dO + 2, 22 + 14 * r + dO + 3] κ (kl κb (22 + 14 * r) 12 (lN T + 2)) := (hAb.wide (by simp)).trans (Ag.ll.wide (by simp))
  have hCm : CoK n (kMake κ n (22 + 14 * r + dO) what (nI s) (nI z)) := h.co
  have cf : κb.1 (22 + 14 * r + dO) = (kMake κ n (22 + 14 * r + dO) what (nI s) (nI z)).1 (22 + 14 * r + dO) := hO.2 _ (by simp)
  have hV := fun i (hi : i ≠ r) => view_due_ne (μ := μ) (what := what) (other := nI s) (size := nI z) (tale := tale) (t := lN T) hi
  have hVr : view (fDue r what (nI s) (nI z) tale (lN T) μ) r = vdue (view μ r) (lN T) what (nI s) (nI z) tale := view_due
  refine h.one (κ' := kl κb (22 + 14 * r) 12 (lN T + 2)) (μ' := fDue r what (nI s) (nI z) tale (lN T) μ) hr (hO.co hCm) hA (by intro a ha; simp at ha; omega) gmo_due (fun i _ hi => hV i hi) (fun _ _ => rfl) (fun _ _ => rfl) (fun _ _ => rfl) ?_ ?_ ?_
  · rw [hVr]
    have hrel := h.rel r hr
    rw [hd] at hrel ⊢
    have ra : RA (blk (kl κb (22 + 14 * r) 12 (lN T + 2)) r) (dO + 1) 4 L := by
      obtain ⟨-, -, q1, q2, q3⟩ := hR
      refine ⟨q1, ?_, fun k hk => ?_⟩
      · rw [blk_cell (by omega)]; exact q2
      · rw [blk_cell (by omega)]; exact q3 k hk
    refine Rel.due hTb hrel hk0 hds (by rw [blk_cellr (by omega)]; exact p1) (by rw [blk_cellr (by omega)]; exact p2) hw hs hz hw3 (fun o o1 o2 o3 => ?_) (fun k => ?_) (fun o o1 o2 => ?_) ?_ ?_ ?_ ?_ ?_ (fun q hq => ?_) ra hF
    · by_cases ho : o < 14
      · rw [blk_cell ho, blk_cell ho]
        by_cases h0 : o = 0
        · subst h0
          show κb.1 (22 + 14 * r + 0) = _
          exact (hAb _ (by simp; omega)).1
        · by_cases h3 : o = dO + 3
          · subst h3
            show κb.1 (22 + 14 * r + (dO + 3)) = _
            rw [hO.2 _ (by simp; omega)]
            funext k
            simp only [kMake, kfill, ki]
            rw [if_neg (by omega), if_neg (by omega), if_neg (by omega), if_neg (by omega), if_neg (by omega)]
          · exact (hA _ (by simp; omega)).1
      · funext k
        show (if o < 14 then _ else 0) = (if o < 14 then _ else 0)
        rw [if_neg ho, if_neg ho]
    · rw [blk_celll (by omega), blk_celll (by omega)]
      show (if 22 + 14 * r + 0 = 22 + 14 * r ∧ k = 12 then lN T + 2 else κb.2.1 (22 + 14 * r + 0) k) = _
      rw [(hAb (22 + 14 * r + 0) (by simp; omega)).2.1]
      by_cases hk : k = 12
      · rw [if_pos ⟨rfl, hk⟩, if_pos hk]
      · rw [if_neg (fun q => hk q.2), if_neg hk]
    · by_cases ho : o < 14
      · rw [blk_celll ho, blk_celll ho]
        by_cases h1 : o = dO ∨ o = dO + 1 ∨ o = dO + 2
        · -- cells of ints: their longs stay
          have q1 : (kl κb (22 + 14 * r) 12 (lN T + 2)).2.1 (22 + 14 * r + o) = κb.2.1 (22 + 14 * r + o) := (Ag.ll (κ := κb) _ (by simp; omega)).2.1
          rw [q1, hO.1]
          funext k
          show (if 22 + 14 * r + o = 22 + 14 * r + dO + 3 ∧ k < n then 0 else κ.2.1 (22 + 14 * r + o) k) = _
          rw [if_neg (by omega)]
        · exact (hA _ (by simp; omega)).2.1
      · funext k
        show (if o < 14 then _ else 0) = (if o < 14 then _ else 0)
        rw [if_neg ho, if_neg ho]
    · rw [blk_cellr (by omega), blk_cellr (by omega)]
      show κb.2.2 (22 + 14 * r + 0) = κ.2.2 (22 + 14 * r + 0)
      exact (hAb _ (by simp; omega)).2.2
    · rw [blk_cell (by omega)]
      show κb.1 (22 + 14 * r + dO) 0 = _
      rw [cf, m1]; rfl
    · rw [blk_cell (by omega)]
      show κb.1 (22 + 14 * r + dO) 1 = _
      rw [cf, m1]; rfl
    · rw [blk_cell (by omega)]
      show κb.1 (22 + 14 * r + dO) 2 = _
      rw [cf, m1]; rfl
    · rw [blk_cell (by omega)]
      show κb.1 (22 + 14 * r + dO) 3 = _
      rw [cf, m1]; rfl
    · rw [blk_celll (by omega)]
      have q1 : (kl κb (22 + 14 * r) 12 (lN T + 2)).2.1 (22 + 14 * r + (dO + 3)) = κb.2.1 (22 + 14 * r + (dO + 3)) := (Ag.ll (κ := κb) _ (by simp)).2.1
      rw [q1, hO.1]
      exact mz q hq
  · intro i hi a q q1 q2 q3 q4 q5
    by_cases hi' : i = r
    · subst hi'
      rw [hVr] at q1 q2 q5
      have q1 : lN T + 2 = lN a := q1
      have q2 : what = 4 := q2
      have q5 : nI s = nI q := q5
      rw [show (2 : Int64) = lN 2 from rfl, lN_add] at q1
      have ha : T + 2 = a := (lN_ne (by omega) (by omega)).mp q1
      have hn6 := hn.2
      have hq : s = q := nI_inj (by omega) (by omega) q5
      obtain ⟨x1, x2, x3⟩ := hAd q2
      refine Or.inr ⟨by rw [← hq]; exact x1, ha.symm, ?_, ?_⟩
      · rw [← hq, hV s hsr]; exact x2
      · rw [← hq, hV s hsr]; exact x3
    · rw [hV i hi'] at q1 q2 q5
      have := h.ad i hi a q q1 q2 q3 q4 q5
      unfold Wf at this ⊢
      by_cases hq : q = r
      · subst hq
        rw [hVr]
        exact this
      · rw [hV q hq]
        exact this
  · refine h.as.keep (fun i hi => ?_)
    by_cases q : i = r
    · subst q; rw [hVr]; exact ⟨rfl, rfl, rfl, rfl, rfl, rfl⟩
    · rw [hV i q]; exact ⟨rfl, rfl, rfl, rfl, rfl, rfl⟩
theorem R.w23 (hTb : T + 100 < 2 ^ 31) (h : R n T S d m e lim cur κ μ) (hs : s < n) : (κ.1 (22 + 14 * s) 9 = 0 ↔ μ.2 23 s < 0) ∧ (μ.2 23 s < 0 ↔ μ.2 23 s = -1) := by
  obtain ⟨-, hW, -⟩ := h.rel s hs
  rcases hW with ⟨w1, w2⟩ | ⟨a, w1, w2, w3, w4, w5, -⟩
  · exact ⟨⟨fun _ => m1_neg w1, fun _ => w2⟩, ⟨fun _ => w1, fun _ => m1_neg w1⟩⟩
  · have w1 : μ.2 23 s = lN a := w1
    have w4 : κ.1 (22 + 14 * s) 9 = μ.1 25 s := w4
    have w5 : μ.1 25 s = 2 ∨ μ.1 25 s = 4 := w5
    have hnn : ¬ μ.2 23 s < 0 := by rw [w1]; exact lN_nneg (by omega)
    refine ⟨⟨fun q => ?_, fun q => absurd q hnn⟩, ⟨fun q => absurd q hnn, fun q => m1_neg q⟩⟩
    rw [w4] at q
    rcases w5 with w5 | w5 <;> (rw [w5] at q; exact absurd q (by decide))
theorem R.w26 (hTb : T + 100 < 2 ^ 31) (h : R n T S d m e lim cur κ μ) (hs : s < n) : (κ.1 (κ.2.2 (22 + 14 * s) 13) 0 = 0 ↔ μ.2 26 s < 0) ∧ (μ.2 26 s < 0 ↔ μ.2 26 s = -1) := by
  obtain ⟨dO, sO, hds, p1, p2, ⟨L, -, hD⟩, -⟩ := h.ptr hs
  rw [p1]
  have c1 : (blk κ s).1 dO 0 = κ.1 (22 + 14 * s + dO) 0 := if_pos (by omega)
  rw [← c1]
  rcases hD with ⟨w1, w2⟩ | ⟨a, z, r, w1, w2, w3, w4, w5, w6, -⟩
  · exact ⟨⟨fun _ => m1_neg w1, fun _ => w2⟩, ⟨fun _ => w1, fun _ => m1_neg w1⟩⟩
  · have w1 : μ.2 26 s = lN a := w1
    have w6 : μ.1 27 s = 2 ∨ μ.1 27 s = 3 ∨ μ.1 27 s = 4 := w6
    have hnn : ¬ μ.2 26 s < 0 := by rw [w1]; exact lN_nneg (by omega)
    refine ⟨⟨fun q => ?_, fun q => absurd q hnn⟩, ⟨fun q => absurd q hnn, fun q => m1_neg q⟩⟩
    rw [w5] at q
    have q : μ.1 27 s = 0 := q
    rcases w6 with w6 | w6 | w6 <;> (rw [w6] at q; exact absurd q (by decide))
/-- the frame that station s sends, not ended -/
theorem R.frame (hn : okN n) (h : R n T S d m e lim cur κ μ) (hs : s < n) (he : e s = false) (hk : ¬ μ.1 37 s = 0) : ∃ sO a b z q L, (sO = 6 ∨ sO = 10) ∧ κ.2.2 (22 + 14 * s) 14 = 22 + 14 * s + sO ∧ Rw n κ (22 + 14 * s + sO + 1) 4 L ∧ κ.1 (22 + 14 * s + sO) 0 = μ.1 37 s ∧ (μ.1 37 s = 1 ∨ μ.1 37 s = 2 ∨ μ.1 37 s = 3 ∨ μ.1 37 s = 4) ∧ μ.2 39 s = lN a ∧ μ.2 40 s = lN b ∧ a ≤ T ∧ T ≤ b ∧ b < a + 33 ∧ κ.1 (22 + 14 * s + sO) 1 = μ.1 38 s ∧ μ.1 38 s = nI q ∧ q < n ∧ κ.1 (22 + 14 * s + sO) 2 = μ.1 41 s ∧ μ.1 41 s = nI z ∧ z ≤ 33 ∧ b + 1 = a + (if μ.1 37 s = 3 then z else 2) ∧ κ.1 (22 + 14 * s + sO) 3 = nI (T - a + m s) ∧ (∀ r, r < n → Bits (T - a + m s) (κ.2.1 (22 + 14 * s + sO + 3) r) (μ.2 43 (6 * s + r))) ∧ FRow s L (μ.1 37 s) (μ.1 38 s) (μ.1 42 s) (tl (μ.1 34) (μ.1 35)) := by
  have hn6 := hn.2
  obtain ⟨dO, sO, hds, p1, p2, -, ⟨L, hRL, hk2, hS⟩⟩ := h.ptr hs
  have c1 : ∀ k, (blk κ s).1 sO k = κ.1 (22 + 14 * s + sO) k := fun k => if_pos (by omega)
  rw [he] at hk2
  rcases hS with q | ⟨a, b, z, q, s1, s2, s3, s4, s5, s6, s7, s8, s9, s10, s11, s12, s13, s14, s15, s16, -⟩
  · exact absurd q hk
  · rw [c1] at s7 s10 s14 hk2
    refine ⟨sO, a, b, z, q, L, by omega, p2, RA.rw hn hs hRL (by omega), hk2, s1, s2, s3, s4, s5, s6, s7, s8, s9, s10, s11, s12, s13, s14, fun r hr => ?_, s16⟩
    have x := s15 r hr
    rw [blk_celll (by omega)] at x
    have e6 : (view μ s).2.2.2.1 r = μ.2 43 (6 * s + r) := if_pos (by omega)
    rw [e6] at x
    exact x
end RD
