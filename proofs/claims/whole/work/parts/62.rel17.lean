/-! a frame ends -/
theorem Rel.fendW {n T m i sO : Nat} {A A' : Bk} {V : Vw} (hTb : T + 100 < 2 ^ 31) (h : Rel n T 1 m false i A V) (hk : V.1 37 = 1 ∨ V.1 37 = 3) (hl : V.2.1 40 = lN T) (p2 : A.2.2 0 14 = 22 + 14 * i + sO) (g : ∀ o, o ≠ 0 → o ≠ sO → A'.1 o = A.1 o) (g0 : ∀ k, k ≠ 9 → k ≠ 10 → A'.1 0 k = A.1 0 k) (gs : ∀ k, A'.1 sO k = if k = 0 then 0 else A.1 sO k) (gl : ∀ o, o ≠ 0 → A'.2.1 o = A.2.1 o) (gl0 : ∀ k, k ≠ 11 → A'.2.1 0 k = A.2.1 0 k) (gr : A'.2.2 = A.2.2) (w9 : A'.1 0 9 = V.1 37 + 1) (w10 : A'.1 0 10 = V.1 38) (w11 : A'.2.1 0 11 = lN T + 4) : Rel n T 1 m true i A' (vui (vui (vul V 23 (lN T + 4)) 24 (V.1 38)) 25 (V.1 37 + 1)) := by
  obtain ⟨hO, hW, hB, hK, hTr, hLg, dO', sO', hds', p1', p2', ⟨L1, hRL1, hD⟩, ⟨L2, hRL2, hk2, hS⟩⟩ := h
  have e2 : sO' = sO := by omega
  subst e2
  have hO' : Own n T i A' V := by
    obtain ⟨q0, q1, q2, q3, q4, q5, q6, q7, q18, r8, r19, hx⟩ := hO
    refine ⟨?_, ?_, ?_, ?_, ?_, ?_, ?_, ?_, ?_, ?_, ?_, hx⟩
    · rw [g0 _ (by decide) (by decide)]; exact q0
    · rw [g0 _ (by decide) (by decide)]; exact q1
    · rw [g0 _ (by decide) (by decide)]; exact q2
    · rw [g0 _ (by decide) (by decide)]; exact q3
    · rw [g0 _ (by decide) (by decide)]; exact q4
    · rw [g0 _ (by decide) (by decide)]; exact q5
    · rw [g0 _ (by decide) (by decide)]; exact q6
    · rw [g0 _ (by decide) (by decide)]; exact q7
    · rw [g0 _ (by decide) (by decide)]; exact q18
    · rw [gl0 _ (by decide)]; exact r8
    · rw [gl0 _ (by decide)]; exact r19
  have hB' : Bg A' V := by unfold Bg at *; rw [g 5 (by omega) (by omega)]; exact hB
  have h4 : lN T + 4 = lN (T + 4) := lN_add T 4
  have hk0 : ¬ V.1 37 = 0 := by rcases hk with q | q <;> (rw [q]; decide)
  have h26 : V.2.1 26 = -1 := by
    rcases hLg.1 with x | x
    · exact absurd x hk0
    · exact x
  refine ⟨hO', Or.inr ⟨T + 4, h4, by omega, by omega, w9, ?_, w10, w11⟩, hB', hK.same (g 1 (by omega) (by omega)) (g 2 (by omega) (by omega)), hTr.same (g 3 (by omega) (by omega)) (g 4 (by omega) (by omega)), ⟨Or.inr h26, fun _ => Or.inl h26, fun _ q => absurd q (by decide), hLg.2.2.2.1, hLg.2.2.2.2⟩, dO', sO', hds', by rw [gr]; exact p1', by rw [gr]; exact p2', ⟨L1, hRL1.same (g _ (by omega) (by omega)) (g _ (by omega) (by omega)), ?_⟩, ⟨L2, hRL2.same (g _ (by omega) (by omega)) (g _ (by omega) (by omega)), ?_, ?_⟩⟩
  · show V.1 37 + 1 = 2 ∨ V.1 37 + 1 = 4
    rcases hk with q | q
    · left; rw [q]; rfl
    · right; rw [q]; rfl
  · rw [g dO' (by omega) (by omega), gl (dO' + 3) (by omega), gl0 12 (by decide)]
    exact hD
  · rw [gs 0, if_pos rfl]
    rfl
  · rcases hS with q | ⟨a, b, z, q, s1, s2, s3, s4, s5, s6, s7, s8, s9, s10, s11, s12, s13, s14, s15, s16, -⟩
    · exact Or.inl q
    · refine Or.inr ⟨a, b, z, q, s1, s2, s3, s4, s5, s6, ?_, s8, s9, ?_, s11, s12, s13, ?_, ?_, s16, fun _ => ?_⟩
      · rw [gs 1, if_neg (by decide)]; exact s7
      · rw [gs 2, if_neg (by decide)]; exact s10
      · rw [gs 3, if_neg (by decide)]; exact s14
      · rw [gl _ (by omega)]; exact s15
      · exact (lN_ne (by omega) (by omega)).mp (s3.symm.trans hl)
theorem Rel.fendN {n T m i sO : Nat} {A A' : Bk} {V : Vw} (hTb : T + 100 < 2 ^ 31) (h : Rel n T 1 m false i A V) (hl : V.1 37 = 0 ∨ V.2.1 40 = lN T) (p2 : A.2.2 0 14 = 22 + 14 * i + sO) (g : ∀ o, o ≠ sO → A'.1 o = A.1 o) (gs : ∀ k, A'.1 sO k = if k = 0 then 0 else A.1 sO k) (gl : A'.2 = A.2) : Rel n T 1 m true i A' V := by
  obtain ⟨hO, hW, hB, hK, hTr, hLg, dO', sO', hds', p1', p2', ⟨L1, hRL1, hD⟩, ⟨L2, hRL2, hk2, hS⟩⟩ := h
  have e2 : sO' = sO := by omega
  subst e2
  have hO' : Own n T i A' V := by
    unfold Own at *
    rw [g 0 (by omega), gl]
    exact hO
  have hW' : Wt T 1 A' V := by
    unfold Wt at *
    rw [g 0 (by omega), gl]
    exact hW
  have hB' : Bg A' V := by unfold Bg at *; rw [g 5 (by omega)]; exact hB
  refine ⟨hO', hW', hB', hK.same (g 1 (by omega)) (g 2 (by omega)), hTr.same (g 3 (by omega)) (g 4 (by omega)), ⟨hLg.1, hLg.2.1, fun _ q => absurd q (by decide), hLg.2.2.2.1, hLg.2.2.2.2⟩, dO', sO', hds', by rw [gl]; exact p1', by rw [gl]; exact p2', ⟨L1, hRL1.same (g _ (by omega)) (g _ (by omega)), ?_⟩, ⟨L2, hRL2.same (g _ (by omega)) (g _ (by omega)), ?_, ?_⟩⟩
  · rw [g dO' (by omega), gl]
    exact hD
  · rw [gs 0, if_pos rfl]
    rfl
  · rcases hS with q | ⟨a, b, z, q, s1, s2, s3, s4, s5, s6, s7, s8, s9, s10, s11, s12, s13, s14, s15, s16, -⟩
    · exact Or.inl q
    · refine Or.inr ⟨a, b, z, q, s1, s2, s3, s4, s5, s6, ?_, s8, s9, ?_, s11, s12, s13, ?_, ?_, s16, fun _ => ?_⟩
      · rw [gs 1, if_neg (by decide)]; exact s7
      · rw [gs 2, if_neg (by decide)]; exact s10
      · rw [gs 3, if_neg (by decide)]; exact s14
      · rw [gl]; exact s15
      · rcases hl with x | x
        · rw [x] at s1; rcases s1 with s1 | s1 | s1 | s1 <;> exact absurd s1 (by decide)
        · exact (lN_ne (by omega) (by omega)).mp (s3.symm.trans x)
section RI
variable {l : Launch} {w : r_V} {B : Nat} {n T s r E : Nat} {S : Int32} {d m : Nat → Nat} {e : Nat → Bool} {κ κ' : Ku} {μ μ' : Mu}
def kEnd (κ : Ku) (s f : Nat) (t : Int64) : Ku := if κ.1 f 0 = 1 ∨ κ.1 f 0 = 3 then kl (ki (ki (ki κ f 0 0) s 9 (if κ.1 f 0 = 1 then 2 else 4)) s 10 (κ.1 f 1)) s 11 (t + 4) else ki κ f 0 0
theorem R.fend {f : Nat} {e' : Nat → Bool} (hn : okN n) (hTb : T + 100 < 2 ^ 31) (h : R n T S d m e 0 s κ μ) (hd : d s = 1) (he : e s = false) (hs : s < n) (hk : ¬ μ.1 37 s = 0) (hl : μ.2 40 s = lN T) (hf : κ.2.2 (22 + 14 * s) 14 = f) (he1 : e' s = true) (he2 : ∀ i, i ≠ s → e' i = e i) : R n T S d m e' 0 n (kEnd κ (22 + 14 * s) f (lN T)) (fEnd (lN T) s μ) := by
  have hn6 := hn.2
  obtain ⟨sO, a, b, z, q, L, hsO, p2, hL, f0, hkk, ha, hb, haT, hTb2, hba, f1, e38, hq, f2, e41, hz, hlen, f3, hB, hF⟩ := h.frame hn hs he hk
  have hff : f = 22 + 14 * s + sO := hf.symm.trans p2
  subst hff
  have hrel := h.rel s hs
  rw [hd, he] at hrel
  have p2' : (blk κ s).2.2 0 14 = 22 + 14 * s + sO := by rw [blk_cellr (by omega)]; exact p2
  unfold kEnd fEnd
  rw [f0, f1]
  by_cases c : μ.1 37 s = 1 ∨ μ.1 37 s = 3
  · rw [if_pos c, if_pos c]
    have e9 : (if μ.1 37 s = 1 then (2 : Int32) else 4) = μ.1 37 s + 1 := by
      rcases c with q | q <;> rw [q] <;> rfl
    rw [e9]
    have hw1 : μ.2 23 s = -1 := by
      obtain ⟨-, -, -, -, -, x, -⟩ := hrel
      exact x.2.2.1 c rfl
    have hVs : view (ui (ui (ul μ 23 s (lN T + 4)) 24 s (μ.1 38 s)) 25 s (μ.1 37 s + 1)) s = vui (vui (vul (view μ s) 23 (lN T + 4)) 24 (μ.1 38 s)) 25 (μ.1 37 s + 1) := by
      rw [view_ui (by decide), view_ui (by decide), view_ul (by decide)]
    have hVn : ∀ i, i ≠ s → view (ui (ui (ul μ 23 s (lN T + 4)) 24 s (μ.1 38 s)) 25 s (μ.1 37 s + 1)) i = view μ i := fun i hi => by
      rw [view_ui_ne (by decide) hi, view_ui_ne (by decide) hi, view_ul_ne (by decide) hi]
    have hgm : gmo (ui (ui (ul μ 23 s (lN T + 4)) 24 s (μ.1 38 s)) 25 s (μ.1 37 s + 1)) = gmo μ := by
      rw [gmo_ui (by omega), gmo_ui (by omega), gmo_ul (by omega)]
    have nowf : ∀ i a', a' ≤ T + 2 → ¬ Wf (view μ) i s a' := fun i a' ha' x => by
      have x1 : μ.2 23 s = lN (a' + 2) := x.1
      exact lN_m1 (a := a' + 2) (by omega) (x1.symm.trans hw1)
    have h4 : lN T + 4 = lN (T + 4) := lN_add T 4
    generalize hμ' : ui (ui (ul μ 23 s (lN T + 4)) 24 s (μ.1 38 s)) 25 s (μ.1 37 s + 1) = μ' at *
    have hA : Ag [22 + 14 * s, 22 + 14 * s + sO] κ (kl (ki (ki (ki κ (22 + 14 * s + sO) 0 0) (22 + 14 * s) 9 (μ.1 37 s + 1)) (22 + 14 * s) 10 (μ.1 38 s)) (22 + 14 * s) 11 (lN T + 4)) :=
      (((Ag.ii.wide (by simp)).trans (Ag.ii.wide (by simp))).trans (Ag.ii.wide (by simp))).trans (Ag.ll.wide (by simp))
    refine h.one (κ' := kl (ki (ki (ki κ (22 + 14 * s + sO) 0 0) (22 + 14 * s) 9 (μ.1 37 s + 1)) (22 + 14 * s) 10 (μ.1 38 s)) (22 + 14 * s) 11 (lN T + 4)) (μ' := μ') hs h.co hA (by intro a ha; simp at ha; omega) hgm (fun i _ hi => hVn i hi) (fun _ _ => rfl) (fun _ _ => rfl) he2 ?_ ?_ ?_
    · rw [hd, he1, hVs]
      refine Rel.fendW hTb hrel c hl p2' (fun o h0 h1 => ?_) (fun k k1 k2 => ?_) (fun k => ?_) (fun o h0 => ?_) (fun k k1 => ?_) ?_ ?_ ?_ ?_
      · by_cases ho : o < 14
        · rw [blk_cell ho, blk_cell ho]
          exact (hA _ (by simp; omega)).1
        · funext k
          show (if o < 14 then _ else 0) = (if o < 14 then _ else 0)
          rw [if_neg ho, if_neg ho]
      · rw [blk_cell (by omega), blk_cell (by omega)]
        simp only [kl, ki]
        rw [if_neg (by omega), if_neg (by omega), if_neg (by omega)]
      · rw [blk_cell (by omega), blk_cell (by omega)]
        simp only [kl, ki]
        rw [if_neg (by omega), if_neg (by omega)]
        by_cases hk0 : k = 0
        · rw [if_pos ⟨trivial, hk0⟩, if_pos hk0]
        · rw [if_neg (fun q => hk0 q.2), if_neg hk0]
      · by_cases ho : o < 14
        · rw [blk_celll ho, blk_celll ho]
          simp only [kl, ki]
          funext k
          rw [if_neg (by omega)]
        · funext k
          show (if o < 14 then _ else 0) = (if o < 14 then _ else 0)
          rw [if_neg ho, if_neg ho]
      · rw [blk_celll (by omega), blk_celll (by omega)]
        simp only [kl, ki]
        rw [if_neg (by omega)]
      · rfl
      · rw [blk_cell (by omega)]
        simp [kl, ki]
        rfl
      · rw [blk_cell (by omega)]
        simp [kl, ki]
        rfl
      · rw [blk_celll (by omega)]
        simp [kl, ki]
    · intro i hi a' r' q1 q2 q3 q4 q5
      have hi' : ∀ g, g ≠ 24 → g ≠ 25 → (view μ' i).1 g = (view μ i).1 g := fun g g1 g2 => by
        by_cases e : i = s
        · subst e; rw [hVs]; show (if g = 25 then _ else if g = 24 then _ else (view μ i).1 g) = _; rw [if_neg g2, if_neg g1]
        · rw [hVn i e]
      have hi2 : (view μ' i).2.1 26 = (view μ i).2.1 26 := by
        by_cases e : i = s
        · subst e; rw [hVs]; rfl
        · rw [hVn i e]
      rw [hi2] at q1
      rw [hi' 27 (by decide) (by decide)] at q2
      rw [hi' 28 (by decide) (by decide)] at q5
      rcases h.ad i hi a' r' q1 q2 q3 q4 q5 with x | ⟨x1, x2, x3, x4⟩
      · by_cases e : r' = s
        · subst e; exact absurd x (nowf i a' q3)
        · refine Or.inl ?_
          unfold Wf at x ⊢
          rw [hVn r' e]
          exact x
      · subst x1
        left
        unfold Wf
        rw [hVs]
        have x3 : μ.1 37 r' = 3 := x3
        have x4 : μ.1 38 r' = nI i := x4
        refine ⟨?_, x4, ?_⟩
        · show lN T + 4 = lN (a' + 2)
          rw [h4, x2]
        · show μ.1 37 r' + 1 = 4
          rw [x3]; rfl
    · intro i hi a' r' q1 q2 q3 q4 q5 q6
      have hi' : ∀ g, g ≠ 24 → g ≠ 25 → (view μ' i).1 g = (view μ i).1 g := fun g g1 g2 => by
        by_cases e : i = s
        · subst e; rw [hVs]; show (if g = 25 then _ else if g = 24 then _ else (view μ i).1 g) = _; rw [if_neg g2, if_neg g1]
        · rw [hVn i e]
      have hi2 : (view μ' i).2.1 39 = (view μ i).2.1 39 := by
        by_cases e : i = s
        · subst e; rw [hVs]; rfl
        · rw [hVn i e]
      rw [hi2] at q2
      rw [hi' 37 (by decide) (by decide)] at q1
      rw [hi' 38 (by decide) (by decide)] at q6
      have x := h.as i hi a' r' q1 q2 q3 q4 q5 q6
      by_cases e : r' = s
      · subst e; exact absurd x (nowf i a' (by omega))
      · unfold Wf at x ⊢
        rw [hVn r' e]
        exact x
  · rw [if_neg c, if_neg c]
    refine h.one (κ' := ki κ (22 + 14 * s + sO) 0 0) (μ' := μ) hs h.co Ag.ii (by intro a ha; simp at ha; omega) rfl (fun i _ hi => rfl) (fun _ _ => rfl) (fun _ _ => rfl) he2 ?_ ?_ h.as
    · rw [hd, he1]
      refine Rel.fendN hTb hrel (Or.inr hl) p2' (fun o h1 => ?_) (fun k => ?_) ?_
      · by_cases ho : o < 14
        · rw [blk_cell ho, blk_cell ho]
          exact (Ag.ii (κ := κ) _ (by simp; omega)).1
        · funext k
          show (if o < 14 then _ else 0) = (if o < 14 then _ else 0)
          rw [if_neg ho, if_neg ho]
      · rw [blk_cell (by omega), blk_cell (by omega)]
        simp only [ki]
        by_cases hk0 : k = 0
        · rw [if_pos ⟨trivial, hk0⟩, if_pos hk0]
        · rw [if_neg (fun q => hk0 q.2), if_neg hk0]
      · rfl
    · intro i hi a' r' q1 q2 q3 q4 q5
      rcases h.ad i hi a' r' q1 q2 q3 q4 q5 with x | ⟨x1, x2, x3, x4⟩
      · exact Or.inl x
      · subst x1
        have x3 : μ.1 37 r' = 3 := x3
        exact absurd (Or.inr x3) c
/-- the walk over the senders -/
def ovr (T : Nat) (μ : Mu) (j : Nat) : Bool := knd μ j && decide (μ.2 40 j = lN T)
def ovi (T i : Nat) (μ : Mu) (j : Nat) : Bool := decide (j < i) && ovr T μ j
theorem R.cur {lim cur : Nat} (h : R n T S d m e lim n κ μ) : R n T S d m e lim cur κ μ := by
  refine ⟨h.1, h.2.1, h.2.2.1, fun i hi a r q1 q2 q3 q4 q5 => ?_, h.2.2.2.2⟩
  rcases h.ad i hi a r q1 q2 q3 q4 q5 with x | x
  · exact Or.inl x
  · omega
theorem R.lim0 {cur : Nat} (h : R n T S d m e 1 cur κ μ) : R n T S d m e 0 cur κ μ :=
  ⟨h.1, h.2.1, h.2.2.1, h.2.2.2.1, fun i hi a r q1 q2 q3 q4 q5 q6 => h.as i hi a r q1 q2 q3 (by omega) q5 q6⟩
theorem knd_pos (h : ¬ μ.1 37 s = 0) (hk : μ.1 37 s = 1 ∨ μ.1 37 s = 2 ∨ μ.1 37 s = 3 ∨ μ.1 37 s = 4) : ¬ μ.1 37 s ≤ 0 := by
  rcases hk with q | q | q | q <;> (rw [q]; decide)
end RI
