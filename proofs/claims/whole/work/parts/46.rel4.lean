/-! events, coins; failAttempt -/
section R4
variable {l : Launch} {w : r_V} {B : Nat} {n T lim cur s E : Nat} {S : Int32} {d m : Nat → Nat} {e : Nat → Bool} {κ κ' : Ku} {μ μ' : Mu}
/-- nothing of the stations has changed -/
theorem R.low (h : R n T S d m e lim cur κ μ) {as : List Nat} (hA : Ag as κ κ') (has : ∀ a ∈ as, a < 22) (hC : CoK n κ') (hV : ∀ i, i < n → view μ' i = view μ i) {S' : Int32} (hG : Gl T S' (glo κ') (gmo μ')) : R n T S' d m e lim cur κ' μ' := by
  refine ⟨hC, hG, fun i hi => ?_, ?_, ?_⟩
  · rw [hA.toBlk (fun a ha => by have := has a ha; omega), hV i hi]
    exact h.rel i hi
  · refine h.ad.keep (fun i hi => ?_)
    rw [hV i hi]
    exact ⟨rfl, rfl, rfl, rfl, rfl, rfl, rfl, rfl⟩
  · refine h.as.keep (fun i hi => ?_)
    rw [hV i hi]
    exact ⟨rfl, rfl, rfl, rfl, rfl, rfl⟩
theorem Gl.time (h : Gl T S (glo κ) (gmo μ)) : κ.2.1 1 7 = lN T ∧ μ.2 0 2 = lN T := by
  obtain ⟨⟨-, a1, a2, -⟩, -⟩ := h
  exact ⟨a1.trans a2, a2⟩
theorem R.tell {p k : Int32} {t : Int64} (h : R n T S d m e lim cur κ μ) : R n T S d m e lim cur (kTell p k t κ) (fTell p k t μ) := by
  have hG := h.gl
  obtain ⟨⟨a1, a2, a3, a4, a5, a6, a7, a8, a9⟩, b1, b2, b3, b4, b5, b6, b7, b8, b9, b10, b11, b12, b13, b14⟩ := hG
  have e21 : κ.1 15 3 = μ.1 0 21 := a9
  unfold kTell fTell
  rw [e21]
  by_cases c : 700 ≤ μ.1 0 21
  · rw [if_pos c, if_pos c]
    refine h.low (κ' := ki κ 15 3 (μ.1 0 21 + 1)) (μ' := ui μ 0 21 (μ.1 0 21 + 1)) Ag.ii (by simp) h.co (fun i hi => view_lo (by omega) (by omega) (by omega) (by omega) (by omega)) ?_
    exact ⟨⟨a1, a2, a3, a4, a5, a6, a7, a8, rfl⟩, b1, b2, b3, b4, b5, b6, b7, b8, b9, b10, b11, b12, b13, b14⟩
  · rw [if_neg c, if_neg c]
    generalize hq : (μ.1 0 21).toNatClampNeg = q
    have hA : Ag [15, 16, 17, 18] κ (ki (ki (ki (ki κ 16 q p) 17 q k) 18 q t.toInt32) 15 3 (μ.1 0 21 + 1)) := by
      refine Ag.trans (Ag.trans (Ag.trans (Ag.ii.wide ?_) (Ag.ii.wide ?_)) (Ag.ii.wide ?_)) (Ag.ii.wide ?_) <;> simp
    refine h.low hA (by simp) h.co (fun i hi => ?_) ?_
    · rw [view_lo (by omega) (by omega) (by omega) (by omega) (by omega), view_lol (by omega), view_lo (by omega) (by omega) (by omega) (by omega) (by omega), view_lo (by omega) (by omega) (by omega) (by omega) (by omega)]
    · refine ⟨⟨a1, a2, a3, a4, a5, a6, a7, a8, rfl⟩, b1, b2, b3, b4, b5, b6, b7, b8, b9, b10, fun j => ?_, fun j => ?_, fun j => ?_, b14⟩
      · show (if 16 = 16 ∧ j = q then p else κ.1 16 j) = (if 14 = 14 ∧ j = q then p else μ.1 14 j)
        by_cases hj : j = q
        · rw [if_pos ⟨rfl, hj⟩, if_pos ⟨rfl, hj⟩]
        · rw [if_neg (fun r => hj r.2), if_neg (fun r => hj r.2)]
          exact b11 j
      · show (if 17 = 17 ∧ j = q then k else κ.1 17 j) = (if 15 = 15 ∧ j = q then k else μ.1 15 j)
        by_cases hj : j = q
        · rw [if_pos ⟨rfl, hj⟩, if_pos ⟨rfl, hj⟩]
        · rw [if_neg (fun r => hj r.2), if_neg (fun r => hj r.2)]
          exact b12 j
      · show (if 18 = 18 ∧ j = q then t.toInt32 else κ.1 18 j) = (if 16 = 16 ∧ j = q then t else μ.2 16 j).toInt32
        by_cases hj : j = q
        · rw [if_pos ⟨rfl, hj⟩, if_pos ⟨rfl, hj⟩]
        · rw [if_neg (fun r => hj r.2), if_neg (fun r => hj r.2)]
          exact b13 j
theorem rem_0 (x : Int32) : rem 0 x = 0 := by
  unfold rem
  rw [Int32.zero_div, Int32.zero_mul, Int32.sub_zero]
theorem R.draw (h : R n T S d m e lim cur κ μ) (hs : s < n) : R n T S d m e lim cur (if κ.1 2 1 ≤ κ.1 2 2 then ki κ (22 + 14 * s) 5 0 else ki (ki κ 2 2 (κ.1 2 2 + 1)) (22 + 14 * s) 5 (rem (κ.1 3 (κ.1 2 2).toNatClampNeg) (κ.1 (22 + 14 * s) 3 + 1))) (fDraw s μ) := by
  have hG := h.gl
  obtain ⟨⟨a1, a2, a3, a4, a5, a6, a7, a8, a9⟩, b1, b2, b3, b4, b5, b6, b7, b8, b9, b10, b11, b12, b13, b14⟩ := hG
  have e14 : κ.1 2 1 = μ.1 0 14 := a5
  have e15 : κ.1 2 2 = μ.1 0 15 := a6
  have e3 : ∀ k, κ.1 3 k = μ.1 10 k := b1
  have ew : κ.1 (22 + 14 * s) 3 = μ.1 17 s := (h.rel s hs).1.2.2.2.1
  unfold fDraw
  rw [e14, e15, e3, ew]
  by_cases c : μ.1 0 14 ≤ μ.1 0 15
  · rw [if_pos c, if_pos c, if_pos c, rem_0]
    have e0 : ui μ 0 15 (μ.1 0 15) = μ := by
      refine Prod.ext (funext fun g => funext fun k => ?_) rfl
      show (if g = 0 ∧ k = 15 then μ.1 0 15 else μ.1 g k) = μ.1 g k
      by_cases q : g = 0 ∧ k = 15
      · rw [if_pos q, q.1, q.2]
      · rw [if_neg q]
    rw [e0]
    exact h.own hs (by omega)
  · rw [if_neg c, if_neg c, if_neg c]
    refine R.own ?_ hs (by omega)
    refine h.low (κ' := ki κ 2 2 (μ.1 0 15 + 1)) (μ' := ui μ 0 15 (μ.1 0 15 + 1)) Ag.ii (by simp) h.co (fun i hi => view_lo (by omega) (by omega) (by omega) (by omega) (by omega)) ?_
    exact ⟨⟨a1, a2, a3, a4, a5, rfl, a7, a8, a9⟩, b1, b2, b3, b4, b5, b6, b7, b8, b9, b10, b11, b12, b13, b14⟩
theorem R.stat (h : R n T S d m e lim cur κ μ) (hs : s < n) : κ.1 (22 + 14 * s) 0 = nI s ∧ κ.1 (22 + 14 * s) 1 = nI (2 ^ s) ∧ κ.1 (22 + 14 * s) 2 = nI (mkM n (fHears μ s)) ∧ κ.1 (22 + 14 * s) 3 = μ.1 17 s ∧ κ.1 (22 + 14 * s) 4 = μ.1 18 s ∧ κ.1 (22 + 14 * s) 5 = μ.1 19 s ∧ κ.1 (22 + 14 * s) 6 = μ.1 20 s ∧ κ.1 (22 + 14 * s) 7 = μ.1 21 s ∧ κ.1 (22 + 14 * s) 18 = μ.1 31 s ∧ κ.2.1 (22 + 14 * s) 8 = μ.2 22 s ∧ κ.2.1 (22 + 14 * s) 19 = μ.2 32 s ∧ ∃ a : Nat, μ.2 22 s = lN a ∧ a ≤ T + 64 := (h.rel s hs).1
theorem R.keptRw (h : R n T S d m e lim cur κ μ) (hn : okN n) (hs : s < n) : Rw n κ (22 + 14 * s + 1) 10 ((kL (μ.1 2) (μ.1 6) s (pN μ)).map nI) := RA.rw hn hs (h.rel s hs).2.2.2.1 (by omega)
theorem R.attRw (h : R n T S d m e lim cur κ μ) (hn : okN n) (hs : s < n) : Rw n κ (22 + 14 * s + 3) 4 (tl (μ.1 34) (μ.1 35) s) := RA.rw hn hs (h.rel s hs).2.2.2.2.1 (by omega)
theorem tl_get0 {i : Nat} (h : TR μ i) : (tl (μ.1 34) (μ.1 35) i).getD 0 0 = μ.1 34 (4 * i) := by
  obtain ⟨c, c4, e1, e2, e3, -⟩ := h
  unfold tl
  rw [e1, nI_clampS (by omega)]
  by_cases q : c = 0
  · subst q
    rw [e3 rfl]
    rfl
  · simp [List.getD_eq_getElem?_getD, List.getElem?_range (show 0 < c by omega)]
theorem kept_le (h : R n T S d m e lim cur κ μ) (hn : okN n) (hs : s < n) : (κ.1 (22 + 14 * s + 1) 1 ≤ 0 ↔ kc μ s (pN μ) = 0) := by
  have hK := (h.keptRw hn hs).2.2
  rw [hK.2.1, List.length_map, kc_eq]
  have hl : (kL (μ.1 2) (μ.1 6) s (pN μ)).length ≤ 10 := by have := hK.1; rw [List.length_map] at this; exact this
  constructor
  · intro c
    by_cases q : (kL (μ.1 2) (μ.1 6) s (pN μ)).length = 0
    · exact q
    · exact absurd c (nI_nle (by omega) (by omega))
  · intro c
    rw [c]
    decide
/-- the drawing, if something is kept -/
theorem c_keepDraw (hn : okN n) (hs : s < n) (h : R n T S d m e lim cur κ μ) (hM : MI n E μ) : (κ.1 (22 + 14 * s + 1) 1 ≤ 0 → R n T S d m e lim cur κ (fKeepDraw s μ)) ∧ (¬ κ.1 (22 + 14 * s + 1) 1 ≤ 0 → r_KV l w B n tX7_drawCount [.ref (B + 1), .ref (B + (22 + 14 * s))] κ (fun κ' => R n T S d m e lim cur κ' (fKeepDraw s μ) ∧ κ'.2.2 = κ.2.2)) := by
  have hk := kept_le h hn hs
  refine ⟨fun c => ?_, fun c => ?_⟩
  · unfold fKeepDraw
    rw [if_pos (hk.mp c)]
    exact h
  · unfold fKeepDraw
    rw [if_neg (fun q => c (hk.mpr q))]
    have hst := h.stat hs
    obtain ⟨x, ex, hx⟩ := hM.wid s hs
    have ew : κ.1 (22 + 14 * s) 3 = nI x := hst.2.2.2.1.trans ex
    have hG := h.gl
    have e14 : κ.1 2 1 = μ.1 0 14 := hG.1.2.2.2.2.1
    have e15 : κ.1 2 2 = μ.1 0 15 := hG.1.2.2.2.2.2.1
    refine r_M.mono (s_drawCount hn h.co (at_st hn hs) ?_ ?_ ?_) ?_
    · rw [ew, nI_1, show (1 : Int32) = nI 1 from rfl]
      exact nI_le (by omega) (by omega)
    · rw [ew, nI_1]
      exact nI_ne0 (by omega) (by omega)
    · rw [e14, e15]
      exact hM.drIn
    · intro o σ' q
      obtain ⟨q1, q2, q3, q4, q5⟩ := q
      refine ⟨q1, q2, q3, q4, ?_, ?_⟩
      · rw [q5]
        exact h.draw hs
      · rw [q5]
        split <;> rfl
theorem c_fail (hn : okN n) (hs : s < n) (h : R n T S d m e lim cur κ μ) (hM : MI n E μ) (hE : E < 2 ^ 30) (hN : NP n T lim (view μ) s) : r_KV l w B n tX7_failAttempt [.ref (B + 1), .ref (B + (22 + 14 * s))] κ (fun κ' => R n T S d m e lim cur κ' (fFail s (lN T) μ) ∧ κ'.2.2 = κ.2.2) := by
  have hst := h.stat hs
  have hat := at_st hn hs
  have hb : 22 + 14 * s + 13 < mOf n := (at_stat hn hat).2.2.2.2.2.1
  refine r_enter (by decide) (Nat.le_of_ble_eq_true rfl) (fun X C Ex => ?_)
  refine v_X7_failAttempt_0 C Ex hn h.co Gr.rf hat (fun κ1 e1 κ5 e5 => ?_)
  have h1 : R n T S d m e lim cur κ1 (ul μ 23 s (-1)) := by rw [e1]; exact h.nowait hs hN
  have g4 : κ1.1 (22 + 14 * s) 4 = μ.1 18 s := (h1.stat hs).2.2.2.2.1
  rw [g4] at e5
  have h5 : R n T S d m e lim cur κ5 (ui (ul μ 23 s (-1)) 18 s (μ.1 18 s + 1)) := by rw [e5]; exact h1.own hs (by omega)
  have hM5 : MI n E (ui (ul μ 23 s (-1)) 18 s (μ.1 18 s + 1)) := (hM.nowait s).tries s _
  have hG5 : Gr n κ κ5 := by rw [e5, e1]; exact (Gr.rf.i (by omega)).i (by omega)
  have g5 : κ5.1 (22 + 14 * s) 4 = μ.1 18 s + 1 := by rw [e5]; simp [ki]
  have g3 : κ5.1 (22 + 14 * s) 3 = μ.1 17 s := (h5.stat hs).2.2.2.1
  rw [g5, g3]
  have p5 : κ5.2.2 = κ.2.2 := by rw [e5, e1]; rfl
  have fin : ∀ κ9 : Ku, Gr n κ κ9 → κ9.2.2 = κ.2.2 → R n T S d m e lim cur κ9 (fFail0 s (lN T) μ) → r_W X w B 3 0 0 (r_Z X w B tX7_failAttempt (ZKV n κ (fun κ' => R n T S d m e lim cur κ' (fFail s (lN T) μ) ∧ κ'.2.2 = κ.2.2))) 77 [(0, Value.ref (B + 1)), (1, Value.ref (B + (22 + 14 * s)))] [] (shp n, κ9) := by
    intro κ9 hG9 hp9 h9
    have hD := c_keepDraw (l := l) (w := w) (B := B) hn hs h9 (hM.fail0 hs)
    exact v_X7_failAttempt_77 C Ex hn h9.co hG9 hat ⟨fun c => ⟨hD.1 c, hp9⟩, fun c => ⟨_, hD.2 c, fun κ4 q => ⟨q.1, q.2.trans hp9⟩⟩⟩
  refine ⟨fun c => ⟨_, j_min h5.co, fun z14 κ12 q κ19 e19 => ?_⟩, fun c => ⟨_, s_Row_get hn h5.co (h5.attRw hn hs) (show 0 < 2 ^ 30 by decide), fun z27 κ25 q => ?_⟩⟩
  · obtain ⟨rfl, rfl⟩ := q
    refine fin κ19 (by rw [e19]; exact hG5.i (by omega)) (by rw [e19]; exact p5) ?_
    have e0 : fFail0 s (lN T) μ = ui (ui (ul μ 23 s (-1)) 18 s (μ.1 18 s + 1)) 17 s (if 63 < 2 * μ.1 17 s + 1 then 63 else 2 * μ.1 17 s + 1) := by
      unfold fFail0
      rw [if_pos c]
      congr 1
      by_cases q : 2 * μ.1 17 s + 1 ≤ 63
      · rw [if_pos q, if_neg (Int32.not_lt.mpr q)]
      · rw [if_neg q, if_pos (Int32.not_le.mp q)]
    rw [e0, e19]
    exact h5.own hs (by omega)
  · obtain ⟨rfl, ez⟩ := q
    rw [tl_get0 (hM5.tr s hs)] at ez
    have ez : z27 = μ.1 34 (4 * s) := ez
    obtain ⟨p, ep, hp, hpP⟩ := hM.tr0 hs
    rw [ep] at ez
    subst ez
    refine ⟨_, s_Row_drop hn h5.co (h5.keptRw hn hs), fun κ34 q => ?_⟩
    obtain ⟨hO, hR⟩ := q
    have hf : p = 0 ∨ μ.1 2 p = nI s := by
      obtain ⟨c0, c4, e1', e2', e3', -⟩ := hM.tr s hs
      by_cases q : c0 = 0
      · left
        have := e3' q
        rw [ep, ← nI_0] at this
        exact nI_inj (by omega) (by omega) this
      · right
        obtain ⟨p', p1, -, p3, p4, -⟩ := e2' 0 (by omega)
        have : p = p' := nI_inj (by omega) (by have := hM.pay.2; omega) (ep.symm.trans p1)
        rw [this]; exact p4
    have h34 : R n T S d m e lim cur κ34 (ui (ui (ul μ 23 s (-1)) 18 s (μ.1 18 s + 1)) 6 p 0) := h5.drop hM5 hn hs hp hf hO hR
    have hM34 : MI n E (ui (ui (ul μ 23 s (-1)) 18 s (μ.1 18 s + 1)) 6 p 0) := hM5.kept p 0
    have hG34 : Gr n κ κ34 := hO.gr hG5 (by intro a ha; simp at ha; omega)
    have t34 := h34.gl.time
    have e21 : κ34.1 15 3 = (ui (ui (ul μ 23 s (-1)) 18 s (μ.1 18 s + 1)) 6 p 0).1 0 21 := h34.gl.1.2.2.2.2.2.2.2.2
    refine ⟨_, s_Events_add hn h34.co (by rw [e21]; exact hM34.evIn hE), fun κ43 q => ?_⟩
    rw [t34.1] at q
    have h43 : R n T S d m e lim cur κ43 (fTell (nI p) 2 (lN T) (ui (ui (ul μ 23 s (-1)) 18 s (μ.1 18 s + 1)) 6 p 0)) := by rw [q]; exact h34.tell
    have hG43 : Gr n κ κ43 := by
      rw [q]
      unfold kTell
      refine Gr.i ?_ (by omega)
      split
      · exact hG34
      · exact ((hG34.i (by omega)).i (by omega)).i (by omega)
    have p34 : κ34.2.2 = κ.2.2 := by rw [hO.1]; exact p5
    have p43 : κ43.2.2 = κ.2.2 := by
      rw [q]
      unfold kTell
      split
      · exact p34
      · exact p34
    refine ⟨_, s_St_anew hn h43.co hat, fun κ52 q => ?_⟩
    refine fin κ52 (by rw [q]; exact (hG43.i (by omega)).i (by omega)) (by rw [q]; exact p43) ?_
    have e0 : fFail0 s (lN T) μ = ui (ui (fTell (nI p) 2 (lN T) (ui (ui (ul μ 23 s (-1)) 18 s (μ.1 18 s + 1)) 6 p 0)) 18 s 0) 17 s 3 := by
      unfold fFail0
      rw [if_neg c, ep, nI_clampS (by omega)]
    rw [e0, q]
    exact (h43.own hs (by omega)).own hs (by omega)
end R4
