/-! who receives what ends -/
theorem lowall : ∀ c : Fin 9, ∀ j : Fin 64, ((1 : Int64) <<< ((nI c.val).toInt64 &&& 63) - 1).toBitVec.getLsbD j.val = decide (j.val < c.val) := by decide +kernel
theorem smodall : ∀ a : Fin 64, (((nI a.val).toInt64 &&& 63).toBitVec.smod 64) = BitVec.ofNat 64 a.val := by decide +kernel
theorem maskbit {a c j : Nat} (ha : a < 64) (hc : c < 9) (hj : j < 64) : (maskOf (nI a) (nI c)).toBitVec.getLsbD j = (decide (a ≤ j) && decide (j < a + c)) := by
  unfold maskOf
  rw [Int64.toBitVec_shiftLeft, smodall ⟨a, ha⟩, BitVec.shiftLeft_eq', BitVec.toNat_ofNat, Nat.mod_eq_of_lt (by omega), BitVec.getLsbD_shiftLeft]
  by_cases q : a ≤ j
  · rw [lowall ⟨c, hc⟩ ⟨j - a, by omega⟩]
    simp only [decide_eq_true hj, decide_eq_true q, decide_eq_false (show ¬ j < a by omega)]
    by_cases q2 : j < a + c
    · simp [q2, show j - a < c by omega]
    · simp [q2, show ¬ j - a < c by omega]
  · simp [q, show j < a by omega]
theorem Bits.whole {K a c : Nat} {g b : Int64} (h : Bits K g b) (ha : a < 64) (hc : c < 9) (hK : a + c ≤ K) : (g &&& maskOf (nI a) (nI c) = maskOf (nI a) (nI c)) ↔ b &&& maskOf (nI a) (nI c) = 0 := by
  constructor
  · intro q
    apply Int64.toBitVec_inj.mp
    apply BitVec.eq_of_getLsbD_eq
    intro j hj
    have q' := congrArg (fun x => x.toBitVec.getLsbD j) q
    simp only [Int64.toBitVec_and, BitVec.getLsbD_and, maskbit ha hc hj] at q' ⊢
    obtain ⟨h1, h2⟩ := h j hj
    rw [h1] at q'
    show _ = (0#64).getLsbD j
    rw [BitVec.getLsbD_zero]
    by_cases q1 : a ≤ j
    · by_cases q2 : j < a + c
      · simp only [decide_eq_true q1, decide_eq_true q2, decide_eq_true (show j < K by omega), Bool.and_true, Bool.true_and] at q' ⊢
        cases hb : b.toBitVec.getLsbD j
        · rfl
        · rw [hb] at q'; exact absurd q' (by decide)
      · simp [q2]
    · simp [q1]
  · intro q
    apply Int64.toBitVec_inj.mp
    apply BitVec.eq_of_getLsbD_eq
    intro j hj
    have q' := congrArg (fun x => x.toBitVec.getLsbD j) q
    simp only [Int64.toBitVec_and, BitVec.getLsbD_and, maskbit ha hc hj] at q' ⊢
    have q' : (b.toBitVec.getLsbD j && (decide (a ≤ j) && decide (j < a + c))) = (0#64).getLsbD j := q'
    rw [BitVec.getLsbD_zero] at q'
    obtain ⟨h1, h2⟩ := h j hj
    rw [h1]
    by_cases q1 : a ≤ j
    · by_cases q2 : j < a + c
      · simp only [decide_eq_true q1, decide_eq_true q2, decide_eq_true (show j < K by omega), Bool.and_true, Bool.true_and] at q' ⊢
        rw [q']; rfl
      · simp [q2]
    · simp [q1]
theorem Bits.two {g b : Int64} (h : Bits 2 g b) : (g &&& maskOf 0 2 = maskOf 0 2) ↔ b = 0 := by
  have hw := h.whole (a := 0) (c := 2) (by omega) (by omega) (by omega)
  have e0 : maskOf (nI 0) (nI 2) = maskOf 0 2 := rfl
  rw [e0] at hw
  rw [hw]
  constructor
  · intro q
    apply Int64.toBitVec_inj.mp
    apply BitVec.eq_of_getLsbD_eq
    intro j hj
    show _ = (0#64).getLsbD j
    rw [BitVec.getLsbD_zero]
    have q' := congrArg (fun x => x.toBitVec.getLsbD j) q
    have mb := maskbit (a := 0) (c := 2) (j := j) (by omega) (by omega) hj
    rw [e0] at mb
    simp only [Int64.toBitVec_and, BitVec.getLsbD_and, mb] at q'
    have q' : (b.toBitVec.getLsbD j && (decide (0 ≤ j) && decide (j < 0 + 2))) = (0#64).getLsbD j := q'
    rw [BitVec.getLsbD_zero] at q'
    cases hb : b.toBitVec.getLsbD j
    · rfl
    · have := (h j hj).2 hb
      rw [hb, decide_eq_true (Nat.zero_le j), decide_eq_true (show j < 0 + 2 by omega)] at q'
      exact absurd q' (by decide)
  · intro q
    rw [q]
    simp
theorem Bits.one {K : Nat} {g b : Int64} (h : Bits K g b) (hK : 1 ≤ K) : (g &&& maskOf 0 1 = maskOf 0 1) ↔ b &&& 1 = 0 := h.whole (a := 0) (c := 1) (by omega) (by omega) (by omega)
theorem goodOf_eq {κ : Ku} {g bd : Int64} {K : Nat} (hb : Bits K g bd) (hK : K ≤ 64) : ∀ (L : List Int32) (A Z : Nat), (∀ p ∈ L, ∃ c : Nat, κ.1 6 p.toNatClampNeg = nI c ∧ 1 ≤ c ∧ c ≤ 8) → L.foldl (fun a p => a + κ.1 6 p.toNatClampNeg) (nI A) = nI Z → L.length ≤ 4 → A ≤ 64 → Z ≤ K → goodOf κ g L (nI A) = sel (gB (κ.1 6) bd L (nI A)) L
  | [], _, _, _, _, _, _, _ => rfl
  | p :: L, A, Z, hp, hZ, h4, hA, hZK => by
    obtain ⟨c, ec, c1, c8⟩ := hp p (by simp)
    have hp' : ∀ q ∈ L, ∃ c : Nat, κ.1 6 q.toNatClampNeg = nI c ∧ 1 ≤ c ∧ c ≤ 8 := fun q hq => hp q (by simp [hq])
    have hZ' : L.foldl (fun a p => a + κ.1 6 p.toNatClampNeg) (nI (A + c)) = nI Z := by
      rw [← hZ]
      simp only [List.foldl_cons]
      rw [ec, nI_add]
    obtain ⟨z, ez, z1, z2⟩ := sz_bound (sl := κ.1 6) L (A + c) hp'
    have hl : L.length ≤ 3 := by simp at h4; omega
    have hzZ : z = Z := nI_inj (by omega) (by omega) (ez.symm.trans hZ')
    have ih := goodOf_eq hb hK L (A + c) Z hp' hZ' (by omega) (by omega) hZK
    have eA : nI A + κ.1 6 p.toNatClampNeg = nI (A + c) := by rw [ec]; exact nI_add A c
    have eL : goodOf κ g (p :: L) (nI A) = (if g &&& maskOf (nI A) (nI c) = maskOf (nI A) (nI c) then [p] else []) ++ goodOf κ g L (nI (A + c)) := by
      rw [← eA, ← ec]
      rfl
    have eG : gB (κ.1 6) bd (p :: L) (nI A) = (if bd &&& maskOf (nI A) (nI c) = 0 then 1 else 0) + 2 * gB (κ.1 6) bd L (nI (A + c)) := by
      rw [← eA, ← ec]
      rfl
    have eS : ∀ b : Nat, sel b (p :: L) = (if b % 2 = 1 then [p] else []) ++ sel (b / 2) L := fun _ => rfl
    have hw := hb.whole (a := A) (c := c) (by omega) (by omega) (by omega)
    rw [eL, eG, eS, ih]
    generalize gB (κ.1 6) bd L (nI (A + c)) = G
    by_cases q : bd &&& maskOf (nI A) (nI c) = 0
    · rw [if_pos (hw.mpr q), if_pos q, if_pos (by omega), show (1 + 2 * G) / 2 = G by omega]
    · rw [if_neg (fun x => q (hw.mp x)), if_neg q, if_neg (by omega), show (0 + 2 * G) / 2 = G by omega]
section RF
variable {l : Launch} {w : r_V} {B : Nat} {n T s r E : Nat} {S : Int32} {d m : Nat → Nat} {e : Nat → Bool} {κ κ' : Ku} {μ μ' : Mu}
theorem R.np3 {a b : Nat} (hn : okN n) (hTb : T + 100 < 2 ^ 31) (h : R n T S d m e 0 s κ μ) (hs : s < n) (hr : r < n) (hsr : r ≠ s) (hk : ¬ μ.1 37 s = 0) (ha : μ.2 39 s = lN a) (hab : a < T) (hb : a + 100 < 2 ^ 31) (hw : μ.1 24 r = nI s) : NP n T 0 (view μ) r := by
  have hn6 := hn.2
  have hL : ¬ μ.2 26 s = -1 → False := fun q => by
    obtain ⟨-, -, -, -, -, hL, -⟩ := h.rel s hs
    rcases hL.1 with x | x
    · exact hk x
    · exact q x
  refine ⟨fun i hi a' q1 q2 q3 q4 => ?_, fun i hi a' q1 q2 q3 q4 q5 => ?_⟩
  · rcases h.ad i hi a' r q1 q2 q3 hr q4 with q | q
    · have x : μ.1 24 r = nI i := q.2.1
      have hi' : i = s := nI_inj (by omega) (by omega) (x.symm.trans hw)
      subst hi'
      have q1 : μ.2 26 i = lN a' := q1
      exact hL (by rw [q1]; exact lN_m1 (by omega))
    · exact hsr q.1
  · have q := h.as i hi a' r q1 q2 q3 q4 hr q5
    have x : μ.1 24 r = nI i := q.2.1
    have hi' : i = s := nI_inj (by omega) (by omega) (x.symm.trans hw)
    subst hi'
    have q2 : μ.2 39 i = lN a' := q2
    have := (lN_ne (by omega) (by omega)).mp (ha.symm.trans q2)
    omega
theorem c_receiveAsk {f : Nat} (hn : okN n) (hTb : T + 100 < 2 ^ 31) (h : R n T S d m e 0 s κ μ) (hd : d r = 1) (hs : s < n) (hr : r < n) (hsr : s ≠ r) (hk0 : μ.1 37 r = 0) (hf : atS n f = some (.inl 2)) {z : Nat} (hz : z ≤ 33) (ez : μ.1 41 s = nI z) (ez2 : κ.1 f 2 = nI z) : r_KV l w B n tX7_receiveAsk [.ref (B + 1), .ref (B + (22 + 14 * r)), .ref (B + (22 + 14 * s)), .ref (B + f)] κ (fun κ' => R n T S d m e 0 s κ' (if ¬ lN T + 1 < μ.2 22 r ∧ μ.2 23 r < 0 ∧ μ.2 26 r < 0 then fDue r 2 (nI s) (μ.1 41 s) 0 (lN T) μ else μ) ∧ κ'.2.2 = κ.2.2) := by
  have hat := at_st hn hr
  have ht := h.gl.time.1
  have w23 := (h.w23 hTb hr).1
  have w26 := (h.w26 hTb hr).1
  have e8 := (h.stat hr).2.2.2.2.2.2.2.2.2.1
  have en := (h.stat hs).1
  obtain ⟨dO, sO, hds, p1, p2, -, -⟩ := h.ptr hr
  have hfd : atS n (22 + 14 * r + dO) = some (.inl 2) := by rw [← p1]; exact (h.co.2.2.2.1 _ hat).2.2.2.1
  obtain ⟨q1, q2, q3, q4, q5⟩ := at_frame hn hfd
  refine r_enter (by decide) (Nat.le_of_ble_eq_true rfl) (fun X C Ex => ?_)
  refine v_X7_receiveAsk_0 C Ex hn h.co Gr.rf hat (at_st hn hs) hf ?_
  rw [ht, e8, w23, w26, en, ez2, p1]
  refine ⟨fun c => ?_, fun c => ⟨fun c1 => ⟨fun c2 => ⟨_, s_Frame_make hn h.co hfd, fun κ6 q6 κ13 e13 => ?_⟩, fun c2 => ?_⟩, fun c1 => ?_⟩⟩
  · rw [if_neg (fun q => q.1 c)]; exact ⟨h, rfl⟩
  · rw [if_pos ⟨c, c1, c2⟩, e13, ez]
    have t6 : κ6.2.1 1 7 = lN T := by
      rw [q6, ← ht]
      simp only [kMake, kfill, ki]
      rw [if_neg (by omega)]
    rw [t6]
    refine ⟨?_, by rw [q6]; rfl⟩
    refine R.due (dO := dO) (sO := sO) (L := []) hn hTb h hd hr hs hsr hk0 hds p1 p2 (Or.inl rfl) hz (fun q => absurd q (by decide)) ⟨fun q => absurd q (by decide), fun q => absurd q (by decide)⟩ (fun q => absurd q (by decide)) (by rw [q6]; exact OI.rf) ?_
    refine ⟨q1, q2, by simp, ?_, fun k hk => absurd hk (by simp)⟩
    rw [q6]
    simp [kMake, kfill, ki, nI_0]
  · rw [if_neg (fun q => c2 q.2.2)]; exact ⟨h, rfl⟩
  · rw [if_neg (fun q => c1 q.2.1)]; exact ⟨h, rfl⟩
theorem await_iff (hTb : T + 100 < 2 ^ 31) {k : Int32} (h : R n T S d m e 0 s κ μ) (hs : s < n) (hr : r < n) (hk : μ.1 37 s = k) (hk0 : ¬ k = 0) : (if κ.1 (22 + 14 * r) 9 = k then if κ.1 (22 + 14 * r) 10 = nI s then (1 : Int32) else 0 else 0) = (if fAwait μ s r then 1 else 0) := by
  unfold fAwait
  obtain ⟨-, hW, -⟩ := h.rel r hr
  rcases hW with ⟨w1, w2⟩ | ⟨a, w1, w2, w3, w4, w5, w6, -⟩
  · have w1 : μ.2 23 r = -1 := w1
    have w2 : κ.1 (22 + 14 * r) 9 = 0 := w2
    rw [w2, if_neg (fun q => hk0 q.symm), decide_eq_true (m1_neg w1)]
    rfl
  · have w1 : μ.2 23 r = lN a := w1
    have w4 : κ.1 (22 + 14 * r) 9 = μ.1 25 r := w4
    have w6 : κ.1 (22 + 14 * r) 10 = μ.1 24 r := w6
    rw [w4, w6, hk, decide_eq_false (by rw [w1]; exact lN_nneg (by omega))]
    by_cases x1 : μ.1 25 r = k <;> by_cases x2 : μ.1 24 r = nI s <;> simp [x1, x2]
theorem c_receiveAnswer {a : Nat} (hn : okN n) (hTb : T + 100 < 2 ^ 31) (h : R n T S d m e 0 s κ μ) (hM : MI n E μ) (hd : d r = 1) (hs : s < n) (hr : r < n) (hsr : s ≠ r) (hk0 : μ.1 37 r = 0) (hk : μ.1 37 s = 2) (ha : μ.2 39 s = lN a) (hab : a < T) : r_KV l w B n tX7_receiveAnswer [.ref (B + 1), .ref (B + (22 + 14 * r)), .ref (B + (22 + 14 * s))] κ (fun κ' => R n T S d m e 0 s κ' (if fAwait μ s r then fDue r 3 (nI s) (μ.1 36 r) 0 (lN T) (ul μ 23 r (-1)) else μ) ∧ κ'.2.2 = κ.2.2) := by
  have hn6 := hn.2
  have hat := at_st hn hr
  have hbm : 22 + 14 * r + 13 < mOf n := (at_stat hn hat).2.2.2.2.2.1
  have ht := h.gl.time.1
  have en := (h.stat hs).1
  have hP := hM.pay.2
  have hmem := (hM.tr r hr).mem
  obtain ⟨c, c4, ec, -, -, e36⟩ := hM.tr r hr
  have hlen : (tl (μ.1 34) (μ.1 35) r).length ≤ 4 := by
    unfold tl
    rw [List.length_map, List.length_range, ec, nI_clampS (by omega)]
    exact c4
  obtain ⟨z, ez, z1, z2⟩ := sz_bound (sl := μ.1 4) (tl (μ.1 34) (μ.1 35) r) 1 (fun p hp => by
    obtain ⟨q, rfl, q1, q2, -⟩ := hmem p hp
    obtain ⟨-, -, c, -, -, -, ec, -, -, -, hc1, hc8, -⟩ := hM.pl q q1 q2
    rw [nI_clampS (by omega)]
    exact ⟨c, ec, hc1, hc8⟩)
  refine r_enter (by decide) (Nat.le_of_ble_eq_true rfl) (fun X C Ex => ?_)
  refine v_X7_receiveAnswer_0 C Ex hn h.co Gr.rf hat (at_st hn hs) ?_
  rw [en]
  refine ⟨_, s_St_waitsFor hn h.co hat, fun z5 κ3 q => ?_⟩
  obtain ⟨rfl, e5⟩ := q
  rw [await_iff hTb h hs hr hk (by decide)] at e5
  by_cases hw : fAwait μ s r = true
  · rw [hw] at e5 ⊢
    have e5 : z5 = 1 := e5
    refine ⟨fun q => absurd (e5.symm.trans q) (by decide), fun _ κ11 e11 => ?_⟩
    have hw' := hw
    simp only [fAwait, Bool.and_eq_true, Bool.not_eq_true', decide_eq_true_eq, decide_eq_false_iff_not] at hw'
    have e36' : μ.1 36 r = nI z := (e36.resolve_left ((hM.wh r hr).2.1 (Int64.not_lt.mp hw'.1)).2).trans ez
    have hN := h.np3 (b := 0) hn hTb hs hr (fun q => hsr q.symm) (by rw [hk]; decide) ha hab (by omega) hw'.2.1
    have h11 : R n T S d m e 0 s κ11 (ul μ 23 r (-1)) := by rw [e11]; exact h.nowait hr hN
    obtain ⟨dO, sO, hds, p1, p2, -, -⟩ := h11.ptr hr
    have hfd : atS n (22 + 14 * r + dO) = some (.inl 2) := by rw [← p1]; exact (h11.co.2.2.2.1 _ hat).2.2.2.1
    obtain ⟨q1, q2, q3, q4, q5⟩ := at_frame hn hfd
    have hA11 := h11.attRw hn hr
    have t11 := h11.gl.time.1
    have g6 := h11.gl.pays.2.1
    have en11 := (h11.stat hs).1
    refine ⟨_, s_Pay_dataSlots hn h11.co hA11 (fun p hp => ?_), fun z19 κ17 q => ?_⟩
    · obtain ⟨q, rfl, q1, q2, -⟩ := hmem p hp
      exact vp_in_nI (by omega) (by decide)
    obtain ⟨rfl, e19⟩ := q
    have e19' : z19 = nI z := by
      rw [e19, ← ez]
      show sz (κ17.1 6) _ = _
      rw [g6]
      rfl
    rw [e19', en11, p1]
    refine ⟨_, s_Frame_make hn h11.co hfd, fun κ26 q26 => ?_⟩
    have p26 : κ26.2.2 (22 + 14 * r) 13 = 22 + 14 * r + dO := by rw [q26]; exact p1
    rw [p26]
    have r26 : Rw n κ26 (22 + 14 * r + dO + 1) 4 [] := by
      refine ⟨q1, q2, by simp, ?_, fun k hk => absurd hk (by simp)⟩
      rw [q26]
      simp [kMake, kfill, ki, nI_0]
    have hAm : Ag [22 + 14 * r + dO, 22 + 14 * r + dO + 1, 22 + 14 * r + dO + 3] κ17 κ26 := by
      rw [q26]
      unfold kMake
      exact (((((Ag.ii.wide (by simp)).trans (Ag.ii.wide (by simp))).trans (Ag.ii.wide (by simp))).trans (Ag.ii.wide (by simp))).trans (Ag.ii.wide (by simp))).trans (Ag.fill.wide (by simp))
    have a26 : Rw n κ26 (22 + 14 * r + 3) 4 (tl (μ.1 34) (μ.1 35) r) := hA11.keep (hAm _ (by simp; omega)).1 (hAm _ (by simp; omega)).1
    have c26 : CoK n κ26 := by rw [q26]; exact h11.co
    refine ⟨_, s_Row_copy hn c26 r26 a26 (by omega) hlen, fun κ35 q35 κ42 e42 => ?_⟩
    obtain ⟨hO35, hR35⟩ := q35
    have t35 : κ35.2.1 1 7 = lN T := by
      rw [hO35.1, q26, ← t11]
      simp only [kMake, kfill, ki]
      rw [if_neg (by omega)]
    rw [e42, t35]
    have pp : κ35.2.2 = κ3.2.2 := by rw [hO35.1, q26, e11]; rfl
    refine ⟨?_, pp⟩
    show R n T S d m e 0 s _ (fDue r 3 (nI s) (μ.1 36 r) 0 (lN T) (ul μ 23 r (-1)))
    rw [e36']
    refine R.due (dO := dO) (sO := sO) hn hTb h11 hd hr hs hsr hk0 hds p1 p2 (Or.inr (Or.inl rfl)) (by omega) (fun _ => ⟨by omega, by simp [ul], e36'.symm⟩) ⟨fun _ => rfl, fun q => absurd q (by decide)⟩ (fun q => absurd q (by decide)) (by rw [← q26]; exact hO35) hR35
  · have hw : fAwait μ s r = false := by simpa using hw
    rw [hw] at e5 ⊢
    have e5 : z5 = 0 := e5
    exact ⟨fun _ => ⟨h, rfl⟩, fun q => absurd e5 q⟩
end RF
