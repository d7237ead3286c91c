/-! the other calls -/
section RM
variable {l : Launch} {w : r_V} {B : Nat} {n T s r E lim cur : Nat} {S : Int32} {d m : Nat → Nat} {e : Nat → Bool} {κ κ' : Ku} {μ μ' ν : Mu}
theorem RR.th (h : RR n T κ μ) : RR n T κ (thr μ) := by
  obtain ⟨S, h⟩ := h
  exact ⟨S, h.th⟩
theorem RR.co (h : RR n T κ μ) : CoK n κ := by
  obtain ⟨S, h⟩ := h
  exact h.co
theorem c_now (hn : okN n) (h : RR n T κ μ) : r_KL l w B n tX7_now [.ref (B + 1)] κ (fun z κ' => z = μ.2 0 2 ∧ RR n T κ' (thr μ)) := by
  refine r_enter (by decide) (Nat.le_of_ble_eq_true rfl) (fun X C Ex => ?_)
  refine v_X7_now_0 C Ex hn h.co Gr.rf ?_
  obtain ⟨S, h⟩ := h
  exact ⟨by rw [h.gl.time.1, h.gl.time.2], S, h.th⟩
theorem c_threshold {x : Int32} (hn : okN n) (h : RR n T κ μ) : r_KI l w B n tX7_threshold [.ref (B + 1), .int x] κ (fun z κ' => z = (aThr x μ).1 ∧ RR n T κ' (aThr x μ).2) := by
  refine r_enter (by decide) (Nat.le_of_ble_eq_true rfl) (fun X C Ex => ?_)
  unfold aThr
  have hB := h.th
  refine v_X7_threshold_0 C Ex hn h.co Gr.rf ⟨fun c => ?_, fun c => ⟨fun c2 z3 e3 κ5 e5 => ?_, fun c2 => ?_⟩⟩
  · rw [if_pos (Or.inl c)]; exact ⟨rfl, hB⟩
  · rw [if_neg (fun q => q.elim c (fun q => q c2))]
    obtain ⟨S, hB⟩ := hB
    obtain ⟨⟨a1, a2, a3, a4, a5, a6, a7, a8, a9⟩, b⟩ := hB.gl
    refine ⟨e3.trans a1, S, ?_⟩
    rw [e5]
    exact hB.low (κ' := ki κ 1 6 x) (μ' := ui (thr μ) 0 3 x) Ag.ii (by simp) hB.co (fun i hi => view_lo (by omega) (by omega) (by omega) (by omega) (by omega)) ⟨⟨rfl, a2, a3, a4, a5, a6, a7, a8, a9⟩, b⟩
  · rw [if_pos (Or.inr c2)]; exact ⟨rfl, hB⟩
theorem c_coin {x : Int32} (hn : okN n) (h : RR n T κ μ) (hM : MI n E μ) : r_KI l w B n tX7_coin [.ref (B + 1), .int x] κ (fun z κ' => z = (aCoin x μ).1 ∧ RR n T κ' (aCoin x μ).2) := by
  refine r_enter (by decide) (Nat.le_of_ble_eq_true rfl) (fun X C Ex => ?_)
  unfold aCoin
  have hB := h.th
  refine v_X7_coin_0 C Ex hn h.co Gr.rf ⟨fun c => ?_, fun c => ?_⟩
  · rw [if_pos c]
    obtain ⟨S, hB⟩ := hB
    obtain ⟨⟨a1, a2, a3, a4, a5, a6, a7, a8, a9⟩, b1, b⟩ := hB.gl
    have a5 : κ.1 2 1 = μ.1 0 14 := a5
    obtain ⟨A, A', ea, -, -, hA⟩ := hM.coin
    refine ⟨_, s_Coins_add hn h.co (fun c => ?_), fun κ4 q4 => ?_⟩
    · rw [a5, ea] at c ⊢
      exact vp_in_nI (Nat.not_le.mp (fun q => c (nI_le (a := 400) q (by omega)))) (by decide)
    have h4 : R n T S (fun _ => 0) (fun _ => 0) (fun _ => false) 1 n κ4 (fCoin x μ) := by
      rw [q4, a5]
      unfold fCoin
      by_cases c4 : 400 ≤ μ.1 0 14
      · rw [if_pos c4, if_pos c4]; exact hB
      · rw [if_neg c4, if_neg c4]
        have hA2 : Ag [2, 3] κ (ki (ki κ 3 (μ.1 0 14).toNatClampNeg x) 2 1 (μ.1 0 14 + 1)) := (Ag.ii.wide (by simp)).trans (Ag.ii.wide (by simp))
        refine hB.low (κ' := ki (ki κ 3 (μ.1 0 14).toNatClampNeg x) 2 1 (μ.1 0 14 + 1)) (μ' := ui (ui (thr μ) 10 (μ.1 0 14).toNatClampNeg x) 0 14 (μ.1 0 14 + 1)) hA2 (by simp) hB.co (fun i hi => by rw [view_lo (by omega) (by omega) (by omega) (by omega) (by omega), view_lo (by omega) (by omega) (by omega) (by omega) (by omega)]) ⟨⟨a1, a2, a3, a4, rfl, a6, a7, a8, a9⟩, fun k => ?_, b⟩
        show (if 3 = 3 ∧ k = (μ.1 0 14).toNatClampNeg then x else κ.1 3 k) = (if 10 = 10 ∧ k = (μ.1 0 14).toNatClampNeg then x else μ.1 10 k)
        by_cases q : k = (μ.1 0 14).toNatClampNeg
        · rw [if_pos ⟨rfl, q⟩, if_pos ⟨rfl, q⟩]
        · rw [if_neg (fun y => q y.2), if_neg (fun y => q y.2)]
          exact b1 k
    refine ⟨_, s_Coins_undrawn hn h4.co, fun z15 κ13 q => ?_⟩
    obtain ⟨rfl, e15⟩ := q
    refine ⟨?_, S, h4⟩
    rw [e15]
    obtain ⟨⟨c1, c2, c3, c4, c5, c6, -⟩, -⟩ := h4.gl
    have c5 : κ13.1 2 1 = (fCoin x μ).1 0 14 := c5
    have c6 : κ13.1 2 2 = (fCoin x μ).1 0 15 := c6
    rw [c5, c6]
  · rw [if_neg c]; exact ⟨rfl, hB⟩
theorem c_noise {x k : Int32} {y : Int64} (hn : okN n) (h : RR n T κ μ) (hM : MI n E μ) : r_KI l w B n tX7_noise [.ref (B + 1), .int x, .long y, .int k] κ (fun z κ' => z = (aNoise n x y k μ).1 ∧ RR n T κ' (aNoise n x y k μ).2) := by
  refine r_enter (by decide) (Nat.le_of_ble_eq_true rfl) (fun X C Ex => ?_)
  unfold aNoise
  have hB := h.th
  refine v_X7_noise_0 C Ex hn h.co Gr.rf ⟨_, s_isStation hn h.co, fun z5 κ3 q => ?_⟩
  obtain ⟨rfl, e5⟩ := q
  have hst := stn_z (n := n) rfl e5
  obtain ⟨S, hB⟩ := hB
  have hBB : RR n T κ3 (thr μ) := ⟨S, hB⟩
  have ht : κ3.2.1 1 7 = μ.2 0 2 := by rw [hB.gl.time.1]; exact hB.gl.time.2.symm
  refine ⟨fun c => ?_, fun c => ?_⟩
  · rw [if_neg (by rw [hst.1.mp c]; decide)]; exact ⟨rfl, hBB⟩
  · rw [if_pos (hst.2 c), ht]
    refine ⟨fun c1 => ?_, fun c1 => ⟨fun c2 => ?_, fun c2 => ⟨fun c3 => ?_, fun c3 => ⟨fun c4 => ?_, fun c4 => ?_⟩⟩⟩⟩
    · rw [if_pos (Or.inl c1)]; exact ⟨rfl, hBB⟩
    · rw [if_pos (Or.inr (Or.inl c2))]; exact ⟨rfl, hBB⟩
    · rw [if_pos (Or.inr (Or.inr (Or.inl c3)))]; exact ⟨rfl, hBB⟩
    · rw [if_neg (fun q => q.elim c1 (fun q => q.elim c2 (fun q => q.elim c3 (fun q => q c4))))]
      obtain ⟨n1, n2⟩ := hM.noi
      obtain ⟨⟨a1, a2, a3, a4, a5, a6, a7, a8, a9⟩, b1, b2, b3, b4, b5, b6, b7, b8, b9, b10, b11, b12, b13, b14⟩ := hB.gl
      have a8 : κ3.1 11 3 = μ.1 0 17 := a8
      have e11 : κ3.1 11 3 = nI (nN μ) := a8.trans n1
      refine ⟨_, s_Noise_full hn hB.co, fun z19 κ17 q => ?_⟩
      obtain ⟨rfl, e19⟩ := q
      rw [e11] at e19
      refine ⟨fun c5 => ?_, fun c5 => ?_⟩
      · have hlt : nN μ < 40 := by
          refine Nat.not_le.mp (fun q => ?_)
          rw [if_neg (show ¬ nI (nN μ) < 40 from nI_nlt (a := nN μ) (b := 40) q (by omega))] at e19
          exact absurd (e19.symm.trans c5) (by decide)
        rw [if_neg (by omega)]
        refine ⟨_, s_Noise_add hn hB.co (by rw [e11]; exact vp_in_nI hlt (by decide)), fun κ27 q27 => ?_⟩
        rw [a8, n1, nI_clampS (by omega)] at q27
        have e27 : κ27.1 11 3 = μ.1 0 17 + 1 := by
          rw [q27, n1]
          simp [ki]
        refine ⟨e27, S, ?_⟩
        rw [q27]
        unfold fNoiseA
        rw [n1]
        have hA2 : Ag [11, 12, 13, 14] κ17 (ki (kl (kl (ki κ17 12 (nN μ) x) 13 (nN μ) y) 14 (nN μ) (y + k.toInt64)) 11 3 (nI (nN μ) + 1)) := (((Ag.ii.wide (by simp)).trans (Ag.ll.wide (by simp))).trans (Ag.ll.wide (by simp))).trans (Ag.ii.wide (by simp))
        refine hB.low (κ' := ki (kl (kl (ki κ17 12 (nN μ) x) 13 (nN μ) y) 14 (nN μ) (y + k.toInt64)) 11 3 (nI (nN μ) + 1)) (μ' := ui (ui (ul (ui (thr μ) 11 (nN μ) x) 12 (nN μ) y) 13 (nN μ) k) 0 17 (nI (nN μ) + 1)) hA2 (by simp) hB.co (fun i hi => by rw [view_lo (by omega) (by omega) (by omega) (by omega) (by omega), view_lo (by omega) (by omega) (by omega) (by omega) (by omega), view_lol (by omega), view_lo (by omega) (by omega) (by omega) (by omega) (by omega)]) ⟨⟨a1, a2, a3, a4, a5, a6, a7, rfl, a9⟩, b1, b2, b3, b4, b5, b6, b7, fun j => ?_, fun j => ?_, fun j => ?_, b11, b12, b13, b14⟩
        · show (if 12 = 12 ∧ j = nN μ then x else κ17.1 12 j) = (if 11 = 11 ∧ j = nN μ then x else μ.1 11 j)
          by_cases q : j = nN μ
          · rw [if_pos ⟨rfl, q⟩, if_pos ⟨rfl, q⟩]
          · rw [if_neg (fun y => q y.2), if_neg (fun y => q y.2)]
            exact b8 j
        · show (if 13 = 13 ∧ j = nN μ then y else κ17.2.1 13 j) = (if 12 = 12 ∧ j = nN μ then y else μ.2 12 j)
          by_cases q : j = nN μ
          · rw [if_pos ⟨rfl, q⟩, if_pos ⟨rfl, q⟩]
          · rw [if_neg (fun y => q y.2), if_neg (fun y => q y.2)]
            exact b9 j
        · show (if 14 = 14 ∧ j = nN μ then y + k.toInt64 else κ17.2.1 14 j) = (if 12 = 12 ∧ j = nN μ then y else μ.2 12 j) + (if 13 = 13 ∧ j = nN μ then k else μ.1 13 j).toInt64
          by_cases q : j = nN μ
          · rw [if_pos ⟨rfl, q⟩, if_pos ⟨rfl, q⟩, if_pos ⟨rfl, q⟩]
          · rw [if_neg (fun y => q y.2), if_neg (fun y => q y.2), if_neg (fun y => q y.2)]
            exact b10 j
      · have hlt : nN μ = 40 := by
          refine Nat.le_antisymm n2 (Nat.not_lt.mp (fun q => ?_))
          rw [if_pos (show nI (nN μ) < 40 from nI_lt (a := nN μ) (b := 40) q (by omega))] at e19
          exact c5 e19
        rw [if_pos hlt]; exact ⟨rfl, hBB⟩
    · rw [if_pos (Or.inr (Or.inr (Or.inr c4)))]; exact ⟨rfl, hBB⟩
theorem c_event {x k : Int32} (hn : okN n) (h : RR n T κ μ) : r_KI l w B n tX7_event [.ref (B + 1), .int x, .int k] κ (fun z κ' => z = aEvent x k μ ∧ RR n T κ' (thr μ)) := by
  refine r_enter (by decide) (Nat.le_of_ble_eq_true rfl) (fun X C Ex => ?_)
  unfold aEvent
  have hBB := h.th
  obtain ⟨S, hB⟩ := h
  obtain ⟨⟨a1, a2, a3, a4, a5, a6, a7, a8, a9⟩, b1, b2, b3, b4, b5, b6, b7, b8, b9, b10, b11, b12, b13, b14⟩ := hB.gl
  have a9 : κ.1 15 3 = μ.1 0 21 := a9
  have b11 : ∀ k, κ.1 16 k = μ.1 14 k := b11
  have b12 : ∀ k, κ.1 17 k = μ.1 15 k := b12
  have b13 : ∀ k, κ.1 18 k = (μ.2 16 k).toInt32 := b13
  refine v_X7_event_0 C Ex hn hB.co Gr.rf ⟨fun c => ?_, fun c => ⟨_, s_Events_told hn hB.co, fun z6 κ4 q => ?_⟩⟩
  · rw [if_pos (Or.inl c)]; exact ⟨rfl, hBB⟩
  obtain ⟨rfl, e6⟩ := q
  rw [a9] at e6
  have hlt : x < z6 ↔ ¬ μ.1 0 21 ≤ x ∧ ¬ 700 ≤ x := by
    rw [e6]
    by_cases q : 700 < μ.1 0 21
    · rw [if_pos q]
      constructor
      · intro y
        exact ⟨Int32.not_le.mpr (Int32.lt_trans y q), Int32.not_le.mpr y⟩
      · intro y
        exact Int32.not_le.mp y.2
    · rw [if_neg q]
      constructor
      · intro y
        exact ⟨Int32.not_le.mpr y, fun z => q (by
          have := Int32.lt_iff_toInt_lt.mp y
          have := Int32.le_iff_toInt_le.mp z
          exact Int32.lt_iff_toInt_lt.mpr (by omega))⟩
      · intro y
        exact Int32.not_le.mp y.1
  have vin : ¬ 700 ≤ x → vp_in x 700 := fun q => by
    obtain ⟨j, hj, rfl⟩ := nI_of c
    exact vp_in_nI (Nat.not_le.mp (fun y => q (nI_le (a := 700) y hj))) (by decide)
  refine ⟨fun c1 => ?_, fun c1 => ?_⟩
  · obtain ⟨q1, q2⟩ := hlt.mp c1
    refine ⟨fun k0 => ⟨vin q2, ?_⟩, fun k0 => ⟨fun k1 => ⟨vin q2, ?_⟩, fun k1 => ⟨fun k2 => ⟨vin q2, ?_⟩, fun k2 => ?_⟩⟩⟩
    · rw [if_neg (fun q => q.elim c (fun q => q.elim q1 (fun q => q.elim q2 (fun q => q.elim (fun q => by rw [k0] at q; exact absurd q (by decide)) (fun q => q (by rw [k0]; decide)))))), if_pos k0]
      exact ⟨b11 _, hBB⟩
    · rw [if_neg (fun q => q.elim c (fun q => q.elim q1 (fun q => q.elim q2 (fun q => q.elim (fun q => by rw [k1] at q; exact absurd q (by decide)) (fun q => q (by rw [k1]; decide)))))), if_neg k0, if_pos k1]
      exact ⟨b12 _, hBB⟩
    · rw [if_neg (fun q => q.elim c (fun q => q.elim q1 (fun q => q.elim q2 (fun q => q.elim (fun q => by rw [k2] at q; exact absurd q (by decide)) (fun q => q (by rw [k2]; decide)))))), if_neg k0, if_neg k1]
      exact ⟨b13 _, hBB⟩
    · have : k < 0 ∨ ¬ k ≤ 2 := by
        by_cases q : k < 0
        · exact Or.inl q
        · refine Or.inr (fun q2 => ?_)
          obtain ⟨j, hj, rfl⟩ := nI_of2 (M := 2) (n := 2) rfl q q2
          have : j = 0 ∨ j = 1 ∨ j = 2 := by omega
          rcases this with rfl | rfl | rfl
          · exact k0 rfl
          · exact k1 rfl
          · exact k2 rfl
      rw [if_pos (Or.inr (Or.inr (Or.inr this)))]; exact ⟨rfl, hBB⟩
  · have : μ.1 0 21 ≤ x ∨ 700 ≤ x := by
      by_cases q : μ.1 0 21 ≤ x
      · exact Or.inl q
      · by_cases q2 : 700 ≤ x
        · exact Or.inr q2
        · exact absurd (hlt.mpr ⟨q, q2⟩) c1
    rcases this with q | q
    · rw [if_pos (Or.inr (Or.inl q))]; exact ⟨rfl, hBB⟩
    · rw [if_pos (Or.inr (Or.inr (Or.inl q)))]; exact ⟨rfl, hBB⟩
theorem lsub_neg {a b : Nat} (ha : a < 2 ^ 31) (hb : b < 2 ^ 31) : 0 < lN a - lN b ↔ ¬ lN a ≤ lN b := by
  rw [lN_le ha hb, Int64.lt_iff_toInt_lt, Int64.toInt_sub, lN_toInt ha, lN_toInt hb]
  show (0 : Int) < _ ↔ _
  rw [Int.bmod_eq_of_le (by omega) (by omega)]
  omega
theorem c_state {x k : Int32} (hn : okN n) (h : RR n T κ μ) (hTb : T + 100 < 2 ^ 31) : r_KI l w B n tX7_state [.ref (B + 1), .int x, .int k] κ (fun z κ' => z = aState n x k μ ∧ RR n T κ' (thr μ)) := by
  have hn6 := hn.2
  refine r_enter (by decide) (Nat.le_of_ble_eq_true rfl) (fun X C Ex => ?_)
  unfold aState
  have hBB := h.th
  obtain ⟨S, hB⟩ := h
  refine v_X7_state_0 C Ex hn hB.co Gr.rf ⟨_, s_isStation hn hB.co, fun z5 κ3 q => ?_⟩
  obtain ⟨rfl, e5⟩ := q
  have hst := stn_z (n := n) rfl e5
  refine ⟨fun c => ?_, fun c => ?_⟩
  · rw [if_neg (by rw [hst.1.mp c]; decide)]; exact ⟨rfl, hBB⟩
  obtain ⟨i, hi, rfl⟩ := (stn_iff hn).mp (hst.2 c)
  rw [if_pos (hst.2 c), nI_clampS (by omega)]
  refine ⟨vp_in_nI hi (by omega), fun b13 e13 => ?_⟩
  subst e13
  obtain ⟨s0, s1, s2, s3, s4, s5, s6, s7, s18, sl8, sl19, a, ea, ha⟩ := hB.stat hi
  have hK := hB.keptRw hn hi
  obtain ⟨dO, sO, hds, p1, p2, -, ⟨L, -, hk2, -⟩⟩ := hB.ptr hi
  have c1 : (blk κ3 i).1 sO 0 = κ3.1 (κ3.2.2 (22 + 14 * i) 14) 0 := by rw [blk_cell (by omega), p2]
  have e4 : κ3.1 (κ3.2.2 (22 + 14 * i) 14) 0 = μ.1 37 i := by rw [← c1, hk2]; rfl
  have e7 : κ3.1 (22 + 14 * i + 1) 1 = nI (kc μ i (pN μ)) := by rw [hK.2.2.2.1, List.length_map, kc_eq]
  rw [s3, s4, s5, s6, s7, e4, e7, sl8, hB.gl.time.1, hB.gl.time.2]
  refine ⟨fun k0 => ?_, fun k0 => ⟨fun k1 => ?_, fun k1 => ⟨fun k2 => ?_, fun k2 => ⟨fun k3 => ⟨_, j_maxl hB.co, fun y24 κ22 q => ?_⟩, fun k3 => ⟨fun k4 => ?_, fun k4 => ⟨fun k5 => ?_, fun k5 => ⟨fun k6 => ?_, fun k6 => ⟨fun k7 => ?_, fun k7 => ?_⟩⟩⟩⟩⟩⟩⟩⟩
  · rw [if_pos k0]; exact ⟨rfl, hBB⟩
  · rw [if_neg k0, if_pos k1]; exact ⟨rfl, hBB⟩
  · rw [if_neg k0, if_neg k1, if_pos k2]; exact ⟨rfl, hBB⟩
  · obtain ⟨rfl, e24⟩ := q
    rw [if_neg k0, if_neg k1, if_neg k2, if_pos k3, e24, ea]
    have hs := lsub_neg (a := a) (b := T) (by omega) (by omega)
    by_cases q : lN a ≤ lN T
    · rw [if_pos q, if_neg (fun y => hs.mp y q)]; exact ⟨rfl, hBB⟩
    · rw [if_neg q, if_pos (hs.mpr q)]; exact ⟨rfl, hBB⟩
  · rw [if_neg k0, if_neg k1, if_neg k2, if_neg k3, if_pos k4]; exact ⟨rfl, hBB⟩
  · rw [if_neg k0, if_neg k1, if_neg k2, if_neg k3, if_neg k4, if_pos k5]; exact ⟨rfl, hBB⟩
  · rw [if_neg k0, if_neg k1, if_neg k2, if_neg k3, if_neg k4, if_neg k5, if_pos k6]; exact ⟨rfl, hBB⟩
  · rw [if_neg k0, if_neg k1, if_neg k2, if_neg k3, if_neg k4, if_neg k5, if_neg k6, if_pos k7]; exact ⟨rfl, hBB⟩
  · rw [if_neg k0, if_neg k1, if_neg k2, if_neg k3, if_neg k4, if_neg k5, if_neg k6, if_neg k7]; exact ⟨rfl, hBB⟩
theorem c_sent {x k : Int32} (hn : okN n) (h : RR n T κ μ) : r_KI l w B n tX7_sent [.ref (B + 1), .int x, .int k] κ (fun z κ' => z = aSent n x k μ ∧ RR n T κ' (thr μ)) := by
  have hn6 := hn.2
  refine r_enter (by decide) (Nat.le_of_ble_eq_true rfl) (fun X C Ex => ?_)
  unfold aSent
  have hBB := h.th
  obtain ⟨S, hB⟩ := h
  refine v_X7_sent_0 C Ex hn hB.co Gr.rf ⟨_, s_isStation hn hB.co, fun z5 κ3 q => ?_⟩
  obtain ⟨rfl, e5⟩ := q
  have hst := stn_z (n := n) rfl e5
  refine ⟨fun c => ?_, fun c => ?_⟩
  · rw [if_neg (by rw [hst.1.mp c]; decide)]; exact ⟨rfl, hBB⟩
  obtain ⟨i, hi, rfl⟩ := (stn_iff hn).mp (hst.2 c)
  rw [if_pos (hst.2 c), nI_clampS (by omega)]
  refine ⟨fun c1 => ?_, fun c1 => ⟨fun c2 => ?_, fun c2 => ?_⟩⟩
  · rw [if_pos (Or.inl c1)]; exact ⟨rfl, hBB⟩
  · rw [if_neg (fun q => q.elim c1 (fun q => q c2))]
    obtain ⟨j, hj, rfl⟩ := nI_of2 (M := 4) (n := 4) rfl (fun q => c1 (Int32.lt_trans q (by decide))) c2
    have hj1 : 1 ≤ j := by
      refine Nat.not_lt.mp (fun q => c1 ?_)
      have : j = 0 := by omega
      subst this
      decide
    refine ⟨vp_in_nI hi (by omega), vp_in_nI (by omega) (by decide), ?_⟩
    rw [beg_ix (by omega) ⟨hj1, hj⟩, nI_clampS (by omega)]
    obtain ⟨-, -, hBg, -⟩ := hB.rel i hi
    unfold Bg at hBg
    rw [blk_cell (by omega)] at hBg
    obtain ⟨q1, q2, q3, q4⟩ := hBg
    refine ⟨?_, hBB⟩
    have : j = 1 ∨ j = 2 ∨ j = 3 ∨ j = 4 := by omega
    rcases this with rfl | rfl | rfl | rfl
    · exact q1
    · exact q2
    · exact q3
    · exact q4
  · rw [if_pos (Or.inr c2)]; exact ⟨rfl, hBB⟩
end RM
