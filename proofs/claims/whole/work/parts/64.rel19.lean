/-! countIdleSlots is the reference's fourth step, but for the frames that end -/
section RK
variable {l : Launch} {w : r_V} {B : Nat} {n T s r E lim cur : Nat} {S : Int32} {d m : Nat → Nat} {e : Nat → Bool} {κ κ' : Ku} {μ μ' ν : Mu}
theorem any_bit (hn : okN n) (hTb : T + 100 < 2 ^ 31) (h : R n T S d m e lim cur κ μ) : nI (mkM n (knd μ)) &&& nI (mkM n (fHears μ s)) = 0 ↔ fAny n μ s s (lN T) = false := by
  rw [any_eq hn hTb h, nI_and (mk31 hn) (mk31 hn), mask_and, ← nI_0, nI_eq (mk31 hn) (by omega), mask_0]
  constructor
  · intro q j hj _
    have := q j hj
    rw [Bool.and_comm]
    exact this
  · intro q j hj
    rw [Bool.and_comm]
    by_cases e : j = s
    · subst e
      have : fHears μ j j = false := by unfold fHears; simp
      rw [this, Bool.false_and]
    · exact q j hj e
theorem four1_1 {g j : Nat} {t : Int64} (hg : g ≠ 19 ∧ g ≠ 20 ∧ g ≠ 21 ∧ g ≠ 31) : (fFour1 n t s μ).1 g j = μ.1 g j := by
  have hA : (fFourA n t s μ).1 g j = μ.1 g j := by
    unfold fFourA
    show (if g = 31 ∧ j = s then _ else (if fAny n μ s s t = false ∧ ¬ μ.1 31 s = 0 then ui μ 21 s (if μ.2 32 s = t - 1 then 3 else 6) else μ).1 g j) = _
    rw [if_neg (fun q => hg.2.2.2 q.1)]
    split
    · show (if g = 21 ∧ j = s then _ else μ.1 g j) = _
      rw [if_neg (fun q => hg.2.2.1 q.1)]
    · rfl
  unfold fFour1 fFourB
  split
  · split
    · show (if g = 20 ∧ j = s then _ else (fFourA n t s μ).1 g j) = _
      rw [if_neg (fun q => hg.2.1 q.1)]
      exact hA
    · show (if g = 19 ∧ j = s then _ else if g = 20 ∧ j = s then _ else (fFourA n t s μ).1 g j) = _
      rw [if_neg (fun q => hg.1 q.1), if_neg (fun q => hg.2.1 q.1)]
      exact hA
  · show (if g = 20 ∧ j = s then _ else (fFourA n t s μ).1 g j) = _
    rw [if_neg (fun q => hg.2.1 q.1)]
    exact hA
theorem four1_2 {t : Int64} : (fFour1 n t s μ).2 = μ.2 := by
  have hA : (fFourA n t s μ).2 = μ.2 := by
    unfold fFourA
    show (if fAny n μ s s t = false ∧ ¬ μ.1 31 s = 0 then ui μ 21 s (if μ.2 32 s = t - 1 then 3 else 6) else μ).2 = _
    split <;> rfl
  unfold fFour1 fFourB
  split
  · split
    · exact hA
    · exact hA
  · exact hA
theorem c_idle (hn : okN n) (hTb : T + 100 < 2 ^ 31) (h : R n T S d m e lim cur κ μ) (hS : S = SN n μ) : r_KV l w B n tX7_countIdleSlots [.ref (B + 1)] κ (fun κ' => R n T S d m e lim cur κ' (it (fFour1 n (lN T)) 0 n μ)) := by
  have hn6 := hn.2
  refine r_enter (by decide) (Nat.le_of_ble_eq_true rfl) (fun X C Ex => ?_)
  refine v_X7_countIdleSlots_0 C Ex hn h.co Gr.rf (fun z1 e1 => ?_)
  rw [e1]
  have key : ∀ (k i : Nat) (κ9 : Ku) (ν : Mu), i + k = n → Gr n κ κ9 → R n T S d m e lim cur κ9 ν → S = SN n ν → it (fFour1 n (lN T)) i k ν = it (fFour1 n (lN T)) 0 n μ → r_W X w B 7 0 0 (r_Z X w B tX7_countIdleSlots (ZKV n κ (fun κ' => R n T S d m e lim cur κ' (it (fFour1 n (lN T)) 0 n μ)))) 10 [(0, Value.ref (B + 1)), (1, Value.ref (B + 21)), (2, Value.int (nI n)), (3, Value.int (nI i))] [] (shp n, κ9) := by
    intro k
    induction k with
    | zero =>
      intro i κ9 ν hi hG hR hS hF
      have hi : i = n := by omega
      subst hi
      have hF : ν = it (fFour1 i (lN T)) 0 i μ := hF
      refine v_X7_countIdleSlots_10 C Ex hn hR.co hG ⟨fun _ => ?_, fun c => absurd (nI_le (Nat.le_refl _) (by omega)) c⟩
      rw [← hF]
      exact hR
    | succ k ih =>
      intro i κ9 ν hi hG hR hS hF
      have hs : i < n := by omega
      have hat := at_st hn hs
      have hbm : 22 + 14 * i + 13 < mOf n := (at_stat hn hat).2.2.2.2.2.1
      have hF' : it (fFour1 n (lN T)) (i + 1) k (fFour1 n (lN T) i ν) = it (fFour1 n (lN T)) 0 n μ := hF
      have hS' : S = SN n (fFour1 n (lN T) i ν) := by
        rw [hS]
        unfold SN
        congr 1
        exact mkM_congr (fun j _ => by unfold knd; rw [four1_1 (by decide)])
      have hab := any_bit (s := i) hn hTb hR
      have e8 : κ9.1 1 8 = nI (mkM n (knd ν)) := by rw [hR.gl.pays.2.2.2.2.2.2.2.2]; exact hS
      obtain ⟨s0, s1, s2, s3, s4, s5, s6, s7, s18, sl8, sl19, -⟩ := hR.stat hs
      -- from where the station's own frame is looked at
      have half : ∀ (κ8 : Ku), Gr n κ κ8 → R n T S d m e lim cur κ8 (if fAny n ν i i (lN T) = false ∧ ¬ ν.1 31 i = 0 then ui ν 21 i (if ν.2 32 i = lN T - 1 then 3 else 6) else ν) → r_W X w B 7 0 0 (r_Z X w B tX7_countIdleSlots (ZKV n κ (fun κ' => R n T S d m e lim cur κ' (it (fFour1 n (lN T)) 0 n μ)))) 79 [(0, Value.ref (B + 1)), (1, Value.ref (B + 21)), (2, Value.int (nI n)), (3, Value.int (nI i)), (4, Value.ref (B + (22 + 14 * i))), (5, Value.int (if fAny n ν i i (lN T) then 1 else 0))] [] (shp n, κ8) := by
        intro κ8 hG8 h8
        have hx : (if fAny n ν i i (lN T) then (1 : Int32) else 0) = 0 ∨ (if fAny n ν i i (lN T) then (1 : Int32) else 0) = 1 := by
          split
          · exact Or.inr rfl
          · exact Or.inl rfl
        refine v_X7_countIdleSlots_79 C Ex hn h8.co hG8 hat ⟨hx, fun κ2 e2 z8 ez8 => ?_⟩
        have h2 : R n T S d m e lim cur κ2 (fFourA n (lN T) i ν) := by rw [e2]; exact h8.own hs (by omega)
        have hG2 : Gr n κ κ2 := by rw [e2]; exact hG8.i (by omega)
        have e37 : ∀ j, (fFourA n (lN T) i ν).1 37 j = ν.1 37 j := fun j => by
          have q : ∀ (X : Mu) (y : Int32), (ui X 31 i y).1 37 j = X.1 37 j := fun X y => rfl
          unfold fFourA
          rw [q]
          split <;> rfl
        have hsd : fSends (fFourA n (lN T) i ν) i (lN T) = knd ν i := by
          rw [h2.sends hTb hs]
          unfold knd
          rw [e37]
        have e82 : κ2.1 1 8 = nI (mkM n (knd ν)) := by rw [h2.gl.pays.2.2.2.2.2.2.2.2]; exact hS
        have hbit := send_bit (f := knd ν) hn hs
        rw [e82, (h2.stat hs).2.1] at ez8
        have w23 := (h2.w23 hTb hs).1
        have w26 := (h2.w26 hTb hs).1
        obtain ⟨t0, t1, t2, t3, t4, t5, t6, t7, t18, tl8, tl19, -⟩ := h2.stat hs
        have tt := h2.gl.time.1
        have eF : fFour1 n (lN T) i ν = fFourB (lN T) i (fAny n ν i i (lN T)) (fFourA n (lN T) i ν) := rfl
        have fin : ∀ κ5 : Ku, Gr n κ κ5 → R n T S d m e lim cur κ5 (fFour1 n (lN T) i ν) → ∀ z : Int32, z = nI i + 1 → r_W X w B 7 0 0 (r_Z X w B tX7_countIdleSlots (ZKV n κ (fun κ' => R n T S d m e lim cur κ' (it (fFour1 n (lN T)) 0 n μ)))) 10 [(0, Value.ref (B + 1)), (1, Value.ref (B + 21)), (2, Value.int (nI n)), (3, Value.int z)] [] (shp n, κ5) := fun κ5 g5 r5 z ez => by
          rw [ez, nI_1]
          exact ih (i + 1) κ5 _ (by omega) g5 r5 hS' hF'
        generalize fFourA n (lN T) i ν = ρ at *
        have zer : ∀ κ5, κ5 = ki κ2 (22 + 14 * i) 6 0 → ¬ (fSends ρ i (lN T) = false ∧ fAny n ν i i (lN T) = false ∧ ρ.2 23 i < 0 ∧ ρ.2 26 i < 0 ∧ ¬ lN T < ρ.2 22 i) → Gr n κ κ5 ∧ R n T S d m e lim cur κ5 (fFour1 n (lN T) i ν) := fun κ5 q c => by
          refine ⟨by rw [q]; exact hG2.i (by omega), ?_⟩
          rw [eF, q]
          unfold fFourB
          rw [if_neg c]
          exact h2.own hs (by omega)
        refine ⟨fun c => ?_, fun c => ⟨_, s_St_idle hn h2.co hat, fun κ39 q => ?_⟩⟩
        · have ha : fAny n ν i i (lN T) = false := by
            cases x : fAny n ν i i (lN T)
            · rfl
            · rw [x] at ez8
              have ez8 : z8 = 1 := ez8
              exact absurd (ez8.symm.trans c) (by decide)
          rw [ha] at ez8
          have hsn : fSends ρ i (lN T) = false := by
            rw [hsd]
            refine hbit.mp ?_
            by_cases x : nI (mkM n (knd ν)) &&& nI (2 ^ i) = 0
            · exact x
            · have ez8 : z8 = if nI (mkM n (knd ν)) &&& nI (2 ^ i) = 0 then 0 else 1 := ez8
              rw [if_neg x] at ez8
              exact absurd (ez8.symm.trans c) (by decide)
          refine ⟨_, s_St_isFree hn h2.co hat, fun z16 κ14 q z23 ez23 => ?_⟩
          obtain ⟨rfl, e16⟩ := q
          rw [tt, tl8] at ez23
          refine ⟨_, s_St_idle hn h2.co hat, fun κ28 q => ?_⟩
          by_cases cc : ρ.2 23 i < 0 ∧ ρ.2 26 i < 0 ∧ ¬ lN T < ρ.2 22 i
          · rw [if_pos (w23.mpr cc.1), if_pos (w26.mpr cc.2.1)] at e16
            rw [e16, if_neg (by decide), if_neg cc.2.2] at ez23
            rw [ez23, if_neg (by decide), t5, t6, t7] at q
            have hG28 : Gr n κ κ28 := by
              rw [q]
              split
              · exact hG2.i (by omega)
              · exact (hG2.i (by omega)).i (by omega)
            refine fin κ28 hG28 ?_
            have eB : fFourB (lN T) i (fAny n ν i i (lN T)) ρ = (if ρ.1 20 i + 1 ≤ ρ.1 21 i ∨ ρ.1 19 i ≤ 0 then ui ρ 20 i (ρ.1 20 i + 1) else ui (ui ρ 20 i (ρ.1 20 i + 1)) 19 i (ρ.1 19 i - 1)) := by
              unfold fFourB
              rw [if_pos ⟨hsn, ha, cc⟩]
            rw [eF, eB, q]
            by_cases x : ρ.1 20 i + 1 ≤ ρ.1 21 i ∨ ρ.1 19 i ≤ 0
            · rw [if_pos x, if_pos x]
              exact h2.own hs (by omega)
            · rw [if_neg x, if_neg x]
              exact (h2.own hs (by omega)).own hs (by omega)
          · have hz : z23 = 0 := by
              rw [ez23, e16]
              by_cases x1 : κ14.1 (22 + 14 * i) 9 = 0
              · by_cases x2 : κ14.1 (κ14.2.2 (22 + 14 * i) 13) 0 = 0
                · have x3 : lN T < ρ.2 22 i := by
                    by_cases x3 : lN T < ρ.2 22 i
                    · exact x3
                    · exact absurd ⟨w23.mp x1, w26.mp x2, x3⟩ cc
                  rw [if_pos x1, if_pos x2, if_neg (by decide), if_pos x3]
                · rw [if_pos x1, if_neg x2, if_pos rfl]
              · rw [if_neg x1, if_pos rfl]
            rw [if_pos hz] at q
            obtain ⟨g5, r5⟩ := zer κ28 q (fun x => cc x.2.2)
            exact fin κ28 g5 r5
        · rw [if_pos rfl] at q
          obtain ⟨g5, r5⟩ := zer κ39 q (fun x => c (by
            rw [ez8, x.2.1]
            show (if nI (mkM n (knd ν)) &&& nI (2 ^ i) = 0 then (0 : Int32) else 1) = 0
            rw [if_pos (hbit.mpr (by rw [← hsd]; exact x.1))]))
          exact fin κ39 g5 r5
      refine v_X7_countIdleSlots_10 C Ex hn hR.co hG ⟨fun c => absurd c (nI_ge (by omega) (by omega)), fun _ => ⟨vp_in_nI hs (by omega), fun b4 eb4 z8 ez8 => ?_⟩⟩
      rw [nI_clampS (by omega)] at eb4
      subst eb4
      rw [e8, s2] at ez8
      have ez : z8 = if fAny n ν i i (lN T) then 1 else 0 := by
        rw [ez8]
        by_cases x : fAny n ν i i (lN T) = false
        · rw [if_pos (hab.mpr x), x]; rfl
        · rw [if_neg (fun y => x (hab.mp y))]
          have x : fAny n ν i i (lN T) = true := by simpa using x
          rw [x]; rfl
      rw [s18, sl19, hR.gl.time.1]
      refine ⟨fun c => ⟨fun c2 => ?_, fun c2 z14 e14 κ17 e17 => ?_⟩, fun c => ?_⟩
      · rw [ez]
        refine half κ9 hG ?_
        rw [if_neg (fun q => q.2 c2)]
        exact hR
      · have ha : fAny n ν i i (lN T) = false := by
          cases x : fAny n ν i i (lN T)
          · rfl
          · rw [x] at ez
            exact absurd (ez.symm.trans c) (by decide)
        rw [ez]
        refine half κ17 (by rw [e17]; exact hG.i (by omega)) ?_
        rw [if_pos ⟨ha, c2⟩, e17, e14]
        exact hR.own hs (by omega)
      · rw [ez]
        refine half κ9 hG ?_
        rw [if_neg (fun q => c (by rw [ez, q.1]; rfl))]
        exact hR
  have h0 := key n 0 κ μ (by omega) Gr.rf h hS rfl
  rw [nI_0] at h0
  exact h0
/-! the slot is over -/
theorem Rel.next {i : Nat} {A : Bk} {V : Vw} {ee : Bool} (hTb : T + 100 < 2 ^ 31) (h : Rel n T 1 1 ee i A V) (he : ¬ V.1 37 = 0 → V.2.1 40 = lN T → ee = true) : Rel n (T + 1) 0 0 false i A (vui V 37 (if lN T < V.2.1 40 then V.1 37 else 0)) := by
  obtain ⟨hO, hW, hB, hK, hTr, hLg, dO, sO, hds, p1, p2, ⟨L1, hRL1, hD⟩, ⟨L2, hRL2, hk2, hS⟩⟩ := h
  have hO' : Own n (T + 1) i A V := by
    obtain ⟨q0, q1, q2, q3, q4, q5, q6, q7, q18, r8, r19, x, ex, hx⟩ := hO
    exact ⟨q0, q1, q2, q3, q4, q5, q6, q7, q18, r8, r19, x, ex, by omega⟩
  have hW' : Wt (T + 1) 0 A V := by
    rcases hW with q | ⟨a, q1, q2, q3, q4⟩
    · exact Or.inl q
    · exact Or.inr ⟨a, q1, by omega, by omega, q4⟩
  have hD' : (V.2.1 26 = -1 ∧ A.1 dO 0 = 0) ∨ ∃ a z r : Nat, V.2.1 26 = lN a ∧ T + 1 + 0 ≤ a ∧ a ≤ T + 1 + 2 ∧ A.2.1 0 12 = V.2.1 26 ∧ A.1 dO 0 = V.1 27 ∧ (V.1 27 = 2 ∨ V.1 27 = 3 ∨ V.1 27 = 4) ∧ A.1 dO 1 = V.1 28 ∧ V.1 28 = nI r ∧ r < n ∧ A.1 dO 2 = V.1 29 ∧ V.1 29 = nI z ∧ z ≤ 33 ∧ (V.1 27 = 3 → 1 ≤ z) ∧ A.1 dO 3 = 0 ∧ (∀ r, r < n → A.2.1 (dO + 3) r = 0) ∧ FRow i L1 (V.1 27) (V.1 28) (V.1 30) V.2.2.2.2.1 := by
    rcases hD with q | ⟨a, z, r, q1, q2, q3, q4⟩
    · exact Or.inl q
    · exact Or.inr ⟨a, z, r, q1, by omega, by omega, q4⟩
  -- the kind that stays
  rcases hS with hk0 | ⟨a, b, z, q, s1, s2, s3, s4, s5, s6, s7, s8, s9, s10, s11, s12, s13, s14, s15, s16, s17⟩
  · have e0 : (if lN T < V.2.1 40 then V.1 37 else 0) = 0 := by rw [hk0]; split <;> rfl
    rw [e0]
    refine ⟨hO', hW', hB, hK, hTr, ⟨Or.inl rfl, hLg.2.1, fun x => ?_, fun x => ?_, hLg.2.2.2.2⟩, dO, sO, hds, p1, p2, ⟨L1, hRL1, hD'⟩, ⟨L2, hRL2, ?_, Or.inl rfl⟩⟩
    · rcases x with x | x
      · exact absurd (show (0 : Int32) = 1 from x) (by decide)
      · exact absurd (show (0 : Int32) = 3 from x) (by decide)
    · exact absurd (show (0 : Int32) = 3 from x) (by decide)
    · rw [hk0] at hk2
      show A.1 sO 0 = 0
      rw [hk2]
      split <;> rfl
  · by_cases c : T < b
    · have ef : ee = false := by
        cases ee
        · rfl
        · exact absurd (s17 rfl) (by omega)
      subst ef
      have e0 : (if lN T < V.2.1 40 then V.1 37 else 0) = V.1 37 := if_pos (by rw [s3]; exact (lN_lt (by omega) (by omega)).mpr c)
      rw [e0]
      have eV : vui V 37 (V.1 37) = V := by
        refine Prod.ext (funext fun g => ?_) rfl
        show (if g = 37 then V.1 37 else V.1 g) = V.1 g
        by_cases q : g = 37
        · rw [if_pos q, q]
        · rw [if_neg q]
      rw [eV]
      refine ⟨hO', hW', hB, hK, hTr, hLg, dO, sO, hds, p1, p2, ⟨L1, hRL1, hD'⟩, ⟨L2, hRL2, hk2, Or.inr ⟨a, b, z, q, s1, s2, s3, by omega, by omega, s6, s7, s8, s9, s10, s11, s12, s13, ?_, ?_, s16, fun x => absurd x (by decide)⟩⟩⟩
      · rw [show T + 1 - a + 0 = T - a + 1 by omega]; exact s14
      · rw [show T + 1 - a + 0 = T - a + 1 by omega]; exact s15
    · have hbT : b = T := by omega
      have hk : ¬ V.1 37 = 0 := by rcases s1 with x | x | x | x <;> (rw [x]; decide)
      have ef : ee = true := he hk (by rw [s3, hbT])
      subst ef
      have e0 : (if lN T < V.2.1 40 then V.1 37 else 0) = 0 := if_neg (by rw [s3, hbT]; exact fun x => absurd ((lN_lt (by omega) (by omega)).mp x) (by omega))
      rw [e0]
      refine ⟨hO', hW', hB, hK, hTr, ⟨Or.inl rfl, hLg.2.1, fun x => ?_, fun x => ?_, hLg.2.2.2.2⟩, dO, sO, hds, p1, p2, ⟨L1, hRL1, hD'⟩, ⟨L2, hRL2, hk2, Or.inl rfl⟩⟩
      · rcases x with x | x
        · exact absurd (show (0 : Int32) = 1 from x) (by decide)
        · exact absurd (show (0 : Int32) = 3 from x) (by decide)
      · exact absurd (show (0 : Int32) = 3 from x) (by decide)
theorem four2_all : ∀ k, k ≤ n → (it (fFour2 (lN T)) 0 k μ).2 = μ.2 ∧ ∀ g j, (it (fFour2 (lN T)) 0 k μ).1 g j = if g = 37 ∧ j < k then (if lN T < μ.2 40 j then μ.1 37 j else 0) else μ.1 g j
  | 0, _ => ⟨rfl, fun g j => by rw [if_neg (by omega)]; rfl⟩
  | k + 1, hk => by
    obtain ⟨h1, h2⟩ := four2_all k (by omega)
    rw [it_snoc]
    generalize it (fFour2 (lN T)) 0 k μ = ρ at *
    refine ⟨h1, fun g j => ?_⟩
    unfold fFour2
    rw [Nat.zero_add]
    show (if g = 37 ∧ j = k then (if lN T < ρ.2 40 k then ρ.1 37 k else 0) else ρ.1 g j) = _
    rw [h1, h2 37 k, if_neg (show ¬ (37 = 37 ∧ k < k) by omega), h2 g j]
    by_cases q : g = 37 ∧ j = k
    · rw [if_pos q, if_pos (show g = 37 ∧ j < k + 1 by omega), q.2]
    · rw [if_neg q]
      by_cases q2 : g = 37 ∧ j < k
      · rw [if_pos q2, if_pos (show g = 37 ∧ j < k + 1 by omega)]
      · rw [if_neg q2, if_neg (show ¬ (g = 37 ∧ j < k + 1) by omega)]
theorem R.next (hn : okN n) (hTb : T + 100 < 2 ^ 31) (h : R n T S (fun _ => 1) (fun _ => 1) e 0 n κ μ) (he : ∀ i, i < n → ¬ μ.1 37 i = 0 → μ.2 40 i = lN T → e i = true) : R n (T + 1) S (fun _ => 0) (fun _ => 0) (fun _ => false) 1 n (kl κ 1 7 (lN T + 1)) (ul (it (fFour2 (lN T)) 0 n μ) 0 2 (lN T + 1)) := by
  have hn6 := hn.2
  obtain ⟨f2, f1⟩ := four2_all (n := n) (T := T) (μ := μ) n (Nat.le_refl n)
  generalize it (fFour2 (lN T)) 0 n μ = ρ at *
  have hV : ∀ i, i < n → view (ul ρ 0 2 (lN T + 1)) i = vui (view μ i) 37 (if lN T < μ.2 40 i then μ.1 37 i else 0) := fun i hi => by
    rw [view_lol (by omega)]
    have x : ∀ g, g ≠ 37 → ρ.1 g = μ.1 g := fun g hg => funext fun j => by rw [f1 g j, if_neg (fun q => hg q.1)]
    refine Prod.ext (funext fun g => ?_) ?_
    · show (if okg g then ρ.1 g i else 0) = (if g = 37 then (if lN T < μ.2 40 i then μ.1 37 i else 0) else if okg g then μ.1 g i else 0)
      rw [f1 g i]
      by_cases q : g = 37
      · rw [if_pos q, q, if_pos (show 37 = 37 ∧ i < n from ⟨rfl, hi⟩)]; rfl
      · rw [if_neg q, if_neg (show ¬ (g = 37 ∧ i < n) from fun y => q y.1)]
    · show ((fun g => if okl g then ρ.2 g i else 0), (fun k => if k < 4 then ρ.1 33 (4 * i + k) else 0), (fun r => if r < 6 then ρ.2 43 (6 * i + r) else 0), tl (ρ.1 34) (ρ.1 35), kL (ρ.1 2) (ρ.1 6) i (ρ.1 0 5).toNatClampNeg, (fun s => !decide (i = s) && decide (ρ.1 1 (6 * i + s) = 0))) = ((fun g => if okl g then μ.2 g i else 0), (fun k => if k < 4 then μ.1 33 (4 * i + k) else 0), (fun r => if r < 6 then μ.2 43 (6 * i + r) else 0), tl (μ.1 34) (μ.1 35), kL (μ.1 2) (μ.1 6) i (μ.1 0 5).toNatClampNeg, (fun s => !decide (i = s) && decide (μ.1 1 (6 * i + s) = 0)))
      rw [f2, x 33 (by decide), x 34 (by decide), x 35 (by decide), x 2 (by decide), x 6 (by decide), x 0 (by decide), x 1 (by decide)]
  have hg1 : gmo (ul ρ 0 2 (lN T + 1)) = ((gmo μ).1, fun g k => if g = 0 ∧ k = 2 then lN T + 1 else (gmo μ).2 g k) := by
    refine Prod.ext (funext fun g => funext fun k => ?_) (funext fun g => funext fun k => ?_)
    · show (if g < 17 ∧ g ≠ 1 ∧ g ≠ 6 ∧ ¬ (g = 0 ∧ k = 0) then ρ.1 g k else 0) = (if g < 17 ∧ g ≠ 1 ∧ g ≠ 6 ∧ ¬ (g = 0 ∧ k = 0) then μ.1 g k else 0)
      by_cases q : g < 17 ∧ g ≠ 1 ∧ g ≠ 6 ∧ ¬ (g = 0 ∧ k = 0)
      · rw [if_pos q, if_pos q, f1 g k, if_neg (by omega)]
      · rw [if_neg q, if_neg q]
    · show (if g < 17 then (if g = 0 ∧ k = 2 then lN T + 1 else ρ.2 g k) else 0) = (if g = 0 ∧ k = 2 then lN T + 1 else if g < 17 then μ.2 g k else 0)
      rw [f2]
      by_cases q : g = 0 ∧ k = 2
      · rw [if_pos q, if_pos q, if_pos (by omega)]
      · rw [if_neg q, if_neg q]
  have hg2 : ∀ a k, (glo (kl κ 1 7 (lN T + 1))).2 a k = if a = 1 ∧ k = 7 then lN T + 1 else (glo κ).2 a k := fun a k => by
    show (if a < 22 then (if a = 1 ∧ k = 7 then lN T + 1 else κ.2.1 a k) else 0) = (if a = 1 ∧ k = 7 then lN T + 1 else if a < 22 then κ.2.1 a k else 0)
    by_cases q : a = 1 ∧ k = 7
    · rw [if_pos q, if_pos q, if_pos (by omega)]
    · rw [if_neg q, if_neg q]
  refine ⟨h.co, ?_, fun i hi => ?_, fun i hi a r q1 q2 q3 q4 q5 => ?_, fun i hi a r q1 q2 q3 q4 q5 q6 => ?_⟩
  · obtain ⟨⟨a1, a2, a3, a4, a5, a6, a7, a8, a9⟩, b1, b2, b3, b4, b5, b6, b7, b8, b9, b10, b11, b12, b13, b14⟩ := h.gl
    rw [hg1]
    refine ⟨⟨a1, ?_, ?_, a4, a5, a6, a7, a8, a9⟩, b1, b2, b3, b4, b5, b6, b7, b8, fun k => ?_, fun k => ?_, b11, b12, fun k => ?_, b14⟩
    · rw [hg2]; rfl
    · exact lN_1 T
    · rw [hg2, if_neg (by omega)]; exact b9 k
    · rw [hg2, if_neg (by omega)]; exact b10 k
    · exact b13 k
  · have hA : Ag [1] κ (kl κ 1 7 (lN T + 1)) := Ag.ll
    rw [hA.toBlk (fun a ha => by simp at ha; omega), hV i hi]
    exact Rel.next hTb (h.rel i hi) (he i hi)
  · rw [hV i hi] at q1 q2 q5
    have q1 : (view μ i).2.1 26 = lN a := q1
    have q2 : (view μ i).1 27 = 4 := q2
    have q5 : (view μ i).1 28 = nI r := q5
    have ha : a ≤ T + 2 := by
      obtain ⟨dO, sO, hds, p1, p2, ⟨L, -, hD⟩, -⟩ := h.ptr hi
      rcases hD with x | ⟨a', z, r', x1, x2, x3, -⟩
      · exact absurd (q1.symm.trans x.1) (lN_m1 (by omega))
      · have := (lN_ne (by omega) (by omega)).mp (q1.symm.trans x1)
        omega
    rcases h.ad i hi a r q1 q2 ha q4 q5 with x | x
    · left
      unfold Wf at x ⊢
      rw [hV r q4]
      exact x
    · omega
  · rw [hV i hi] at q1 q2 q6
    have q1 : (if lN T < μ.2 40 i then μ.1 37 i else 0) = 4 := q1
    have q2 : (view μ i).2.1 39 = lN a := q2
    have q6 : (view μ i).1 38 = nI r := q6
    have hk : μ.1 37 i = 4 := by
      by_cases x : lN T < μ.2 40 i
      · rw [if_pos x] at q1; exact q1
      · rw [if_neg x] at q1; exact absurd q1 (by decide)
    have ha : a ≤ T := by
      obtain ⟨dO, sO, hds, p1, p2, -, ⟨L, -, -, hS⟩⟩ := h.ptr hi
      rcases hS with x | ⟨a', b', z, r', x0, x1, x2, x3, x4, -⟩
      · exact absurd (hk.symm.trans x) (by decide)
      · have := (lN_ne (by omega) (by omega)).mp (q2.symm.trans x1)
        omega
    have x := h.as i hi a r hk q2 ha (by omega) q5 q6
    unfold Wf at x ⊢
    rw [hV r q5]
    exact x
end RK
