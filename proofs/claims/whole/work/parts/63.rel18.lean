/-! endFrames is the reference's third step -/
section RJ
variable {l : Launch} {w : r_V} {B : Nat} {n T s r E : Nat} {S : Int32} {κ κ' : Ku} {μ μ' : Mu}
theorem Q3.kn (h : Q3 μ μ') (j : Nat) : knd μ' j = knd μ j := by
  unfold knd
  rw [h.1]
theorem Q3.sn (h : Q3 μ μ') : SN n μ' = SN n μ := by
  unfold SN
  congr 1
  exact mkM_congr (fun j _ => h.kn j)
/-- one listener -/
theorem c_listener {f i j : Nat} {d m : Nat → Nat} {e : Nat → Bool} {ρ : Mu} (hn : okN n) (hTb : T + 100 < 2 ^ 31) (h : R n T S d m e 0 i κ ρ) (hS : S = SN n ρ) (hG3 : G3 n T ρ) (hM : MI n E ρ) (hE : E + 5 < 2 ^ 30) (hd : d j = 1) (hm : m i = 1) (he : e i = false) (hi : i < n) (hj : j < n) (hk : ¬ ρ.1 37 i = 0) (hl : ρ.2 40 i = lN T) (hf : κ.2.2 (22 + 14 * i) 14 = f) {P : Ku → Prop} (hP : ∀ κ', Gr n κ κ' → R n T S d m e 0 i κ' (fThree2 (lN T) i j ρ) → κ'.2.2 = κ.2.2 → P κ') :
    (nI (mkM n (fHears ρ j)) &&& nI (2 ^ i) = 0 → P κ) ∧ (¬ nI (mkM n (fHears ρ j)) &&& nI (2 ^ i) = 0 → ∃ Q21 : Int32 → Ku → Prop, r_KI l w B n tX2_isReceivedAt [Value.ref (B + f), Value.int (nI j)] κ Q21 ∧ ∀ (z25 : Int32) (κ23 : Ku), Q21 z25 κ23 → ((z25 = 0 → P κ23) ∧ (¬ z25 = 0 → ∃ Q33 : Ku → Prop, r_KV l w B n tX7_receive [Value.ref (B + 1), Value.ref (B + (22 + 14 * j)), Value.ref (B + (22 + 14 * i)), Value.ref (B + f)] κ23 Q33 ∧ ∀ κ35 : Ku, Q33 κ35 → P κ35))) := by
  have hn6 := hn.2
  have hats := at_st hn hi
  have hfs : atS n f = some (.inl 2) := by rw [← hf]; exact (h.co.2.2.2.1 _ hats).2.2.2.2
  obtain ⟨sO, a, b, z, q, L, hsO, p2, hL, f0, hkk, ha, hb, haT, hTb2, hba, f1, e38, hq, f2, e41, hz, hlen, f3, hB, hF⟩ := h.frame hn hi he hk
  have hff : f = 22 + 14 * i + sO := hf.symm.trans p2
  rw [← hff] at f0 hB
  have hbT : b = T := (lN_ne (by omega) (by omega)).mp (hb.symm.trans hl)
  have hBj := hB j hj
  rw [hm] at hBj
  have hbit := send_bit (f := fHears ρ j) hn hi
  refine ⟨fun c => hP κ Gr.rf ?_ rfl, fun c => ⟨_, s_Frame_isReceived hn h.co hfs (vp_in_nI hj (by omega)), fun z25 κ23 qq => ?_⟩⟩
  · unfold fThree2
    rw [hbit.mp c]
    exact h
  · obtain ⟨rfl, e25⟩ := qq
    have hh : fHears ρ j i = true := by
      cases x : fHears ρ j i
      · exact absurd (hbit.mpr x) c
      · rfl
    have hne : i ≠ j := fun q => by
      unfold fHears at hh
      simp [q] at hh
    rw [f0, nI_clampS (by omega)] at e25
    have hz25 : z25 = if fWhole ρ i j then 1 else 0 := by
      rw [e25]
      unfold fWhole
      by_cases k3 : ρ.1 37 i = 3
      · rw [if_pos k3, if_pos k3]
        have hw := hBj.one (by omega)
        by_cases x : ρ.2 43 (6 * i + j) &&& 1 = 0
        · rw [if_pos (hw.mpr x), decide_eq_true x]; rfl
        · rw [if_neg (fun y => x (hw.mp y)), decide_eq_false x]; rfl
      · rw [if_neg k3, if_neg k3]
        rw [if_neg k3] at hlen
        rw [show T - a + 1 = 2 by omega] at hBj
        have hw := hBj.two
        by_cases x : ρ.2 43 (6 * i + j) = 0
        · rw [if_pos (hw.mpr x), decide_eq_true x]; rfl
        · rw [if_neg (fun y => x (hw.mp y)), decide_eq_false x]; rfl
    by_cases hwh : fWhole ρ i j = true
    · rw [hwh] at hz25
      have hz25 : z25 = 1 := hz25
      refine ⟨fun c => absurd (hz25.symm.trans c) (by decide), fun _ => ⟨_, (c_receive hn hTb h hS hM hE hd hm he hi hj hne hk hl (fun k3 => ?_) hf).full, fun κ35 q => ?_⟩⟩
      · unfold fWhole at hwh
        rw [if_neg k3, decide_eq_true_eq] at hwh
        have hsi : fSends ρ i (lN T) = true := by
          rw [h.sends hTb hi]
          unfold knd
          simp [hk]
        have := hG3 i j hi hj hsi a ha haT (by omega) (by
          rw [hwh]
          show (0#64).getLsbD _ = false
          exact BitVec.getLsbD_zero)
        rw [h.sends hTb hj] at this
        exact knd0.mp this
      · obtain ⟨g1, -, g3, g4⟩ := q
        refine hP κ35 g1 ?_ g4
        unfold fThree2
        rw [hh, hwh]
        exact g3
    · have hwh : fWhole ρ i j = false := by simpa using hwh
      rw [hwh] at hz25
      have hz25 : z25 = 0 := hz25
      refine ⟨fun _ => hP κ23 Gr.rf ?_ rfl, fun c => absurd hz25 c⟩
      unfold fThree2
      rw [hwh, Bool.and_false]
      exact h
theorem c_endFrames (hn : okN n) (h : R n T (SN n μ) (fun _ => 1) (fun _ => 1) (fun _ => false) 1 n κ μ) (hG3 : G3 n T μ) (hM : MI n E μ) (hE : E + 200 < 2 ^ 30) (hTb : T + 100 < 2 ^ 31) : r_KV l w B n tX7_endFrames [.ref (B + 1)] κ (fun κ' => R n T (SN n μ) (fun _ => 1) (fun _ => 1) (ovr T μ) 0 n κ' (fThree n (lN T) μ) ∧ Q3 μ (fThree n (lN T) μ)) := by
  have hn6 := hn.2
  refine r_enter (by decide) (Nat.le_of_ble_eq_true rfl) (fun X C Ex => ?_)
  refine v_X7_endFrames_0 C Ex hn h.co Gr.rf (fun z1 e1 => ?_)
  rw [e1]
  have key : ∀ (k i : Nat) (κ9 : Ku) (ν : Mu), i + k = n → Gr n κ κ9 → R n T (SN n μ) (fun _ => 1) (fun _ => 1) (ovi T i μ) 0 n κ9 ν → MI n (E + 30 * i) ν → Q3 μ ν → it (fThree1 n (lN T)) i k ν = fThree n (lN T) μ → r_W X w B 10 0 0 (r_Z X w B tX7_endFrames (ZKV n κ (fun κ' => R n T (SN n μ) (fun _ => 1) (fun _ => 1) (ovr T μ) 0 n κ' (fThree n (lN T) μ) ∧ Q3 μ (fThree n (lN T) μ)))) 10 [(0, Value.ref (B + 1)), (1, Value.ref (B + 21)), (2, Value.int (nI n)), (3, Value.int (nI i))] [] (shp n, κ9) := by
    intro k
    induction k with
    | zero =>
      intro i κ9 ν hi hG hR hν hQ hF
      have hi : i = n := by omega
      subst hi
      have hF : ν = fThree i (lN T) μ := hF
      refine v_X7_endFrames_10 C Ex hn hR.co hG ⟨fun _ => ?_, fun c => absurd (nI_le (Nat.le_refl _) (by omega)) c⟩
      rw [← hF]
      refine ⟨⟨hR.co, hR.gl, fun j hj => ?_, hR.ad, hR.as⟩, hQ⟩
      have := hR.rel j hj
      rw [show ovi T i μ j = ovr T μ j by unfold ovi; rw [decide_eq_true hj, Bool.true_and]] at this
      exact this
    | succ k ih =>
      intro i κ9 ν hi hG hR hν hQ hF
      have hs : i < n := by omega
      have hat := at_st hn hs
      have hbm : 22 + 14 * i + 13 < mOf n := (at_stat hn hat).2.2.2.2.2.1
      have hSν : SN n μ = SN n ν := hQ.sn.symm
      have ei : ovi T i μ i = false := by unfold ovi; rw [decide_eq_false (by omega), Bool.false_and]
      have enew : ∀ j, j ≠ i → ovi T (i + 1) μ j = ovi T i μ j := fun j hj => by
        unfold ovi
        by_cases q : j < i
        · rw [decide_eq_true q, decide_eq_true (show j < i + 1 by omega)]
        · rw [decide_eq_false q, decide_eq_false (show ¬ j < i + 1 by omega)]
      have eni : ovi T (i + 1) μ i = ovr T μ i := by unfold ovi; rw [decide_eq_true (by omega), Bool.true_and]
      have hM1 : MI n (E + 30 * (i + 1)) (fThree1 n (lN T) i ν) := (hν.three1 hn hs).up (by omega)
      refine v_X7_endFrames_10 C Ex hn hR.co hG ⟨fun c => absurd c (nI_ge (by omega) (by omega)), fun _ => ⟨vp_in_nI hs (by omega), fun b4 eb4 b7 eb7 => ?_⟩⟩
      rw [nI_clampS (by omega)] at eb4
      subst eb4
      have hfs : atS n b7 = some (.inl 2) := by rw [eb7]; exact (hR.co.2.2.2.1 _ hat).2.2.2.2
      refine ⟨_, s_Frame_isOver hn hR.co hfs, fun z14 κ12 q => ?_⟩
      obtain ⟨rfl, e14⟩ := q
      -- whether the frame is over
      have over : (z14 = 0 ∨ z14 = 1) ∧ (z14 = 1 ↔ ¬ ν.1 37 i ≤ 0 ∧ ν.2 40 i = lN T) := by
        by_cases hk : ν.1 37 i = 0
        · obtain ⟨dO, sO, hds, p1, p2, -, ⟨L, -, hk2, -⟩⟩ := hR.ptr hs
          rw [ei] at hk2
          have c1 : (blk κ12 i).1 sO 0 = κ12.1 b7 0 := by rw [blk_cell (by omega), eb7, p2]
          rw [c1] at hk2
          have hk2 : κ12.1 b7 0 = ν.1 37 i := hk2
          rw [hk2, if_pos hk] at e14
          refine ⟨Or.inl e14, fun q => absurd (e14.symm.trans q) (by decide), fun q => absurd (by rw [hk]; decide) q.1⟩
        · obtain ⟨sO, a, b, z, q, L, hsO, p2, hL, f0, hkk, ha, hb, haT, hTb2, hba, f1, e38, hq, f2, e41, hz, hlen, f3, hB, hF'⟩ := hR.frame hn hs ei hk
          rw [← p2, ← eb7] at f0 f2 f3
          rw [f0, f2, f3, if_neg hk] at e14
          have hp := knd_pos hk hkk
          have eb : (ν.2 40 i = lN T) ↔ b = T := by rw [hb]; exact lN_ne (by omega) (by omega)
          have el : (if ν.1 37 i = 3 then ν.1 41 i else 2) = nI (if ν.1 37 i = 3 then z else 2) := by
            split
            · exact e41
            · rfl
          rw [el] at e14
          generalize (if ν.1 37 i = 3 then z else 2) = len at *
          by_cases c : T - a + 1 < len
          · rw [if_pos (nI_lt c (by omega))] at e14
            exact ⟨Or.inl e14, fun q => absurd (e14.symm.trans q) (by decide), fun q => absurd (eb.mp q.2) (by omega)⟩
          · rw [if_neg (nI_nlt (by omega) (by omega))] at e14
            exact ⟨Or.inr e14, fun _ => ⟨hp, eb.mpr (by omega)⟩, fun _ => e14⟩
      obtain ⟨ov1, ov2⟩ := over
      have hF' : it (fThree1 n (lN T)) (i + 1) k (fThree1 n (lN T) i ν) = fThree n (lN T) μ := hF
      by_cases hz : z14 = 1
      · have hc := ov2.mp hz
        refine ⟨fun c => absurd (hz.symm.trans c) (by decide), fun _ z22 e22 => ?_⟩
        subst e22
        have hk : ¬ ν.1 37 i = 0 := fun q => hc.1 (by rw [q]; decide)
        have eF : fThree1 n (lN T) i ν = fEnd (lN T) i (it (fThree2 (lN T) i) 0 n ν) := by unfold fThree1; rw [if_pos hc]
        have hov : ovr T μ i = true := by
          unfold ovr
          rw [← hQ.kn, ← hQ.2.2.1, decide_eq_true hc.2, Bool.and_true]
          unfold knd
          simp [hk]
        have inner : ∀ (k' j : Nat) (κ8 : Ku) (ρ : Mu), j + k' = n → Gr n κ κ8 → R n T (SN n μ) (fun _ => 1) (fun _ => 1) (ovi T i μ) 0 i κ8 ρ → MI n (E + 30 * i + 5 * j) ρ → Q3 ν ρ → κ8.2.2 (22 + 14 * i) 14 = b7 → it (fThree2 (lN T) i) j k' ρ = it (fThree2 (lN T) i) 0 n ν → r_W X w B 10 0 0 (r_Z X w B tX7_endFrames (ZKV n κ (fun κ' => R n T (SN n μ) (fun _ => 1) (fun _ => 1) (ovr T μ) 0 n κ' (fThree n (lN T) μ) ∧ Q3 μ (fThree n (lN T) μ)))) 49 [(0, Value.ref (B + 1)), (1, Value.ref (B + 21)), (2, Value.int (nI n)), (3, Value.int (nI i)), (4, Value.ref (B + (22 + 14 * i))), (5, Value.ref (B + b7)), (6, Value.ref (B + 21)), (7, Value.int (nI n)), (8, Value.int (nI j))] [] (shp n, κ8) := by
          intro k'
          induction k' with
          | zero =>
            intro j κ8 ρ hj hG8 h8 hM8 hQ8 hf8 hF8
            have hj : j = n := by omega
            subst hj
            have hF8 : ρ = it (fThree2 (lN T) i) 0 j ν := hF8
            refine v_X7_endFrames_49 C Ex hn h8.co hG8 hat hfs ⟨fun _ => ?_, fun c => absurd (nI_le (Nat.le_refl _) (by omega)) c⟩
            rw [h8.gl.time.1]
            refine ⟨_, s_St_endFrame hn h8.co hat, fun κ4 q4 z11 e11 => ?_⟩
            rw [hf8] at q4
            rw [e11, nI_1]
            have hk8 : ¬ ρ.1 37 i = 0 := by rw [hQ8.1]; exact hk
            have h4 : R j T (SN j μ) (fun _ => 1) (fun _ => 1) (ovi T (i + 1) μ) 0 j κ4 (fThree1 j (lN T) i ν) := by
              rw [q4, eF, ← hF8]
              exact h8.fend hn hTb rfl ei hs hk8 (by rw [hQ8.2.2.1]; exact hc.2) hf8 (eni.trans hov) enew
            have hG4 : Gr j κ κ4 := by
              have hb7 : b7 < mOf j := by have := (at_frame hn hfs).2.2.2.1; omega
              rw [q4]
              split
              · exact (((hG8.i (by omega)).i (by omega)).i (by omega)).l (by omega)
              · exact hG8.i (by omega)
            refine ih (i + 1) κ4 (fThree1 j (lN T) i ν) (by omega) hG4 h4 hM1 ?_ hF'
            rw [eF, ← hF8]
            exact (hQ.trans hQ8).trans Q3.fend
          | succ k' ih' =>
            intro j κ8 ρ hj hG8 h8 hM8 hQ8 hf8 hF8
            have hjn : j < n := by omega
            have hF8' : it (fThree2 (lN T) i) (j + 1) k' (fThree2 (lN T) i j ρ) = it (fThree2 (lN T) i) 0 n ν := hF8
            have hk8 : ¬ ρ.1 37 i = 0 := by rw [hQ8.1]; exact hk
            have hM8' : MI n (E + 30 * i + 5 * (j + 1)) (fThree2 (lN T) i j ρ) := (hM8.three2 hn hs hjn).up (by omega)
            have hQ8' : Q3 ν (fThree2 (lN T) i j ρ) := hQ8.trans (Q3.three2 hn hM8 hs hjn)
            refine v_X7_endFrames_49 C Ex hn h8.co hG8 hat hfs ⟨fun c => absurd c (nI_ge (by omega) (by omega)), fun _ => ⟨vp_in_nI hjn (by omega), fun b15 eb15 => ?_⟩⟩
            rw [nI_clampS (by omega)] at eb15
            subst eb15
            obtain ⟨s0, s1, s2, -⟩ := h8.stat hjn
            rw [s2, (h8.stat hs).2.1, s0]
            have hlis := c_listener (l := l) (w := w) (B := B) (P := fun κ5 => ∀ z : Int32, z = nI j + 1 → r_W X w B 10 0 0 (r_Z X w B tX7_endFrames (ZKV n κ (fun κ' => R n T (SN n μ) (fun _ => 1) (fun _ => 1) (ovr T μ) 0 n κ' (fThree n (lN T) μ) ∧ Q3 μ (fThree n (lN T) μ)))) 49 [(0, Value.ref (B + 1)), (1, Value.ref (B + 21)), (2, Value.int (nI n)), (3, Value.int (nI i)), (4, Value.ref (B + (22 + 14 * i))), (5, Value.ref (B + b7)), (6, Value.ref (B + 21)), (7, Value.int (nI n)), (8, Value.int z)] [] (shp n, κ5)) hn hTb h8 (hSν.trans (hQ8.sn).symm) ((hQ.trans hQ8).g3 hG3) hM8 (by omega) rfl rfl ei hs hjn hk8 (by rw [hQ8.2.2.1]; exact hc.2) hf8 (fun κ5 g5 r5 p5 z ez => by
              rw [ez, nI_1]
              exact ih' (j + 1) κ5 (fThree2 (lN T) i j ρ) (by omega) (hG8.trans g5) r5 hM8' hQ8' (by rw [p5]; exact hf8) hF8')
            exact hlis
        have h0 := inner n 0 κ12 ν (by omega) hG hR.cur (hν.up (by omega)) Q3.rf eb7.symm rfl
        rw [nI_0] at h0
        exact h0
      · have hz0 : z14 = 0 := ov1.resolve_right hz
        have hnc : ¬ (¬ ν.1 37 i ≤ 0 ∧ ν.2 40 i = lN T) := fun q => hz (ov2.mpr q)
        have eF : fThree1 n (lN T) i ν = ν := by unfold fThree1; rw [if_neg hnc]
        refine ⟨fun _ z20 e20 => ?_, fun c => absurd hz0 c⟩
        rw [e20, nI_1]
        rw [eF] at hF' hM1
        have hov : ovr T μ i = false := by
          unfold ovr
          by_cases hk : ν.1 37 i = 0
          · rw [← hQ.kn, knd0.mpr hk, Bool.false_and]
          · obtain ⟨sO, a, b, z, q, L, hsO, p2, hL, f0, hkk, -⟩ := hR.frame hn hs ei hk
            rw [← hQ.2.2.1, decide_eq_false (fun q => hnc ⟨knd_pos hk hkk, q⟩), Bool.and_false]
        have ee : ovi T (i + 1) μ = ovi T i μ := by
          funext j
          by_cases q : j = i
          · subst q; rw [eni, ei, hov]
          · exact enew j q
        exact ih (i + 1) κ12 ν (by omega) hG (by rw [ee]; exact hR) hM1 hQ hF'
  have e0 : ovi T 0 μ = fun _ => false := by
    funext j
    unfold ovi
    rw [decide_eq_false (by omega), Bool.false_and]
  have h0 := key n 0 κ μ (by omega) Gr.rf (by rw [e0]; exact h.lim0) hM Q3.rf rfl
  rw [nI_0] at h0
  exact h0
end RJ
