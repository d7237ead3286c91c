/-! contracts of receive, stepThree, stepFour, run -/
section MF9
variable {l : Launch} {w : r_V} {B m n E : Nat} {μ : Mu}
theorem k_receive {s r : Nat} {t : Int64} (hn : okN n) (hs : s < n) (hr : r < n) (h : MI n E μ) (hE : E + 5 < 2 ^ 30) : r_MV l w B m tX8_receive [.int (nI s), .int (nI r), .long t] μ (fun μ' => μ' = fReceive s r t μ) := by
  have hn6 := hn.2
  have cs : (nI s).toNatClampNeg = s := nI_clampS (by omega)
  have cr : (nI r).toNatClampNeg = r := nI_clampS (by omega)
  have vs : vp_in (nI s) 6 := vp_in_nI (by omega) (by decide)
  have vr : vp_in (nI r) 6 := vp_in_nI (by omega) (by decide)
  refine r_MV.of (by decide) (fun _ => Nat.le_of_ble_eq_true rfl) (fun X σ0 C Ex => ?_)
  refine u_X8_receive_0 C Ex ⟨vr, fun μ2 e2 => ?_⟩
  rw [cr] at e2
  have h2 : MI n E μ2 := by rw [e2]; exact h.got r t
  unfold fReceive
  rw [← e2, cs, cr]
  clear e2
  refine ⟨vs, fun c z16 e16 => ⟨fun c1 => ⟨fun q1 => ?_, fun q1 => ⟨fun q2 => ?_, fun q2 => ⟨fun q3 => ?_, fun q3 => ⟨_, k_due (by omega), fun μ25 q => ?_⟩⟩⟩⟩, fun c1 => ⟨fun c3 => ?_, fun c3 => ?_⟩⟩, fun c => ⟨_, k_left (by omega), fun z83 μ81 q y88 e88 y92 e92 μ95 e95 => ?_⟩⟩
  · unfold fRec
    rw [if_pos c, if_pos c1, if_neg (fun q => q.1 q1)]
  · unfold fRec
    rw [if_pos c, if_pos c1, if_neg (fun q => Int64.not_lt.mpr q2 q.2.1)]
  · unfold fRec
    rw [if_pos c, if_pos c1, if_neg (fun q => Int64.not_lt.mpr q3 q.2.2)]
  · unfold fRec
    rw [if_pos c, if_pos c1, if_pos ⟨q1, Int64.not_le.mp q2, Int64.not_le.mp q3⟩]
    exact q
  · have hq : qTo μ2 s = nI r := by rw [← ((h2.wh s hs).1 (Or.inr c3)).1]; exact c
    refine ⟨_, k_take hn hs hr h2 (by omega) hq, fun z37 μ35 q => ⟨_, k_sends (by omega), fun z46 μ44 q2 => ?_⟩⟩
    obtain ⟨rfl, e46⟩ := q2
    obtain ⟨e37, e35⟩ := q
    unfold fRec
    rw [if_pos c, if_neg c1, if_pos c3, ← e35, ← e37]
    have hif : z46 = 0 ↔ fSends μ44 r t = false := by rw [e46]; cases fSends μ44 r t <;> simp
    refine ⟨fun q0 => ⟨fun q1 => ?_, fun q1 => ⟨_, k_due (by omega), fun μ55 q => ?_⟩⟩, fun q0 => ?_⟩
    · rw [if_neg (fun q => Int64.not_lt.mpr q1 q.2)]
    · rw [if_pos ⟨hif.mp q0, Int64.not_le.mp q1⟩]
      exact q
    · rw [if_neg (fun q => q0 (hif.mpr q.1))]
  · have hz : z16 = 0 ↔ fAwait μ2 s r = false := by
      rw [e16]
      unfold fAwait
      by_cases a1 : μ2.2 23 r < 0 <;> by_cases a2 : μ2.1 24 r = nI s <;> by_cases a3 : μ2.1 25 r = μ2.1 37 s <;> simp [a1, a2, a3]
    have hz' : ¬ z16 = 0 → fAwait μ2 s r = true := fun q => by
      by_cases q2 : fAwait μ2 s r = true
      · exact q2
      · exact absurd (hz.mpr (by simpa using q2)) q
    refine ⟨fun q0 => ?_, fun q0 => ⟨fun c2 μ64 e64 => ?_, fun c2 => ?_⟩⟩
    · refine u_X8_receive_260 C Ex ⟨fun _ => ?_, fun q => absurd q0 q⟩
      unfold fRec
      rw [if_pos c, if_neg c1, if_neg c3, hz.mp q0]
      rfl
    · have g36 : μ64.1 36 r = μ2.1 36 r := by rw [e64]; rfl
      rw [g36]
      refine ⟨_, k_due (by omega), fun μ72 q => ?_⟩
      unfold fRec
      rw [if_pos c, if_neg c1, if_neg c3, if_pos (hz' q0), if_pos c2, ← e64]
      exact q
    · refine u_X8_receive_260 C Ex ⟨fun q => absurd q q0, fun _ => ⟨vs, ?_⟩⟩
      rw [cs]
      refine ⟨_, k_ack hn hr h2 hE, fun μ5 q => ?_⟩
      unfold fRec
      rw [if_pos c, if_neg c1, if_neg c3, if_pos (hz' q0), if_neg c2]
      exact q
  · obtain ⟨rfl, rfl⟩ := q
    unfold fRec
    rw [if_neg c, e95, e92, e88]
theorem k_stepThree {t : Int64} (hn : okN n) (h : MI n E μ) (hE : E + 180 < 2 ^ 30) : r_MV l w B m tX8_stepThree [.long t] μ (fun μ' => μ' = fThree n t μ) := by
  have hn6 := hn.2
  refine r_MV.of (by decide) (fun _ => Nat.le_of_ble_eq_true rfl) (fun X σ0 C Ex => ?_)
  refine u_X8_stepThree_0 C Ex ?_
  have inner : ∀ (s : Nat) (F : Mu), s < n → r_Wm X w B 6 m σ0 (r_Z X w B tX8_stepThree (ZMV m σ0 (fun μ' => μ' = fThree n t μ))) 2 [(0, Value.ref (B + m)), (1, Value.long t), (3, Value.int (nI (s + 1)))] [] (fEnd t s F) → ∀ (k i E' : Nat) (ν : Mu), i + k = n → MI n E' ν → E' + 5 * k < 2 ^ 30 → it (fThree2 t s) i k ν = F → r_Wm X w B 6 m σ0 (r_Z X w B tX8_stepThree (ZMV m σ0 (fun μ' => μ' = fThree n t μ))) 33 [(0, Value.ref (B + m)), (1, Value.long t), (3, Value.int (nI s)), (4, Value.int (nI i))] [] ν := by
    intro s F hs hk k
    have cs : (nI s).toNatClampNeg = s := nI_clampS (by omega)
    have vs : vp_in (nI s) 6 := vp_in_nI (by omega) (by decide)
    induction k with
    | zero =>
      intro i E' ν hi hν hE' hF
      have hi : i = n := by omega
      subst hi
      have hF : ν = F := hF
      subst hF
      have c152 : (ν.1 37 s = 1 ∨ ν.1 37 s = 3) → r_Wm X w B 6 m σ0 (r_Z X w B tX8_stepThree (ZMV m σ0 (fun μ' => μ' = fThree i t μ))) 152 [(0, Value.ref (B + m)), (1, Value.long t), (3, Value.int (nI s))] [] ν := by
        intro c
        unfold fEnd at hk
        rw [if_pos c] at hk
        refine u_X8_stepThree_152 C Ex ⟨vs, fun μ2 e2 μ8 e8 μ14 e14 z e => ?_⟩
        rw [cs] at *
        rw [e, nI_1, e14, e8, e2]
        exact hk
      refine u_X8_stepThree_33 C Ex ⟨fun _ => ⟨vs, ?_⟩, fun c => absurd (by rw [hν.n1]; exact nI_le (Nat.le_refl _) (by omega)) c⟩
      rw [cs]
      refine ⟨fun c => c152 (Or.inl c), fun c => ⟨fun c2 => c152 (Or.inr c2), fun c2 z e => ?_⟩⟩
      unfold fEnd at hk
      rw [if_neg (fun q => q.elim c c2)] at hk
      rw [e, nI_1]
      exact hk
    | succ k ih =>
      intro i E' ν hi hν hE' hF
      have ihn := ih (i + 1) (E' + 5) (fThree2 t s i ν) (by omega) (hν.three2 hn hs (by omega)) (by omega) hF
      refine u_X8_stepThree_33 C Ex ⟨fun c => absurd c (by rw [hν.n1]; exact nI_ge (by omega) (by omega)), fun _ => ⟨vs, ?_⟩⟩
      rw [six, nI_clampS (show 6 * s + i < 1000000 by omega), cs]
      have v36 : vp_in (nI (6 * s + i)) 36 := vp_in_nI (by omega) (by decide)
      refine ⟨⟨fun _ => v36, fun _ => v36⟩, fun z17 e17 => ⟨_, k_hears (by omega) (by omega), fun z24 μ22 q => ?_⟩⟩
      obtain ⟨rfl, e24⟩ := q
      have h24 : z24 = 0 ↔ fHears μ22 i s = false := by rw [e24]; cases fHears μ22 i s <;> simp
      have h17 : z17 = 0 ↔ fWhole μ22 s i = false := by
        rw [e17]
        unfold fWhole
        by_cases a1 : μ22.1 37 s = 3 <;> by_cases a2 : μ22.2 43 (6 * s + i) &&& 1 = 0 <;> by_cases a3 : μ22.2 43 (6 * s + i) = 0 <;> simp [a1, a2, a3]
      unfold fThree2 at ihn
      refine ⟨fun c z e => ?_, fun c => ⟨fun c2 z e => ?_, fun c2 => ⟨_, k_receive hn hs (by omega) hν (by omega), fun μ37 q z e => ?_⟩⟩⟩
      · rw [e, nI_1]
        rw [h24.mp c] at ihn
        exact ihn
      · rw [e, nI_1]
        rw [h17.mp c2, Bool.and_false] at ihn
        exact ihn
      · rw [e, nI_1, q]
        have a1 : fHears μ22 i s = true := by
          by_cases q : fHears μ22 i s = true
          · exact q
          · exact absurd (h24.mpr (by simpa using q)) c
        have a2 : fWhole μ22 s i = true := by
          by_cases q : fWhole μ22 s i = true
          · exact q
          · exact absurd (h17.mpr (by simpa using q)) c2
        rw [a1, a2] at ihn
        exact ihn
  have key : ∀ (k i : Nat) (ν : Mu), i + k = n → MI n (E + 30 * i) ν → it (fThree1 n t) i k ν = fThree n t μ → r_Wm X w B 6 m σ0 (r_Z X w B tX8_stepThree (ZMV m σ0 (fun μ' => μ' = fThree n t μ))) 2 [(0, Value.ref (B + m)), (1, Value.long t), (3, Value.int (nI i))] [] ν := by
    intro k
    induction k with
    | zero =>
      intro i ν hi hν hF
      have hi : i = n := by omega
      subst hi
      exact u_X8_stepThree_2 C Ex ⟨fun _ => hF, fun c => absurd (by rw [hν.n1]; exact nI_le (Nat.le_refl _) (by omega)) c⟩
    | succ k ih =>
      intro i ν hi hν hF
      have hM1 := hν.three1 hn (s := i) (t := t) (by omega)
      rw [show E + 30 * i + 30 = E + 30 * (i + 1) by omega] at hM1
      have ihn := ih (i + 1) (fThree1 n t i ν) (by omega) hM1 hF
      have skip : ¬ (¬ ν.1 37 i ≤ 0 ∧ ν.2 40 i = t) → ∀ z : Int32, z = nI i + 1 → r_Wm X w B 6 m σ0 (r_Z X w B tX8_stepThree (ZMV m σ0 (fun μ' => μ' = fThree n t μ))) 2 [(0, Value.ref (B + m)), (1, Value.long t), (3, Value.int z)] [] ν := by
        intro q z e
        unfold fThree1 at ihn
        rw [if_neg q] at ihn
        rw [e, nI_1]
        exact ihn
      refine u_X8_stepThree_2 C Ex ⟨fun c => absurd c (by rw [hν.n1]; exact nI_ge (by omega) (by omega)), fun _ => ⟨vp_in_nI (by omega) (by decide), ?_⟩⟩
      rw [nI_clampS (show i < 1000000 by omega)]
      refine ⟨fun c => skip (fun q => q.1 c), fun c => ⟨fun c2 => ?_, fun c2 => skip (fun q => c2 q.2)⟩⟩
      unfold fThree1 at ihn
      rw [if_pos ⟨c, c2⟩] at ihn
      have h0 := inner i (it (fThree2 t i) 0 n ν) (by omega) ihn n 0 (E + 30 * i) ν (by omega) hν (by omega) rfl
      rw [nI_0] at h0
      exact h0
  have h0 := key n 0 μ (by omega) h rfl
  rw [nI_0] at h0
  exact h0
theorem k_stepFour {t : Int64} (hn : okN n) (h : MI n E μ) : r_MV l w B m tX8_stepFour [.long t] μ (fun μ' => μ' = fFour n t μ) := by
  have hn6 := hn.2
  refine r_MV.of (by decide) (fun _ => Nat.le_of_ble_eq_true rfl) (fun X σ0 C Ex => ?_)
  refine u_X8_stepFour_0 C Ex ?_
  have key2 : ∀ (k i : Nat) (ν : Mu), i + k = n → MI n E ν → it (fFour2 t) i k ν = fFour n t μ → r_Wm X w B 5 m σ0 (r_Z X w B tX8_stepFour (ZMV m σ0 (fun μ' => μ' = fFour n t μ))) 175 [(0, Value.ref (B + m)), (1, Value.long t), (3, Value.int (nI i))] [] ν := by
    intro k
    induction k with
    | zero =>
      intro i ν hi hν hF
      have hi : i = n := by omega
      subst hi
      exact u_X8_stepFour_175 C Ex ⟨fun _ => hF, fun c => absurd (by rw [hν.n1]; exact nI_le (Nat.le_refl _) (by omega)) c⟩
    | succ k ih =>
      intro i ν hi hν hF
      have ihn := ih (i + 1) (fFour2 t i ν) (by omega) hν.four2 hF
      refine u_X8_stepFour_175 C Ex ⟨fun c => absurd c (by rw [hν.n1]; exact nI_ge (by omega) (by omega)), fun _ => ⟨vp_in_nI (by omega) (by decide), ?_⟩⟩
      rw [nI_clampS (show i < 1000000 by omega)]
      intro z5 e5 μ8 e8 z e
      rw [e, nI_1, e8, e5]
      exact ihn
  have key1 : ∀ (k i : Nat) (ν : Mu), i + k = n → MI n E ν → it (fFour1 n t) i k ν = it (fFour1 n t) 0 n μ → r_Wm X w B 5 m σ0 (r_Z X w B tX8_stepFour (ZMV m σ0 (fun μ' => μ' = fFour n t μ))) 2 [(0, Value.ref (B + m)), (1, Value.long t), (3, Value.int (nI i))] [] ν := by
    intro k
    induction k with
    | zero =>
      intro i ν hi hν hF
      have hi : i = n := by omega
      subst hi
      refine u_X8_stepFour_2 C Ex ⟨fun _ => ?_, fun c => absurd (by rw [hν.n1]; exact nI_le (Nat.le_refl _) (by omega)) c⟩
      have hF : ν = it (fFour1 i t) 0 i μ := hF
      have h0 := key2 i 0 ν (by omega) hν (by rw [hF]; rfl)
      rw [nI_0] at h0
      exact h0
    | succ k ih =>
      intro i ν hi hν hF
      have ci : (nI i).toNatClampNeg = i := nI_clampS (by omega)
      have vi : vp_in (nI i) 6 := vp_in_nI (by omega) (by decide)
      have ihn := ih (i + 1) (fFour1 n t i ν) (by omega) hν.four1 hF
      -- the second half
      have half : ∀ (z4 : Int32), z4 = (if fAny n ν i i t then 1 else 0) → ∀ ν' : Mu, ui ν' 31 i z4 = fFourA n t i ν → r_Wm X w B 5 m σ0 (r_Z X w B tX8_stepFour (ZMV m σ0 (fun μ' => μ' = fFour n t μ))) 58 [(0, Value.ref (B + m)), (1, Value.long t), (3, Value.int (nI i)), (4, Value.int z4)] [] ν' := by
        intro z4 e4 ν' eA
        have h4 : z4 = 0 ↔ fAny n ν i i t = false := by rw [e4]; cases fAny n ν i i t <;> simp
        refine u_X8_stepFour_58 C Ex ⟨vi, by rw [e4]; exact ite10 _, fun μ3 e3 => ⟨_, k_sends (by omega), fun z13 μ11 q => ?_⟩⟩
        rw [ci] at e3
        obtain ⟨rfl, e13⟩ := q
        have h13 : z13 = 0 ↔ fSends μ11 i t = false := by rw [e13]; cases fSends μ11 i t <;> simp
        have hA : μ11 = fFourA n t i ν := by rw [e3]; exact eA
        unfold fFour1 at ihn
        rw [← hA] at ihn
        rw [ci]
        have zero : ¬ (fSends μ11 i t = false ∧ fAny n ν i i t = false ∧ μ11.2 23 i < 0 ∧ μ11.2 26 i < 0 ∧ ¬ t < μ11.2 22 i) → ∀ μ21 : Mu, μ21 = ui μ11 20 i 0 → ∀ z : Int32, z = nI i + 1 → r_Wm X w B 5 m σ0 (r_Z X w B tX8_stepFour (ZMV m σ0 (fun μ' => μ' = fFour n t μ))) 2 [(0, Value.ref (B + m)), (1, Value.long t), (3, Value.int z)] [] μ21 := by
          intro q μ21 e21 z e
          unfold fFourB at ihn
          rw [if_neg q] at ihn
          rw [e, nI_1, e21]
          exact ihn
        refine ⟨fun q0 => ⟨fun q1 => ⟨fun q2 => zero (fun q => Int64.not_lt.mpr q2 q.2.2.1), fun q2 => ⟨fun q3 => zero (fun q => Int64.not_lt.mpr q3 q.2.2.2.1), fun q3 => ⟨fun q4 => zero (fun q => q.2.2.2.2 q4), fun q4 μ47 e47 => ?_⟩⟩⟩, fun q1 => zero (fun q => q1 (h4.mpr q.2.1))⟩, fun q0 => zero (fun q => q0 (h13.mpr q.1))⟩
        unfold fFourB at ihn
        rw [if_pos ⟨h13.mp q0, h4.mp q1, Int64.not_le.mp q2, Int64.not_le.mp q3, q4⟩] at ihn
        have g20 : μ47.1 20 i = μ11.1 20 i + 1 := by rw [e47]; simp [ui]
        have g21 : μ47.1 21 i = μ11.1 21 i := by rw [e47]; simp [ui]
        have g19 : μ47.1 19 i = μ11.1 19 i := by rw [e47]; simp [ui]
        rw [g20, g21, g19]
        refine ⟨fun q5 z e => ?_, fun q5 => ⟨fun q6 z e => ?_, fun q6 μ59 e59 z e => ?_⟩⟩
        · rw [if_pos (Or.inl q5)] at ihn
          rw [e, nI_1, e47]
          exact ihn
        · rw [if_pos (Or.inr q6)] at ihn
          rw [e, nI_1, e47]
          exact ihn
        · rw [if_neg (fun q => q.elim q5 q6)] at ihn
          rw [e, nI_1, e59, e47]
          exact ihn
      refine u_X8_stepFour_2 C Ex ⟨fun c => absurd c (by rw [hν.n1]; exact nI_ge (by omega) (by omega)), fun _ => ⟨_, k_any hn6 (by omega) (by omega) hν.n1, fun z6 μ4 q => ?_⟩⟩
      obtain ⟨rfl, e6⟩ := q
      have h6 : z6 = 0 ↔ fAny n μ4 i i t = false := by rw [e6]; cases fAny n μ4 i i t <;> simp
      rw [ci]
      refine ⟨fun c => ⟨vi, fun c2 => half z6 e6 μ4 ?_, fun c2 z16 e16 μ19 e19 => half z6 e6 μ19 ?_⟩, fun c => half z6 e6 μ4 ?_⟩
      · unfold fFourA
        rw [if_neg (fun q => q.2 c2), e6]
      · unfold fFourA
        rw [if_pos ⟨h6.mp c, c2⟩, e6, e19, e16]
      · unfold fFourA
        rw [if_neg (fun q => c (h6.mpr q.1)), e6]
  have h0 := key1 n 0 μ (by omega) h rfl
  rw [nI_0] at h0
  exact h0
end MF9
