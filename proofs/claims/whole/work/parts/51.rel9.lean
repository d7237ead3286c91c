/-! beginFrames -/
def knd (ν : Mu) (j : Nat) : Bool := !decide (ν.1 37 j = 0)
def SN (i : Nat) (ν : Mu) : Int32 := nI (mkM i (knd ν))
theorem mkM_congr {f g : Nat → Bool} : ∀ {i : Nat}, (∀ j, j < i → f j = g j) → mkM i f = mkM i g
  | 0, _ => rfl
  | i + 1, h => by
    simp only [mkM]
    rw [mkM_congr (fun j hj => h j (by omega)), h i (by omega)]
theorem nI_or {a b : Nat} (ha : a < 2 ^ 31) (hb : b < 2 ^ 31) : nI a ||| nI b = nI (a ||| b) := by
  have hab : a ||| b < 2 ^ 31 := Nat.or_lt_two_pow ha hb
  apply Int32.toBitVec_inj.mp
  apply BitVec.eq_of_toNat_eq
  rw [Int32.toBitVec_or, BitVec.toNat_or, pk_tn (by omega), pk_tn (by omega), pk_tn (by omega)]
theorem nI_and {a b : Nat} (ha : a < 2 ^ 31) (hb : b < 2 ^ 31) : nI a &&& nI b = nI (a &&& b) := by
  have hab : a &&& b < 2 ^ 31 := Nat.lt_of_le_of_lt Nat.and_le_left ha
  apply Int32.toBitVec_inj.mp
  apply BitVec.eq_of_toNat_eq
  rw [Int32.toBitVec_and, BitVec.toNat_and, pk_tn (by omega), pk_tn (by omega), pk_tn (by omega)]
theorem nI_xor {a b : Nat} (ha : a < 2 ^ 31) (hb : b < 2 ^ 31) : nI a ^^^ nI b = nI (a ^^^ b) := by
  have hab : a ^^^ b < 2 ^ 31 := Nat.xor_lt_two_pow ha hb
  apply Int32.toBitVec_inj.mp
  apply BitVec.eq_of_toNat_eq
  rw [Int32.toBitVec_xor, BitVec.toNat_xor, pk_tn (by omega), pk_tn (by omega), pk_tn (by omega)]
theorem pw6 {i : Nat} (h : i ≤ 6) : 2 ^ i ≤ 64 := by
  have : 2 ^ i ≤ 2 ^ 6 := Nat.pow_le_pow_right (by omega) h
  omega
section RA1
variable {n T s E : Nat} {μ : Mu} {t : Int64}
theorem o37_fail {j : Nat} : (fFail s t μ).1 37 j = μ.1 37 j := by
  rw [fFail_eq]
  have h0 : (fFail0 s t μ).1 37 j = μ.1 37 j := by
    unfold fFail0
    split
    · rfl
    · show (fTell _ _ _ _).1 37 j = _
      rw [fTell_1 (by decide)]
      rfl
  unfold fKeepDraw
  split
  · exact h0
  · exact h0
theorem o37_one1 {j : Nat} (hj : j ≠ s) : (fOne1 n t s μ).1 37 j = μ.1 37 j := by
  unfold fOne1 fOneB
  generalize hν : (if μ.2 23 s = t then fFail s t μ else μ) = ν
  have h1 : ν.1 37 j = μ.1 37 j := by
    rw [← hν]
    split
    · exact o37_fail
    · rfl
  have hb : ∀ (a b c d : Int32) (ρ : Mu), (fBegin n s a b c d t ρ).1 37 j = ρ.1 37 j := fun a b c d ρ => by
    rw [fBegin_eq]
    show (if 37 = 37 ∧ j = s then a else ρ.1 37 j) = _
    rw [if_neg (fun q => hj q.2)]
  split
  · rw [hb]; exact h1
  · split
    · unfold fAttempt
      rw [hb]
      exact h1
    · exact h1
end RA1
section RA2
variable {l : Launch} {w : r_V} {B : Nat} {n T s E : Nat} {S : Int32} {d m : Nat → Nat} {e : Nat → Bool} {κ κ' : Ku} {μ μ' : Mu}
theorem R.np (hTb : T + 100 < 2 ^ 31) (h : R n T S d m e 1 n κ μ) (hs : s < n) (hw : μ.2 23 s = -1 ∨ μ.2 23 s = lN T) : NP n T 1 (view μ) s := by
  refine ⟨fun i hi a q1 q2 q3 q4 => ?_, fun i hi a q1 q2 q3 q4 q5 => ?_⟩
  · obtain ⟨dO, sO, -, -, -, ⟨L, -, hD⟩, -⟩ := h.ptr hi
    rcases hD with ⟨q, -⟩ | ⟨a', z, r, x1, x2, x3, -⟩
    · exact absurd (q1.symm.trans q) (lN_m1 (by omega))
    · have ha : a = a' := (lN_ne (by omega) (by omega)).mp (q1.symm.trans x1)
      rcases h.ad i hi a s q1 q2 q3 hs q4 with q | q
      · have q := q.1
        have q : μ.2 23 s = lN (a + 2) := q
        rcases hw with hw | hw
        · exact lN_m1 (by omega) (q.symm.trans hw)
        · have := (lN_ne (by omega) (by omega)).mp (q.symm.trans hw)
          omega
      · omega
  · have q := (h.as i hi a s q1 q2 q3 q4 hs q5).1
    have q : μ.2 23 s = lN (a + 2) := q
    rcases hw with hw | hw
    · exact lN_m1 (by omega) (q.symm.trans hw)
    · have := (lN_ne (by omega) (by omega)).mp (q.symm.trans hw)
      omega
theorem R.setS (h : R n T S d m e 1 n κ μ) {S' : Int32} : R n T S' d m e 1 n (ki κ 1 8 S') μ := by
  refine h.low (as := [1]) Ag.ii (by simp) h.co (fun _ _ => rfl) ?_
  obtain ⟨⟨a1, a2, a3, a4, a5, a6, a7, a8, a9⟩, b⟩ := h.gl
  exact ⟨⟨a1, a2, a3, rfl, a5, a6, a7, a8, a9⟩, b⟩
theorem Gr.tl1 (h : Gr n κ κ') {k : Nat} {x : Int32} (hn : okN n) : Gr n κ (ki κ' 1 k x) := h.i (by have := hn.1; unfold mOf; omega)
/-- nothing begins -/
theorem R.pass (h : R n T S d m e 1 n κ μ) (hTb : T + 100 < 2 ^ 31) (hs : s < n) (hd : d s = 0) (hw : ¬ μ.2 23 s = lN T) (hdu : ¬ μ.2 26 s = lN T) {d' : Nat → Nat} (hd1 : d' s = 1) (hd2 : ∀ i, i ≠ s → d' i = d i) : R n T S d' m e 1 n κ μ := by
  refine ⟨h.co, h.gl, fun i hi => ?_, h.ad, h.as⟩
  by_cases hi' : i = s
  · subst hi'
    rw [hd1]
    have hr := h.rel i hi
    rw [hd] at hr
    obtain ⟨hO, hW, hB, hK, hTr, hL, dO, sO, hds, p1, p2, ⟨L, hRL, hD⟩, hS⟩ := hr
    refine ⟨hO, ?_, hB, hK, hTr, hL, dO, sO, hds, p1, p2, ⟨L, hRL, ?_⟩, hS⟩
    · rcases hW with hW | ⟨a, w1, w2, w3, w4⟩
      · exact Or.inl hW
      · refine Or.inr ⟨a, w1, ?_, w3, w4⟩
        have : a ≠ T := fun q => hw (by rw [← q]; exact w1)
        omega
    · rcases hD with hD | ⟨a, z, r, d1, d2, d3, d4⟩
      · exact Or.inl hD
      · refine Or.inr ⟨a, z, r, d1, ?_, d3, d4⟩
        have : a ≠ T := fun q => hdu (by rw [← q]; exact d1)
        omega
  · rw [hd2 i hi']
    exact h.rel i hi
theorem knd0 {ν : Mu} {j : Nat} : knd ν j = false ↔ ν.1 37 j = 0 := by simp [knd]
theorem m1_neg {x : Int64} (h : x = -1) : x < 0 := by subst h; decide
theorem lN_nneg {a : Nat} (h : a < 2 ^ 31) : ¬ lN a < 0 := fun q => by
  have := (pk_lLT (a := a) (b := 0) (by omega) (by omega)).mp q
  omega
theorem c_beginFrames (hn : okN n) (h : R n T S (fun _ => 0) (fun _ => 0) (fun _ => false) 1 n κ μ) (hM : MI n E μ) (hE : E + n < 2 ^ 30) (hTb : T + 100 < 2 ^ 31) : r_KV l w B n tX7_beginFrames [.ref (B + 1)] κ (fun κ' => R n T (SN n (fOne n (lN T) μ)) (fun _ => 1) (fun _ => 0) (fun _ => false) 1 n κ' (fOne n (lN T) μ)) := by
  have hn6 := hn.2
  refine r_enter (by decide) (Nat.le_of_ble_eq_true rfl) (fun X C Ex => ?_)
  refine v_X7_beginFrames_0 C Ex hn h.co Gr.rf (fun κ1 e1 z5 e5 => ?_)
  rw [e5]
  have key : ∀ (k i : Nat) (κ9 : Ku) (ν : Mu), i + k = n → Gr n κ κ9 → R n T (SN i ν) (fun j => if j < i then 1 else 0) (fun _ => 0) (fun _ => false) 1 n κ9 ν → MI n (E + i) ν → it (fOne1 n (lN T)) i k ν = fOne n (lN T) μ → r_W X w B 5 0 0 (r_Z X w B tX7_beginFrames (ZKV n κ (fun κ' => R n T (SN n (fOne n (lN T) μ)) (fun _ => 1) (fun _ => 0) (fun _ => false) 1 n κ' (fOne n (lN T) μ)))) 15 [(0, Value.ref (B + 1)), (1, Value.ref (B + 21)), (2, Value.int (nI n)), (3, Value.int (nI i))] [] (shp n, κ9) := by
    intro k
    induction k with
    | zero =>
      intro i κ9 ν hi hG hR hν hF
      have hi : i = n := by omega
      subst hi
      have hF : ν = fOne i (lN T) μ := hF
      refine v_X7_beginFrames_15 C Ex hn hR.co hG ⟨fun _ => ?_, fun c => absurd (nI_le (Nat.le_refl _) (by omega)) c⟩
      rw [← hF]
      refine ⟨hR.co, hR.gl, fun j hj => ?_, hR.ad, hR.as⟩
      have := hR.rel j hj
      rw [if_pos hj] at this
      exact this
    | succ k ih =>
      intro i κ9 ν hi hG hR hν hF
      have hs : i < n := by omega
      have hat := at_st hn hs
      have hbm : 22 + 14 * i + 13 < mOf n := (at_stat hn hat).2.2.2.2.2.1
      have ht0 : (0 : Int64) ≤ lN T := (pk_lLE (a := 0) (by omega) (by omega)).mpr (Nat.zero_le _)
      have ihn := fun κ' hG' hR' => ih (i + 1) κ' (fOne1 n (lN T) i ν) (by omega) hG' hR' (hν.one1 hs ht0) hF
      have dnew : ∀ j, j ≠ i → (if j < i + 1 then 1 else 0) = (if j < i then 1 else (0 : Nat)) := fun j hj => by
        by_cases q : j < i
        · rw [if_pos q, if_pos (by omega)]
        · rw [if_neg q, if_neg (by omega)]
      -- behind the beginning: the senders
      have c102 : ∀ κ8 : Ku, Gr n κ κ8 → R n T (SN i ν) (fun j => if j < i + 1 then 1 else 0) (fun _ => 0) (fun _ => false) 1 n κ8 (fOne1 n (lN T) i ν) → r_W X w B 5 0 0 (r_Z X w B tX7_beginFrames (ZKV n κ (fun κ' => R n T (SN n (fOne n (lN T) μ)) (fun _ => 1) (fun _ => 0) (fun _ => false) 1 n κ' (fOne n (lN T) μ)))) 102 [(0, Value.ref (B + 1)), (1, Value.ref (B + 21)), (2, Value.int (nI n)), (3, Value.int (nI i)), (4, Value.ref (B + (22 + 14 * i)))] [] (shp n, κ8) := by
        intro κ8 hG8 hR8
        obtain ⟨dO, sO, hds, p1, p2, -, ⟨L, -, hk, -⟩⟩ := hR8.ptr hs
        have hk : κ8.1 (22 + 14 * i + sO) 0 = (fOne1 n (lN T) i ν).1 37 i := by
          have q : (blk κ8 i).1 sO 0 = κ8.1 (22 + 14 * i + sO) 0 := if_pos (by omega)
          rw [← q]
          exact hk
        have hsame : mkM i (knd (fOne1 n (lN T) i ν)) = mkM i (knd ν) := mkM_congr (fun j hj => by unfold knd; rw [o37_one1 (by omega)])
        refine v_X7_beginFrames_102 C Ex hn hR8.co hG8 hat ?_
        rw [p2, hk]
        refine ⟨fun c z e => ?_, fun c κ4 e4 z e => ?_⟩
        · rw [e, nI_1]
          have eS : SN (i + 1) (fOne1 n (lN T) i ν) = SN i ν := by
            unfold SN
            simp only [mkM]
            rw [hsame, knd0.mpr c]
            simp
          exact ihn κ8 hG8 (by rw [eS]; exact hR8)
        · rw [e, nI_1]
          have hS8 : κ8.1 1 8 = SN i ν := hR8.gl.pays.2.2.2.2.2.2.2.2
          have hb8 := (hR8.stat hs).2.1
          have eS : SN (i + 1) (fOne1 n (lN T) i ν) = κ8.1 1 8 ||| κ8.1 (22 + 14 * i) 1 := by
            have hk1 : knd (fOne1 n (lN T) i ν) i = true := by
              by_cases q : knd (fOne1 n (lN T) i ν) i = true
              · exact q
              · exact absurd (knd0.mp (by simpa using q)) c
            rw [hS8, hb8]
            unfold SN
            simp only [mkM]
            rw [hsame, hk1, nI_or (by have := mkM_lt (f := knd ν) (n := i); have := pw6 (i := i) (by omega); omega) (by have := pw6 (i := i) (by omega); omega)]
            rfl
          rw [← eS] at e4
          rw [e4]
          exact ihn _ (hG8.tl1 hn) (by
            have := hR8.setS (S' := SN (i + 1) (fOne1 n (lN T) i ν))
            exact this)
      -- the second half, from a state that has not failed any more
      have half : ∀ (κ7 : Ku) (ρ : Mu), Gr n κ κ7 → R n T (SN i ν) (fun j => if j < i then 1 else 0) (fun _ => 0) (fun _ => false) 1 n κ7 ρ → MI n (E + i + 1) ρ → ¬ ρ.2 23 i = lN T → fOneB n (lN T) i ρ = fOne1 n (lN T) i ν → r_W X w B 5 0 0 (r_Z X w B tX7_beginFrames (ZKV n κ (fun κ' => R n T (SN n (fOne n (lN T) μ)) (fun _ => 1) (fun _ => 0) (fun _ => false) 1 n κ' (fOne n (lN T) μ)))) 52 [(0, Value.ref (B + 1)), (1, Value.ref (B + 21)), (2, Value.int (nI n)), (3, Value.int (nI i)), (4, Value.ref (B + (22 + 14 * i)))] [] (shp n, κ7) := by
        intro κ7 ρ hG7 hR7 hρ hnw hF7
        obtain ⟨dO, sO, hds, p1, p2, ⟨L, -, hD⟩, ⟨L2, -, hk, hS⟩⟩ := hR7.ptr hs
        have ht := hR7.gl.time
        have c1 : ∀ k, (blk κ7 i).1 dO k = κ7.1 (22 + 14 * i + dO) k := fun k => if_pos (by omega)
        have hk : κ7.1 (22 + 14 * i + sO) 0 = ρ.1 37 i := by
          have q : (blk κ7 i).1 sO 0 = κ7.1 (22 + 14 * i + sO) 0 := if_pos (by omega)
          rw [← q]
          exact hk
        have c12 : (blk κ7 i).2.1 0 12 = κ7.2.1 (22 + 14 * i) 12 := rfl
        -- no due frame begins
        have no : ¬ ρ.2 26 i = lN T → r_W X w B 5 0 0 (r_Z X w B tX7_beginFrames (ZKV n κ (fun κ' => R n T (SN n (fOne n (lN T) μ)) (fun _ => 1) (fun _ => 0) (fun _ => false) 1 n κ' (fOne n (lN T) μ)))) 84 [(0, Value.ref (B + 1)), (1, Value.ref (B + 21)), (2, Value.int (nI n)), (3, Value.int (nI i)), (4, Value.ref (B + (22 + 14 * i)))] [] (shp n, κ7) := by
          intro hnd
          unfold fOneB at hF7
          rw [if_neg hnd] at hF7
          obtain ⟨s0, s1, s2, s3, s4, s5, s6, s7, s8, s9, s10, a22, e22, h22⟩ := hR7.stat hs
          obtain ⟨hO, hW, -⟩ := hR7.rel i hs
          have hkl := kept_le hR7 hn hs
          have w23 : κ7.1 (22 + 14 * i) 9 = 0 ↔ ρ.2 23 i < 0 := by
            rcases hW with ⟨w1, w2⟩ | ⟨a, w1, w2, w3, w4, w5, -⟩
            · exact ⟨fun _ => m1_neg w1, fun _ => w2⟩
            · have w1 : ρ.2 23 i = lN a := w1
              have w4 : κ7.1 (22 + 14 * i) 9 = ρ.1 25 i := w4
              have w5 : ρ.1 25 i = 2 ∨ ρ.1 25 i = 4 := w5
              refine ⟨fun q => ?_, fun q => absurd q (by rw [w1]; exact lN_nneg (by omega))⟩
              rw [w4] at q
              rcases w5 with w5 | w5 <;> (rw [w5] at q; exact absurd q (by decide))
          have w26 : κ7.1 (22 + 14 * i + dO) 0 = 0 ↔ ρ.2 26 i < 0 := by
            rw [← c1]
            rcases hD with ⟨w1, w2⟩ | ⟨a, z, r, w1, w2, w3, w4, w5, w6, -⟩
            · exact ⟨fun _ => m1_neg w1, fun _ => w2⟩
            · have w1 : ρ.2 26 i = lN a := w1
              have w6 : ρ.1 27 i = 2 ∨ ρ.1 27 i = 3 ∨ ρ.1 27 i = 4 := w6
              refine ⟨fun q => ?_, fun q => absurd q (by rw [w1]; exact lN_nneg (by omega))⟩
              rw [w5] at q
              have q : ρ.1 27 i = 0 := q
              rcases w6 with w6 | w6 | w6 <;> (rw [w6] at q; exact absurd q (by decide))
          have wsn : ρ.1 37 i = 0 ↔ fSends ρ i (lN T) = false := by
            unfold fSends
            rcases hS with w1 | ⟨a, b, z, r, x1, x2, x3, x4, x5, x6, -⟩
            · have w1 : ρ.1 37 i = 0 := w1
              rw [w1]; simp
            · have x1 : ρ.1 37 i = 1 ∨ ρ.1 37 i = 2 ∨ ρ.1 37 i = 3 ∨ ρ.1 37 i = 4 := x1
              have x2 : ρ.2 39 i = lN a := x2
              have x3 : ρ.2 40 i = lN b := x3
              have y1 : ¬ lN T < lN a := fun q => by have := (lN_lt (by omega) (by omega)).mp q; omega
              have y2 : ¬ lN b < lN T := fun q => by have := (lN_lt (by omega) (by omega)).mp q; omega
              rw [x2, x3, decide_eq_false y1, decide_eq_false y2]
              rcases x1 with x | x | x | x <;> rw [x] <;> decide
          have may : (κ7.1 (κ7.2.2 (22 + 14 * i) 14) 0 = 0 ∧ κ7.1 (22 + 14 * i) 9 = 0 ∧ κ7.1 (κ7.2.2 (22 + 14 * i) 13) 0 = 0 ∧ ¬ κ7.1 (22 + 14 * i + 1) 1 ≤ 0 ∧ κ7.1 (22 + 14 * i) 5 = 0 ∧ ¬ κ7.1 (22 + 14 * i) 6 < κ7.1 (22 + 14 * i) 7 ∧ ¬ κ7.2.1 1 7 < κ7.2.1 (22 + 14 * i) 8) ↔ fMay ρ i (lN T) = true := by
            unfold fMay
            simp only [Bool.and_eq_true, Bool.not_eq_true', decide_eq_true_eq, decide_eq_false_iff_not]
            rw [p1, p2, hk, w23, w26, hkl, s5, s6, s7, s9, ht.1, wsn, kc_eq, List.length_eq_zero_iff]
          refine v_X7_beginFrames_84 C Ex hn hR7.co hG7 hat ⟨_, s_St_may hn hR7.co hat, fun z κ3 q => ?_⟩
          obtain ⟨rfl, q01, qz⟩ := q
          rw [may] at qz
          by_cases hm : fMay ρ i (lN T) = true
          · rw [if_pos hm] at hF7
            have hz : z = 1 := qz.mpr hm
            refine ⟨fun c => absurd (hz.symm.trans c) (by decide), fun _ => ?_⟩
            have hm' := hm
            simp only [fMay, Bool.and_eq_true, Bool.not_eq_true', decide_eq_true_eq, decide_eq_false_iff_not] at hm'
            obtain ⟨-, m2, m3, m4, -⟩ := hm'
            have m2' : ρ.2 23 i = -1 := by
              rcases hW with ⟨w1, -⟩ | ⟨a, w1, w2, w3, -⟩
              · exact w1
              · have w1 : ρ.2 23 i = lN a := w1
                rw [w1] at m2
                exact absurd m2 (lN_nneg (by omega))
            have m3' : ρ.2 26 i = -1 := by
              rcases hD with ⟨w1, -⟩ | ⟨a, z, r, w1, w2, w3, -⟩
              · exact w1
              · have w1 : ρ.2 26 i = lN a := w1
                rw [w1] at m3
                exact absurd m3 (lN_nneg (by omega))
            refine ⟨_, (c_beginAttempt (d' := fun j => if j < i + 1 then 1 else 0) hn hR7 hρ hs hTb (by simp) rfl rfl m2' m3' m4 (hR7.np hTb hs (Or.inl m2')) (by simp) dnew).full, fun κ13 q => ?_⟩
            obtain ⟨g1, -, g3⟩ := q
            rw [hF7] at g3
            exact c102 κ13 (hG7.trans g1) g3
          · rw [if_neg hm] at hF7
            have hz : z = 0 := q01.resolve_right (fun q => hm (qz.mp q))
            refine ⟨fun _ => c102 _ hG7 ?_, fun c => absurd hz c⟩
            rw [← hF7]
            exact hR7.pass hTb hs (by simp) hnw hnd (by simp) dnew
        refine v_X7_beginFrames_52 C Ex hn hR7.co hG7 hat ?_
        rw [p1, ht.1]
        rcases hD with ⟨w1, w2⟩ | ⟨a, z, r, w1, w2, w3, w4, w5, w6, -⟩
        · have w1 : ρ.2 26 i = -1 := w1
          have w2 : κ7.1 (22 + 14 * i + dO) 0 = 0 := by rw [← c1]; exact w2
          exact ⟨fun _ => no (by rw [w1]; exact fun q => lN_m1 (by omega) q.symm), fun c => absurd w2 c⟩
        · have w1 : ρ.2 26 i = lN a := w1
          have w4 : κ7.2.1 (22 + 14 * i) 12 = lN a := by rw [← c12, w4]; exact w1
          have w6 : ρ.1 27 i = 2 ∨ ρ.1 27 i = 3 ∨ ρ.1 27 i = 4 := w6
          have w5 : κ7.1 (22 + 14 * i + dO) 0 = ρ.1 27 i := by rw [← c1]; exact w5
          have hne : ¬ κ7.1 (22 + 14 * i + dO) 0 = 0 := by
            rw [w5]
            rcases w6 with w6 | w6 | w6 <;> rw [w6] <;> decide
          refine ⟨fun c => absurd c hne, fun _ => ?_⟩
          rw [w4]
          by_cases ha : a = T
          · subst ha
            refine ⟨fun c => absurd ((lN_lt (by omega) (by omega)).mp c) (by omega), fun _ => ?_⟩
            unfold fOneB at hF7
            rw [if_pos w1] at hF7
            obtain ⟨b1, b2, b3⟩ := hR7.beginDue hn hρ hs (by omega) (by simp) rfl rfl w1 hnw (d' := fun j => if j < i + 1 then 1 else 0) (by simp) dnew
            refine ⟨_, (s_St_beginDue hn hR7.co hat b1 b2).full, fun κ5 q => ?_⟩
            obtain ⟨g1, -, g3⟩ := q
            rw [hF7] at b3
            rw [← g3] at b3
            exact c102 κ5 (hG7.trans g1) b3
          · refine ⟨fun _ => no (by rw [w1]; exact fun q => ha ((lN_ne (by omega) (by omega)).mp q)), fun c => absurd ((lN_lt (by omega) (by omega)).mpr (by omega)) c⟩
      -- the first half
      have ht := hR.gl.time
      obtain ⟨-, hW, -⟩ := hR.rel i hs
      refine v_X7_beginFrames_15 C Ex hn hR.co hG ⟨fun c => absurd c (nI_ge (by omega) (by omega)), fun _ => ⟨vp_in_nI hs (by omega), fun b4 eb4 => ?_⟩⟩
      rw [nI_clampS (by omega)] at eb4
      subst eb4
      rw [ht.1]
      rcases hW with ⟨w1, w2⟩ | ⟨a, w1, w2, w3, w4, w5, w6, w7⟩
      · have w1 : ν.2 23 i = -1 := w1
        have w2 : κ9.1 (22 + 14 * i) 9 = 0 := w2
        have hnw : ¬ ν.2 23 i = lN T := by rw [w1]; exact fun q => lN_m1 (by omega) q.symm
        refine ⟨fun _ => half κ9 ν hG hR (hν.up (by omega)) hnw ?_, fun c => absurd w2 c⟩
        unfold fOne1
        rw [if_neg hnw]
      · have w1 : ν.2 23 i = lN a := w1
        have w4 : κ9.1 (22 + 14 * i) 9 = ν.1 25 i := w4
        have w5 : ν.1 25 i = 2 ∨ ν.1 25 i = 4 := w5
        have w7 : κ9.2.1 (22 + 14 * i) 11 = lN a := w1 ▸ w7
        have hne : ¬ κ9.1 (22 + 14 * i) 9 = 0 := by
          rw [w4]
          rcases w5 with w5 | w5 <;> rw [w5] <;> decide
        refine ⟨fun c => absurd c hne, fun _ => ?_⟩
        rw [w7]
        by_cases ha : a = T
        · subst ha
          refine ⟨fun c => absurd ((lN_lt (by omega) (by omega)).mp c) (by omega), fun _ => ⟨_, (c_fail hn hs hR hν (by omega) (hR.np hTb hs (Or.inr w1))).full, fun κ11 q => ?_⟩⟩
          obtain ⟨g1, -, g3, -⟩ := q
          refine half κ11 (fFail i (lN a) ν) (hG.trans g1) g3 (hν.fail hs) ?_ ?_
          · have hr := g3.rel i hs
            obtain ⟨-, hW', -⟩ := hr
            have e23 : (fFail i (lN a) ν).2 23 i = -1 := by
              rw [fFail_eq]
              have h0 : (fFail0 i (lN a) ν).2 23 i = -1 := by
                unfold fFail0
                split
                · simp [ui, ul]
                · show (fTell _ _ _ _).2 23 i = _
                  rw [fTell_2 (by decide)]
                  simp [ui, ul]
              unfold fKeepDraw
              split
              · exact h0
              · exact h0
            rw [e23]
            exact fun q => lN_m1 (by omega) q.symm
          · unfold fOne1
            rw [if_pos w1]
        · have hnw : ¬ ν.2 23 i = lN T := by rw [w1]; exact fun q => ha ((lN_ne (by omega) (by omega)).mp q)
          refine ⟨fun _ => half κ9 ν hG hR (hν.up (by omega)) hnw ?_, fun c => absurd ((lN_lt (by omega) (by omega)).mpr (by omega)) c⟩
          unfold fOne1
          rw [if_neg hnw]
  have hR0 : R n T (SN 0 μ) (fun j => if j < 0 then 1 else 0) (fun _ => 0) (fun _ => false) 1 n κ1 μ := by
    rw [e1]
    exact h.setS (S' := SN 0 μ)
  have h0 := key n 0 κ1 μ (by omega) (by rw [e1]; exact Gr.rf.tl1 hn) hR0 hM rfl
  rw [nI_0] at h0
  exact h0
end RA2
