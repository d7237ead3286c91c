/-! a slot, and run -/
def RR (n T : Nat) (κ : Ku) (μ : Mu) : Prop := ∃ S : Int32, R n T S (fun _ => 0) (fun _ => 0) (fun _ => false) 1 n κ μ
section RL
variable {l : Launch} {w : r_V} {B : Nat} {n T s r E lim cur : Nat} {S : Int32} {d m : Nat → Nat} {e : Nat → Bool} {κ κ' : Ku} {μ μ' ν : Mu}
theorem R.th (h : R n T S d m e lim cur κ μ) : R n T S d m e lim cur κ (thr μ) := by
  refine h.low (as := []) (κ' := κ) (μ' := thr μ) (fun _ _ => ⟨rfl, rfl, rfl⟩) (by simp) h.co (fun i hi => view_lo (by omega) (by omega) (by omega) (by omega) (by omega)) ?_
  have : gmo (thr μ) = gmo μ := gmo_ui (by omega)
  rw [this]
  exact h.gl
theorem two_1 {t : Int64} : (fTwo n t μ).1 = μ.1 := it_inv (f := fTwo1 n t) (hi := n) (P := fun _ (ν : Mu) => ν.1 = μ.1) (fun i ν _ q => by
    unfold fTwo1
    split
    · exact it_inv (f := fTwo2 n t i) (hi := n) (P := fun _ (ν : Mu) => ν.1 = μ.1) (fun _ _ _ q => q) n 0 ν (by omega) q
    · exact q) n 0 μ (by omega) rfl
theorem four1_all : ∀ k, (∀ g j, g ≠ 19 ∧ g ≠ 20 ∧ g ≠ 21 ∧ g ≠ 31 → (it (fFour1 n (lN T)) 0 k μ).1 g j = μ.1 g j) ∧ (it (fFour1 n (lN T)) 0 k μ).2 = μ.2
  | 0 => ⟨fun _ _ _ => rfl, rfl⟩
  | k + 1 => by
    obtain ⟨h1, h2⟩ := four1_all k
    rw [it_snoc]
    exact ⟨fun g j hg => (four1_1 hg).trans (h1 g j hg), four1_2.trans h2⟩
theorem c_run {x : Int32} (hn : okN n) (h : RR n T κ μ) (hM : MI n E μ) (hT2 : T + 2200 < 2 ^ 31) (hE : E + 400400 < 2 ^ 30) : r_KI l w B n tX7_run [.ref (B + 1), .int x] κ (fun z κ' => z = (aRun n x μ).1 ∧ ∃ T', T' ≤ T + 2000 ∧ RR n T' κ' (aRun n x μ).2) := by
  have hn6 := hn.2
  obtain ⟨S, h⟩ := h
  refine r_enter (by decide) (Nat.le_of_ble_eq_true rfl) (fun X C Ex => ?_)
  unfold aRun
  have hB : RR n T κ (thr μ) := ⟨S, h.th⟩
  refine v_X7_run_0 C Ex hn h.co Gr.rf ⟨fun c => ?_, fun c => ⟨fun c2 z3 e3 => ?_, fun c2 => ?_⟩⟩
  · rw [if_pos (Or.inl c)]; exact ⟨rfl, T, by omega, hB⟩
  · rw [if_neg (fun q => q.elim c (fun q => q c2))]
    obtain ⟨k, hk, rfl⟩ := nI_of2 (M := 2000) (n := 2000) rfl (fun q => c (Int32.lt_trans q (by decide))) c2
    have e3' : z3 = μ.1 0 21 := by rw [e3]; exact h.gl.1.2.2.2.2.2.2.2.2
    rw [nI_clampS (by omega), e3']
    have key : ∀ (j i : Nat) (κ9 : Ku) (ν : Mu), i + j = k → Gr n κ κ9 → RR n (T + i) κ9 ν → MI n (E + 200 * i) ν → it (fun _ μ => fSlot n μ) i j ν = fRun n k (thr μ) → r_W X w B 4 0 0 (r_Z X w B tX7_run (ZKI n κ (fun z κ' => z = (fRun n k (thr μ)).1 0 21 - μ.1 0 21 ∧ ∃ T', T' ≤ T + 2000 ∧ RR n T' κ' (fRun n k (thr μ))))) 25 [(0, Value.ref (B + 1)), (1, Value.int (nI k)), (2, Value.int (μ.1 0 21)), (3, Value.int (nI i))] [] (shp n, κ9) := by
      intro j
      induction j with
      | zero =>
        intro i κ9 ν hi hG hR hν hF
        have hF : ν = fRun n k (thr μ) := hF
        obtain ⟨S9, h9⟩ := hR
        have e15 : κ9.1 15 3 = ν.1 0 21 := h9.gl.1.2.2.2.2.2.2.2.2
        refine v_X7_run_25 C Ex hn h9.co hG ⟨fun _ => ⟨by rw [e15, hF], T + i, by omega, by rw [← hF]; exact ⟨S9, h9⟩⟩, fun c => absurd (nI_le (by omega) (by omega)) c⟩
      | succ j ih =>
        intro i κ9 ν hi hG hR hν hF
        obtain ⟨S9, h9⟩ := hR
        have hTb : T + i + 100 < 2 ^ 31 := by omega
        have ht : ν.2 0 2 = lN (T + i) := h9.gl.time.2
        have h0 : 0 ≤ ν.2 0 2 := by
          rw [ht]
          exact (pk_lLE (a := 0) (by omega) (by omega)).mpr (Nat.zero_le _)
        have hs := hν.slot hn h0
        rw [show E + 200 * i + 200 = E + 200 * (i + 1) by omega] at hs
        have m1 := hν.one h0
        rw [ht] at m1
        refine v_X7_run_25 C Ex hn h9.co hG ⟨fun c => absurd c (nI_ge (by omega) (by omega)), fun _ => ?_⟩
        refine ⟨_, (c_beginFrames hn h9 hν (by omega) hTb).full, fun κ4 q4 => ?_⟩
        obtain ⟨g4, -, r4⟩ := q4
        refine ⟨_, (c_markGood hn r4 m1 hTb).full, fun κ13 q13 => ?_⟩
        obtain ⟨g13, -, r13⟩ := q13
        have eS2 : SN n (fOne n (lN (T + i)) ν) = SN n (fTwo n (lN (T + i)) (fOne n (lN (T + i)) ν)) := by
          unfold SN
          congr 1
          exact mkM_congr (fun j _ => by unfold knd; rw [two_1])
        rw [eS2] at r13
        have m2 := m1.two (t := lN (T + i))
        have hG3 : G3 n (T + i) (fTwo n (lN (T + i)) (fOne n (lN (T + i)) ν)) := G3.two hn
        refine ⟨_, (c_endFrames hn r13 hG3 m2 (by omega) hTb).full, fun κ22 q22 => ?_⟩
        obtain ⟨g22, -, r22, hQ⟩ := q22
        refine ⟨_, (c_idle hn hTb r22 hQ.sn.symm).full, fun κ31 q31 κ38 e38 z e => ?_⟩
        obtain ⟨g31, -, r31⟩ := q31
        rw [e, nI_1]
        have t31 := r31.gl.time.1
        rw [t31] at e38
        have hnx := r31.next hn hTb (fun s hs k1 k2 => by
          obtain ⟨f1, f2⟩ := four1_all (n := n) (T := T + i) (μ := fThree n (lN (T + i)) (fTwo n (lN (T + i)) (fOne n (lN (T + i)) ν))) n
          rw [f1 37 s (by decide), hQ.1] at k1
          rw [f2, hQ.2.2.1] at k2
          unfold ovr knd
          rw [decide_eq_false k1, decide_eq_true k2]
          rfl)
        have eSl : fSlot n ν = ul (it (fFour2 (lN (T + i))) 0 n (it (fFour1 n (lN (T + i))) 0 n (fThree n (lN (T + i)) (fTwo n (lN (T + i)) (fOne n (lN (T + i)) ν))))) 0 2 (lN (T + i) + 1) := by
          unfold fSlot fFour
          rw [ht]
        rw [← eSl, ← e38] at hnx
        have hG38 : Gr n κ κ38 := by
          have q := (((hG.trans g4).trans g13).trans g22).trans g31
          rw [e38]
          exact q.l (by have := hn.1; unfold mOf; omega)
        exact ih (i + 1) κ38 (fSlot n ν) (by omega) hG38 ⟨_, hnx⟩ hs hF
    have h0 := key k 0 κ (thr μ) (by omega) Gr.rf hB hM.thr rfl
    rw [nI_0] at h0
    exact h0
  · rw [if_pos (Or.inr c2)]; exact ⟨rfl, T, by omega, hB⟩
end RL
