/-! takePayloads -/
section RE
variable {l : Launch} {w : r_V} {B : Nat} {n T s r E lim cur : Nat} {S : Int32} {d m : Nat → Nat} {e : Nat → Bool} {κ κ' : Ku} {μ μ' ν : Mu}
theorem R.held {p : Nat} {x : Int32} (h : R n T S d m e lim cur κ μ) : R n T S d m e lim cur (ki κ 8 p x) (ui μ 7 p x) := by
  obtain ⟨⟨a1, a2, a3, a4, a5, a6, a7, a8, a9⟩, b1, b2, b3, b4, b5, b6, b7, b8, b9, b10, b11, b12, b13, b14⟩ := h.gl
  refine h.low (κ' := ki κ 8 p x) (μ' := ui μ 7 p x) Ag.ii (by simp) h.co (fun i hi => view_lo (by omega) (by omega) (by omega) (by omega) (by omega)) ⟨⟨a1, a2, a3, a4, a5, a6, a7, a8, a9⟩, b1, b2, b3, b4, fun q => ?_, b6, b7, b8, b9, b10, b11, b12, b13, b14⟩
  show (if 8 = 8 ∧ q = p then x else κ.1 8 q) = (if 7 = 7 ∧ q = p then x else μ.1 7 q)
  by_cases hq : q = p
  · rw [if_pos ⟨rfl, hq⟩, if_pos ⟨rfl, hq⟩]
  · rw [if_neg (fun c => hq c.2), if_neg (fun c => hq c.2)]
    exact b5 q
theorem R.want {p : Nat} {x : Int32} (h : R n T S d m e lim cur κ μ) : R n T S d m e lim cur (ki κ 10 p x) (ui μ 9 p x) := by
  obtain ⟨⟨a1, a2, a3, a4, a5, a6, a7, a8, a9⟩, b1, b2, b3, b4, b5, b6, b7, b8, b9, b10, b11, b12, b13, b14⟩ := h.gl
  refine h.low (κ' := ki κ 10 p x) (μ' := ui μ 9 p x) Ag.ii (by simp) h.co (fun i hi => view_lo (by omega) (by omega) (by omega) (by omega) (by omega)) ⟨⟨a1, a2, a3, a4, a5, a6, a7, a8, a9⟩, b1, b2, b3, b4, b5, b6, fun q => ?_, b8, b9, b10, b11, b12, b13, b14⟩
  show (if 10 = 10 ∧ q = p then x else κ.1 10 q) = (if 9 = 9 ∧ q = p then x else μ.1 9 q)
  by_cases hq : q = p
  · rw [if_pos ⟨rfl, hq⟩, if_pos ⟨rfl, hq⟩]
  · rw [if_neg (fun c => hq c.2), if_neg (fun c => hq c.2)]
    exact b7 q
/-- events and what is held, counted -/
def EV (E : Nat) (ν : Mu) : Prop := ∃ e : Nat, ν.1 0 21 = nI e ∧ e + hc (ν.1 7) 301 ≤ E
theorem EV.into (h : EV E ν) (hE : E < 2 ^ 30) : ¬ 700 ≤ ν.1 0 21 → vp_in (ν.1 0 21) 700 := by
  obtain ⟨e, e1, e2⟩ := h
  rw [e1]
  intro c
  have : e < 700 := Nat.not_le.mp (fun q => c (nI_le (a := 700) q (by omega)))
  exact vp_in_nI this (by decide)
theorem EV.hold {p : Nat} (h : EV E ν) (hp : p < 301) : EV (E + 1) (cHold s r (nI p) ν) := by
  obtain ⟨e, e1, e2⟩ := h
  unfold cHold
  rw [nI_clampS (by omega)]
  split
  · exact ⟨e, e1, by omega⟩
  · refine ⟨e, e1, ?_⟩
    have := hc_set (h := ν.1 7) (h' := (ui ν 7 p 1).1 7) (p := p) (fun i hi => by simp [ui, hi]) 301 hp
    have q : (if (ui ν 7 p 1).1 7 p = 0 then 0 else 1) ≤ 1 := by split <;> omega
    omega
theorem EV.clear {p : Nat} {t : Int64} (h : EV E ν) (hp : p < 301) (hh : ¬ ν.1 7 p = 0) : EV E (fHand (nI p) t ν) := by
  obtain ⟨e, e1, e2⟩ := h
  have := hc_set (h := ν.1 7) (h' := (fHand (nI p) t ν).1 7) (p := p) (fun i hi => by rw [fHand_7 (by omega), if_neg hi]) 301 hp
  rw [if_neg hh] at this
  have q : (fHand (nI p) t ν).1 7 p = 0 := by rw [fHand_7 (by omega), if_pos rfl]
  rw [if_pos q] at this
  refine ⟨e + 1, ?_, by omega⟩
  unfold fHand fTell
  have e21 : (ui ν 7 (nI p).toNatClampNeg 0).1 0 21 = ν.1 0 21 := rfl
  rw [e21]
  have e22 : ∀ X : Mu, (ui X 0 21 (ν.1 0 21 + 1)).1 0 21 = ν.1 0 21 + 1 := fun X => rfl
  rw [e22, e1, nI_1]
theorem c_takePayloads {a2 : Nat} {D : List Int32} (hn : okN n) (h : R n T S d m e lim cur κ μ) (hM : MI n E μ) (hE : E + 4 < 2 ^ 30) (hs : s < n) (hr : r < n) (hL : Rw n κ a2 4 (tl (μ.1 34) (μ.1 35) s)) (hD : Rw n κ 19 4 D) (hDm : ∀ p ∈ D, ∃ q : Nat, p = nI q ∧ 1 ≤ q ∧ q ≤ pN μ) : r_KV l w B n tX7_takePayloads [.ref (B + 1), .int (nI (6 * s + r)), .ref (B + a2)] κ (fun κ' => R n T S d m e lim cur κ' (cTake s r (lN T) D μ) ∧ κ'.1 19 = κ.1 19 ∧ κ'.1 20 = κ.1 20 ∧ κ'.2.2 = κ.2.2) := by
  have hn6 := hn.2
  have hn2 := hn.1
  have hP := hM.pay.2
  have c36 : (nI (6 * s + r)).toNatClampNeg = 6 * s + r := nI_clampS (by omega)
  have v36 : vp_in (nI (6 * s + r)) 36 := vp_in_nI (by omega) (by decide)
  have hmO : 100 < mOf n ∨ mOf n ≤ 100 := by omega
  have h20 : 20 < mOf n := by unfold mOf; omega
  obtain ⟨g5, g6, g7, g8, g10, g9, g4, -⟩ := h.gl.pays
  refine r_enter (by decide) (Nat.le_of_ble_eq_true rfl) (fun X C Ex => ?_)
  refine v_X7_takePayloads_0 C Ex hn h.co Gr.rf hL.1 ⟨_, s_Row_get hn h.co hL (show 0 < 2 ^ 30 by decide), fun z5 κ3 q => ?_⟩
  obtain ⟨rfl, e5⟩ := q
  rw [tl_get0 (hM.tr s hs)] at e5
  obtain ⟨p0, ep0, hp0, -⟩ := hM.tr0 hs
  rw [ep0] at e5
  subst e5
  refine ⟨_, s_Pay_number hn h.co (vp_in_nI (by omega) (by decide)), fun z14 κ12 q => ?_⟩
  obtain ⟨rfl, e14⟩ := q
  rw [nI_clampS (by omega), g7] at e14
  have est : μ.1 5 (μ.1 34 (4 * s)).toNatClampNeg = z14 := by rw [ep0, nI_clampS (by omega), e14]
  refine ⟨_, s_Pay_want hn h.co v36, fun κ21 q21 => ?_⟩
  rw [c36, g10] at q21
  have h21 : R n T S d m e lim cur κ21 (cWant s r z14 μ) := by rw [q21]; exact h.want
  have hG21 : Gr n κ12 κ21 := by rw [q21]; exact Gr.rf.i (by omega)
  have k21 : κ21.1 19 = κ12.1 19 ∧ κ21.1 20 = κ12.1 20 ∧ κ21.2.2 = κ12.2.2 := by rw [q21]; exact ⟨rfl, rfl, rfl⟩
  -- all that the last walk needs
  have tab : ∀ (ν : Mu), (∀ g j, g ≠ 7 → g ≠ 9 → g ≠ 0 → g ≠ 14 → g ≠ 15 → ν.1 g j = μ.1 g j) → ∀ p, 1 ≤ p → p ≤ pN μ → ∀ κ9 : Ku, R n T S d m e lim cur κ9 ν → (κ9.1 5 p = nI (6 * s + r) ↔ ν.1 2 p = nI s ∧ ν.1 3 p = nI r) := by
    intro ν hν p p1 p2 κ9 h9
    obtain ⟨a, b, c, k, ea, eb, -, -, ha, hb, -⟩ := hM.pl p p1 p2
    rw [h9.gl.pays.1, hν 2 p (by decide) (by decide) (by decide) (by decide) (by decide), hν 3 p (by decide) (by decide) (by decide) (by decide) (by decide), ea, eb, show (6 : Int32) = nI 6 from rfl, pk_mul, nI_add, nI_eq (by omega) (by omega), nI_eq (by omega) (by omega), nI_eq (by omega) (by omega)]
    omega
  -- the walk over all payloads
  have walk : ∀ (k i : Nat) (κ9 : Ku) (ν : Mu), 1 ≤ i → i + k = pN μ + 1 → Gr n κ12 κ9 → R n T S d m e lim cur κ9 ν → EV (E + 4) ν → (∀ g j, g ≠ 7 → g ≠ 9 → g ≠ 0 → g ≠ 14 → g ≠ 15 → ν.1 g j = μ.1 g j) → ν.1 0 5 = nI (pN μ) → κ9.1 19 = κ12.1 19 ∧ κ9.1 20 = κ12.1 20 ∧ κ9.2.2 = κ12.2.2 → it (cRel s r (lN T)) i k ν = cTake s r (lN T) D μ → r_W X w B 4 0 0 (r_Z X w B tX7_takePayloads (ZKV n κ12 (fun κ' => R n T S d m e lim cur κ' (cTake s r (lN T) D μ) ∧ κ'.1 19 = κ12.1 19 ∧ κ'.1 20 = κ12.1 20 ∧ κ'.2.2 = κ12.2.2))) 57 [(0, Value.ref (B + 1)), (1, Value.int (nI (6 * s + r))), (3, Value.int (nI i))] [] (shp n, κ9) := by
    intro k
    induction k with
    | zero =>
      intro i κ9 ν i1 hi hG h9 hev hν h5 hk hF
      have e4 : κ9.1 4 4 = nI (pN μ) := h9.gl.pays.2.2.2.2.2.2.1.trans h5
      refine v_X7_takePayloads_57 C Ex hn h9.co hG ⟨fun _ => ⟨?_, hk⟩, fun c => absurd (by rw [e4]; exact nI_lt (by omega) (by omega)) c⟩
      have hF : ν = cTake s r (lN T) D μ := hF
      rw [← hF]
      exact h9
    | succ k ih =>
      intro i κ9 ν i1 hi hG h9 hev hν h5 hk hF
      have e4 : κ9.1 4 4 = nI (pN μ) := h9.gl.pays.2.2.2.2.2.2.1.trans h5
      have ci : (nI i).toNatClampNeg = i := nI_clampS (by omega)
      obtain ⟨f5, f6, f7, f8, f10, f9, f4, -⟩ := h9.gl.pays
      have ht := h9.gl.time.1
      have hF' : it (cRel s r (lN T)) (i + 1) k (cRel s r (lN T) i ν) = cTake s r (lN T) D μ := hF
      refine v_X7_takePayloads_57 C Ex hn h9.co hG ⟨fun c => absurd c (by rw [e4]; exact nI_nlt (by omega) (by omega)), fun _ => ⟨_, s_Pay_releases hn h9.co (vp_in_nI (by omega) (by decide)) v36, fun z6 κ4 q => ?_⟩⟩
      rw [ci, c36] at q
      obtain ⟨q01, qiff, qk⟩ := q
      have hfire : z6 = 1 ↔ (¬ ν.1 7 i = 0 ∧ ν.1 2 i = nI s ∧ ν.1 3 i = nI r ∧ ν.1 5 i ≤ ν.1 9 (6 * s + r)) := by
        rw [qiff, tab ν hν i i1 (by omega) κ9 h9, f8, f7, f10]
        constructor
        · rintro ⟨x1, ⟨x2, x3⟩, x4⟩; exact ⟨x1, x2, x3, x4⟩
        · rintro ⟨x1, x2, x3, x4⟩; exact ⟨x1, ⟨x2, x3⟩, x4⟩
      by_cases hz : z6 = 1
      · have hc := hfire.mp hz
        rw [if_pos hz, f7, f10] at qk
        refine ⟨fun c => absurd (hz.symm.trans c) (by decide), fun _ => ?_⟩
        -- the reference's state ahead of the telling
        have h4 : R n T S d m e lim cur κ4 (if ν.1 5 i = ν.1 9 (6 * s + r) then ui (ui ν 7 i 0) 9 (6 * s + r) (ν.1 9 (6 * s + r) + 1) else ui ν 7 i 0) := by
          rw [qk]
          split
          · exact h9.held.want
          · exact h9.held
        have hG4 : Gr n κ12 κ4 := by
          rw [qk]
          split
          · exact (hG.i (by omega)).i (by omega)
          · exact hG.i (by omega)
        have k4 : κ4.1 19 = κ12.1 19 ∧ κ4.1 20 = κ12.1 20 ∧ κ4.2.2 = κ12.2.2 := by
          rw [qk]
          split
          · exact hk
          · exact hk
        have e15 : κ4.1 15 3 = ν.1 0 21 := by
          have q : κ4.1 15 3 = (if ν.1 5 i = ν.1 9 (6 * s + r) then ui (ui ν 7 i 0) 9 (6 * s + r) (ν.1 9 (6 * s + r) + 1) else ui ν 7 i 0 : Mu).1 0 21 := h4.gl.1.2.2.2.2.2.2.2.2
          rw [q]
          split
          · rfl
          · rfl
        have eC : cRel s r (lN T) i ν = fTell (nI i) 1 (lN T) (if ν.1 5 i = ν.1 9 (6 * s + r) then ui (ui ν 7 i 0) 9 (6 * s + r) (ν.1 9 (6 * s + r) + 1) else ui ν 7 i 0) := by
          unfold cRel fHand
          rw [if_pos hc, ci]
          split
          · rw [tell_comm (μ := ui ν 7 i 0) (g := 9) (by decide)]
          · rfl
        have t4 := h4.gl.time.1
        rw [t4]
        refine ⟨_, s_Events_add hn h4.co (by rw [e15]; exact hev.into (by omega)), fun κ16 q16 z23 e23 => ?_⟩
        rw [e23, nI_1]
        have h16 : R n T S d m e lim cur κ16 (cRel s r (lN T) i ν) := by rw [q16, eC]; exact h4.tell
        have hG16 : Gr n κ12 κ16 := by
          rw [q16]
          unfold kTell
          refine Gr.i ?_ (by omega)
          split
          · exact hG4
          · exact ((hG4.i (by omega)).i (by omega)).i (by omega)
        have k16 : κ16.1 19 = κ12.1 19 ∧ κ16.1 20 = κ12.1 20 ∧ κ16.2.2 = κ12.2.2 := by
          rw [q16]
          unfold kTell
          split
          · exact k4
          · exact k4
        refine ih (i + 1) κ16 (cRel s r (lN T) i ν) (by omega) (by omega) hG16 h16 ?_ (fun g j a7 a9 a0 a14 a15 => ?_) ?_ k16 hF'
        · have hcl := hev.clear (t := lN T) (p := i) (by omega) hc.1
          unfold cRel
          rw [if_pos hc]
          split
          · exact hcl
          · exact hcl
        · unfold cRel
          rw [if_pos hc]
          split
          · show (if g = 9 ∧ j = 6 * s + r then _ else (fHand (nI i) (lN T) ν).1 g j) = _
            rw [if_neg (fun c => a9 c.1), fHand_1 ⟨a0, a7, a14, a15⟩]
            exact hν g j a7 a9 a0 a14 a15
          · rw [fHand_1 ⟨a0, a7, a14, a15⟩]
            exact hν g j a7 a9 a0 a14 a15
        · unfold cRel
          rw [if_pos hc]
          split
          · show (fHand (nI i) (lN T) ν).1 0 5 = _
            rw [fHand_0 (by decide)]
            exact h5
          · rw [fHand_0 (by decide)]
            exact h5
      · have hz0 : z6 = 0 := q01.resolve_right hz
        rw [if_neg hz] at qk
        subst qk
        have eC : cRel s r (lN T) i ν = ν := by unfold cRel; rw [if_neg (fun c => hz (hfire.mpr c))]
        rw [eC] at hF'
        refine ⟨fun _ z12 e12 => ?_, fun c => absurd hz0 c⟩
        rw [e12, nI_1]
        exact ih (i + 1) κ4 ν (by omega) (by omega) hG h9 hev hν h5 hk hF'
  -- what is taken is held
  have key : ∀ (k i : Nat) (κ9 : Ku) (ν : Mu), i + k = D.length → Gr n κ12 κ9 → R n T S d m e lim cur κ9 ν → EV (E + i) ν → (∀ g j, g ≠ 7 → g ≠ 9 → ν.1 g j = μ.1 g j) → κ9.1 19 = κ12.1 19 ∧ κ9.1 20 = κ12.1 20 ∧ κ9.2.2 = κ12.2.2 → (D.drop i).foldl (fun ν p => cHold s r p ν) ν = D.foldl (fun ν p => cHold s r p ν) (cWant s r z14 μ) → r_W X w B 4 0 0 (r_Z X w B tX7_takePayloads (ZKV n κ12 (fun κ' => R n T S d m e lim cur κ' (cTake s r (lN T) D μ) ∧ κ'.1 19 = κ12.1 19 ∧ κ'.1 20 = κ12.1 20 ∧ κ'.2.2 = κ12.2.2))) 22 [(0, Value.ref (B + 1)), (1, Value.int (nI (6 * s + r))), (3, Value.int (nI i))] [] (shp n, κ9) := by
    have hD4 : D.length ≤ 4 := hD.2.2.1
    intro k
    induction k with
    | zero =>
      intro i κ9 ν hi hG h9 hev hν hk hF
      have hi : i = D.length := by omega
      subst hi
      rw [List.drop_length] at hF
      have hF : ν = D.foldl (fun ν p => cHold s r p ν) (cWant s r z14 μ) := hF
      have e19 : κ9.1 19 1 = nI D.length := by rw [hk.1]; exact hD.2.2.2.1
      refine v_X7_takePayloads_22 C Ex hn h9.co hG ⟨fun _ => ?_, fun c => absurd (by rw [e19]; exact nI_le (Nat.le_refl _) (by omega)) c⟩
      have hev4 : EV (E + 4) ν := by
        obtain ⟨e, e1, e2⟩ := hev
        exact ⟨e, e1, by omega⟩
      have h0 := walk (pN μ) 1 κ9 ν (Nat.le_refl 1) (by omega) hG h9 hev4 (fun g j a7 a9 _ _ _ => hν g j a7 a9) (by rw [hν 0 5 (by decide) (by decide)]; exact hM.pay.1) hk (by unfold cTake; rw [est, hF])
      exact h0
    | succ k ih =>
      intro i κ9 ν hi hG h9 hev hν hk hF
      have hil : i < D.length := by omega
      have hRw : Rw n κ9 19 4 D := hD.keep hk.1 hk.2.1
      have e19 : κ9.1 19 1 = nI D.length := hRw.2.2.2.1
      have hgd : D.getD i 0 = D[i] := by simp [List.getD_eq_getElem?_getD, List.getElem?_eq_getElem hil]
      obtain ⟨q, eq, q1, q2⟩ := hDm D[i] (List.getElem_mem hil)
      have hdr : D.drop i = nI q :: D.drop (i + 1) := by rw [List.drop_eq_getElem_cons hil, eq]
      rw [hdr] at hF
      obtain ⟨f5, f6, f7, f8, f10, f9, f4, -⟩ := h9.gl.pays
      refine v_X7_takePayloads_22 C Ex hn h9.co hG ⟨fun c => absurd c (by rw [e19]; exact nI_ge (by omega) (by omega)), fun _ => ⟨_, s_Row_get hn h9.co hRw (show i < 2 ^ 30 by omega), fun z6 κ4 qq => ?_⟩⟩
      obtain ⟨rfl, e6⟩ := qq
      rw [hgd, eq] at e6
      subst e6
      refine ⟨_, s_Pay_hold hn h9.co v36 (vp_in_nI (by omega) (by decide)), fun κ13 q13 z20 e20 => ?_⟩
      rw [nI_clampS (show q < 1000000 by omega), c36, f7, f10] at q13
      rw [e20, nI_1]
      have h13 : R n T S d m e lim cur κ13 (cHold s r (nI q) ν) := by
        rw [q13]
        unfold cHold
        rw [nI_clampS (show q < 1000000 by omega)]
        split
        · exact h9
        · exact h9.held
      have hG13 : Gr n κ12 κ13 := by
        rw [q13]
        split
        · exact hG
        · exact hG.i (by omega)
      have k13 : κ13.1 19 = κ12.1 19 ∧ κ13.1 20 = κ12.1 20 ∧ κ13.2.2 = κ12.2.2 := by
        rw [q13]
        split
        · exact hk
        · exact hk
      exact ih (i + 1) κ13 (cHold s r (nI q) ν) (by omega) hG13 h13 (hev.hold (by omega)) (fun g j a7 a9 => by rw [hold_g a7]; exact hν g j a7 a9) k13 hF
  have hev0 : EV (E + 0) (cWant s r z14 μ) := hM.ev
  have h0 := key D.length 0 κ21 (cWant s r z14 μ) (by omega) hG21 h21 hev0 (fun g j a7 a9 => if_neg (fun c => a9 c.1)) k21 rfl
  rw [nI_0] at h0
  exact h0
end RE
