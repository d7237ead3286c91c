/-! hear and offer -/
section RN
variable {l : Launch} {w : r_V} {B : Nat} {n T s r E lim cur : Nat} {S : Int32} {d m : Nat → Nat} {e : Nat → Bool} {κ κ' : Ku} {μ μ' ν : Mu}
def vhr (V : Vw) (f : Nat → Bool) : Vw := (V.1, V.2.1, V.2.2.1, V.2.2.2.1, V.2.2.2.2.1, V.2.2.2.2.2.1, f)
theorem Rel.hears {i dd mm : Nat} {ee : Bool} {A : Bk} {V : Vw} {f : Nat → Bool} (h : Rel n T dd mm ee i A V) : Rel n T dd mm ee i (bki A 0 2 (nI (mkM n f))) (vhr V f) := by
  obtain ⟨hO, hW, hB, hK, hTr, hLg, dO, sO, hds, p1, p2, ⟨L1, hRL1, hD⟩, ⟨L2, hRL2, hk2, hS⟩⟩ := h
  have g : ∀ o, o ≠ 0 → (bki A 0 2 (nI (mkM n f))).1 o = A.1 o := fun o ho => funext fun k => if_neg (fun q => ho q.1)
  have g0 : ∀ k, k ≠ 2 → (bki A 0 2 (nI (mkM n f))).1 0 k = A.1 0 k := fun k hk => if_neg (fun q => hk q.2)
  refine ⟨?_, ?_, ?_, hK.same (g 1 (by omega)) (g 2 (by omega)), hTr.same (g 3 (by omega)) (g 4 (by omega)), hLg, dO, sO, hds, p1, p2, ⟨L1, hRL1.same (g _ (by omega)) (g _ (by omega)), ?_⟩, ⟨L2, hRL2.same (g _ (by omega)) (g _ (by omega)), ?_, ?_⟩⟩
  · obtain ⟨q0, q1, q2, q3, q4, q5, q6, q7, q18, r8, r19, hx⟩ := hO
    exact ⟨q0, q1, rfl, q3, q4, q5, q6, q7, q18, r8, r19, hx⟩
  · exact hW
  · unfold Bg at *
    rw [g 5 (by omega)]
    exact hB
  · rw [g dO (by omega)]
    exact hD
  · rw [g sO (by omega)]
    exact hk2
  · rw [g sO (by omega)]
    exact hS
theorem bki_same {A : Bk} {x : Int32} (h : A.1 0 2 = x) : bki A 0 2 x = A := by
  refine Prod.ext (funext fun o => funext fun k => ?_) rfl
  show (if o = 0 ∧ k = 2 then x else A.1 o k) = A.1 o k
  by_cases q : o = 0 ∧ k = 2
  · rw [if_pos q, q.1, q.2, h]
  · rw [if_neg q]
theorem R.hear {b x : Nat} {y : Int32} (hn : okN n) (h : R n T S d m e lim cur κ μ) (hs : s < n) (hb : b < n) (hx : x = mkM n (fHears (ui μ 1 (6 * s + b) y) s)) : R n T S d m e lim cur (ki κ (22 + 14 * s) 2 (nI x)) (ui μ 1 (6 * s + b) y) := by
  have hn6 := hn.2
  have hV : ∀ i, view (ui μ 1 (6 * s + b) y) i = vhr (view μ i) (fHears (ui μ 1 (6 * s + b) y) i) := fun i => by
    refine Prod.ext (funext fun g => ?_) rfl
    show (if okg g = true then (ui μ 1 (6 * s + b) y).1 g i else 0) = (if okg g = true then μ.1 g i else 0)
    by_cases hk : okg g = true
    · have := okg_17 hk
      rw [show (ui μ 1 (6 * s + b) y).1 g i = μ.1 g i from if_neg (by omega)]
    · rw [if_neg hk, if_neg hk]
  refine ⟨h.co, ?_, fun i hi => ?_, ?_, ?_⟩
  · have hA : Ag [22 + 14 * s] κ (ki κ (22 + 14 * s) 2 (nI x)) := Ag.ii
    rw [hA.toGlo (fun a ha => by simp at ha; omega), gmo_ui (by omega)]
    exact h.gl
  · rw [hV i]
    by_cases q : i = s
    · subst q
      have eb : blk (ki κ (22 + 14 * i) 2 (nI x)) i = bki (blk κ i) 0 2 (nI (mkM n (fHears (ui μ 1 (6 * i + b) y) i))) := by
        rw [← hx]
        exact blk_ki (o := 0) (by omega)
      rw [eb]
      exact (h.rel i hi).hears
    · have hA : Ag [22 + 14 * s] κ (ki κ (22 + 14 * s) 2 (nI x)) := Ag.ii
      rw [hA.toBlk (fun a ha => by simp at ha; omega)]
      have hr := (h.rel i hi).hears (f := fHears (ui μ 1 (6 * s + b) y) i)
      have e2 : (blk κ i).1 0 2 = nI (mkM n (fHears (ui μ 1 (6 * s + b) y) i)) := by
        have := (h.stat hi).2.2.1
        rw [blk_cell (by omega)]
        show κ.1 (22 + 14 * i + 0) 2 = _
        rw [Nat.add_zero, this]
        congr 1
        refine mkM_congr (fun j hj => ?_)
        unfold fHears
        have : (ui μ 1 (6 * s + b) y).1 1 (6 * i + j) = μ.1 1 (6 * i + j) := if_neg (by omega)
        rw [this]
      rw [bki_same e2] at hr
      exact hr
  · refine h.ad.keep (fun i hi => ?_)
    rw [hV i]
    exact ⟨rfl, rfl, rfl, rfl, rfl, rfl, rfl, rfl⟩
  · refine h.as.keep (fun i hi => ?_)
    rw [hV i]
    exact ⟨rfl, rfl, rfl, rfl, rfl, rfl⟩
/-- who is deaf: 0 or 1 -/
def DF (μ : Mu) : Prop := ∀ j, μ.1 1 j = 0 ∨ μ.1 1 j = 1
theorem c_hear {a b on : Int32} (hn : okN n) (h : RR n T κ μ) (hD : DF μ) (ho : on = 0 ∨ on = 1) : r_KI l w B n tX7_hear [.ref (B + 1), .int a, .int b, .int on] κ (fun z κ' => z = (aHear n a b on μ).1 ∧ RR n T κ' (aHear n a b on μ).2) := by
  have hn6 := hn.2
  refine r_enter (by decide) (Nat.le_of_ble_eq_true rfl) (fun X C Ex => ?_)
  unfold aHear
  have hBB := h.th
  obtain ⟨S, hB⟩ := h
  refine v_X7_hear_0 C Ex hn hB.co Gr.rf ⟨_, s_isStation hn hB.co, fun z5 κ3 q => ?_⟩
  obtain ⟨rfl, e5⟩ := q
  have hst := stn_z (n := n) rfl e5
  refine ⟨fun c => ?_, fun c => ⟨_, s_isStation hn hB.co, fun z15 κ13 q => ?_⟩⟩
  · rw [if_neg (by rw [hst.1.mp c]; exact fun q => absurd q.1 (by decide))]; exact ⟨rfl, hBB⟩
  obtain ⟨rfl, e15⟩ := q
  have hst2 := stn_z (n := n) rfl e15
  refine ⟨fun c2 => ?_, fun c2 => ?_⟩
  · rw [if_neg (by rw [hst2.1.mp c2]; exact fun q => absurd q.2 (by decide))]; exact ⟨rfl, hBB⟩
  rw [if_pos ⟨hst.2 c, hst2.2 c2⟩]
  refine ⟨fun c3 => ?_, fun c3 => ?_⟩
  · rw [if_pos c3]; exact ⟨rfl, hBB⟩
  rw [if_neg c3]
  obtain ⟨i, hi, rfl⟩ := (stn_iff hn).mp (hst.2 c)
  obtain ⟨j, hj, rfl⟩ := (stn_iff hn).mp (hst2.2 c2)
  have hij : i ≠ j := fun q => c3 (by rw [q])
  rw [nI_clampS (by omega), nI_clampS (by omega)]
  refine ⟨vp_in_nI hi (by omega), fun b24 e24 => ⟨vp_in_nI hj (by omega), fun z29 e29 z32 e32 => ?_⟩⟩
  subst e24
  obtain ⟨s0, s1, s2, -⟩ := hB.stat hi
  obtain ⟨t0, t1, -⟩ := hB.stat hj
  rw [t1] at e29
  subst e29
  rw [s2] at e32
  have hbit := send_bit (f := fHears μ i) hn hj
  have hf : fHears μ i j = decide (μ.1 1 (6 * i + j) = 0) := by
    unfold fHears
    rw [decide_eq_false hij]
    rfl
  rw [hf] at hbit
  obtain ⟨S', hT⟩ := hBB
  -- the new mask
  have mk : ∀ y : Int32, (y = 0 ↔ ¬ μ.1 1 (6 * i + j) = 0) → nI (mkM n (fHears μ i)) ^^^ nI (2 ^ j) = nI (mkM n (fHears (ui (thr μ) 1 (6 * i + j) y) i)) := fun y hy => by
    rw [nI_xor (mk31 hn) (by have := pw6 (i := j) (by omega); omega)]
    congr 1
    refine Nat.eq_of_testBit_eq (fun k => ?_)
    rw [Nat.testBit_xor, mkM_bit, mkM_bit]
    by_cases hk : k = j
    · subst hk
      rw [Nat.testBit_two_pow_self, hf, decide_eq_true hj]
      unfold fHears
      have e1 : (ui (thr μ) 1 (6 * i + k) y).1 1 (6 * i + k) = y := if_pos ⟨rfl, rfl⟩
      rw [e1, decide_eq_false hij]
      by_cases q : y = 0
      · rw [decide_eq_true q, decide_eq_false (hy.mp q)]; rfl
      · rw [decide_eq_false q, decide_eq_true (Decidable.byContradiction (fun z => q (hy.mpr z)))]; rfl
    · rw [Nat.testBit_two_pow_of_ne (fun q => hk q.symm)]
      unfold fHears
      have e1 : (ui (thr μ) 1 (6 * i + j) y).1 1 (6 * i + k) = μ.1 1 (6 * i + k) := if_neg (by omega)
      rw [e1, Bool.xor_false]
  have same : ∀ y : Int32, μ.1 1 (6 * i + j) = y → ui (thr μ) 1 (6 * i + j) y = thr μ := fun y hy => ui_same hy
  rcases hD (6 * i + j) with dq | dq <;> rcases ho with rfl | rfl
  · -- hears, off
    rw [dq, decide_eq_true rfl] at hbit
    rw [if_neg (fun q => absurd (hbit.mp q) (by decide))] at e32
    subst e32
    refine ⟨fun q => absurd q (by decide), fun _ κ36 e36 => ?_⟩
    rw [dq, if_pos rfl, e36, s2, mk 1 ⟨fun q => absurd q (by decide), fun q => absurd dq q⟩]
    exact ⟨rfl, S', hT.hear hn hi hj rfl⟩
  · rw [dq, decide_eq_true rfl] at hbit
    rw [if_neg (fun q => absurd (hbit.mp q) (by decide))] at e32
    subst e32
    refine ⟨fun _ => ?_, fun q => absurd rfl q⟩
    rw [dq, if_neg (by decide), if_neg (by decide), same 0 dq]
    exact ⟨rfl, S', hT⟩
  · rw [dq, decide_eq_false (by decide)] at hbit
    rw [if_pos (hbit.mpr rfl)] at e32
    subst e32
    refine ⟨fun _ => ?_, fun q => absurd rfl q⟩
    rw [dq, if_neg (by decide), if_pos rfl, same 1 dq]
    exact ⟨rfl, S', hT⟩
  · rw [dq, decide_eq_false (by decide)] at hbit
    rw [if_pos (hbit.mpr rfl)] at e32
    subst e32
    refine ⟨fun q => absurd q (by decide), fun _ κ36 e36 => ?_⟩
    rw [dq, if_pos rfl, if_neg (by decide), e36, s2, mk 0 ⟨fun _ => by rw [dq]; decide, fun _ => rfl⟩]
    exact ⟨rfl, S', hT.hear hn hi hj rfl⟩
/-! offer -/
theorem kL_congr {f f' k k' : Nat → Int32} {s : Nat} : ∀ i, (∀ p, 1 ≤ p → p ≤ i → f' p = f p ∧ k' p = k p) → kL f' k' s i = kL f k s i
  | 0, _ => rfl
  | i + 1, h => by
    simp only [kL]
    rw [kL_congr i (fun p p1 p2 => h p p1 (by omega)), (h (i + 1) (by omega) (by omega)).1, (h (i + 1) (by omega) (by omega)).2]
theorem draw_6 {p : Nat} {x : Int32} : fDraw s (ui μ 6 p x) = ui (fDraw s μ) 6 p x := by
  show ui (ui (ui μ 6 p x) 0 15 (if μ.1 0 14 ≤ μ.1 0 15 then μ.1 0 15 else μ.1 0 15 + 1)) 19 s (rem (if μ.1 0 14 ≤ μ.1 0 15 then 0 else μ.1 10 (μ.1 0 15).toNatClampNeg) (μ.1 17 s + 1)) = _
  rw [ui_comm (g := 6) (g2 := 0) (Or.inl (by decide)), ui_comm (g := 6) (g2 := 19) (Or.inl (by decide))]
  rfl
/-- the offer, not yet kept -/
def fOff0 (i j : Nat) (z : Int32) (μ : Mu) : Mu := ui (ui (ui (ui (ui (ui (ui (thr μ) 0 5 (μ.1 0 5 + 1)) 2 (pN μ + 1) (nI i)) 3 (pN μ + 1) (nI j)) 4 (pN μ + 1) z) 5 (pN μ + 1) (μ.1 8 (6 * i + j))) 8 (6 * i + j) (μ.1 8 (6 * i + j) + 1)) 6 (pN μ + 1) 0
theorem off0_pN {i j : Nat} {z : Int32} (hM : MI n E μ) : pN (fOff0 i j z μ) = pN μ + 1 := by
  have hP := hM.pay
  have e : (fOff0 i j z μ).1 0 5 = μ.1 0 5 + 1 := by simp [fOff0, ui]
  show ((fOff0 i j z μ).1 0 5).toNatClampNeg = _
  rw [e, hP.1, nI_1, nI_clampS (by omega)]
theorem R.off0 {i j : Nat} {z : Int32} (hn : okN n) (h : R n T S d m e lim cur κ μ) (hM : MI n E μ) (hi : i < n) (hj : j < n) : R n T S d m e lim cur (ki (ki (ki (ki (ki κ 4 4 (nI (pN μ + 1))) 5 (pN μ + 1) (nI i * 6 + nI j)) 6 (pN μ + 1) z) 7 (pN μ + 1) (κ.1 9 (6 * i + j))) 9 (6 * i + j) (κ.1 9 (6 * i + j) + 1)) (fOff0 i j z μ) := by
  have hn6 := hn.2
  have hP := hM.pay
  have hpn := off0_pN (i := i) (j := j) (z := z) hM
  have g9 := h.gl.pays.2.2.2.2.2.1
  have hA2 : Ag [4, 5, 6, 7, 9] κ (ki (ki (ki (ki (ki κ 4 4 (nI (pN μ + 1))) 5 (pN μ + 1) (nI i * 6 + nI j)) 6 (pN μ + 1) z) 7 (pN μ + 1) (κ.1 9 (6 * i + j))) 9 (6 * i + j) (κ.1 9 (6 * i + j) + 1)) := ((((Ag.ii.wide (by simp)).trans (Ag.ii.wide (by simp))).trans (Ag.ii.wide (by simp))).trans (Ag.ii.wide (by simp))).trans (Ag.ii.wide (by simp))
  obtain ⟨⟨a1, a2, a3, a4, a5, a6, a7, a8, a9⟩, b1, b2, b3, b4, b5, b6, b7, b8, b9, b10, b11, b12, b13, b14⟩ := h.gl
  have hV : ∀ s, s < n → view (fOff0 i j z μ) s = view μ s := fun s hs => by
    have o : ∀ g, 9 ≤ g → (fOff0 i j z μ).1 g = μ.1 g := fun g hg => funext fun k => by
      unfold fOff0 thr ui
      simp only
      rw [if_neg (by omega), if_neg (by omega), if_neg (by omega), if_neg (by omega), if_neg (by omega), if_neg (by omega), if_neg (by omega), if_neg (by omega)]
    have o1 : (fOff0 i j z μ).1 1 = μ.1 1 := funext fun k => by
      unfold fOff0 thr ui
      simp only
      rw [if_neg (by omega), if_neg (by omega), if_neg (by omega), if_neg (by omega), if_neg (by omega), if_neg (by omega), if_neg (by omega), if_neg (by omega)]
    have o2 : ∀ p, (fOff0 i j z μ).1 2 p = if p = pN μ + 1 then nI i else μ.1 2 p := fun p => by
      unfold fOff0 thr ui
      simp only
      rw [if_neg (by omega), if_neg (by omega), if_neg (by omega), if_neg (by omega), if_neg (by omega)]
      by_cases q : p = pN μ + 1
      · rw [if_pos ⟨trivial, q⟩, if_pos q]
      · rw [if_neg (fun y => q y.2), if_neg q, if_neg (by omega), if_neg (by omega)]
    have o6 : ∀ p, (fOff0 i j z μ).1 6 p = if p = pN μ + 1 then 0 else μ.1 6 p := fun p => by
      unfold fOff0 thr ui
      simp only
      by_cases q : p = pN μ + 1
      · rw [if_pos ⟨trivial, q⟩, if_pos q]
      · rw [if_neg (fun y => q y.2), if_neg q, if_neg (by omega), if_neg (by omega), if_neg (by omega), if_neg (by omega), if_neg (by omega), if_neg (by omega), if_neg (by omega)]
    have o22 : (fOff0 i j z μ).2 = μ.2 := rfl
    have eK : kL ((fOff0 i j z μ).1 2) ((fOff0 i j z μ).1 6) s (pN (fOff0 i j z μ)) = kL (μ.1 2) (μ.1 6) s (pN μ) := by
      rw [hpn]
      simp only [kL]
      rw [o6 (pN μ + 1), if_pos rfl, if_neg (fun y => y.2 rfl), List.append_nil]
      exact kL_congr _ (fun p p1 p2 => ⟨by rw [o2 p, if_neg (by omega)], by rw [o6 p, if_neg (by omega)]⟩)
    refine Prod.ext (funext fun g => ?_) ?_
    · show (if okg g then (fOff0 i j z μ).1 g s else 0) = (if okg g then μ.1 g s else 0)
      by_cases hk : okg g = true
      · have := okg_17 hk
        rw [o g (by omega)]
      · rw [if_neg hk, if_neg hk]
    · show ((fun g => if okl g then (fOff0 i j z μ).2 g s else 0), (fun k => if k < 4 then (fOff0 i j z μ).1 33 (4 * s + k) else 0), (fun r => if r < 6 then (fOff0 i j z μ).2 43 (6 * s + r) else 0), tl ((fOff0 i j z μ).1 34) ((fOff0 i j z μ).1 35), kL ((fOff0 i j z μ).1 2) ((fOff0 i j z μ).1 6) s (pN (fOff0 i j z μ)), (fun s' => !decide (s = s') && decide ((fOff0 i j z μ).1 1 (6 * s + s') = 0))) = ((fun g => if okl g then μ.2 g s else 0), (fun k => if k < 4 then μ.1 33 (4 * s + k) else 0), (fun r => if r < 6 then μ.2 43 (6 * s + r) else 0), tl (μ.1 34) (μ.1 35), kL (μ.1 2) (μ.1 6) s (pN μ), (fun s' => !decide (s = s') && decide (μ.1 1 (6 * s + s') = 0)))
      rw [eK, o22, o 33 (by omega), o 34 (by omega), o 35 (by omega), o1]
  have tab : ∀ (a g k : Nat) (x : Int32), (∀ p, κ.1 a p = μ.1 g p) → ∀ p, (if a = a ∧ p = k then x else κ.1 a p) = (if g = g ∧ p = k then x else μ.1 g p) := fun a g k x hq p => by
    by_cases q : p = k
    · rw [if_pos ⟨rfl, q⟩, if_pos ⟨rfl, q⟩]
    · rw [if_neg (fun y => q y.2), if_neg (fun y => q y.2)]
      exact hq p
  refine h.low (κ' := ki (ki (ki (ki (ki κ 4 4 (nI (pN μ + 1))) 5 (pN μ + 1) (nI i * 6 + nI j)) 6 (pN μ + 1) z) 7 (pN μ + 1) (κ.1 9 (6 * i + j))) 9 (6 * i + j) (κ.1 9 (6 * i + j) + 1)) (μ' := fOff0 i j z μ) hA2 (by simp) h.co hV ⟨⟨a1, a2, a3, a4, a5, a6, ?_, a8, a9⟩, b1, fun p => ?_, fun p => ?_, fun p => ?_, b5, fun p => ?_, b7, b8, b9, b10, b11, b12, b13, b14⟩
  · show nI (pN μ + 1) = μ.1 0 5 + 1
    rw [hP.1, nI_1]
  · show (if 5 = 5 ∧ p = pN μ + 1 then nI i * 6 + nI j else κ.1 5 p) = (if 2 = 2 ∧ p = pN μ + 1 then nI i else μ.1 2 p) * 6 + (if 3 = 3 ∧ p = pN μ + 1 then nI j else μ.1 3 p)
    by_cases q : p = pN μ + 1
    · rw [if_pos ⟨rfl, q⟩, if_pos ⟨rfl, q⟩, if_pos ⟨rfl, q⟩]
    · rw [if_neg (fun y => q y.2), if_neg (fun y => q y.2), if_neg (fun y => q y.2)]
      exact b2 p
  · exact tab 6 4 (pN μ + 1) z b3 p
  · show (if 7 = 7 ∧ p = pN μ + 1 then κ.1 9 (6 * i + j) else κ.1 7 p) = (if 5 = 5 ∧ p = pN μ + 1 then μ.1 8 (6 * i + j) else μ.1 5 p)
    rw [g9]
    exact tab 7 5 (pN μ + 1) _ b4 p
  · show (if 9 = 9 ∧ p = 6 * i + j then κ.1 9 (6 * i + j) + 1 else κ.1 9 p) = (if 8 = 8 ∧ p = 6 * i + j then μ.1 8 (6 * i + j) + 1 else μ.1 8 p)
    rw [g9]
    by_cases q : p = 6 * i + j
    · rw [if_pos ⟨rfl, q⟩, if_pos ⟨rfl, q⟩]
    · rw [if_neg (fun y => q y.2), if_neg (fun y => q y.2)]
theorem c_offer {a b z : Int32} (hn : okN n) (h : RR n T κ μ) (hM : MI n E μ) : r_KI l w B n tX7_offer [.ref (B + 1), .int a, .int b, .int z] κ (fun y κ' => y = (aOffer n a b z μ).1 ∧ RR n T κ' (aOffer n a b z μ).2) := by
  have hn6 := hn.2
  refine r_enter (by decide) (Nat.le_of_ble_eq_true rfl) (fun X C Ex => ?_)
  unfold aOffer
  have hBB := h.th
  obtain ⟨S, hB⟩ := h
  refine v_X7_offer_0 C Ex hn hB.co Gr.rf ⟨_, s_isStation hn hB.co, fun z5 κ3 q => ?_⟩
  obtain ⟨rfl, e5⟩ := q
  have hst := stn_z (n := n) rfl e5
  refine ⟨fun c => ?_, fun c => ⟨_, s_isStation hn hB.co, fun z15 κ13 q => ?_⟩⟩
  · rw [if_neg (by rw [hst.1.mp c]; exact fun q => absurd q.1 (by decide))]; exact ⟨rfl, hBB⟩
  obtain ⟨rfl, e15⟩ := q
  have hst2 := stn_z (n := n) rfl e15
  refine ⟨fun c2 => ?_, fun c2 => ?_⟩
  · rw [if_neg (by rw [hst2.1.mp c2]; exact fun q => absurd q.2 (by decide))]; exact ⟨rfl, hBB⟩
  rw [if_pos ⟨hst.2 c, hst2.2 c2⟩]
  refine ⟨fun c3 => ?_, fun c3 => ⟨fun c4 => ?_, fun c4 => ⟨fun c5 => ?_, fun c5 => ?_⟩⟩⟩
  · rw [if_pos (Or.inl c3)]; exact ⟨rfl, hBB⟩
  · rw [if_pos (Or.inr (Or.inl c4))]; exact ⟨rfl, hBB⟩
  · rw [if_neg (fun q => q.elim c3 (fun q => q.elim c4 (fun q => q c5)))]
    obtain ⟨i, hi, rfl⟩ := (stn_iff hn).mp (hst.2 c)
    obtain ⟨j, hj, rfl⟩ := (stn_iff hn).mp (hst2.2 c2)
    have hat := at_st hn hi
    have hbm : 22 + 14 * i + 13 < mOf n := (at_stat hn hat).2.2.2.2.2.1
    obtain ⟨P1, P2⟩ := hM.pay
    have g4 : κ13.1 4 4 = nI (pN μ) := hB.gl.pays.2.2.2.2.2.2.1.trans P1
    have hK := hB.keptRw hn hi
    have hKl : (kL (μ.1 2) (μ.1 6) i (pN μ)).length ≤ 10 := by have := hK.2.2.1; rw [List.length_map] at this; exact this
    have hkc : kc μ i (pN μ) = (kL (μ.1 2) (μ.1 6) i (pN μ)).length := kc_eq i _
    rw [nI_clampS (by omega)]
    refine ⟨vp_in_nI hi (by omega), fun b26 e26 => ?_⟩
    subst e26
    refine ⟨_, s_Pay_full hn hB.co, fun z33 κ31 q => ?_⟩
    obtain ⟨rfl, e33⟩ := q
    rw [g4] at e33
    refine ⟨fun c6 => ⟨_, s_Row_full hn hB.co hK, fun z43 κ41 q => ?_⟩, fun c6 => ?_⟩
    · have hlt : pN μ < 300 := by
        refine Nat.not_le.mp (fun q => ?_)
        rw [if_neg (show ¬ nI (pN μ) < 300 from nI_nlt (a := pN μ) (b := 300) q (by omega))] at e33
        exact absurd (e33.symm.trans c6) (by decide)
      obtain ⟨rfl, e43⟩ := q
      rw [List.length_map] at e43
      refine ⟨fun c7 => ?_, fun c7 => ?_⟩
      · have hlk : (kL (μ.1 2) (μ.1 6) i (pN μ)).length < 10 := by
          refine Nat.not_le.mp (fun q => ?_)
          rw [if_neg (by omega)] at e43
          exact absurd (e43.symm.trans c7) (by decide)
        rw [if_neg (by omega)]
        have e6 : nI i * 6 + nI j = nI (6 * i + j) := by rw [show (6 : Int32) = nI 6 from rfl, pk_mul, nI_add, Nat.mul_comm]
        have ec : (nI i * 6 + nI j).toNatClampNeg = 6 * i + j := by rw [e6, nI_clampS (by omega)]
        refine ⟨_, s_Pay_add hn hB.co hlt g4 (by rw [e6]; exact vp_in_nI (by omega) (by decide)), fun z53 κ51 q => ?_⟩
        obtain ⟨rfl, q51⟩ := q
        rw [ec] at q51
        have h51 : R n T S (fun _ => 0) (fun _ => 0) (fun _ => false) 1 n κ51 (fOff0 i j z μ) := by rw [q51]; exact hB.off0 hn hM hi hj
        have hpn := off0_pN (i := i) (j := j) (z := z) hM
        have hA51 : Ag [4, 5, 6, 7, 9] κ41 κ51 := by rw [q51]; exact ((((Ag.ii.wide (by simp)).trans (Ag.ii.wide (by simp))).trans (Ag.ii.wide (by simp))).trans (Ag.ii.wide (by simp))).trans (Ag.ii.wide (by simp))
        have hK51 : Rw n κ51 (22 + 14 * i + 1) 10 ((kL (μ.1 2) (μ.1 6) i (pN μ)).map nI) := hK.keep (hA51 _ (by simp; omega)).1 (hA51 _ (by simp; omega)).1
        -- the payload is kept
        have fin : ∀ (κ6 : Ku) (ρ : Mu), R n T S (fun _ => 0) (fun _ => 0) (fun _ => false) 1 n κ6 ρ → Rw n κ6 (22 + 14 * i + 1) 10 ((kL (μ.1 2) (μ.1 6) i (pN μ)).map nI) → (∀ p, ρ.1 2 p = (fOff0 i j z μ).1 2 p) → (∀ p, ρ.1 6 p = (fOff0 i j z μ).1 6 p) → pN ρ = pN μ + 1 → ∀ κ7 : Ku, OI [22 + 14 * i + 1, 22 + 14 * i + 1 + 1] κ6 κ7 ∧ Rw n κ7 (22 + 14 * i + 1) 10 (if ((kL (μ.1 2) (μ.1 6) i (pN μ)).map nI).length < 10 then (kL (μ.1 2) (μ.1 6) i (pN μ)).map nI ++ [nI (pN μ + 1)] else (kL (μ.1 2) (μ.1 6) i (pN μ)).map nI) → RR n T κ7 (ui ρ 6 (pN μ + 1) 1) := by
          intro κ6 ρ h6 hK6 r2 r6 rp κ7 q7
          obtain ⟨hO7, hR7⟩ := q7
          rw [List.length_map, if_pos hlk, show (kL (μ.1 2) (μ.1 6) i (pN μ)).map nI ++ [nI (pN μ + 1)] = (kL (μ.1 2) (μ.1 6) i (pN μ) ++ [pN μ + 1]).map nI by rw [List.map_append]; rfl] at hR7
          have o2 : ∀ p, ρ.1 2 p = if p = pN μ + 1 then nI i else μ.1 2 p := fun p => by
            rw [r2]
            unfold fOff0 thr ui
            simp only
            rw [if_neg (by omega), if_neg (by omega), if_neg (by omega), if_neg (by omega), if_neg (by omega)]
            by_cases q : p = pN μ + 1
            · rw [if_pos ⟨trivial, q⟩, if_pos q]
            · rw [if_neg (fun y => q y.2), if_neg q, if_neg (by omega), if_neg (by omega)]
          have o6 : ∀ p, p ≠ pN μ + 1 → ρ.1 6 p = μ.1 6 p := fun p q => by
            rw [r6]
            unfold fOff0 thr ui
            simp only
            rw [if_neg (fun y => q y.2), if_neg (by omega), if_neg (by omega), if_neg (by omega), if_neg (by omega), if_neg (by omega), if_neg (by omega), if_neg (by omega)]
          have eK : ∀ s, kL (ρ.1 2) (fun q => if q = pN μ + 1 then 1 else ρ.1 6 q) s (pN ρ) = kL (μ.1 2) (μ.1 6) s (pN μ) ++ (if nI i = nI s then [pN μ + 1] else []) := fun s => by
            rw [rp]
            simp only [kL]
            rw [kL_congr (f := μ.1 2) (k := μ.1 6) (pN μ) (fun p p1 p2 => ⟨by rw [o2 p, if_neg (by omega)], by rw [if_neg (by omega)]; exact o6 p (by omega)⟩), o2 (pN μ + 1), if_pos rfl]
            congr 1
            by_cases q : nI i = nI s
            · rw [if_pos q, if_pos ⟨q, by rw [if_pos trivial]; decide⟩]
            · rw [if_neg q, if_neg (fun y => q y.1)]
          have eR : ∀ s, kL (ρ.1 2) (ρ.1 6) s (pN ρ) = kL (μ.1 2) (μ.1 6) s (pN μ) := fun s => by
            rw [rp]
            simp only [kL]
            have z6 : ρ.1 6 (pN μ + 1) = 0 := by
              rw [r6]
              unfold fOff0
              exact if_pos ⟨rfl, rfl⟩
            rw [z6, if_neg (fun y => y.2 rfl), List.append_nil]
            exact kL_congr _ (fun p p1 p2 => ⟨by rw [o2 p, if_neg (by omega)], o6 p (by omega)⟩)
          refine ⟨S, h6.keptRow hi hO7 hR7 (gmo_ui (by omega)) ?_ (fun s hs hsi => ?_)⟩
          · rw [view_6, eK i, if_pos rfl]
          · rw [view_6, eK s, if_neg (fun q => hsi (nI_inj (by omega) (by omega) q).symm), List.append_nil, ← eR s]
            rfl
        have eO : fOffer (nI i) (nI j) z μ = ui (fOff0 i j z μ) 6 (pN μ + 1) 1 := by
          unfold fOffer fOff0
          rw [nI_clampS (by omega), nI_clampS (by omega)]
          refine Prod.ext (funext fun g => funext fun k => ?_) rfl
          show (if g = 6 ∧ k = pN μ + 1 then (1 : Int32) else _) = (if g = 6 ∧ k = pN μ + 1 then 1 else if g = 6 ∧ k = pN μ + 1 then 0 else _)
          by_cases q : g = 6 ∧ k = pN μ + 1
          · rw [if_pos q, if_pos q]
          · rw [if_neg q, if_neg q, if_neg q]
        have e51 : κ51.1 (22 + 14 * i + 1) 1 = nI (kL (μ.1 2) (μ.1 6) i (pN μ)).length := by rw [hK51.2.2.2.1, List.length_map]
        rw [e51]
        have pe : nI (pN μ + 1) = nI (pN μ + 1) := rfl
        refine ⟨fun c8 => ?_, fun c8 => ?_⟩
        · have hk0 : kc μ i (pN μ) = 0 := by rw [hkc]; exact nI_inj (by omega) (by omega) (c8.trans nI_0.symm)
          rw [if_pos hk0]
          obtain ⟨x, ex, hx⟩ := hM.wid i hi
          have o : ∀ g k, 9 ≤ g → (fOff0 i j z μ).1 g k = μ.1 g k := fun g k hg => by
            unfold fOff0 thr ui
            simp only
            rw [if_neg (by omega), if_neg (by omega), if_neg (by omega), if_neg (by omega), if_neg (by omega), if_neg (by omega), if_neg (by omega), if_neg (by omega)]
          have ew : κ51.1 (22 + 14 * i) 3 = nI x := by rw [(h51.stat hi).2.2.2.1, o 17 i (by omega)]; exact ex
          have e14 : κ51.1 2 1 = μ.1 0 14 := by
            have : κ51.1 2 1 = (fOff0 i j z μ).1 0 14 := h51.gl.1.2.2.2.2.1
            rw [this]
            simp [fOff0, thr, ui]
          have e15 : κ51.1 2 2 = μ.1 0 15 := by
            have : κ51.1 2 2 = (fOff0 i j z μ).1 0 15 := h51.gl.1.2.2.2.2.2.1
            rw [this]
            simp [fOff0, thr, ui]
          refine ⟨_, s_drawCount hn h51.co hat ?_ ?_ ?_, fun κ61 q61 => ?_⟩
          · rw [ew, nI_1, show (1 : Int32) = nI 1 from rfl]
            exact nI_le (by omega) (by omega)
          · rw [ew, nI_1]
            exact nI_ne0 (by omega) (by omega)
          · rw [e14, e15]
            exact hM.drIn
          have h61 : R n T S (fun _ => 0) (fun _ => 0) (fun _ => false) 1 n κ61 (fDraw i (fOff0 i j z μ)) := by rw [q61]; exact h51.draw hi
          have hA61 : Ag [2, 22 + 14 * i] κ51 κ61 := by
            rw [q61]
            split
            · exact Ag.ii.wide (by simp)
            · exact (Ag.ii.wide (by simp)).trans (Ag.ii.wide (by simp))
          have hK61 : Rw n κ61 (22 + 14 * i + 1) 10 ((kL (μ.1 2) (μ.1 6) i (pN μ)).map nI) := hK51.keep (hA61 _ (by simp; omega)).1 (hA61 _ (by simp; omega)).1
          have d2 : ∀ g p, g ≠ 0 → g ≠ 19 → (fDraw i (fOff0 i j z μ)).1 g p = (fOff0 i j z μ).1 g p := fun g p g0 g19 => by
            unfold fDraw
            show (if g = 19 ∧ p = i then _ else if g = 0 ∧ p = 15 then _ else (fOff0 i j z μ).1 g p) = _
            rw [if_neg (fun y => g19 y.1), if_neg (fun y => g0 y.1)]
          have dp : pN (fDraw i (fOff0 i j z μ)) = pN μ + 1 := by
            rw [← hpn]
            rfl
          refine ⟨_, s_Row_add hn h61.co hK61, fun κ70 q70 => ⟨rfl, ?_⟩⟩
          have := fin κ61 _ h61 hK61 (fun p => d2 2 p (by decide) (by decide)) (fun p => d2 6 p (by decide) (by decide)) dp κ70 q70
          have eD : fDraw i (fOffer (nI i) (nI j) z μ) = ui (fDraw i (fOff0 i j z μ)) 6 (pN μ + 1) 1 := by
            rw [eO, draw_6]
          rw [eD]
          exact this
        · have hk0 : ¬ kc μ i (pN μ) = 0 := fun q => c8 (by rw [← hkc, q]; exact nI_0)
          rw [if_neg hk0]
          refine ⟨_, s_Row_add hn h51.co hK51, fun κ79 q79 => ⟨rfl, ?_⟩⟩
          rw [eO]
          exact fin κ51 _ h51 hK51 (fun _ => rfl) (fun _ => rfl) hpn κ79 q79
      · have : (kL (μ.1 2) (μ.1 6) i (pN μ)).length = 10 := by
          refine Nat.le_antisymm hKl (Nat.not_lt.mp (fun q => ?_))
          rw [if_pos q] at e43
          exact c7 e43
        rw [if_pos (Or.inr (by rw [hkc]; exact this))]; exact ⟨rfl, hBB⟩
    · have : pN μ = 300 := by
        refine Nat.le_antisymm P2 (Nat.not_lt.mp (fun q => ?_))
        rw [if_pos (show nI (pN μ) < 300 from nI_lt (a := pN μ) (b := 300) q (by omega))] at e33
        exact c6 e33
      rw [if_pos (Or.inl this)]; exact ⟨rfl, hBB⟩
  · rw [if_pos (Or.inr (Or.inr c5))]; exact ⟨rfl, hBB⟩
end RN
