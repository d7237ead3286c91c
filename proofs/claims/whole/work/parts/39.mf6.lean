/-! acknowledged, receive, stepThree, stepFour, run -/
def fA1 (r : Nat) (bits : Int32) (t : Int64) (k : Nat) (μ : Mu) : Mu := if (bits >>> (nI k &&& 31)) &&& 1 = 1 then fTell (μ.1 34 (4 * r + k)) 3 t (ui μ 6 (μ.1 34 (4 * r + k)).toNatClampNeg 0) else μ
def fAckL (r : Nat) (bits : Int32) (t : Int64) (μ : Mu) : Mu := it (fA1 r bits t) 0 (μ.1 35 r).toNatClampNeg (ul μ 23 r (-1))
def fAck (r : Nat) (bits : Int32) (t : Int64) (μ : Mu) : Mu := if bits = 0 then fFail r t (fAckL r bits t μ) else fKeepDraw r (ui (ui (fAckL r bits t μ) 18 r 0) 17 r 3)
def fAwait (μ : Mu) (s r : Nat) : Bool := !decide (μ.2 23 r < 0) && (decide (μ.1 24 r = nI s) && decide (μ.1 25 r = μ.1 37 s))
def fRec (s r : Nat) (t : Int64) (μ : Mu) : Mu :=
  if μ.1 38 s = nI r then
    if μ.1 37 s = 1 then (if ¬ t + 1 < μ.2 22 r ∧ μ.2 23 r < 0 ∧ μ.2 26 r < 0 then fDue r 2 (nI s) (μ.1 41 s) 0 t μ else μ)
    else if μ.1 37 s = 3 then (if fSends (fTake s r t μ).2 r t = false ∧ (fTake s r t μ).2.2 26 r < 0 then fDue r 4 (nI s) 0 (fTake s r t μ).1 t (fTake s r t μ).2 else (fTake s r t μ).2)
    else if fAwait μ s r then (if μ.1 37 s = 2 then fDue r 3 (nI s) (μ.1 36 r) 0 t (ul μ 23 r (-1)) else fAck r (μ.1 42 s) t μ) else μ
  else ul μ 22 r (if (t + 1) + (fLeft μ s).toInt64 ≤ μ.2 22 r then μ.2 22 r else (t + 1) + (fLeft μ s).toInt64)
def fReceive (s r : Nat) (t : Int64) (μ : Mu) : Mu := fRec s r t (ul μ 32 r t)
def fWhole (μ : Mu) (s r : Nat) : Bool := if μ.1 37 s = 3 then decide (μ.2 43 (6 * s + r) &&& 1 = 0) else decide (μ.2 43 (6 * s + r) = 0)
def fThree2 (t : Int64) (s r : Nat) (μ : Mu) : Mu := if fHears μ r s && fWhole μ s r then fReceive s r t μ else μ
def fEnd (t : Int64) (s : Nat) (μ : Mu) : Mu := if μ.1 37 s = 1 ∨ μ.1 37 s = 3 then ui (ui (ul μ 23 s (t + 4)) 24 s (μ.1 38 s)) 25 s (μ.1 37 s + 1) else μ
def fThree1 (n : Nat) (t : Int64) (s : Nat) (μ : Mu) : Mu := if ¬ μ.1 37 s ≤ 0 ∧ μ.2 40 s = t then fEnd t s (it (fThree2 t s) 0 n μ) else μ
def fThree (n : Nat) (t : Int64) (μ : Mu) : Mu := it (fThree1 n t) 0 n μ
def fFourA (n : Nat) (t : Int64) (s : Nat) (μ : Mu) : Mu := ui (if fAny n μ s s t = false ∧ ¬ μ.1 31 s = 0 then ui μ 21 s (if μ.2 32 s = t - 1 then 3 else 6) else μ) 31 s (if fAny n μ s s t then 1 else 0)
def fFourB (t : Int64) (s : Nat) (any : Bool) (μ : Mu) : Mu := if fSends μ s t = false ∧ any = false ∧ μ.2 23 s < 0 ∧ μ.2 26 s < 0 ∧ ¬ t < μ.2 22 s then (if μ.1 20 s + 1 ≤ μ.1 21 s ∨ μ.1 19 s ≤ 0 then ui μ 20 s (μ.1 20 s + 1) else ui (ui μ 20 s (μ.1 20 s + 1)) 19 s (μ.1 19 s - 1)) else ui μ 20 s 0
def fFour1 (n : Nat) (t : Int64) (s : Nat) (μ : Mu) : Mu := fFourB t s (fAny n μ s s t) (fFourA n t s μ)
def fFour2 (t : Int64) (s : Nat) (μ : Mu) : Mu := ui μ 37 s (if t < μ.2 40 s then μ.1 37 s else 0)
def fFour (n : Nat) (t : Int64) (μ : Mu) : Mu := it (fFour2 t) 0 n (it (fFour1 n t) 0 n μ)
section MF8
variable {l : Launch} {w : r_V} {B m n E : Nat} {μ : Mu}
theorem MI.a1 (h : MI n E μ) {r k : Nat} {bits : Int32} {t : Int64} : MI n (E + 1) (fA1 r bits t k μ) := by
  unfold fA1
  split
  · exact (h.kept _ 0).tell _ _ _
  · exact h.up (by omega)
theorem fTell_1 {p k : Int32} {t : Int64} {g i : Nat} (hg : g ≠ 0 ∧ g ≠ 14 ∧ g ≠ 15) : (fTell p k t μ).1 g i = μ.1 g i := by
  unfold fTell
  split <;> simp [ui, ul, hg]
theorem fTell_0 {p k : Int32} {t : Int64} {i : Nat} (hi : i ≠ 21) : (fTell p k t μ).1 0 i = μ.1 0 i := by
  unfold fTell
  split <;> simp [ui, ul, hi]
theorem fTell_2 {p k : Int32} {t : Int64} {g i : Nat} (hg : g ≠ 16) : (fTell p k t μ).2 g i = μ.2 g i := by
  unfold fTell
  split <;> simp [ui, ul, hg]
theorem fA1_1 {r k : Nat} {bits : Int32} {t : Int64} {g i : Nat} (hg : g ≠ 0 ∧ g ≠ 6 ∧ g ≠ 14 ∧ g ≠ 15) : (fA1 r bits t k μ).1 g i = μ.1 g i := by
  unfold fA1
  split
  · rw [fTell_1 ⟨hg.1, hg.2.2.1, hg.2.2.2⟩]
    simp [ui, hg]
  · rfl
theorem fA1_2 {r k : Nat} {bits : Int32} {t : Int64} {g i : Nat} (hg : g ≠ 16) : (fA1 r bits t k μ).2 g i = μ.2 g i := by
  unfold fA1
  split
  · rw [fTell_2 hg]
    rfl
  · rfl
theorem MI.ackL (h : MI n E μ) {r : Nat} {bits : Int32} {t : Int64} (hr : r < n) : MI n (E + 4) (fAckL r bits t μ) := by
  have hl := (h.tr r hr).len
  have := it_inv (hi := (μ.1 35 r).toNatClampNeg) (P := fun i ν => MI n (E + i) ν) (fun i ν _ q => q.a1 (r := r) (bits := bits) (t := t) (k := i)) (μ.1 35 r).toNatClampNeg 0 (ul μ 23 r (-1)) (by omega) (h.nowait r)
  exact this.up (by omega)
theorem MI.ack (h : MI n E μ) {r : Nat} {bits : Int32} {t : Int64} (hr : r < n) : MI n (E + 5) (fAck r bits t μ) := by
  unfold fAck
  split
  · exact (h.ackL hr).fail hr
  · exact (((h.ackL hr).tries r 0).width (x := 3) (by omega)).keepDraw r |>.up (by omega)
theorem k_ack {r : Nat} {bits : Int32} {t : Int64} (hn : okN n) (hr : r < n) (h : MI n E μ) (hE : E + 5 < 2 ^ 30) : r_MV l w B m tX8_acknowledged [.int (nI r), .int bits, .long t] μ (fun μ' => μ' = fAck r bits t μ) := by
  have hn6 := hn.2
  have c6 : (nI r).toNatClampNeg = r := nI_clampS (by omega)
  have v6 : vp_in (nI r) 6 := vp_in_nI (by omega) (by decide)
  obtain ⟨c, c4, ec, e2, -⟩ := h.tr r hr
  refine r_MV.of (by decide) (fun _ => Nat.le_of_ble_eq_true rfl) (fun X σ0 C Ex => ?_)
  refine u_X8_acknowledged_0 C Ex ⟨v6, fun μ2 e => ?_⟩
  rw [c6] at e
  have hcl : (μ.1 35 r).toNatClampNeg = c := by rw [ec, nI_clampS (by omega)]
  have key : ∀ (k i : Nat) (ν : Mu), i + k = c → MI n (E + i) ν → (∀ j, ν.1 34 j = μ.1 34 j) → ν.1 35 r = nI c → it (fA1 r bits t) i k ν = fAckL r bits t μ → r_Wm X w B 6 m σ0 (r_Z X w B tX8_acknowledged (ZMV m σ0 (fun μ' => μ' = fAck r bits t μ))) 12 [(0, Value.ref (B + m)), (1, Value.int (nI r)), (2, Value.int bits), (3, Value.long t), (5, Value.int (nI i))] [] ν := by
    intro k
    induction k with
    | zero =>
      intro i ν hi hν h34 h35 hF
      refine u_X8_acknowledged_12 C Ex ⟨v6, ?_⟩
      rw [c6, h35]
      refine ⟨fun _ => ?_, fun q => absurd (nI_le (by omega) (by omega)) q⟩
      have hF : ν = fAckL r bits t μ := hF
      refine ⟨fun c0 => ⟨_, k_fail hn hr hν (by omega), fun μ6 q => ?_⟩, fun c0 μ13 e13 μ19 e19 => ?_⟩
      · rw [q, hF]
        unfold fAck
        rw [if_pos c0]
      · have e0 : μ19 = ui (ui (fAckL r bits t μ) 18 r 0) 17 r 3 := by rw [e19, e13, hF]
        have hM : MI n (E + 4) μ19 := by rw [e0]; exact ((h.ackL hr).tries r 0).width (x := 3) (by omega)
        have hk : kc μ19 r (pN μ19) ≤ 300 := by rw [kc_eq]; exact Nat.le_trans (kL_len _ _ _ _) hM.pay.2
        have eF : fAck r bits t μ = fKeepDraw r μ19 := by unfold fAck; rw [if_neg c0, e0]
        rw [eF]
        refine ⟨_, k_keeps (by omega) hM.pay.2 hM.pay.1, fun z μ27 q => ?_⟩
        obtain ⟨rfl, rfl⟩ := q
        unfold fKeepDraw
        refine ⟨fun c1 => ?_, fun c1 => ⟨_, k_draw (by omega) hM.drIn (hM.wi1 hr), fun μ37 q => ?_⟩⟩
        · rw [if_pos]
          by_cases q : kc μ27 r (pN μ27) = 0
          · exact q
          · exact absurd c1 (nI_nle (by omega) (by omega))
        · rw [if_neg (fun q => c1 (by rw [q]; decide))]
          exact q
    | succ k ih =>
      intro i ν hi hν h34 h35 hF
      obtain ⟨p, p1, p2, p3, -⟩ := e2 i (by omega)
      have hP := h.pay.2
      have ihn := ih (i + 1) (fA1 r bits t i ν) (by omega) hν.a1 (fun j => by rw [fA1_1 (by decide)]; exact h34 j) (by rw [fA1_1 (by decide)]; exact h35) hF
      refine u_X8_acknowledged_12 C Ex ⟨v6, ?_⟩
      rw [c6, h35]
      refine ⟨fun q => absurd q (nI_ge (by omega) (by omega)), fun _ => ?_⟩
      rw [four, nI_clampS (show 4 * r + i < 1000000 by omega)]
      unfold fA1 at ihn
      refine ⟨fun q => ⟨vp_in_nI (by omega) (by decide), by rw [h34, p1]; exact vp_in_nI (by omega) (by decide), fun μ47 e47 => ?_⟩, fun q z e => ?_⟩
      · rw [if_pos q] at ihn
        have hM : MI n (E + i) μ47 := by rw [e47]; exact hν.kept _ 0
        have g34 : μ47.1 34 (4 * r + i) = ν.1 34 (4 * r + i) := by rw [e47]; rfl
        rw [g34]
        refine ⟨_, k_tell (hM.evIn (by omega)), fun μ55 q z e => ?_⟩
        rw [e, nI_1, q, e47]
        exact ihn
      · rw [if_neg q] at ihn
        rw [e, nI_1]
        exact ihn
  have h0 := key c 0 μ2 (by omega) (by rw [e]; exact h.nowait r) (fun j => by rw [e]; rfl) (by rw [e]; exact ec) (by rw [e]; unfold fAckL; rw [hcl])
  rw [nI_0] at h0
  exact h0
theorem MI.due (h : MI n E μ) {r : Nat} {what other size tale : Int32} {t : Int64} (hw : what = 2 ∨ what = 3 ∨ what = 4) (hq : what = 3 → other = qTo μ r ∧ ¬ μ.1 36 r = 0) : MI n E (fDue r what other size tale t μ) := by
  refine ⟨h.n1, h.pay, h.coin, h.noi, h.ev, h.wid, h.pl, h.nu, h.tr, fun i hi => ?_, h.hb, fun i hi => ⟨(h.wh i hi).1, (h.wh i hi).2.1, fun q q3 => ?_⟩⟩
  · unfold DK
    have g27 : (fDue r what other size tale t μ).1 27 i = if i = r then what else μ.1 27 i := by simp [fDue, ui, ul]
    have g26 : (fDue r what other size tale t μ).2 26 i = if i = r then t + 2 else μ.2 26 i := by simp [fDue, ui, ul]
    rw [g27, g26]
    by_cases e : i = r
    · rw [if_pos e, if_pos e]
      exact Or.inr hw
    · rw [if_neg e, if_neg e]
      exact h.dk i hi
  · have g27 : (fDue r what other size tale t μ).1 27 i = if i = r then what else μ.1 27 i := by simp [fDue, ui, ul]
    have g28 : (fDue r what other size tale t μ).1 28 i = if i = r then other else μ.1 28 i := by simp [fDue, ui, ul]
    have g26 : (fDue r what other size tale t μ).2 26 i = if i = r then t + 2 else μ.2 26 i := by simp [fDue, ui, ul]
    rw [g27] at q3
    rw [g26] at q
    rw [g28]
    by_cases e : i = r
    · subst e
      rw [if_pos rfl] at q3 ⊢
      exact hq q3
    · rw [if_neg e] at q q3 ⊢
      exact (h.wh i hi).2.2 q q3
theorem MI.rec (hn : okN n) (h : MI n E μ) {s r : Nat} {t : Int64} (hs : s < n) (hr : r < n) : MI n (E + 5) (fRec s r t μ) := by
  unfold fRec
  split
  · rename_i c
    split
    · split
      · exact (h.due (Or.inl rfl) (fun q => absurd q (by decide))).up (by omega)
      · exact h.up (by omega)
    · split
      · rename_i c3
        have hq : qTo μ s = nI r := by rw [← ((h.wh s hs).1 (Or.inr c3)).1]; exact c
        have hT := h.take hn (t := t) hs hr hq
        split
        · exact (hT.due (Or.inr (Or.inr rfl)) (fun q => absurd q (by decide))).up (by omega)
        · exact hT.up (by omega)
      · split
        · rename_i ca
          simp only [fAwait, Bool.and_eq_true, Bool.not_eq_true', decide_eq_true_eq, decide_eq_false_iff_not] at ca
          split
          · refine ((h.nowait r).due (Or.inr (Or.inl rfl)) (fun _ => ?_)).up (by omega)
            rw [← ca.2.1]
            exact (h.wh r hr).2.1 (Int64.not_lt.mp ca.1)
          · exact h.ack hr
        · exact h.up (by omega)
  · exact h.up (by omega)
theorem MI.got (h : MI n E μ) (r : Nat) (t : Int64) : MI n E (ul μ 32 r t) := h
theorem MI.three2 (hn : okN n) (h : MI n E μ) {s r : Nat} {t : Int64} (hs : s < n) (hr : r < n) : MI n (E + 5) (fThree2 t s r μ) := by
  unfold fThree2
  split
  · exact (h.got r t).rec hn hs hr
  · exact h.up (by omega)
theorem MI.fend (h : MI n E μ) {s : Nat} {t : Int64} (hs : s < n) : MI n E (fEnd t s μ) := by
  unfold fEnd
  split
  · rename_i c
    refine ⟨h.n1, h.pay, h.coin, h.noi, h.ev, h.wid, h.pl, h.nu, h.tr, h.dk, h.hb, fun i hi => ⟨(h.wh i hi).1, fun q => ?_, (h.wh i hi).2.2⟩⟩
    show (if 24 = 24 ∧ i = s then μ.1 38 s else μ.1 24 i) = qTo μ i ∧ ¬ μ.1 36 i = 0
    by_cases e : i = s
    · subst e
      rw [if_pos ⟨rfl, rfl⟩]
      exact (h.wh i hi).1 c
    · rw [if_neg (fun c => e c.2)]
      refine (h.wh i hi).2.1 ?_
      have q' : 0 ≤ (if 23 = 23 ∧ i = s then t + 4 else μ.2 23 i) := q
      rw [if_neg (fun c => e c.2)] at q'
      exact q'
  · exact h
theorem MI.three1 (hn : okN n) (h : MI n E μ) {s : Nat} {t : Int64} (hs : s < n) : MI n (E + 30) (fThree1 n t s μ) := by
  have hn6 := hn.2
  unfold fThree1
  split
  · have := it_inv (hi := n) (P := fun i ν => MI n (E + 5 * i) ν) (fun i ν hi q => by
      have := q.three2 hn (s := s) (t := t) hs hi
      rw [show E + 5 * (i + 1) = E + 5 * i + 5 by omega]
      exact this) n 0 μ (by omega) h
    exact (this.fend hs).up (by omega)
  · exact h.up (by omega)
theorem MI.three (hn : okN n) (h : MI n E μ) {t : Int64} : MI n (E + 180) (fThree n t μ) := by
  have hn6 := hn.2
  have := it_inv (hi := n) (P := fun i ν => MI n (E + 30 * i) ν) (fun i ν hi q => by
    have := q.three1 hn (t := t) hi
    rw [show E + 30 * (i + 1) = E + 30 * i + 30 by omega]
    exact this) n 0 μ (by omega) h
  exact this.up (by omega)
theorem MI.four1 (h : MI n E μ) {s : Nat} {t : Int64} : MI n E (fFour1 n t s μ) := by
  have hA : MI n E (fFourA n t s μ) := by
    unfold fFourA
    split <;> exact h
  unfold fFour1 fFourB
  split
  · split <;> exact hA
  · exact hA
theorem MI.four2 (h : MI n E μ) {s : Nat} {t : Int64} : MI n E (fFour2 t s μ) := by
  unfold fFour2
  refine ⟨h.n1, h.pay, h.coin, h.noi, h.ev, h.wid, h.pl, h.nu, h.tr, h.dk, h.hb, fun i hi => ⟨fun q => ?_, (h.wh i hi).2.1, (h.wh i hi).2.2⟩⟩
  have q' : (if 37 = 37 ∧ i = s then (if t < μ.2 40 s then μ.1 37 s else 0) else μ.1 37 i) = 1 ∨ (if 37 = 37 ∧ i = s then (if t < μ.2 40 s then μ.1 37 s else 0) else μ.1 37 i) = 3 := q
  by_cases e : i = s
  · subst e
    rw [if_pos ⟨rfl, rfl⟩] at q'
    by_cases c : t < μ.2 40 i
    · rw [if_pos c] at q'
      exact (h.wh i hi).1 q'
    · rw [if_neg c] at q'
      exact absurd q' (by decide)
  · rw [if_neg (fun c => e c.2)] at q'
    exact (h.wh i hi).1 q'
theorem MI.four (h : MI n E μ) {t : Int64} : MI n E (fFour n t μ) := it_inv (hi := n) (P := fun _ ν => MI n E ν) (fun _ _ _ q => q.four2) n 0 _ (by omega) (it_inv (hi := n) (P := fun _ ν => MI n E ν) (fun _ _ _ q => q.four1) n 0 μ (by omega) h)
end MF8
