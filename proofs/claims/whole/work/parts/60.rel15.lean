/-! DATA is received -/
section RG
variable {l : Launch} {w : r_V} {B : Nat} {n T s r E : Nat} {S : Int32} {d m : Nat → Nat} {e : Nat → Bool} {κ κ' : Ku} {μ μ' : Mu}
theorem R.taken {L : List Int32} {lim cur : Nat} (hn : okN n) (h : R n T S d m e lim cur κ μ) (hO : OI [19, 20] κ κ') (hL : Rw n κ' 19 4 L) : R n T S d m e lim cur κ' μ := by
  have hA := hO.ag
  have g : ∀ a k, a ≠ 19 → a ≠ 20 → κ'.1 a k = κ.1 a k := fun a k h1 h2 => by rw [hO.2 a (by simp [h1, h2])]
  have gg : ∀ a k, a ≠ 19 → a ≠ 20 → (glo κ').1 a k = (glo κ).1 a k := fun a k h1 h2 => by
    show (if a < 22 then κ'.1 a k else 0) = (if a < 22 then κ.1 a k else 0)
    rw [g a k h1 h2]
  have gl : (glo κ').2 = (glo κ).2 := by
    funext a k
    show (if a < 22 then κ'.2.1 a k else 0) = (if a < 22 then κ.2.1 a k else 0)
    rw [hO.1]
  obtain ⟨⟨a1, a2, a3, a4, a5, a6, a7, a8, a9⟩, b1, b2, b3, b4, b5, b6, b7, b8, b9, b10, b11, b12, b13, b14⟩ := h.gl
  refine h.low (κ' := κ') (μ' := μ) hA (by simp) (hO.co h.co) (fun i hi => rfl) ?_
  unfold Gl
  rw [gl]
  refine ⟨⟨?_, a2, a3, ?_, ?_, ?_, ?_, ?_, ?_⟩, fun k => ?_, fun k => ?_, fun k => ?_, fun k => ?_, fun k => ?_, fun k => ?_, fun k => ?_, fun k => ?_, b9, b10, fun k => ?_, fun k => ?_, fun k => ?_, L, hL.2.2.1, hL.2.2.2.1, hL.2.2.2.2⟩
  · rw [gg 1 _ (by decide) (by decide)]; exact a1
  · rw [gg 1 _ (by decide) (by decide)]; exact a4
  · rw [gg 2 _ (by decide) (by decide)]; exact a5
  · rw [gg 2 _ (by decide) (by decide)]; exact a6
  · rw [gg 4 _ (by decide) (by decide)]; exact a7
  · rw [gg 11 _ (by decide) (by decide)]; exact a8
  · rw [gg 15 _ (by decide) (by decide)]; exact a9
  · rw [gg 3 _ (by decide) (by decide)]; exact b1 k
  · rw [gg 5 _ (by decide) (by decide)]; exact b2 k
  · rw [gg 6 _ (by decide) (by decide)]; exact b3 k
  · rw [gg 7 _ (by decide) (by decide)]; exact b4 k
  · rw [gg 8 _ (by decide) (by decide)]; exact b5 k
  · rw [gg 9 _ (by decide) (by decide)]; exact b6 k
  · rw [gg 10 _ (by decide) (by decide)]; exact b7 k
  · rw [gg 12 _ (by decide) (by decide)]; exact b8 k
  · rw [gg 16 _ (by decide) (by decide)]; exact b11 k
  · rw [gg 17 _ (by decide) (by decide)]; exact b12 k
  · rw [gg 18 _ (by decide) (by decide)]; exact b13 k
theorem R.takenRw {lim cur : Nat} (h : R n T S d m e lim cur κ μ) : ∃ L, Rw n κ 19 4 L := by
  obtain ⟨⟨a1, a2, a3, a4, a5, a6, a7, a8, a9⟩, b1, b2, b3, b4, b5, b6, b7, b8, b9, b10, b11, b12, b13, L, q1, q2, q3⟩ := h.gl
  exact ⟨L, at_c (a := 18) rfl, at_c (a := 19) rfl, q1, q2, q3⟩
theorem c_receiveData {f : Nat} (hn : okN n) (hTb : T + 100 < 2 ^ 31) (h : R n T S d m e 0 s κ μ) (hS : S = SN n μ) (hM : MI n E μ) (hE : E + 4 < 2 ^ 30) (hd : d r = 1) (hm : m s = 1) (he : e s = false) (hs : s < n) (hr : r < n) (hsr : s ≠ r) (hk : μ.1 37 s = 3) (hl : μ.2 40 s = lN T) (hto : μ.1 38 s = nI r) (hf : κ.2.2 (22 + 14 * s) 14 = f) : r_KV l w B n tX7_receiveData [.ref (B + 1), .ref (B + (22 + 14 * r)), .ref (B + (22 + 14 * s)), .ref (B + f)] κ (fun κ' => R n T S d m e 0 s κ' (if fSends (fTake s r (lN T) μ).2 r (lN T) = false ∧ (fTake s r (lN T) μ).2.2 26 r < 0 then fDue r 4 (nI s) 0 (fTake s r (lN T) μ).1 (lN T) (fTake s r (lN T) μ).2 else (fTake s r (lN T) μ).2) ∧ κ'.2.2 = κ.2.2) := by
  have hn6 := hn.2
  have hat := at_st hn hr
  have hats := at_st hn hs
  have hbs : 22 + 14 * s + 13 < mOf n := (at_stat hn hats).2.2.2.2.2.1
  obtain ⟨sO, a, b, z, q, L, hsO, p2, hL, -, -, ha, hb, haT, hTb2, hba, -, -, -, -, e41, hz, hlen, -, hB, hF⟩ := h.frame hn hs he (by rw [hk]; decide)
  have hff : f = 22 + 14 * s + sO := hf.symm.trans p2
  have hfs : atS n f = some (.inl 2) := by rw [← hf]; exact (h.co.2.2.2.1 _ hats).2.2.2.2
  rw [← hff] at hL hB
  have hbT : b = T := (lN_ne (by omega) (by omega)).mp (hb.symm.trans hl)
  rw [if_pos hk] at hlen
  have eL : L = tl (μ.1 34) (μ.1 35) s := hF.1 hk
  subst eL
  have hLg : μ.1 41 s = μ.1 36 s := by
    obtain ⟨-, -, -, -, -, x, -⟩ := h.rel s hs
    exact x.2.2.2.1 hk
  obtain ⟨c, c4, ec, -, -, e36⟩ := hM.tr s hs
  have e36 := e36.resolve_left (fun q => nI_ne0 (n := z) (by omega) (by omega) (e41.symm.trans (hLg.trans q)))
  have hmem := (hM.tr s hs).mem
  have hP := hM.pay.2
  have hlen4 : (tl (μ.1 34) (μ.1 35) s).length ≤ 4 := by
    unfold tl
    rw [List.length_map, List.length_range, ec, nI_clampS (by omega)]
    exact c4
  have g6 := h.gl.pays.2.1
  have hBr := hB r hr
  rw [hm] at hBr
  have hgood : goodOf κ (κ.2.1 (f + 3) r) (tl (μ.1 34) (μ.1 35) s) (nI 1) = sel (gB (κ.1 6) (μ.2 43 (6 * s + r)) (tl (μ.1 34) (μ.1 35) s) (nI 1)) (tl (μ.1 34) (μ.1 35) s) := by
    refine goodOf_eq hBr (by omega) _ 1 z (fun p hp => ?_) ?_ hlen4 (by omega) (by omega)
    · obtain ⟨q, rfl, q1, q2, -⟩ := hmem p hp
      obtain ⟨-, -, c, -, -, -, ec, -, -, -, hc1, hc8, -⟩ := hM.pl q q1 q2
      rw [nI_clampS (by omega), g6]
      exact ⟨c, ec, hc1, hc8⟩
    · rw [g6]
      exact (e36.symm.trans hLg.symm).trans e41
  rw [g6] at hgood
  have hte := take_eq (t := lN T) hn hM hs hr
  have e1 : (1 : Int32) = nI 1 := rfl
  rw [e1] at hte
  have hgb : gB (μ.1 4) (μ.2 43 (6 * s + r)) (tl (μ.1 34) (μ.1 35) s) (nI 1) < 2 ^ (tl (μ.1 34) (μ.1 35) s).length := gB_lt _ _
  generalize hbb : gB (μ.1 4) (μ.2 43 (6 * s + r)) (tl (μ.1 34) (μ.1 35) s) (nI 1) = bt at *
  generalize hDD : sel bt (tl (μ.1 34) (μ.1 35) s) = D at *
  have hDm : ∀ p ∈ D, ∃ q : Nat, p = nI q ∧ 1 ≤ q ∧ q ≤ pN μ := fun p hp => by
    rw [← hDD] at hp
    obtain ⟨q, e, q1, q2, -⟩ := hmem p (sel_mem _ _ p hp)
    exact ⟨q, e, q1, q2⟩
  have hD4 : D.length ≤ 4 := by
    rw [← hDD]
    exact Nat.le_trans (sel_len _ _) hlen4
  have en := (h.stat hs).1
  have er := (h.stat hr).1
  obtain ⟨L0, hL0⟩ := h.takenRw
  have k1 : ∀ g j, g ≠ 0 ∧ g ≠ 7 ∧ g ≠ 9 ∧ g ≠ 14 ∧ g ≠ 15 → (fTake s r (lN T) μ).2.1 g j = μ.1 g j := fun g j hg => take_1 hn hM hs hr hg
  have k2 : ∀ g j, g ≠ 16 → (fTake s r (lN T) μ).2.2 g j = μ.2 g j := fun g j hg => fTake_2 hg
  have f1 : (fTake s r (lN T) μ).1 = nI bt := by rw [hte]
  have f2 : (fTake s r (lN T) μ).2 = cTake s r (lN T) D μ := by rw [hte]
  rw [f1]
  generalize (fTake s r (lN T) μ).2 = ν at *
  refine r_enter (by decide) (Nat.le_of_ble_eq_true rfl) (fun X C Ex => ?_)
  refine v_X7_receiveData_0 C Ex hn h.co Gr.rf hat hats hfs ?_
  rw [er]
  refine ⟨_, s_Pay_copyGood hn h.co hfs hL hL0 (by omega) (vp_in_nI hr (by omega)) (fun p hp => ?_), fun κ3 q3 => ?_⟩
  · obtain ⟨q, rfl, q1, q2, -⟩ := hmem p hp
    exact vp_in_nI (by omega) (by decide)
  rw [nI_clampS (by omega), e1, hgood] at q3
  obtain ⟨hO3, hR3⟩ := q3
  have h3 : R n T S d m e 0 s κ3 μ := h.taken hn hO3 hR3
  have en3 := (h3.stat hs).1
  have er3 := (h3.stat hr).1
  refine ⟨_, s_Pay_pairOf hn h3.co, fun z14 κ12 q => ?_⟩
  obtain ⟨rfl, e14⟩ := q
  have e14' : z14 = nI (6 * s + r) := by
    rw [e14, en3, er3, show (6 : Int32) = nI 6 from rfl, pk_mul, nI_add, Nat.mul_comm]
  subst e14'
  have hL3 : Rw n κ12 (f + 1) 4 (tl (μ.1 34) (μ.1 35) s) := hL.keep (hO3.2 _ (by simp; omega)) (hO3.2 _ (by simp; omega))
  refine ⟨_, c_takePayloads hn h3 hM hE hs hr hL3 hR3 hDm, fun κ21 q => ?_⟩
  rw [← f2] at q
  obtain ⟨h21, k19, k20, kp⟩ := q
  have kp : κ21.2.2 = κ.2.2 := kp.trans (by rw [hO3.1])
  have hR21 : Rw n κ21 19 4 D := hR3.keep k19 k20
  have eS : κ21.1 1 8 = nI (mkM n (knd μ)) := h21.gl.1.2.2.2.1.trans hS
  have eb := (h21.stat hr).2.1
  have es21 := (h21.stat hs).1
  rw [eS, eb, es21]
  have w26 := (h21.w26 hTb hr).1
  have hsd : fSends ν r (lN T) = knd μ r := by
    rw [h21.sends hTb hr]
    unfold knd
    rw [k1 37 r (by decide)]
  have hbit := send_bit (f := knd μ) hn hr
  rw [hsd]
  refine ⟨fun c1 => ⟨fun c2 => ?_, fun c2 => ?_⟩, fun c1 => ?_⟩
  · have c1' := hbit.mp c1
    have c2' := w26.mp c2
    rw [if_pos ⟨c1', c2'⟩]
    obtain ⟨dO, sO', hds, p1, p2', -, -⟩ := h21.ptr hr
    have hfd : atS n (22 + 14 * r + dO) = some (.inl 2) := by rw [← p1]; exact (h21.co.2.2.2.1 _ hat).2.2.2.1
    obtain ⟨q1, q2, q3, q4, q5⟩ := at_frame hn hfd
    rw [p1]
    refine ⟨_, s_Frame_make hn h21.co hfd, fun κ32 q32 => ?_⟩
    have p32 : κ32.2.2 (22 + 14 * r) 13 = 22 + 14 * r + dO := by rw [q32]; exact p1
    rw [p32]
    have r32 : Rw n κ32 (22 + 14 * r + dO + 1) 4 [] := by
      refine ⟨q1, q2, by simp, ?_, fun k hk => absurd hk (by simp)⟩
      rw [q32]
      simp [kMake, kfill, ki, nI_0]
    have hAm : Ag [22 + 14 * r + dO, 22 + 14 * r + dO + 1, 22 + 14 * r + dO + 3] κ21 κ32 := by
      rw [q32]
      unfold kMake
      exact (((((Ag.ii.wide (by simp)).trans (Ag.ii.wide (by simp))).trans (Ag.ii.wide (by simp))).trans (Ag.ii.wide (by simp))).trans (Ag.ii.wide (by simp))).trans (Ag.fill.wide (by simp))
    have a32 : Rw n κ32 19 4 D := hR21.keep (hAm _ (by simp; omega)).1 (hAm _ (by simp; omega)).1
    have c32 : CoK n κ32 := by rw [q32]; exact h21.co
    refine ⟨_, s_Row_copy hn c32 r32 a32 (by omega) hD4, fun κ41 q41 κ48 e48 => ?_⟩
    obtain ⟨hO41, hR41⟩ := q41
    have t41 : κ41.2.1 1 7 = lN T := by
      rw [hO41.1, q32, ← h21.gl.time.1]
      simp only [kMake, kfill, ki]
      rw [if_neg (by omega)]
    rw [e48, t41]
    have et : tl (ν.1 34) (ν.1 35) = tl (μ.1 34) (μ.1 35) := by
      rw [show ν.1 34 = μ.1 34 from funext fun j => k1 34 j (by decide), show ν.1 35 = μ.1 35 from funext fun j => k1 35 j (by decide)]
    have hk0 : ν.1 37 r = 0 := by rw [k1 37 r (by decide)]; exact knd0.mp c1'
    refine ⟨?_, by
      show κ41.2.2 = κ.2.2
      rw [hO41.1, q32]
      exact kp⟩
    rw [← nI_0]
    refine R.due (dO := dO) (sO := sO') (L := D) hn hTb h21 hd hr hs hsr hk0 hds p1 p2' (Or.inr (Or.inr rfl)) (by omega) (fun q => absurd q (by decide)) ⟨fun q => absurd q (by decide), fun _ => ⟨bt, rfl, ?_, ?_⟩⟩ (fun _ => ⟨rfl, ?_, ?_⟩) (by rw [nI_0, ← q32]; exact hO41) hR41
    · rw [nI_clampS (by omega), et]; exact hgb
    · rw [nI_clampS (by omega), et]; exact hDD.symm
    · rw [k1 37 s (by decide)]; exact hk
    · rw [k1 38 s (by decide)]; exact hto
  · rw [if_neg (fun q => c2 (w26.mpr q.2))]; exact ⟨h21, kp⟩
  · rw [if_neg (fun q => c1 (hbit.mpr q.1))]; exact ⟨h21, kp⟩
end RG
