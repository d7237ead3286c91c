/-! beginAttempt, beginFrames -/
section R9
variable {l : Launch} {w : r_V} {B : Nat} {n T s E : Nat} {S : Int32} {d m : Nat → Nat} {e : Nat → Bool} {κ κ' : Ku} {μ μ' : Mu}
theorem R.ptr {lim cur : Nat} (h : R n T S d m e lim cur κ μ) (hs : s < n) : ∃ dO sO : Nat, (dO = 6 ∧ sO = 10 ∨ dO = 10 ∧ sO = 6) ∧ κ.2.2 (22 + 14 * s) 13 = 22 + 14 * s + dO ∧ κ.2.2 (22 + 14 * s) 14 = 22 + 14 * s + sO ∧ Du n T (d s) s dO (blk κ s) (view μ s) ∧ Sd n T (m s) (e s) s sO (blk κ s) (view μ s) := by
  obtain ⟨-, -, -, -, -, -, dO, sO, hds, p1, p2, hD, hS⟩ := h.rel s hs
  exact ⟨dO, sO, hds, p1, p2, hD, hS⟩
theorem Gl.pays {T : Nat} {S : Int32} (h : Gl T S (glo κ) (gmo μ)) : (∀ p, κ.1 5 p = μ.1 2 p * 6 + μ.1 3 p) ∧ κ.1 6 = μ.1 4 ∧ κ.1 7 = μ.1 5 ∧ κ.1 8 = μ.1 7 ∧ κ.1 10 = μ.1 9 ∧ κ.1 9 = μ.1 8 ∧ κ.1 4 4 = μ.1 0 5 ∧ κ.1 1 6 = μ.1 0 3 ∧ κ.1 1 8 = S := by
  obtain ⟨⟨a1, a2, a3, a4, a5, a6, a7, a8, a9⟩, b1, b2, b3, b4, b5, b6, b7, b8, b9, b10, b11, b12, b13, b14⟩ := h
  exact ⟨b2, funext b3, funext b4, funext b5, funext b7, funext b6, a7, a1, a4⟩
theorem kBegun_at {f : Nat} (hp : κ.2.2 s 14 = f) {wN : Nat} (hk : κ.1 f 0 = nI wN) (hw : wN < 1000000) : kBegun κ s = ki κ (s + 5) wN (κ.1 (s + 5) wN + 1) := by
  unfold kBegun
  rw [hp, hk, nI_clampS hw]
theorem c_beginAttempt (hn : okN n) (h : R n T S d m e 1 n κ μ) (hM : MI n E μ) (hs : s < n) (hTb : T + 100 < 2 ^ 31) (hd : d s = 0) (hm : m s = 0) (he : e s = false) (hw : μ.2 23 s = -1) (hdu : μ.2 26 s = -1) (hK : ¬ kL (μ.1 2) (μ.1 6) s (pN μ) = []) (hN : NP n T 1 (view μ) s) {d' : Nat → Nat} (hd1 : d' s = 1) (hd2 : ∀ i, i ≠ s → d' i = d i) : r_KV l w B n tX7_beginAttempt [.ref (B + 1), .ref (B + (22 + 14 * s))] κ (fun κ' => R n T S d' m e 1 n κ' (fAttempt n s (lN T) μ)) := by
  have hn6 := hn.2
  have hat := at_st hn hs
  have hbm : 22 + 14 * s + 13 < mOf n := (at_stat hn hat).2.2.2.2.2.1
  obtain ⟨b, z, hb, hz1, hz33, hq, hqb, hz, hl, hne, hh3, hfs, hmem⟩ := att_facts hn hM hs hK
  obtain ⟨dO, sO, hds, p1, p2, -, ⟨Ls, hLs, -⟩⟩ := h.ptr hs
  obtain ⟨g5, g6, -, -, -, -, -, gT, -⟩ := h.gl.pays
  have hP := hM.pay.2
  have hKm : ∀ p ∈ kL (μ.1 2) (μ.1 6) s (pN μ), p < 1000000 ∧ μ.1 2 p = nI s := fun p hp => ⟨by have := (kL_mem hp).2.1; omega, (kL_mem hp).2.2.1⟩
  have hKin : ∀ p ∈ (kL (μ.1 2) (μ.1 6) s (pN μ)).map nI, vp_in p 301 := fun p hp => by
    obtain ⟨q, hq, rfl⟩ := List.mem_map.mp hp
    exact vp_in_nI (by have := (kL_mem hq).2.1; omega) (by decide)
  have hAin : ∀ p ∈ (attL s μ).map nI, vp_in p 301 := fun p hp => by
    obtain ⟨q, hq, rfl⟩ := List.mem_map.mp hp
    exact vp_in_nI (by have := (hmem q hq).2; omega) (by decide)
  have eFi : firstOf κ ((kL (μ.1 2) (μ.1 6) s (pN μ)).map nI) = (attL s μ).map nI := firstOf_eq g5 hKm
  have hLsR : Rw n κ (22 + 14 * s + sO + 1) 4 Ls := by
    have := RA.rw hn hs hLs (by omega)
    exact this
  refine r_enter (by decide) (Nat.le_of_ble_eq_true rfl) (fun X C Ex => ?_)
  refine v_X7_beginAttempt_0 C Ex hn h.co Gr.rf hat (fun b1 eb1 => ?_)
  subst eb1
  refine ⟨_, s_Pay_copyFirst hn h.co (h.keptRw hn hs) (h.attRw hn hs) (by omega) hKin, fun κ6 q6 => ?_⟩
  rw [eFi] at q6
  obtain ⟨hO6, hR6⟩ := q6
  have hC6 := hO6.co h.co
  have k56 : κ6.1 5 = κ.1 5 := hO6.2 5 (by simp; omega)
  have k66 : κ6.1 6 = κ.1 6 := hO6.2 6 (by simp; omega)
  have k16 : κ6.1 1 = κ.1 1 := hO6.2 1 (by simp)
  have hg0 : ((attL s μ).map nI).getD 0 0 = nI ((attL s μ).headD 0) := getD_map0
  refine ⟨_, s_Pay_receiver hn hC6 hR6 (by rw [hg0]; exact vp_in_nI (by omega) (by decide)), fun z17 κ15 q => ?_⟩
  obtain ⟨rfl, e17⟩ := q
  have e17' : z17 = nI b := by
    rw [e17, hg0, nI_clampS (by omega), k56, g5, hfs, hqb]
    unfold rem
    rw [show (6 : Int32) = nI 6 from rfl, pk_mul, nI_add, pk_rem (by omega) (by omega) (by omega), show (s * 6 + b) % 6 = b by omega]
  refine ⟨_, s_Pay_dataSlots hn hC6 hR6 hAin, fun z26 κ24 q => ?_⟩
  obtain ⟨rfl, e26⟩ := q
  have e26' : z26 = nI z := by
    rw [← hz, e26]
    show sz (κ24.1 6) _ = _
    rw [k66, g6]
  subst e26'
  subst e17'
  have gT' : κ24.1 1 6 = μ.1 0 3 := by rw [k16]; exact gT
  have p2' : κ24.2.2 (22 + 14 * s) 14 = 22 + 14 * s + sO := by rw [hO6.1]; exact p2
  rw [gT', p2']
  have hf : atS n (22 + 14 * s + sO) = some (.inl 2) := by rw [← p2]; exact (h.co.2.2.2.1 _ hat).2.2.2.2
  obtain ⟨q1, q2, q3, q4, q5⟩ := at_frame hn hf
  have hA6 : Ag [22 + 14 * s + 3, 22 + 14 * s + 4, 22 + 14 * s + sO, 22 + 14 * s + sO + 1, 22 + 14 * s + sO + 2, 22 + 14 * s + sO + 3, 22 + 14 * s + 5] κ κ24 := hO6.ag.wide (by simp)
  -- the frame made
  have mk : ∀ wN : Nat, Ag [22 + 14 * s + 3, 22 + 14 * s + 4, 22 + 14 * s + sO, 22 + 14 * s + sO + 1, 22 + 14 * s + sO + 2, 22 + 14 * s + sO + 3, 22 + 14 * s + 5] κ (kMake κ24 n (22 + 14 * s + sO) (nI wN) (nI b) (nI z)) ∧ CoK n (kMake κ24 n (22 + 14 * s + sO) (nI wN) (nI b) (nI z)) ∧ (kMake κ24 n (22 + 14 * s + sO) (nI wN) (nI b) (nI z)).2.2 (22 + 14 * s) 14 = 22 + 14 * s + sO ∧ Rw n (kMake κ24 n (22 + 14 * s + sO) (nI wN) (nI b) (nI z)) (22 + 14 * s + 3) 4 ((attL s μ).map nI) ∧ (kMake κ24 n (22 + 14 * s + sO) (nI wN) (nI b) (nI z)).1 (22 + 14 * s + sO) 0 = nI wN ∧ (kMake κ24 n (22 + 14 * s + sO) (nI wN) (nI b) (nI z)).1 (22 + 14 * s + sO) 1 = nI b ∧ (kMake κ24 n (22 + 14 * s + sO) (nI wN) (nI b) (nI z)).1 (22 + 14 * s + sO) 2 = nI z ∧ (kMake κ24 n (22 + 14 * s + sO) (nI wN) (nI b) (nI z)).1 (22 + 14 * s + sO) 3 = 0 ∧ (∀ r, r < n → (kMake κ24 n (22 + 14 * s + sO) (nI wN) (nI b) (nI z)).2.1 (22 + 14 * s + sO + 3) r = 0) ∧ Rw n (kMake κ24 n (22 + 14 * s + sO) (nI wN) (nI b) (nI z)) (22 + 14 * s + sO + 1) 4 [] ∧ (kMake κ24 n (22 + 14 * s + sO) (nI wN) (nI b) (nI z)).1 (22 + 14 * s + 5) = κ.1 (22 + 14 * s + 5) := by
    intro wN
    have hAm : Ag [22 + 14 * s + sO, 22 + 14 * s + sO + 1, 22 + 14 * s + sO + 3] κ24 (kMake κ24 n (22 + 14 * s + sO) (nI wN) (nI b) (nI z)) := by
      unfold kMake
      exact (((((Ag.ii.wide (by simp)).trans (Ag.ii.wide (by simp))).trans (Ag.ii.wide (by simp))).trans (Ag.ii.wide (by simp))).trans (Ag.ii.wide (by simp))).trans (Ag.fill.wide (by simp))
    have m1 : ∀ k, (kMake κ24 n (22 + 14 * s + sO) (nI wN) (nI b) (nI z)).1 (22 + 14 * s + sO) k = if k = 3 then 0 else if k = 2 then nI z else if k = 1 then nI b else if k = 0 then nI wN else κ24.1 (22 + 14 * s + sO) k := fun k => by
      simp [kMake, kfill, ki]
    refine ⟨hA6.trans (hAm.wide (by simp)), hC6, p2', ?_, by rw [m1]; rfl, by rw [m1]; rfl, by rw [m1]; rfl, by rw [m1]; rfl, fun r hr => ?_, ?_, ?_⟩
    · exact hR6.keep (hAm _ (by simp; omega)).1 (hAm _ (by simp; omega)).1
    · simp [kMake, kfill, hr]
    · refine ⟨q1, q2, by simp, ?_, fun k hk => absurd hk (by simp)⟩
      simp [kMake, kfill, ki, nI_0]
    · rw [(hAm (22 + 14 * s + 5) (by simp; omega)).1]
      exact (hO6.2 _ (by simp))
  have fin : ∀ (wN : Nat) (κ9 : Ku) (L : List Int32), (wN = 1 ∨ wN = 3) → (if sz (μ.1 4) ((attL s μ).map nI) < μ.1 0 3 then (3 : Int32) else 1) = nI wN → (wN = 3 → L = (attL s μ).map nI) → OI [22 + 14 * s + sO + 1, 22 + 14 * s + sO + 2] (kMake κ24 n (22 + 14 * s + sO) (nI wN) (nI b) (nI z)) κ9 → Rw n κ9 (22 + 14 * s + sO + 1) 4 L → R n T S d' m e 1 n (kBegun κ9 (22 + 14 * s)) (fAttempt n s (lN T) μ) ∧ vp_in (κ9.1 (κ9.2.2 (22 + 14 * s) 14) 0) 5 := by
    intro wN κ9 L hwN hwe hL3 hO9 hR9
    obtain ⟨a1, a2, a3, a4, a5, a6, a7, a8, a9, a10, a11⟩ := mk wN
    have c14 : κ9.2.2 (22 + 14 * s) 14 = 22 + 14 * s + sO := by rw [hO9.1]; exact a3
    have cf : κ9.1 (22 + 14 * s + sO) = (kMake κ24 n (22 + 14 * s + sO) (nI wN) (nI b) (nI z)).1 (22 + 14 * s + sO) := hO9.2 _ (by simp)
    have c0 : κ9.1 (22 + 14 * s + sO) 0 = nI wN := by rw [cf]; exact a5
    have c5 : κ9.1 (22 + 14 * s + 5) = κ.1 (22 + 14 * s + 5) := by rw [hO9.2 _ (by simp; omega)]; exact a11
    have eB := kBegun_at (κ := κ9) (s := 22 + 14 * s) c14 c0 (by omega)
    refine ⟨?_, by rw [c14, c0]; exact vp_in_nI (by omega) (by decide)⟩
    rw [eB, c5]
    have hA9 : Ag [22 + 14 * s + 3, 22 + 14 * s + 4, 22 + 14 * s + sO, 22 + 14 * s + sO + 1, 22 + 14 * s + sO + 2, 22 + 14 * s + sO + 3, 22 + 14 * s + 5] κ κ9 := a1.trans (hO9.ag.wide (by simp))
    have hne : ∀ a, a ≠ 22 + 14 * s + 5 → (ki κ9 (22 + 14 * s + 5) wN (κ.1 (22 + 14 * s + 5) wN + 1)).1 a = κ9.1 a := fun a ha => (Ag.ii (κ := κ9) a (by simp; omega)).1
    refine R.attempt hn h hM hs hTb hd hm he hw hdu hK hN hd1 hd2 (b := b) (z := z) (dO := dO) (sO := sO) (L := L) hwN hwe hq hz hb ⟨hz1, hz33⟩ hds p1 p2 (hO9.co a2) (hA9.trans (Ag.ii.wide (by simp))) ?_ ?_ ?_ ?_ ?_ ?_ ?_ ?_ hL3
    · exact (a4.keep (hO9.2 _ (by simp; omega)) (hO9.2 _ (by simp; omega))).keep (hne _ (by omega)) (hne _ (by omega))
    · intro k
      show (if 22 + 14 * s + 5 = 22 + 14 * s + 5 ∧ k = wN then κ.1 (22 + 14 * s + 5) wN + 1 else κ9.1 (22 + 14 * s + 5) k) = _
      by_cases hk : k = wN
      · rw [if_pos ⟨rfl, hk⟩, if_pos hk, hk]
      · rw [if_neg (fun q => hk q.2), if_neg hk, c5]
    · rw [hne _ (by omega)]; exact c0
    · rw [hne _ (by omega), cf]; exact a6
    · rw [hne _ (by omega), cf]; exact a7
    · rw [hne _ (by omega), cf]; exact a8
    · intro r hr
      show κ9.2.1 (22 + 14 * s + sO + 3) r = 0
      rw [hO9.1]; exact a9 r hr
    · exact hR9.keep (hne _ (by omega)) (hne _ (by omega))
  refine ⟨fun c => ⟨_, s_Frame_make hn hC6 hf, fun κ34 q34 => ?_⟩, fun c => ⟨_, s_Frame_make hn hC6 hf, fun κ61 q61 => ?_⟩⟩
  · obtain ⟨a1, a2, a3, a4, a5, a6, a7, a8, a9, a10, a11⟩ := mk 3
    have e34 : κ34 = kMake κ24 n (22 + 14 * s + sO) (nI 3) (nI b) (nI z) := q34
    rw [← e34] at a1 a2 a3 a4 a10
    rw [a3]
    refine ⟨_, s_Row_copy hn a2 a10 a4 (by omega) (by rw [List.length_map]; exact hl), fun κ43 q43 => ?_⟩
    obtain ⟨hO43, hR43⟩ := q43
    rw [e34] at hO43
    have hF := fin 3 κ43 _ (Or.inr rfl) (by rw [hz, if_pos c]; rfl) (fun _ => rfl) hO43 hR43
    refine ⟨_, s_St_begun hn (hO43.co (by rw [← e34]; exact a2)) hat hF.2, fun κ52 q52 => ?_⟩
    rw [q52]
    exact hF.1
  · obtain ⟨a1, a2, a3, a4, a5, a6, a7, a8, a9, a10, a11⟩ := mk 1
    have e61 : κ61 = kMake κ24 n (22 + 14 * s + sO) (nI 1) (nI b) (nI z) := q61
    have hF := fin 1 κ61 [] (Or.inl rfl) (by rw [hz, if_neg c]; rfl) (fun q => absurd q (by omega)) (by rw [e61]; exact OI.rf) (by rw [e61]; exact a10)
    refine ⟨_, s_St_begun hn (by rw [e61]; exact a2) hat hF.2, fun κ70 q70 => ?_⟩
    rw [q70]
    exact hF.1
end R9
