/-! markGoodSlots -/
theorem fGood_congr {n s r : Nat} {t : Int64} {ν ν0 : Mu} (h1 : ν.1 = ν0.1) (h2 : ∀ g i, g ≠ 43 → ν.2 g i = ν0.2 g i) : fGood n t s r ν = fGood n t s r ν0 := by
  have hs : ∀ j, fSends ν j t = fSends ν0 j t := fun j => by unfold fSends; rw [h1, h2 39 j (by decide), h2 40 j (by decide)]
  have hh : ∀ a b, fHears ν a b = fHears ν0 a b := fun a b => by unfold fHears; rw [h1]
  have ha : fAny n ν r s t = fAny n ν0 r s t := by
    unfold fAny
    congr 1
    funext j
    rw [hs, hh]
  have hN : nN ν = nN ν0 := by unfold nN; rw [h1]
  have hn : fNoise ν r t = fNoise ν0 r t := by
    unfold fNoise
    rw [hN]
    congr 1
    funext k
    unfold fCov
    rw [h1, h2 12 k (by decide)]
  unfold fGood
  rw [hs, hh, ha, hn]
/-- the state while one sender's slot is looked at: j listeners are done -/
def MK (n s f k0 : Nat) (κ : Ku) (ν0 : Mu) (j : Nat) (κ9 : Ku) (ν : Mu) : Prop := κ9.1 = κ.1 ∧ κ9.2.2 = κ.2.2 ∧ (∀ a, a ≠ f + 3 → κ9.2.1 a = κ.2.1 a) ∧ ν.1 = ν0.1 ∧ (∀ g i, ¬ (g = 43 ∧ 6 * s ≤ i ∧ i < 6 * s + 6) → ν.2 g i = ν0.2 g i) ∧ ∀ r, r < n → Bits (k0 + (if r < j then 1 else 0)) (κ9.2.1 (f + 3) r) (ν.2 43 (6 * s + r))
section RC
variable {l : Launch} {w : r_V} {B : Nat} {n T s r E : Nat} {S : Int32} {d m : Nat → Nat} {e : Nat → Bool} {κ κ' : Ku} {μ μ' : Mu}
theorem MK.fin {f k0 : Nat} {ν0 ν : Mu} {κ9 : Ku} (hn : okN n) (h : R n T S d m e 1 n κ ν0) (hs : s < n) (hm : m s = 0) (he : e s = false) (hk : ¬ ν0.1 37 s = 0) (hf : κ.2.2 (22 + 14 * s) 14 = f) (ha : ∀ a, ν0.2 39 s = lN a → a ≤ T → T < a + 33 → k0 = T - a) (hK : MK n s f k0 κ ν0 n κ9 ν) {m' : Nat → Nat} (hm1 : m' s = 1) (hm2 : ∀ i, i ≠ s → m' i = m i) : R n T S d m' e 1 n (ki κ9 f 3 (κ9.1 f 3 + 1)) ν := by
  have hn6 := hn.2
  obtain ⟨dO, sO, hds, p1, p2, -, -⟩ := h.ptr hs
  have ef : f = 22 + 14 * s + sO := hf.symm.trans p2
  subst ef
  obtain ⟨k1, k2, k3, k4, k5, k6⟩ := hK
  have hpn : pN ν = pN ν0 := by unfold pN; rw [k4]
  have hV : ∀ i, view ν i = ((view ν0 i).1, (view ν0 i).2.1, (view ν0 i).2.2.1, (fun r => if r < 6 then ν.2 43 (6 * i + r) else 0), (view ν0 i).2.2.2.2) := fun i => by
    unfold view
    rw [k4, hpn]
    refine Prod.ext rfl (Prod.ext (funext fun g => ?_) ?_)
    · show (if okl g = true then ν.2 g i else 0) = (if okl g = true then ν0.2 g i else 0)
      by_cases hg : okl g = true
      · rw [if_pos hg, if_pos hg, k5 g i (fun q => by rw [q.1] at hg; exact absurd hg (by decide))]
      · rw [if_neg hg, if_neg hg]
    · refine Prod.ext rfl (Prod.ext rfl (Prod.ext rfl (Prod.ext rfl ?_)))
      funext q
      show fHears ν i q = fHears ν0 i q
      unfold fHears
      rw [k4]
  have hVo : ∀ i, i ≠ s → view ν i = view ν0 i := fun i hi => by
    rw [hV]
    refine Prod.ext rfl (Prod.ext rfl (Prod.ext rfl (Prod.ext (funext fun r => ?_) rfl)))
    show (if r < 6 then ν.2 43 (6 * i + r) else 0) = (if r < 6 then ν0.2 43 (6 * i + r) else 0)
    by_cases hr : r < 6
    · rw [if_pos hr, if_pos hr, k5 43 _ (by omega)]
    · rw [if_neg hr, if_neg hr]
  have hg : gmo ν = gmo ν0 := by
    refine Prod.ext (funext fun g => funext fun k => ?_) (funext fun g => funext fun k => ?_)
    · show (if _ then ν.1 g k else 0) = (if _ then ν0.1 g k else 0)
      rw [k4]
    · show (if g < 17 then ν.2 g k else 0) = (if g < 17 then ν0.2 g k else 0)
      by_cases hg : g < 17
      · rw [if_pos hg, if_pos hg, k5 g k (by omega)]
      · rw [if_neg hg, if_neg hg]
  have hA : Ag [22 + 14 * s + sO, 22 + 14 * s + sO + 3] κ (ki κ9 (22 + 14 * s + sO) 3 (κ9.1 (22 + 14 * s + sO) 3 + 1)) := by
    refine Ag.trans (κ' := κ9) (fun a ha => ⟨by rw [k1], k3 a (by simp at ha; omega), by rw [k2]⟩) (Ag.ii.wide (by simp))
  have hC9 : CoK n κ9 := by
    have := h.co
    unfold CoK at this ⊢
    rw [k2]
    exact this
  have hb : ∀ o, o < 14 → o ≠ sO → (blk (ki κ9 (22 + 14 * s + sO) 3 (κ9.1 (22 + 14 * s + sO) 3 + 1)) s).1 o = (blk κ s).1 o := fun o ho hos => by
    rw [blk_cell ho, blk_cell ho, ← k1]
    exact (Ag.ii (κ := κ9) _ (by simp; omega)).1
  refine h.one (κ' := ki κ9 (22 + 14 * s + sO) 3 (κ9.1 (22 + 14 * s + sO) 3 + 1)) (μ' := ν) hs hC9 hA (by intro a ha; simp at ha; omega) hg (fun i _ hi => hVo i hi) (fun _ _ => rfl) hm2 (fun _ _ => rfl) ?_ ?_ ?_
  · rw [hm1, he, hV]
    have hrel := h.rel s hs
    rw [hm, he] at hrel
    refine hrel.mark hds (by rw [blk_cellr (by omega)]; exact p1) (by rw [blk_cellr (by omega)]; exact p2) hk (fun o hos => ?_) (fun k => ?_) (fun o hos => ?_) ?_ (fun a e1 e2 e3 r hr => ?_)
    · by_cases ho : o < 14
      · exact hb o ho hos
      · funext k
        show (if o < 14 then _ else 0) = (if o < 14 then _ else 0)
        rw [if_neg ho, if_neg ho]
    · rw [blk_cell (by omega), blk_cell (by omega), ← k1]
      show (if 22 + 14 * s + sO = 22 + 14 * s + sO ∧ k = 3 then κ9.1 (22 + 14 * s + sO) 3 + 1 else κ9.1 (22 + 14 * s + sO) k) = _
      by_cases q : k = 3
      · rw [if_pos ⟨rfl, q⟩, if_pos q]
      · rw [if_neg (fun c => q c.2), if_neg q]
    · funext k
      show (if o < 14 then κ9.2.1 (22 + 14 * s + o) k else 0) = (if o < 14 then κ.2.1 (22 + 14 * s + o) k else 0)
      rw [k3 _ (by omega)]
    · show (blk κ9 s).2.2 = (blk κ s).2.2
      unfold blk
      rw [k2]
    · rw [blk_celll (by omega)]
      show Bits (T - a + 1) (κ9.2.1 (22 + 14 * s + sO + 3) r) (if r < 6 then ν.2 43 (6 * s + r) else 0)
      rw [if_pos (by omega)]
      have := k6 r hr
      rw [if_pos hr, ha a e1 e2 e3] at this
      exact this
  · refine h.ad.keep (fun i hi => ?_)
    rw [hV]
    exact ⟨rfl, rfl, rfl, rfl, rfl, rfl, rfl, rfl⟩
  · refine h.as.keep (fun i hi => ?_)
    rw [hV]
    exact ⟨rfl, rfl, rfl, rfl, rfl, rfl⟩
theorem R.skipm (h : R n T S d m e 1 n κ μ) (hs : s < n) (hk : μ.1 37 s = 0) {m' : Nat → Nat} (hm2 : ∀ i, i ≠ s → m' i = m i) : R n T S d m' e 1 n κ μ := by
  refine ⟨h.co, h.gl, fun i hi => ?_, h.ad, h.as⟩
  by_cases hi' : i = s
  · subst hi'
    obtain ⟨hO, hW, hB, hK, hTr, hL, dO, sO, hds, p1, p2, hD, ⟨L2, hRL2, hk2, -⟩⟩ := h.rel i hi
    exact ⟨hO, hW, hB, hK, hTr, hL, dO, sO, hds, p1, p2, hD, ⟨L2, hRL2, hk2, Or.inl hk⟩⟩
  · rw [hm2 i hi']
    exact h.rel i hi
theorem c_markGood (hn : okN n) (h : R n T (SN n μ) (fun _ => 1) (fun _ => 0) (fun _ => false) 1 n κ μ) (hM : MI n E μ) (hTb : T + 100 < 2 ^ 31) : r_KV l w B n tX7_markGoodSlots [.ref (B + 1)] κ (fun κ' => R n T (SN n μ) (fun _ => 1) (fun _ => 1) (fun _ => false) 1 n κ' (fTwo n (lN T) μ)) := by
  have hn6 := hn.2
  refine r_enter (by decide) (Nat.le_of_ble_eq_true rfl) (fun X C Ex => ?_)
  refine v_X7_markGoodSlots_0 C Ex hn h.co Gr.rf (fun z1 e1 => ?_)
  rw [e1]
  have key : ∀ (k i : Nat) (κ9 : Ku) (ν : Mu), i + k = n → Gr n κ κ9 → R n T (SN n μ) (fun _ => 1) (fun j => if j < i then 1 else 0) (fun _ => false) 1 n κ9 ν → MI n E ν → ν.1 = μ.1 → it (fTwo1 n (lN T)) i k ν = fTwo n (lN T) μ → r_W X w B 9 0 0 (r_Z X w B tX7_markGoodSlots (ZKV n κ (fun κ' => R n T (SN n μ) (fun _ => 1) (fun _ => 1) (fun _ => false) 1 n κ' (fTwo n (lN T) μ)))) 10 [(0, Value.ref (B + 1)), (1, Value.ref (B + 21)), (2, Value.int (nI n)), (3, Value.int (nI i))] [] (shp n, κ9) := by
    intro k
    induction k with
    | zero =>
      intro i κ9 ν hi hG hR hν h37 hF
      have hi : i = n := by omega
      subst hi
      have hF : ν = fTwo i (lN T) μ := hF
      refine v_X7_markGoodSlots_10 C Ex hn hR.co hG ⟨fun _ => ?_, fun c => absurd (nI_le (Nat.le_refl _) (by omega)) c⟩
      rw [← hF]
      refine ⟨hR.co, hR.gl, fun j hj => ?_, hR.ad, hR.as⟩
      have := hR.rel j hj
      rw [if_pos hj] at this
      exact this
    | succ k ih =>
      intro i κ9 ν hi hG hR hν h37 hF
      have hs : i < n := by omega
      have hat := at_st hn hs
      have hbm : 22 + 14 * i + 13 < mOf n := (at_stat hn hat).2.2.2.2.2.1
      have eS : SN n μ = SN n ν := by unfold SN; congr 1; exact mkM_congr (fun j _ => by unfold knd; rw [h37])
      have hS : κ9.1 1 8 = SN n ν := by rw [← eS]; exact hR.gl.pays.2.2.2.2.2.2.2.2
      have hbit := (hR.stat hs).2.1
      have mnew : ∀ j, j ≠ i → (if j < i + 1 then 1 else 0) = (if j < i then 1 else (0 : Nat)) := fun j hj => by
        by_cases q : j < i
        · rw [if_pos q, if_pos (by omega)]
        · rw [if_neg q, if_neg (by omega)]
      have hν1 : MI n E (fTwo1 n (lN T) i ν) := by
        unfold fTwo1
        split
        · exact it_inv (hi := n) (P := fun _ ν => MI n E ν) (fun _ _ _ q => q.bad _ _) n 0 ν (by omega) hν
        · exact hν
      have h371 : (fTwo1 n (lN T) i ν).1 = μ.1 := by
        unfold fTwo1
        split
        · exact it_inv (f := fTwo2 n (lN T) i) (hi := n) (P := fun _ (ν : Mu) => ν.1 = μ.1) (fun _ _ _ q => q) n 0 ν (by omega) h37
        · exact h37
      have ihn := fun κ' hG' hR' => ih (i + 1) κ' (fTwo1 n (lN T) i ν) (by omega) hG' hR' hν1 h371 hF
      refine v_X7_markGoodSlots_10 C Ex hn hR.co hG ⟨fun c => absurd c (nI_ge (by omega) (by omega)), fun _ => ⟨vp_in_nI hs (by omega), fun b4 eb4 => ?_⟩⟩
      rw [nI_clampS (by omega)] at eb4
      subst eb4
      rw [hS, hbit]
      unfold SN
      rw [send_bit hn hs]
      have hsd := hR.sends hTb hs
      refine ⟨fun c z e => ?_, fun c z10 e10 => ?_⟩
      · rw [e, nI_1]
        have e1 : fTwo1 n (lN T) i ν = ν := by unfold fTwo1; rw [hsd, c]; rfl
        rw [e1] at ihn
        exact ihn κ9 hG (hR.skipm hs (knd0.mp c) mnew)
      · rw [e10]
        have hk : knd ν i = true := by simpa using c
        have e1 : fTwo1 n (lN T) i ν = it (fTwo2 n (lN T) i) 0 n ν := by unfold fTwo1; rw [hsd, hk]; rfl
        rw [e1] at ihn
        have hk0 : ¬ ν.1 37 i = 0 := fun q => by rw [knd0.mpr q] at hk; exact absurd hk (by decide)
        obtain ⟨dO, sO, hds, p1, p2, -, ⟨L2, hRL2, hkk, hSd⟩⟩ := hR.ptr hs
        rcases hSd with q | ⟨a, b, z, r0, s1, s2, s3, s4, s5, s6, s7, s8, s9, s10, s11, s12, s13, s14, s15, s16, s17⟩
        · exact absurd q hk0
        have s2 : ν.2 39 i = lN a := s2
        have hpass : κ9.1 (22 + 14 * i + sO) 3 = nI (T - a) := by
          have q : (blk κ9 i).1 sO 3 = κ9.1 (22 + 14 * i + sO) 3 := if_pos (by omega)
          rw [← q, s14]
          simp
        have hbits : ∀ r, r < n → Bits (T - a) (κ9.2.1 (22 + 14 * i + sO + 3) r) (ν.2 43 (6 * i + r)) := fun r hr => by
          have q := s15 r hr
          rw [if_neg (Nat.lt_irrefl i), Nat.add_zero, blk_celll (by omega)] at q
          have e6 : (view ν i).2.2.2.1 r = ν.2 43 (6 * i + r) := if_pos (by omega)
          rw [e6] at q
          exact q
        have hfb := (at_frame hn (show atS n (22 + 14 * i + sO) = some (.inl 2) by rw [← p2]; exact (hR.co.2.2.2.1 _ hat).2.2.2.2))
        have inner : ∀ (k j : Nat) (κ8 : Ku) (ρ : Mu), j + k = n → MK n i (22 + 14 * i + sO) (T - a) κ9 ν j κ8 ρ → it (fTwo2 n (lN T) i) j k ρ = it (fTwo2 n (lN T) i) 0 n ν → r_W X w B 9 0 0 (r_Z X w B tX7_markGoodSlots (ZKV n κ (fun κ' => R n T (SN n μ) (fun _ => 1) (fun _ => 1) (fun _ => false) 1 n κ' (fTwo n (lN T) μ)))) 47 [(0, Value.ref (B + 1)), (1, Value.ref (B + 21)), (2, Value.int (nI n)), (3, Value.int (nI i)), (4, Value.ref (B + (22 + 14 * i))), (5, Value.ref (B + 21)), (6, Value.int (nI n)), (7, Value.int (nI j))] [] (shp n, κ8) := by
          intro k
          induction k with
          | zero =>
            intro j κ8 ρ hj hK hF8
            have hj : j = n := by omega
            subst hj
            have hF8 : ρ = it (fTwo2 j (lN T) i) 0 j ν := hF8
            have hC8 : CoK j κ8 := by
              have := hR.co
              unfold CoK at this ⊢
              rw [hK.2.1]
              exact this
            have hG8 : Gr j κ κ8 := fun a' k' ha' => by
              have := hG a' k' ha'
              rw [hK.1, hK.2.1, hK.2.2.1 a' (by omega)]
              exact this
            have p8 : κ8.2.2 (22 + 14 * i) 14 = 22 + 14 * i + sO := by rw [hK.2.1]; exact p2
            refine v_X7_markGoodSlots_47 C Ex hn hC8 hG8 hat ⟨fun _ κ2 e2 z6 e6 => ?_, fun c => absurd (nI_le (Nat.le_refl _) (by omega)) c⟩
            rw [e6, nI_1, e2, p8]
            refine ihn _ (hG8.i (by omega)) ?_
            rw [← hF8]
            exact hK.fin hn hR hs (by simp) rfl hk0 p2 (fun a' q1 q2 q3 => by rw [(lN_ne (by omega) (by omega)).mp (q1.symm.trans s2)]) (by simp) mnew
          | succ k ihk =>
            intro j κ8 ρ hj hK hF8
            have hjn : j < n := by omega
            have hC8 : CoK n κ8 := by
              have := hR.co
              unfold CoK at this ⊢
              rw [hK.2.1]
              exact this
            have hG8 : Gr n κ κ8 := fun a' k' ha' => by
              have := hG a' k' ha'
              rw [hK.1, hK.2.1, hK.2.2.1 a' (by omega)]
              exact this
            have p8 : κ8.2.2 (22 + 14 * i) 14 = 22 + 14 * i + sO := by rw [hK.2.1]; exact p2
            have hgd : fGood n (lN T) i j ρ = fGood n (lN T) i j ν := fGood_congr hK.2.2.2.1 (fun g i' hg => hK.2.2.2.2.1 g i' (fun q => hg q.1))
            have h39 : ρ.2 39 i = lN a := by rw [hK.2.2.2.2.1 39 i (by omega)]; exact s2
            have hb39 : fBit (lN T) (ρ.2 39 i) = (1 : Int64) <<< ((nI (T - a)).toInt64 &&& 63) := by
              unfold fBit
              rw [h39, lN_sub s4, lN_i]
            have hbj := hK.2.2.2.2.2 j hjn
            rw [if_neg (Nat.lt_irrefl j), Nat.add_zero] at hbj
            have hk64 : T - a < 64 := by omega
            have step : ∀ (κ7 : Ku) (x y : Int64), κ7.1 = κ8.1 → κ7.2.2 = κ8.2.2 → (∀ a', a' ≠ 22 + 14 * i + sO + 3 → κ7.2.1 a' = κ8.2.1 a') → (∀ r, κ7.2.1 (22 + 14 * i + sO + 3) r = if r = j then x else κ8.2.1 (22 + 14 * i + sO + 3) r) → Bits (T - a + 1) x y → MK n i (22 + 14 * i + sO) (T - a) κ9 ν (j + 1) κ7 (ul ρ 43 (6 * i + j) y) := by
              intro κ7 x y q1 q2 q3 q4 q5
              refine ⟨by rw [q1]; exact hK.1, by rw [q2]; exact hK.2.1, fun a' ha' => by rw [q3 a' ha']; exact hK.2.2.1 a' ha', hK.2.2.2.1, fun g i' hg => ?_, fun r hr => ?_⟩
              · show (if g = 43 ∧ i' = 6 * i + j then y else ρ.2 g i') = _
                rw [if_neg (by omega)]
                exact hK.2.2.2.2.1 g i' hg
              · rw [q4]
                have ey : (ul ρ 43 (6 * i + j) y).2 43 (6 * i + r) = if r = j then y else ρ.2 43 (6 * i + r) := by
                  show (if 43 = 43 ∧ 6 * i + r = 6 * i + j then y else ρ.2 43 (6 * i + r)) = _
                  by_cases e : r = j
                  · rw [if_pos ⟨rfl, by omega⟩, if_pos e]
                  · rw [if_neg (fun c => e (by omega)), if_neg e]
                rw [ey]
                by_cases e : r = j
                · subst e
                  have e3 : (if r < r + 1 then 1 else 0) = 1 := if_pos (by omega)
                  rw [e3, if_pos rfl, if_pos rfl]
                  exact q5
                · have := hK.2.2.2.2.2 r hr
                  have e3 : (if r < j + 1 then 1 else 0) = (if r < j then 1 else 0) := by
                    by_cases e2 : r < j
                    · rw [if_pos e2, if_pos (by omega)]
                    · rw [if_neg e2, if_neg (by omega)]
                  rw [e3]
                  rw [if_neg e, if_neg e]
                  exact this
            refine v_X7_markGoodSlots_47 C Ex hn hC8 hG8 hat ⟨fun c => absurd c (nI_ge (by omega) (by omega)), fun _ => ⟨vp_in_nI hjn (by omega), fun b10 eb10 => ?_⟩⟩
            rw [nI_clampS (by omega)] at eb10
            subst eb10
            have hR' := hR
            rw [eS] at hR'
            refine ⟨_, c_isGood hn hTb hR' hν hs hjn hk hC8 hK.1 (fun a' ha' => hK.2.2.1 a' (by omega)), fun z17 κ15 q => ?_⟩
            obtain ⟨rfl, e17⟩ := q
            have hnum : κ15.1 (22 + 14 * j) 0 = nI j := by rw [hK.1]; exact (hR.stat hjn).1
            have hp15 : κ15.1 (22 + 14 * i + sO) 3 = nI (T - a) := by rw [hK.1]; exact hpass
            have hFs : it (fTwo2 n (lN T) i) (j + 1) k (fTwo2 n (lN T) i j ρ) = it (fTwo2 n (lN T) i) 0 n ν := hF8
            unfold fTwo2 at hFs
            rw [hgd] at hFs
            cases hgg : fGood n (lN T) i j ν
            · rw [hgg] at e17 hFs
              have e17 : z17 = 0 := e17
              refine ⟨fun _ z23 e23 => ?_, fun c => absurd e17 c⟩
              rw [e23, nI_1]
              refine ihk (j + 1) κ15 _ (by omega) ?_ hFs
              show MK n i (22 + 14 * i + sO) (T - a) κ9 ν (j + 1) κ15 (ul ρ 43 (6 * i + j) (ρ.2 43 (6 * i + j) ||| fBit (lN T) (ρ.2 39 i)))
              refine step κ15 (κ15.2.1 (22 + 14 * i + sO + 3) j) _ rfl rfl (fun _ _ => rfl) (fun r => ?_) ?_
              · by_cases e : r = j
                · rw [if_pos e, e]
                · rw [if_neg e]
              · rw [hb39]
                exact hbj.bad hk64
            · rw [hgg] at e17 hFs
              have e17 : z17 = 1 := e17
              refine ⟨fun c => absurd (e17.symm.trans c) (by decide), fun _ => ?_⟩
              rw [hnum, p8]
              refine ⟨_, s_Frame_mark hn hC8 (by rw [← p2]; exact (hR.co.2.2.2.1 _ hat).2.2.2.2) (vp_in_nI hjn (by omega)), fun κ27 q z34 e34 => ?_⟩
              rw [e34, nI_1]
              rw [nI_clampS (by omega), hp15] at q
              refine ihk (j + 1) κ27 _ (by omega) ?_ hFs
              show MK n i (22 + 14 * i + sO) (T - a) κ9 ν (j + 1) κ27 (ul ρ 43 (6 * i + j) (ρ.2 43 (6 * i + j)))
              refine step κ27 (κ15.2.1 (22 + 14 * i + sO + 3) j ||| ((1 : Int64) <<< ((nI (T - a)).toInt64 &&& 63))) _ (by rw [q]; rfl) (by rw [q]; rfl) (fun a' ha' => ?_) (fun r => ?_) ?_
              · rw [q]
                exact (Ag.ll (κ := κ15) _ (by simp; omega)).2.1
              · rw [q]
                show (if 22 + 14 * i + sO + 3 = 22 + 14 * i + sO + 3 ∧ r = j then _ else _) = _
                by_cases e : r = j
                · rw [if_pos ⟨rfl, e⟩, if_pos e]
                · rw [if_neg (fun c => e c.2), if_neg e]
              · exact hbj.good hk64
        have h0 := inner n 0 κ9 ν (by omega) ⟨rfl, rfl, fun _ _ => rfl, rfl, fun _ _ _ => rfl, fun r hr => by rw [if_neg (by omega), Nat.add_zero]; exact hbits r hr⟩ rfl
        rw [nI_0] at h0
        exact h0
  have hR0 : R n T (SN n μ) (fun _ => 1) (fun j => if j < 0 then 1 else 0) (fun _ => false) 1 n κ μ := h
  have h0 := key n 0 κ μ (by omega) Gr.rf hR0 hM rfl rfl
  rw [nI_0] at h0
  exact h0
end RC
