/-! the law's loop -/
section LA
variable {l : Launch} {w : r_V} {B : Nat} {n T s r E k : Nat} {κ κ' : Ku} {μ μ' ν : Mu} {t : Int64} {σ σ' : r_S}
theorem g1_begin {a b c d : Int32} {j : Nat} : (fBegin n s a b c d t μ).1 1 j = μ.1 1 j := by
  rw [fBegin_eq]
  rfl
theorem g1_att {j : Nat} : (fAttempt n s t μ).1 1 j = μ.1 1 j := by
  unfold fAttempt
  rw [g1_begin]
  have e1 : ∀ D : List Nat, (wr s D μ).1 1 j = μ.1 1 j := fun D => by simp [wr]
  show (wr s (attL s μ) μ).1 1 j = _
  exact e1 _
theorem g1_one1 {j : Nat} : (fOne1 n t s μ).1 1 j = μ.1 1 j := by
  have h1 : (if μ.2 23 s = t then fFail s t μ else μ).1 1 j = μ.1 1 j := by
    split
    · exact fail_1 (by decide)
    · rfl
  unfold fOne1
  generalize (if μ.2 23 s = t then fFail s t μ else μ) = ρ at *
  unfold fOneB
  split
  · rw [g1_begin]; exact h1
  · split
    · rw [g1_att]; exact h1
    · exact h1
theorem g1_one {j : Nat} : (fOne n t μ).1 1 j = μ.1 1 j := it_inv (f := fOne1 n t) (hi := n) (P := fun _ (ν : Mu) => ν.1 1 j = μ.1 1 j) (fun _ _ _ q => g1_one1.trans q) n 0 μ (by omega) rfl
theorem g1_rec {j : Nat} (hn : okN n) (h : MI n E μ) (hs : s < n) (hr : r < n) : (fRec s r t μ).1 1 j = μ.1 1 j := by
  have hT : (fTake s r t μ).2.1 1 j = μ.1 1 j := take_1 hn h hs hr (by decide)
  unfold fRec
  split
  · split
    · split
      · rfl
      · rfl
    · split
      · split
        · exact hT
        · exact hT
      · split
        · split
          · rfl
          · exact ack_1 (by decide)
        · rfl
  · rfl
theorem g1_three {j : Nat} (hn : okN n) (h : MI n E μ) : (fThree n t μ).1 1 j = μ.1 1 j := by
  have := it_inv (f := fThree1 n t) (hi := n) (P := fun i (ν : Mu) => MI n (E + 30 * i) ν ∧ ν.1 1 j = μ.1 1 j) (fun i ν hi q => by
    obtain ⟨q1, q2⟩ := q
    refine ⟨(q1.three1 hn hi).up (by omega), ?_⟩
    unfold fThree1
    split
    · have inn := it_inv (f := fThree2 t i) (hi := n) (P := fun k (ρ : Mu) => MI n (E + 30 * i + 5 * k) ρ ∧ ρ.1 1 j = μ.1 1 j) (fun k ρ hk p => by
        obtain ⟨p1, p2⟩ := p
        refine ⟨(p1.three2 hn hi hk).up (by omega), ?_⟩
        unfold fThree2
        split
        · unfold fReceive
          rw [g1_rec hn (p1.got k t) hi hk]
          exact p2
        · exact p2) n 0 ν (by omega) ⟨q1.up (by omega), q2⟩
      have inn := inn.2
      unfold fEnd
      split
      · exact inn
      · exact inn
    · exact q2) n 0 μ (by omega) ⟨h, rfl⟩
  exact this.2
theorem g1_slot {j : Nat} (hn : okN n) (h : MI n E μ) (ht : μ.2 0 2 = lN T) (hT : T < 2 ^ 31) : (fSlot n μ).1 1 j = μ.1 1 j := by
  have h0 : 0 ≤ μ.2 0 2 := by
    rw [ht]
    exact (pk_lLE (a := 0) (by omega) (by omega)).mpr (Nat.zero_le _)
  have m1 := (h.one h0).two (t := μ.2 0 2)
  show (fFour n (μ.2 0 2) (fThree n (μ.2 0 2) (fTwo n (μ.2 0 2) (fOne n (μ.2 0 2) μ)))).1 1 j = _
  rw [ht] at m1 ⊢
  unfold fFour
  rw [(four2_all (n := n) n (Nat.le_refl n)).2 1 j, if_neg (by omega), (four1_all n).1 1 j (by decide), g1_three hn m1, two_1, g1_one]
theorem g1_run (hn : okN n) : ∀ (k i : Nat) (ν : Mu) (E T : Nat), MI n E ν → ν.2 0 2 = lN T → T + k < 2 ^ 31 → ∀ j, (it (fun _ μ => fSlot n μ) i k ν).1 1 j = ν.1 1 j
  | 0, _, _, _, _, _, _, _, _ => rfl
  | k + 1, i, ν, E, T, h, ht, hT, j => by
    have h0 : 0 ≤ ν.2 0 2 := by
      rw [ht]
      exact (pk_lLE (a := 0) (by omega) (by omega)).mpr (Nat.zero_le _)
    show (it (fun _ μ => fSlot n μ) (i + 1) k (fSlot n ν)).1 1 j = _
    rw [g1_run hn k (i + 1) (fSlot n ν) (E + 200) (T + 1) (h.slot hn h0) (by rw [tm_slot, ht, lN_1]) (by omega) j, g1_slot hn h ht (by omega)]
theorem DF.of (h : DF μ) (hq : ∀ j, μ'.1 1 j = μ.1 1 j) : DF μ' := fun j => by rw [hq j]; exact h j
/-! both in one state -/
theorem Mo.gr {n : Nat} (hn : okN n) {κ κ' : Ku} (h : Mo (mOf n) (shp n, κ)) (hG : Gr n κ κ') : Mo (mOf n) (shp n, κ') := ⟨h.1, fun q hq => ⟨((hG (mOf n) q.1 (Nat.le_refl _)).2.2).trans (h.2 q hq).1, (h.2 q hq).2⟩⟩
theorem mu_gr {n : Nat} {κ κ' : Ku} (hG : Gr n κ κ') : mu (mOf n) (shp n, κ') = mu (mOf n) (shp n, κ) := by
  refine Prod.ext (funext fun g => funext fun i => ?_) (funext fun g => funext fun i => ?_)
  · exact (hG (mOf n + g) i (by omega)).1
  · exact (hG (mOf n + g) i (by omega)).2.1
theorem R.tf {S : Int32} {d m : Nat → Nat} {e : Nat → Bool} {lim cur : Nat} (h : R n T S d m e lim cur κ μ) (h1 : ∀ a k, a < mOf n → κ'.1 a k = κ.1 a k ∧ κ'.2.1 a k = κ.2.1 a k) (h2 : κ'.2.2 = κ.2.2) : R n T S d m e lim cur κ' μ := by
  have eb : ∀ i, i < n → blk κ' i = blk κ i := fun i hi => by
    have hq : ∀ o, o < 14 → 22 + 14 * i + o < mOf n := fun o ho => by unfold mOf; omega
    refine Prod.ext (funext fun o => funext fun k => ?_) (Prod.ext (funext fun o => funext fun k => ?_) (funext fun o => funext fun k => ?_))
    · show (if o < 14 then κ'.1 (22 + 14 * i + o) k else 0) = (if o < 14 then κ.1 (22 + 14 * i + o) k else 0)
      by_cases ho : o < 14
      · rw [if_pos ho, if_pos ho, (h1 _ k (hq o ho)).1]
      · rw [if_neg ho, if_neg ho]
    · show (if o < 14 then κ'.2.1 (22 + 14 * i + o) k else 0) = (if o < 14 then κ.2.1 (22 + 14 * i + o) k else 0)
      by_cases ho : o < 14
      · rw [if_pos ho, if_pos ho, (h1 _ k (hq o ho)).2]
      · rw [if_neg ho, if_neg ho]
    · show (if o < 14 then κ'.2.2 (22 + 14 * i + o) k else 0) = (if o < 14 then κ.2.2 (22 + 14 * i + o) k else 0)
      rw [h2]
  have eg : glo κ' = glo κ := by
    have hq : ∀ a, a < 22 → a < mOf n := fun a ho => by unfold mOf; omega
    refine Prod.ext (funext fun o => funext fun k => ?_) (funext fun o => funext fun k => ?_)
    · show (if o < 22 then κ'.1 o k else 0) = (if o < 22 then κ.1 o k else 0)
      by_cases ho : o < 22
      · rw [if_pos ho, if_pos ho, (h1 _ k (hq o ho)).1]
      · rw [if_neg ho, if_neg ho]
    · show (if o < 22 then κ'.2.1 o k else 0) = (if o < 22 then κ.2.1 o k else 0)
      by_cases ho : o < 22
      · rw [if_pos ho, if_pos ho, (h1 _ k (hq o ho)).2]
      · rw [if_neg ho, if_neg ho]
  refine ⟨?_, by rw [eg]; exact h.gl, fun i hi => by rw [eb i hi]; exact h.rel i hi, h.ad, h.as⟩
  have := h.co
  unfold CoK at *
  rw [h2]
  exact this
/-- after k calls -/
def INV (n k : Nat) (σ : r_S) : Prop := σ.1 = shp n ∧ Mo (mOf n) σ ∧ ∃ T E, T ≤ 2000 * k ∧ E ≤ 400000 * k ∧ RR n T σ.2 (mu (mOf n) σ) ∧ MI n E (mu (mOf n) σ) ∧ DF (mu (mOf n) σ)
theorem INV.fin {T E : Nat} {μ2 : Mu} {κ' : Ku} (hM : Mo (mOf n) (shp n, κ')) (hT : T ≤ 2000 * (k + 1)) (hE : E ≤ 400000 * (k + 1)) (hR : RR n T κ' μ2) (hI : MI n E μ2) (hD : DF μ2) (hs : σ'.1 = shp n) (hF : Fr (mOf n) (shp n, κ') σ') (hμ : mu (mOf n) σ' = μ2) : INV n (k + 1) σ' := by
  refine ⟨hs, hM.fr hs hF.1, T, E, hT, hE, ?_, by rw [hμ]; exact hI, by rw [hμ]; exact hD⟩
  rw [hμ]
  obtain ⟨S, hR⟩ := hR
  exact ⟨S, hR.tf (κ' := σ'.2) (fun a k ha => hF.2 a k ha) (funext fun a => funext fun k => hF.1 a k)⟩
theorem stepI {tc tm : r_T} {as : List Value} {v : Int32} {μ2 : Mu} (hn : okN n) (h : INV n k σ) (hc : ∀ T E, T ≤ 2000 * k → E ≤ 400000 * k → RR n T σ.2 (mu (mOf n) σ) → MI n E (mu (mOf n) σ) → DF (mu (mOf n) σ) → r_KI l w B n tc (.ref (B + 1) :: as) σ.2 (fun z κ' => z = v ∧ ∃ T', T' ≤ T + 2000 ∧ RR n T' κ' μ2) ∧ r_MI l w B (mOf n) tm as (mu (mOf n) σ) (fun z μ' => z = v ∧ μ' = μ2) ∧ MI n (E + 400000) μ2 ∧ DF μ2) : ∃ Q10 : Int32 → r_S → Prop, r_M l w B tc (.ref (B + 1) :: as) σ (r_QI σ Q10) ∧ ∀ (z : Int32) (σ12 : r_S), Q10 z σ12 → ∃ Q18 : Int32 → r_S → Prop, r_M l w B tm (.ref (B + mOf n) :: as) σ12 (r_QI σ12 Q18) ∧ ∀ (z' : Int32) (σ20 : r_S), Q18 z' σ20 → z = z' ∧ INV n (k + 1) σ20 := by
  obtain ⟨sh, κ⟩ := σ
  obtain ⟨hs, hM, T, E, hT, hE, hR, hI, hD⟩ := h
  have hs : sh = shp n := hs
  subst hs
  obtain ⟨c1, c2, c3, c4⟩ := hc T E hT hE hR hI hD
  refine ⟨fun z σ12 => z = v ∧ ∃ κ' : Ku, σ12 = (shp n, κ') ∧ Gr n κ κ' ∧ ∃ T', T' ≤ T + 2000 ∧ RR n T' κ' μ2, r_M.mono c1 (fun o σ' q => ?_), fun z σ12 q => ?_⟩
  · obtain ⟨q1, z, q2, q3, q4, q5, T', q6, q7⟩ := q
    obtain ⟨sh', κ'⟩ := σ'
    have q1 : sh' = shp n := q1
    subst q1
    exact ⟨rfl, z, q2, q5, κ', rfl, q3, T', q6, q7⟩
  · obtain ⟨ez, κ', e12, g, T', hT', hR'⟩ := q
    subst e12
    have hM' := hM.gr hn g
    refine ⟨fun z' σ20 => z' = v ∧ INV n (k + 1) σ20, r_M.mono (c2 (shp n, κ') hM' (mu_gr g)) (fun o σ' q => ?_), fun z' σ20 q => ⟨ez.trans q.1.symm, q.2⟩⟩
    obtain ⟨q1, z', q2, q3, q4, q5⟩ := q
    exact ⟨q1, z', q2, q4, INV.fin hM' (by omega) (by omega) hR' c3 c4 q1 q3 q5⟩
theorem stepL {tc tm : r_T} {as : List Value} {v : Int64} {μ2 : Mu} (hn : okN n) (h : INV n k σ) (hc : ∀ T E, T ≤ 2000 * k → E ≤ 400000 * k → RR n T σ.2 (mu (mOf n) σ) → MI n E (mu (mOf n) σ) → DF (mu (mOf n) σ) → r_KL l w B n tc (.ref (B + 1) :: as) σ.2 (fun z κ' => z = v ∧ ∃ T', T' ≤ T + 2000 ∧ RR n T' κ' μ2) ∧ r_ML l w B (mOf n) tm as (mu (mOf n) σ) (fun z μ' => z = v ∧ μ' = μ2) ∧ MI n (E + 400000) μ2 ∧ DF μ2) : ∃ Q10 : Int64 → r_S → Prop, r_M l w B tc (.ref (B + 1) :: as) σ (r_QL σ Q10) ∧ ∀ (z : Int64) (σ12 : r_S), Q10 z σ12 → ∃ Q18 : Int64 → r_S → Prop, r_M l w B tm (.ref (B + mOf n) :: as) σ12 (r_QL σ12 Q18) ∧ ∀ (z' : Int64) (σ20 : r_S), Q18 z' σ20 → z = z' ∧ INV n (k + 1) σ20 := by
  obtain ⟨sh, κ⟩ := σ
  obtain ⟨hs, hM, T, E, hT, hE, hR, hI, hD⟩ := h
  have hs : sh = shp n := hs
  subst hs
  obtain ⟨c1, c2, c3, c4⟩ := hc T E hT hE hR hI hD
  refine ⟨fun z σ12 => z = v ∧ ∃ κ' : Ku, σ12 = (shp n, κ') ∧ Gr n κ κ' ∧ ∃ T', T' ≤ T + 2000 ∧ RR n T' κ' μ2, r_M.mono c1 (fun o σ' q => ?_), fun z σ12 q => ?_⟩
  · obtain ⟨q1, z, q2, q3, q4, q5, T', q6, q7⟩ := q
    obtain ⟨sh', κ'⟩ := σ'
    have q1 : sh' = shp n := q1
    subst q1
    exact ⟨rfl, z, q2, q5, κ', rfl, q3, T', q6, q7⟩
  · obtain ⟨ez, κ', e12, g, T', hT', hR'⟩ := q
    subst e12
    have hM' := hM.gr hn g
    refine ⟨fun z' σ20 => z' = v ∧ INV n (k + 1) σ20, r_M.mono (c2 (shp n, κ') hM' (mu_gr g)) (fun o σ' q => ?_), fun z' σ20 q => ⟨ez.trans q.1.symm, q.2⟩⟩
    obtain ⟨q1, z', q2, q3, q4, q5⟩ := q
    exact ⟨q1, z', q2, q4, INV.fin hM' (by omega) (by omega) hR' c3 c4 q1 q3 q5⟩
theorem ki_T {tc : r_T} {as : List Value} {v : Int32} {μ2 : Mu} (h : r_KI l w B n tc as κ (fun z κ' => z = v ∧ RR n T κ' μ2)) : r_KI l w B n tc as κ (fun z κ' => z = v ∧ ∃ T', T' ≤ T + 2000 ∧ RR n T' κ' μ2) :=
  r_M.mono h (fun _ _ q => ⟨q.1, by obtain ⟨z, e, q3, q4, q5, q6⟩ := q.2; exact ⟨z, e, q3, q4, q5, T, by omega, q6⟩⟩)
theorem kl_T {tc : r_T} {as : List Value} {v : Int64} {μ2 : Mu} (h : r_KL l w B n tc as κ (fun z κ' => z = v ∧ RR n T κ' μ2)) : r_KL l w B n tc as κ (fun z κ' => z = v ∧ ∃ T', T' ≤ T + 2000 ∧ RR n T' κ' μ2) :=
  r_M.mono h (fun _ _ q => ⟨q.1, by obtain ⟨z, e, q3, q4, q5, q6⟩ := q.2; exact ⟨z, e, q3, q4, q5, T, by omega, q6⟩⟩)
end LA
