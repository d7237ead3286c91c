section LB
variable {l : Launch} {w : r_V} {B : Nat} {n T s r E k : Nat} {κ κ' : Ku} {μ μ' ν : Mu} {σ σ' : r_S}
theorem DF.hear (h : DF μ) {a b on : Int32} : DF (aHear n a b on μ).2 := by
  unfold aHear
  split
  · split
    · exact h
    · intro j
      show (if 1 = 1 ∧ j = _ then (if on = 0 then (1 : Int32) else 0) else μ.1 1 j) = 0 ∨ (if 1 = 1 ∧ j = _ then (if on = 0 then (1 : Int32) else 0) else μ.1 1 j) = 1
      by_cases q : 1 = 1 ∧ j = 6 * a.toNatClampNeg + b.toNatClampNeg
      · rw [if_pos q]
        split
        · exact Or.inr rfl
        · exact Or.inl rfl
      · rw [if_neg q]
        exact h j
  · exact h
theorem DF.coin (h : DF μ) {x : Int32} : DF (aCoin x μ).2 := by
  unfold aCoin fCoin
  split
  · show DF (if 400 ≤ μ.1 0 14 then thr μ else _)
    split
    · exact h
    · exact h
  · exact h
theorem DF.thrA (h : DF μ) {x : Int32} : DF (aThr x μ).2 := by
  unfold aThr
  split
  · exact h
  · exact h
theorem DF.offer (h : DF μ) {a b z : Int32} : DF (aOffer n a b z μ).2 := by
  unfold aOffer
  split
  · split
    · exact h
    · split
      · exact h
      · show DF (if kc μ a.toNatClampNeg (pN μ) = 0 then _ else _)
        split
        · exact h
        · exact h
  · exact h
theorem DF.noise (h : DF μ) {x k : Int32} {y : Int64} : DF (aNoise n x y k μ).2 := by
  unfold aNoise
  split
  · split
    · exact h
    · split
      · exact h
      · exact h
  · exact h
theorem mi_runA (hn : okN n) (h : MI n E μ) (ht : μ.2 0 2 = lN T) (hT : T + 2200 < 2 ^ 31) (hD : DF μ) {x : Int32} : MI n (E + 400000) (aRun n x μ).2 ∧ DF (aRun n x μ).2 := by
  unfold aRun
  split
  · exact ⟨h.thr.up (by omega), hD⟩
  · rename_i c
    have c1 : ¬ x < 1 := fun q => c (Or.inl q)
    have c2 : x ≤ 2000 := Decidable.byContradiction (fun q => c (Or.inr q))
    obtain ⟨k, hk, rfl⟩ := nI_of2 (M := 2000) (n := 2000) rfl (fun q => c1 (Int32.lt_trans q (by decide))) c2
    show MI n (E + 400000) (fRun n (nI k).toNatClampNeg (thr μ)) ∧ DF (fRun n (nI k).toNatClampNeg (thr μ))
    rw [nI_clampS (by omega)]
    refine ⟨((h.thr.runN hn (T := T) (k := k) ht (by omega)).1).up (by omega), ?_⟩
    exact DF.of (μ := thr μ) hD (fun j => g1_run hn k 0 (thr μ) E T h.thr ht (by omega) j)
theorem INV.up (h : INV n k σ) : INV n (k + 1) σ := by
  obtain ⟨hs, hM, T, E, hT, hE, hR, hI, hD⟩ := h
  exact ⟨hs, hM, T, E, by omega, by omega, hR, hI, hD⟩
theorem idx {L k : Nat} (hL : L ≤ 2561) (hk : 5 * k ≤ L) (c : ¬ nI L - 5 < nI (1 + 5 * k)) : 6 + 5 * k ≤ L := by
  refine Nat.not_lt.mp (fun q => c ?_)
  by_cases h5 : 5 ≤ L
  · have e : nI L - 5 = nI (L - 5) := pk_sub (a := L) (b := 5) h5
    rw [e]
    exact nI_lt (by omega) (by omega)
  · have e : nI L - 5 < 0 := pk_sneg (a := L) (b := 5) (by omega) (by omega)
    have e2 : (0 : Int32) ≤ nI (1 + 5 * k) := nI_pos' (by omega)
    have := Int32.lt_iff_toInt_lt.mp e
    have := Int32.le_iff_toInt_le.mp e2
    exact Int32.lt_iff_toInt_lt.mpr (by omega)
theorem law_loop {X : r_X} {t : r_T} {Qz : State → Prop} (C : r_C X w B 4 cL_law RL) (Ex : r_E X l t) (ht : t.2.2.2.2 = room_1) {b L : Nat} {xs : Nat → Int32} (hX : r_XX X B b L xs) (hL : L ≤ 2561) {cs sl : Nat} (hcs : cs ≤ t.2.2.2.2.cells) (hsl : sl ≤ t.2.2.2.2.slots) (hret : ∀ (lv : List (Nat × Value)) (σ : r_S), r_W X w B 4 cs sl Qz 460 lv [.int 1] σ) (hn : okN n) : ∀ (f k : Nat) (σ : r_S), L ≤ 5 * (k + f) → 5 * k ≤ L → INV n k σ → r_W X w B 4 cs sl Qz 28 [(0, Value.ref b), (1, Value.ref (B + 1)), (2, Value.ref (B + mOf n)), (3, Value.int (nI (1 + 5 * k)))] [] σ := by
  intro f
  induction f with
  | zero =>
    intro k σ h1 h2 hI
    exact w_L_law_28 C Ex ht hX hcs hsl hret ⟨fun _ => trivial, fun c => absurd (idx hL h2 c) (by omega)⟩
  | succ f ih =>
    intro k σ h1 h2 hI
    refine w_L_law_28 C Ex ht hX hcs hsl hret ⟨fun _ => trivial, fun c => ?_⟩
    have hi := idx hL h2 c
    have nx : ∀ σ2 : r_S, INV n (k + 1) σ2 → ∀ z : Int32, z = nI (1 + 5 * k) + 5 → r_W X w B 4 cs sl Qz 28 [(0, Value.ref b), (1, Value.ref (B + 1)), (2, Value.ref (B + mOf n)), (3, Value.int z)] [] σ2 := fun σ2 h2' z e => by
      have e5 : nI (1 + 5 * k) + 5 = nI (1 + 5 * (k + 1)) := by
        rw [show (5 : Int32) = nI 5 from rfl, nI_add, show 1 + 5 * k + 5 = 1 + 5 * (k + 1) by omega]
      rw [e, e5]
      exact ih (k + 1) σ2 (by omega) (by omega) h2'
    have a1 : r_at σ 1 = some (.inl 7) := by
      obtain ⟨sh, κ⟩ := σ
      obtain ⟨hs, -⟩ := hI
      have hs : sh = shp n := hs
      subst hs
      exact at_c (a := 0) rfl
    have a2 : r_at σ (mOf n) = some (.inl 8) := hI.2.1.1
    have v0 : vp_in (nI (1 + 5 * k)) L := vp_in_nI (by omega) (by omega)
    have v1 : vp_in (nI (1 + 5 * k) + 1) L := by rw [nI_1]; exact vp_in_nI (by omega) (by omega)
    have v2 : vp_in (nI (1 + 5 * k) + 2) L := by rw [show (2 : Int32) = nI 2 from rfl, nI_add]; exact vp_in_nI (by omega) (by omega)
    have v3 : vp_in (nI (1 + 5 * k) + 3) L := by rw [show (3 : Int32) = nI 3 from rfl, nI_add]; exact vp_in_nI (by omega) (by omega)
    have v4 : vp_in (nI (1 + 5 * k) + 4) L := by rw [show (4 : Int32) = nI 4 from rfl, nI_add]; exact vp_in_nI (by omega) (by omega)
    generalize nI (1 + 5 * k) = x3 at *
    have packI : ∀ {tc tm : r_T} {as : List Value}, (∃ Q10 : Int32 → r_S → Prop, r_M l w B tc (.ref (B + 1) :: as) σ (r_QI σ Q10) ∧ ∀ (z : Int32) (σ12 : r_S), Q10 z σ12 → ∃ Q18 : Int32 → r_S → Prop, r_M l w B tm (.ref (B + mOf n) :: as) σ12 (r_QI σ12 Q18) ∧ ∀ (z' : Int32) (σ20 : r_S), Q18 z' σ20 → z = z' ∧ INV n (k + 1) σ20) → ∃ Q10 : Int32 → r_S → Prop, r_M l w B tc (.ref (B + 1) :: as) σ (r_QI σ Q10) ∧ (∀ (z14 : Int32) (σ12 : r_S), Q10 z14 σ12 → (r_at σ (mOf n) = some (.inl 8) ∧ (∃ Q18 : Int32 → r_S → Prop, r_M l w B tm (.ref (B + mOf n) :: as) σ12 (r_QI σ12 Q18) ∧ (∀ (z22 : Int32) (σ20 : r_S), Q18 z22 σ20 → ((z14 = z22 → (∀ z26 : Int32, z26 = x3 + 5 → (r_W X w B 4 cs sl Qz 28 [(0, Value.ref b), (1, Value.ref (B + 1)), (2, Value.ref (B + mOf n)), (3, Value.int z26)] [] σ20))) ∧ (¬ z14 = z22 → (False))))))) := by
      intro tc tm as h
      obtain ⟨Q, q1, q2⟩ := h
      refine ⟨Q, q1, fun z σ1 h1 => ⟨a2, ?_⟩⟩
      obtain ⟨Q2, p1, p2⟩ := q2 z σ1 h1
      exact ⟨Q2, p1, fun z' σ2 h2 => ⟨fun _ => nx σ2 (p2 z' σ2 h2).2, fun c => c (p2 z' σ2 h2).1⟩⟩
    refine ⟨v0, fun z3 _ => ⟨fun _ => ⟨v1, v2, v3, fun c0 => ⟨a1, ?_⟩, fun c0 => ⟨a1, ?_⟩⟩, fun _ => ⟨fun _ => ⟨v1, a1, ?_⟩, fun _ => ⟨fun _ => ⟨v1, a1, ?_⟩, fun _ => ⟨fun _ => ⟨v1, v2, v3, a1, ?_⟩, fun _ => ⟨fun _ => ⟨v1, v2, v3, v4, a1, ?_⟩, fun _ => ⟨fun _ => ⟨v1, a1, ?_⟩, fun _ => ⟨fun _ => ⟨v1, v2, a1, ?_⟩, fun _ => ⟨fun _ => ⟨v1, v2, a1, ?_⟩, fun _ => ⟨fun _ => ⟨v1, v2, a1, ?_⟩, fun _ => ⟨fun _ => ⟨a1, ?_⟩, fun _ => nx σ hI.up⟩⟩⟩⟩⟩⟩⟩⟩⟩⟩⟩
    · obtain ⟨Q, q1, q2⟩ := packI (stepI hn hI (fun T E hT hE hR hM hD => ⟨ki_T (c_hear hn hR hD (Or.inl rfl)), k_hear hn hM, hM.hearA.up (by omega), hD.hear⟩))
      exact ⟨Q, q1, fun z σ1 h1 => ⟨fun _ => q2 z σ1 h1, fun q => absurd c0 q⟩⟩
    · obtain ⟨Q, q1, q2⟩ := packI (stepI hn hI (fun T E hT hE hR hM hD => ⟨ki_T (c_hear hn hR hD (Or.inr rfl)), k_hear hn hM, hM.hearA.up (by omega), hD.hear⟩))
      exact ⟨Q, q1, fun z σ1 h1 => ⟨fun q => absurd q c0, fun _ => q2 z σ1 h1⟩⟩
    · exact packI (stepI hn hI (fun T E hT hE hR hM hD => ⟨ki_T (c_coin hn hR hM), k_coin hM, hM.coinA.up (by omega), hD.coin⟩))
    · exact packI (stepI hn hI (fun T E hT hE hR hM hD => ⟨ki_T (c_threshold hn hR), k_threshold, hM.thrA.up (by omega), hD.thrA⟩))
    · exact packI (stepI hn hI (fun T E hT hE hR hM hD => ⟨ki_T (c_offer hn hR hM), k_offer hn hM, (hM.offerA hn).up (by omega), hD.offer⟩))
    · exact packI (stepI hn hI (fun T E hT hE hR hM hD => ⟨ki_T (c_noise hn hR hM), k_noiseA hn hM, hM.noiseA.up (by omega), hD.noise⟩))
    · refine packI (stepI (v := (aRun n (xs (x3 + 1).toNatClampNeg) (mu (mOf n) σ)).1) (μ2 := (aRun n (xs (x3 + 1).toNatClampNeg) (mu (mOf n) σ)).2) hn hI (fun T E hT hE hR hM hD => ?_))
      have ht : (mu (mOf n) σ).2 0 2 = lN T := by
        obtain ⟨S, hR⟩ := hR
        exact hR.gl.time.2
      obtain ⟨m1, m2⟩ := mi_runA hn hM ht (by omega) hD (x := xs (x3 + 1).toNatClampNeg)
      exact ⟨c_run hn hR hM (by omega) (by omega), k_run hn hM ht (by omega) (by omega), m1, m2⟩
    · exact packI (stepI hn hI (fun T E hT hE hR hM hD => ⟨ki_T (c_event hn hR), k_event, hM.thr.up (by omega), hD⟩))
    · exact packI (stepI hn hI (fun T E hT hE hR hM hD => ⟨ki_T (c_state hn hR (by omega)), k_state hn hM, hM.thr.up (by omega), hD⟩))
    · exact packI (stepI hn hI (fun T E hT hE hR hM hD => ⟨ki_T (c_sent hn hR), k_sent hn hM, hM.thr.up (by omega), hD⟩))
    · obtain ⟨Q, q1, q2⟩ := stepL (tc := tX7_now) (tm := tX8_now) (as := []) (l := l) (w := w) (B := B) hn hI (fun T E hT hE hR hM hD => ⟨kl_T (c_now hn hR), k_now, hM.thr.up (by omega), hD⟩)
      refine ⟨Q, q1, fun z σ1 h1 => ⟨a2, ?_⟩⟩
      obtain ⟨Q2, p1, p2⟩ := q2 z σ1 h1
      exact ⟨Q2, p1, fun z' σ2 h2 => ⟨fun _ => nx σ2 (p2 z' σ2 h2).2, fun c => c (p2 z' σ2 h2).1⟩⟩
end LB
