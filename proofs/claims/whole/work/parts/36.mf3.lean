/-! attempt, stepOne -/
def aL (to : Nat → Int32) (K : List Nat) : List Nat := (K.takeWhile (fun p => decide (to p = to (K.headD 0)))).take 4
def AE (to : Nat → Int32) (K : List Nat) : Prop := ∀ p ∈ K, to p = to (K.headD 0)
theorem headD_app {D r : List Nat} (h : D ≠ []) : (D ++ r).headD 0 = D.headD 0 := by
  cases D with
  | nil => exact absurd rfl h
  | cons a D => rfl
theorem tw_mem {α : Type} {P : α → Bool} : ∀ {L : List α} {a : α}, a ∈ L.takeWhile P → P a = true
  | [], a, h => by simp at h
  | b :: L, a, h => by
    by_cases q : P b = true
    · rw [List.takeWhile_cons_of_pos q] at h
      rcases List.mem_cons.mp h with e | e
      · rw [e]; exact q
      · exact tw_mem e
    · rw [List.takeWhile_cons_of_neg q] at h
      simp at h
theorem tw_self {α : Type} {P : α → Bool} : ∀ {L : List α}, (∀ a ∈ L, P a = true) → L.takeWhile P = L
  | [], _ => rfl
  | b :: L, h => by rw [List.takeWhile_cons_of_pos (h b (by simp)), tw_self (fun a ha => h a (by simp [ha]))]
theorem aL_self {to : Nat → Int32} {D : List Nat} (h : AE to D) (h4 : D.length ≤ 4) : aL to D = D := by
  unfold aL
  rw [tw_self (fun a ha => decide_eq_true (h a ha)), List.take_of_length_le h4]
theorem aL_stop {to : Nat → Int32} {D r : List Nat} {p : Nat} (h : AE to D) (hD : D ≠ []) (h4 : D.length ≤ 4) (hp : D.length = 4 ∨ ¬ to p = to (D.headD 0)) : aL to (D ++ p :: r) = D := by
  unfold aL
  rw [headD_app hD, List.takeWhile_append_of_pos (fun a ha => decide_eq_true (h a ha))]
  rcases hp with hp | hp
  · rw [← hp, List.take_left]
  · rw [List.takeWhile_cons_of_neg (by simpa using hp), List.append_nil, List.take_of_length_le h4]
theorem aL_sub {to : Nat → Int32} {K : List Nat} : ∀ p ∈ aL to K, p ∈ K ∧ to p = to (K.headD 0) := by
  intro p hp
  unfold aL at hp
  have h1 := List.mem_of_mem_take hp
  refine ⟨(List.takeWhile_sublist _).subset h1, ?_⟩
  have := tw_mem h1
  exact of_decide_eq_true this
theorem aL_head {to : Nat → Int32} {K : List Nat} (h : K ≠ []) : aL to K ≠ [] ∧ (aL to K).headD 0 = K.headD 0 := by
  cases K with
  | nil => exact absurd rfl h
  | cons a K =>
    unfold aL
    rw [List.headD_cons, List.takeWhile_cons_of_pos (by simp)]
    exact ⟨by simp, rfl⟩
theorem aL_len {to : Nat → Int32} {K : List Nat} : (aL to K).length ≤ 4 := by
  unfold aL
  simp only [List.length_take]
  omega
theorem kL_mem {f k : Nat → Int32} {s : Nat} : ∀ {i p : Nat}, p ∈ kL f k s i → 1 ≤ p ∧ p ≤ i ∧ f p = nI s ∧ ¬ k p = 0
  | 0, p, h => by simp [kL] at h
  | i + 1, p, h => by
    simp only [kL, List.mem_append] at h
    rcases h with h | h
    · obtain ⟨a, b, c⟩ := kL_mem h
      exact ⟨a, by omega, c⟩
    · by_cases q : f (i + 1) = nI s ∧ ¬ k (i + 1) = 0
      · rw [if_pos q] at h
        simp at h
        subst h
        exact ⟨by omega, Nat.le_refl _, q⟩
      · rw [if_neg q] at h
        simp at h
theorem kL_split {f k : Nat → Int32} {s i : Nat} : ∀ {j : Nat}, i ≤ j → ∃ r, kL f k s j = kL f k s i ++ r
  | 0, h => ⟨[], by rw [show i = 0 by omega, List.append_nil]⟩
  | j + 1, h => by
    by_cases e : i = j + 1
    · subst e
      exact ⟨[], by rw [List.append_nil]⟩
    · obtain ⟨r, hr⟩ := kL_split (f := f) (k := k) (s := s) (i := i) (j := j) (by omega)
      exact ⟨r ++ (if f (j + 1) = nI s ∧ ¬ k (j + 1) = 0 then [j + 1] else []), by rw [← List.append_assoc, ← hr]; rfl⟩
def wr (s : Nat) (D : List Nat) (μ : Mu) : Mu := (fun g i => if g = 34 ∧ (4 * s ≤ i ∧ i < 4 * s + D.length) then nI (D.getD (i - 4 * s) 0) else μ.1 g i, μ.2)
theorem wr_nil {s : Nat} {μ : Mu} : wr s [] μ = μ := by
  refine Prod.ext (funext fun g => funext fun j => ?_) rfl
  simp only [wr, List.length_nil]
  rw [if_neg (by omega)]
theorem wr_add {s p : Nat} {D : List Nat} {μ : Mu} : ui (wr s D μ) 34 (4 * s + D.length) (nI p) = wr s (D ++ [p]) μ := by
  refine Prod.ext (funext fun g => funext fun j => ?_) rfl
  simp only [wr, ui, List.length_append, List.length_singleton]
  by_cases hg : g = 34
  · by_cases hj : j = 4 * s + D.length
    · subst hj
      rw [if_pos ⟨hg, rfl⟩, if_pos ⟨hg, by omega⟩, show 4 * s + D.length - 4 * s = D.length by omega]
      simp [List.getD_eq_getElem?_getD]
    · rw [if_neg (fun q => hj q.2)]
      by_cases hk : 4 * s ≤ j ∧ j < 4 * s + D.length
      · rw [if_pos ⟨hg, hk⟩, if_pos ⟨hg, by omega⟩]
        have : j - 4 * s < D.length := by omega
        simp [List.getD_eq_getElem?_getD, List.getElem?_append_left this]
      · rw [if_neg (fun q => hk q.2), if_neg (fun q => hk (by omega))]
  · rw [if_neg (fun q => hg q.1), if_neg (fun q => hg q.1), if_neg (fun q => hg q.1)]
theorem wr_head {s : Nat} {D : List Nat} {μ : Mu} (h : D ≠ []) : (wr s D μ).1 34 (4 * s) = nI (D.headD 0) := by
  cases D with
  | nil => exact absurd rfl h
  | cons a D =>
    show (if 34 = 34 ∧ (4 * s ≤ 4 * s ∧ 4 * s < 4 * s + (a :: D).length) then nI ((a :: D).getD (4 * s - 4 * s) 0) else _) = _
    rw [if_pos ⟨rfl, by simp⟩, Nat.sub_self]
    rfl
theorem sz_add {sl : Nat → Int32} {L : List Int32} {p : Int32} : sz sl (L ++ [p]) = sz sl L + sl p.toNatClampNeg := by
  unfold sz
  rw [List.foldl_append]
  rfl
def fAtt0 (s : Nat) (D : List Nat) (μ : Mu) : Mu := ui (ui (wr s D μ) 35 s (nI D.length)) 36 s (sz (μ.1 4) (D.map nI))
def attL (s : Nat) (μ : Mu) : List Nat := aL (μ.1 3) (kL (μ.1 2) (μ.1 6) s (pN μ))
def fAttempt (n s : Nat) (t : Int64) (μ : Mu) : Mu := fBegin n s (if sz (μ.1 4) ((attL s μ).map nI) < μ.1 0 3 then 3 else 1) (qTo (fAtt0 s (attL s μ) μ) s) (sz (μ.1 4) ((attL s μ).map nI)) 0 t (fAtt0 s (attL s μ) μ)
section MF4
variable {l : Launch} {w : r_V} {B m n E : Nat} {μ : Mu}
theorem k_attempt {s : Nat} {t : Int64} (hn : okN n) (hs : s < n) (h : MI n E μ) (hK : ¬ kL (μ.1 2) (μ.1 6) s (pN μ) = []) : r_MV l w B m tX8_attempt [.int (nI s), .long t] μ (fun μ' => μ' = fAttempt n s t μ) := by
  have hn6 := hn.2
  obtain ⟨hp, hP⟩ := h.pay
  have hE1 : (nI s).toNatClampNeg = s := nI_clampS (by omega)
  refine r_MV.of (by decide) (fun _ => Nat.le_of_ble_eq_true rfl) (fun X σ0 C Ex => ?_)
  refine u_X8_attempt_0 C Ex ?_
  have hat := aL_head (to := μ.1 3) hK
  have fin : r_Wm X w B 8 m σ0 (r_Z X w B tX8_attempt (ZMV m σ0 (fun μ' => μ' = fAttempt n s t μ))) 127 [(0, Value.ref (B + m)), (1, Value.int (nI s)), (2, Value.long t), (4, Value.int (nI (attL s μ).length)), (5, Value.int (sz (μ.1 4) ((attL s μ).map nI)))] [] (wr s (attL s μ) μ) := by
    have hh : (wr s (attL s μ) μ).1 34 (4 * s) = nI ((attL s μ).headD 0) := wr_head hat.1
    have hm : (attL s μ).headD 0 ∈ kL (μ.1 2) (μ.1 6) s (pN μ) := by
      have e : (attL s μ).headD 0 = (kL (μ.1 2) (μ.1 6) s (pN μ)).headD 0 := hat.2
      rw [e]
      revert hK
      generalize kL (μ.1 2) (μ.1 6) s (pN μ) = K
      intro hK
      cases K with
      | nil => exact absurd rfl hK
      | cons a K => simp
    have hb := kL_mem hm
    refine u_X8_attempt_127 C Ex ⟨vp_in_nI (by omega) (by decide), fun μ2 e2 μ8 e8 z16 e16 => ?_⟩
    rw [hE1] at e2 e8
    have e0 : μ8 = fAtt0 s (attL s μ) μ := by rw [e8, e2]; rfl
    have h34 : μ8.1 34 (4 * s) = nI ((attL s μ).headD 0) := by rw [e0]; exact hh
    rw [four0, nI_clampS (show 4 * s < 1000000 by omega)]
    refine ⟨vp_in_nI (by omega) (by decide), by rw [h34]; exact vp_in_nI (by omega) (by decide), _, k_begin hn hs (by rw [e0]; exact h.n1) (by rw [e16]; split <;> simp), fun μ23 q => ?_⟩
    rw [q, e16, e0]
    rfl
  have key : ∀ (k i : Nat), i + k = pN μ → AE (μ.1 3) (kL (μ.1 2) (μ.1 6) s i) → (kL (μ.1 2) (μ.1 6) s i).length ≤ 4 → r_Wm X w B 8 m σ0 (r_Z X w B tX8_attempt (ZMV m σ0 (fun μ' => μ' = fAttempt n s t μ))) 12 [(0, Value.ref (B + m)), (1, Value.int (nI s)), (2, Value.long t), (4, Value.int (nI (kL (μ.1 2) (μ.1 6) s i).length)), (5, Value.int (sz (μ.1 4) ((kL (μ.1 2) (μ.1 6) s i).map nI))), (6, Value.int 1), (7, Value.int (nI (i + 1)))] [] (wr s (kL (μ.1 2) (μ.1 6) s i) μ) := by
    intro k
    induction k with
    | zero =>
      intro i hi hA h4
      have hi : i = pN μ := by omega
      have e : attL s μ = kL (μ.1 2) (μ.1 6) s i := by unfold attL; rw [← hi]; exact aL_self hA h4
      rw [e] at fin
      exact u_X8_attempt_12 C Ex ⟨fun _ => fin, fun c => absurd (by show μ.1 0 5 < _; rw [hp]; exact nI_lt (by omega) (by omega)) c⟩
    | succ k ih =>
      intro i hi hA h4
      have ih1 := ih (i + 1) (by omega)
      refine u_X8_attempt_12 C Ex ⟨fun c => absurd c (by show ¬ μ.1 0 5 < _; rw [hp]; exact nI_nlt (by omega) (by omega)), fun _ => ⟨fun c => absurd c (by decide), fun _ => ⟨vp_in_nI (by omega) (by decide), ?_⟩⟩⟩
      rw [nI_clampS (show i + 1 < 1000000 by omega)]
      have g2 : (wr s (kL (μ.1 2) (μ.1 6) s i) μ).1 2 (i + 1) = μ.1 2 (i + 1) := rfl
      have g6 : (wr s (kL (μ.1 2) (μ.1 6) s i) μ).1 6 (i + 1) = μ.1 6 (i + 1) := rfl
      have g3 : (wr s (kL (μ.1 2) (μ.1 6) s i) μ).1 3 = μ.1 3 := rfl
      rw [g2, g6, g3]
      refine ⟨fun c1 => ⟨fun c2 z e => ?_, fun c2 => ?_⟩, fun c1 z e => ?_⟩
      · have hk : kL (μ.1 2) (μ.1 6) s (i + 1) = kL (μ.1 2) (μ.1 6) s i := by
          show kL (μ.1 2) (μ.1 6) s i ++ (if _ then _ else _) = _
          rw [if_neg (fun q => q.2 c2), List.append_nil]
        rw [hk] at ih1
        rw [e, nI_1]
        exact ih1 hA h4
      · have hk : kL (μ.1 2) (μ.1 6) s (i + 1) = kL (μ.1 2) (μ.1 6) s i ++ [i + 1] := by
          show kL (μ.1 2) (μ.1 6) s i ++ (if _ then _ else _) = _
          rw [if_pos ⟨c1, c2⟩]
        rw [hk] at ih1
        obtain ⟨r, hr⟩ := kL_split (f := μ.1 2) (k := μ.1 6) (s := s) (i := i + 1) (j := pN μ) (by omega)
        rw [hk, List.append_assoc] at hr
        have hmem : ∀ p ∈ kL (μ.1 2) (μ.1 6) s i, 1 ≤ p ∧ p ≤ 300 := fun p hp => ⟨(kL_mem hp).1, by have := (kL_mem hp).2.1; omega⟩
        generalize hDg : kL (μ.1 2) (μ.1 6) s i = D at *
        have hD0 : D ≠ [] → (D.headD 0) ≤ 300 := fun q => by
          cases D with
          | nil => exact absurd rfl q
          | cons a D => exact (hmem a (by simp)).2
        have hnl : nI D.length = 0 ↔ D = [] := by
          rw [← nI_0, nI_eq (by omega) (by omega)]
          exact List.length_eq_zero_iff
        have h44 : (4 : Int32) ≤ nI D.length ↔ D.length = 4 := by
          rw [show (4 : Int32) = nI 4 from rfl, nI_leI (by omega) (by omega)]
          omega
        have hw0 : D ≠ [] → (wr s D μ).1 34 (4 * s) = nI (D.headD 0) := fun q => wr_head q
        rw [four0, nI_clampS (show 4 * s < 1000000 by omega)]
        refine ⟨⟨fun _ => trivial, fun _ => ⟨fun _ => trivial, fun c0 => ⟨vp_in_nI (by omega) (by decide), ?_⟩⟩⟩, fun z17 e17 => ⟨fun c3 z21 e21 => ?_, fun c3 => ?_⟩⟩
        · have hne : D ≠ [] := fun q => c0 (hnl.mpr q)
          rw [hw0 hne]
          exact vp_in_nI (by have := hD0 hne; omega) (by decide)
        · have hstop : D ≠ [] ∧ (D.length = 4 ∨ ¬ μ.1 3 (i + 1) = μ.1 3 (D.headD 0)) := by
            rw [c3] at e17
            by_cases q4 : (4 : Int32) ≤ nI D.length
            · have := h44.mp q4
              exact ⟨fun q => by rw [q] at this; simp at this, Or.inl this⟩
            · rw [if_neg q4] at e17
              by_cases q0 : nI D.length = 0
              · rw [if_pos q0] at e17; exact absurd e17 (by decide)
              · rw [if_neg q0] at e17
                have hne : D ≠ [] := fun q => q0 (hnl.mpr q)
                rw [hw0 hne, nI_clampS (by have := hD0 hne; omega)] at e17
                refine ⟨hne, Or.inr (fun q => ?_)⟩
                rw [if_pos q] at e17
                exact absurd e17 (by decide)
          have e : attL s μ = D := by
            unfold attL
            rw [hr]
            exact aL_stop hA hstop.1 h4 hstop.2
          rw [e] at fin
          rw [c3]
          exact u_X8_attempt_12 C Ex ⟨fun _ => fin, fun _ => ⟨fun _ => fin, fun q => absurd rfl q⟩⟩
        · have hgo : D.length < 4 ∧ (D = [] ∨ μ.1 3 (i + 1) = μ.1 3 (D.headD 0)) := by
            by_cases q4 : (4 : Int32) ≤ nI D.length
            · rw [if_pos q4] at e17; exact absurd e17 c3
            · rw [if_neg q4] at e17
              have hl : D.length < 4 := by
                by_cases q : D.length = 4
                · exact absurd (h44.mpr q) q4
                · omega
              refine ⟨hl, ?_⟩
              by_cases q0 : nI D.length = 0
              · exact Or.inl (hnl.mp q0)
              · rw [if_neg q0] at e17
                have hne : D ≠ [] := fun q => q0 (hnl.mpr q)
                rw [hw0 hne, nI_clampS (by have := hD0 hne; omega)] at e17
                by_cases q : μ.1 3 (i + 1) = μ.1 3 (D.headD 0)
                · exact Or.inr q
                · rw [if_neg q] at e17; exact absurd e17 c3
          have h17 : z17 = 1 := by
            rw [e17]
            rw [if_neg (fun q => by have := h44.mp q; omega)]
            rcases hgo.2 with q | q
            · rw [if_pos (hnl.mpr q)]
            · by_cases q0 : nI D.length = 0
              · rw [if_pos q0]
              · have hne : D ≠ [] := fun q => q0 (hnl.mpr q)
                rw [if_neg q0, hw0 hne, nI_clampS (by have := hD0 hne; omega), if_pos q]
          rw [nI_add, nI_clampS (show 4 * s + D.length < 1000000 by omega)]
          refine ⟨vp_in_nI (by omega) (by decide), fun μ24 e24 z30 e30 z32 e32 z34 e34 => ?_⟩
          rw [h17, e30, nI_1, e34, nI_1]
          have e5 : z32 = sz (μ.1 4) ((D ++ [i + 1]).map nI) := by
            rw [e32, List.map_append, List.map_singleton, sz_add, nI_clampS (show i + 1 < 1000000 by omega), e24]
            rfl
          rw [e5, e24, wr_add]
          have hA2 : AE (μ.1 3) (D ++ [i + 1]) := by
            intro p hp
            rcases hgo.2 with q | q
            · subst q
              simp at hp
              subst hp
              rfl
            · by_cases hne : D = []
              · subst hne
                simp at hp
                subst hp
                rfl
              · rw [headD_app hne]
                rcases List.mem_append.mp hp with hp | hp
                · exact hA p hp
                · simp at hp
                  subst hp
                  exact q
          have := ih1 hA2 (by simp; omega)
          rw [List.length_append, List.length_singleton] at this
          exact this
      · have hk : kL (μ.1 2) (μ.1 6) s (i + 1) = kL (μ.1 2) (μ.1 6) s i := by
          show kL (μ.1 2) (μ.1 6) s i ++ (if _ then _ else _) = _
          rw [if_neg (fun q => c1 q.1), List.append_nil]
        rw [hk] at ih1
        rw [e, nI_1]
        exact ih1 hA h4
  have h0 := key (pN μ) 0 (by omega) (fun p hp => by simp [kL] at hp) (by simp [kL])
  have e0 : kL (μ.1 2) (μ.1 6) s 0 = [] := rfl
  rw [e0, wr_nil] at h0
  exact h0
end MF4
section MF5
variable {l : Launch} {w : r_V} {B m n E : Nat} {μ : Mu}
theorem tl_congr {tr tr' cn cn' : Nat → Int32} {i : Nat} (h : cn' i = cn i) (h2 : ∀ k, k < (cn i).toNatClampNeg → tr' (4 * i + k) = tr (4 * i + k)) : tl tr' cn' i = tl tr cn i := by
  unfold tl
  rw [h]
  exact List.map_congr_left (fun k hk => h2 k (List.mem_range.mp hk))
theorem MI.begin (h : MI n E μ) {s : Nat} {what other size tale : Int32} {t : Int64} (hq : what = 1 ∨ what = 3 → other = qTo μ s ∧ ¬ μ.1 36 s = 0) : MI n E (fBegin n s what other size tale t μ) := by
  rw [fBegin_eq]
  refine ⟨h.n1, h.pay, h.coin, h.noi, h.ev, h.wid, h.pl, h.nu, h.tr, h.dk, h.hb, fun i hi => ⟨fun q => ?_, (h.wh i hi).2.1, (h.wh i hi).2.2⟩⟩
  have h37 : (zb n s (fBeg0 s what other size tale t μ)).1 37 i = if i = s then what else μ.1 37 i := by simp [zb, fBeg0, ui, ul]
  have h38 : (zb n s (fBeg0 s what other size tale t μ)).1 38 i = if i = s then other else μ.1 38 i := by simp [zb, fBeg0, ui, ul]
  rw [h37] at q
  rw [h38]
  by_cases e : i = s
  · subst e
    rw [if_pos rfl] at q ⊢
    exact hq q
  · rw [if_neg e] at q ⊢
    exact (h.wh i hi).1 q
theorem fAtt0_34 {s : Nat} {D : List Nat} : ∀ j, (fAtt0 s D μ).1 34 j = if 4 * s ≤ j ∧ j < 4 * s + D.length then nI (D.getD (j - 4 * s) 0) else μ.1 34 j := by
  intro j
  show (if 34 = 34 ∧ (4 * s ≤ j ∧ j < 4 * s + D.length) then nI (D.getD (j - 4 * s) 0) else μ.1 34 j) = _
  by_cases q : 4 * s ≤ j ∧ j < 4 * s + D.length
  · rw [if_pos ⟨rfl, q⟩, if_pos q]
  · rw [if_neg (fun c => q c.2), if_neg q]
theorem fAtt0_35 {s : Nat} {D : List Nat} : ∀ j, (fAtt0 s D μ).1 35 j = if j = s then nI D.length else μ.1 35 j := by
  intro j
  show (if 35 = 35 ∧ j = s then nI D.length else μ.1 35 j) = _
  simp
theorem fAtt0_36 {s : Nat} {D : List Nat} : ∀ j, (fAtt0 s D μ).1 36 j = if j = s then sz (μ.1 4) (D.map nI) else μ.1 36 j := by
  intro j
  show (if 36 = 36 ∧ j = s then sz (μ.1 4) (D.map nI) else μ.1 36 j) = _
  simp
theorem fAtt0_tl {s : Nat} {D : List Nat} (h4 : D.length ≤ 4) : tl ((fAtt0 s D μ).1 34) ((fAtt0 s D μ).1 35) s = D.map nI := by
  unfold tl
  rw [fAtt0_35, if_pos rfl, nI_clampS (by omega)]
  refine List.ext_getElem (by simp) (fun k h1 h2 => ?_)
  have hk : k < D.length := by simpa using h2
  simp only [List.getElem_map, List.getElem_range]
  rw [fAtt0_34, if_pos ⟨by omega, by omega⟩, show 4 * s + k - 4 * s = k by omega]
  simp [List.getD_eq_getElem?_getD, List.getElem?_eq_getElem hk]
theorem TR.len {i : Nat} (h : TR μ i) : (μ.1 35 i).toNatClampNeg ≤ 4 := by
  obtain ⟨c, h4, e1, -⟩ := h
  rw [e1, nI_clampS (by omega)]
  exact h4
theorem fAtt0_tlo {s i : Nat} {D : List Nat} (hi : i ≠ s) (h4 : D.length ≤ 4) (ht : TR μ i) : tl ((fAtt0 s D μ).1 34) ((fAtt0 s D μ).1 35) i = tl (μ.1 34) (μ.1 35) i := by
  refine tl_congr (by rw [fAtt0_35, if_neg hi]) (fun k hk => ?_)
  have := ht.len
  rw [fAtt0_34, if_neg (by omega)]
theorem sz_bound {sl : Nat → Int32} : ∀ (L : List Int32) (x : Nat), (∀ p ∈ L, ∃ c : Nat, sl p.toNatClampNeg = nI c ∧ 1 ≤ c ∧ c ≤ 8) → ∃ z : Nat, L.foldl (fun a p => a + sl p.toNatClampNeg) (nI x) = nI z ∧ x + L.length ≤ z ∧ z ≤ x + 8 * L.length
  | [], x, _ => ⟨x, rfl, by simp, by simp⟩
  | a :: L, x, h => by
    obtain ⟨c, e, c1, c8⟩ := h a (by simp)
    obtain ⟨z, ez, z1, z2⟩ := sz_bound L (x + c) (fun p hp => h p (by simp [hp]))
    refine ⟨z, ?_, ?_, ?_⟩
    · simp only [List.foldl_cons]
      rw [e, nI_add]
      exact ez
    · simp only [List.length_cons]; omega
    · simp only [List.length_cons]; omega
theorem MI.attempt (h : MI n E μ) {s : Nat} {t : Int64} (hs : s < n) (hK : ¬ kL (μ.1 2) (μ.1 6) s (pN μ) = []) (hw : μ.2 23 s < 0) (hd : μ.2 26 s < 0) : MI n E (fAttempt n s t μ) := by
  have hl : (attL s μ).length ≤ 4 := aL_len
  have hat := aL_head (to := μ.1 3) hK
  have hne : attL s μ ≠ [] := hat.1
  have hpos : 0 < (attL s μ).length := List.length_pos_iff.mpr hne
  have hmem : ∀ p ∈ attL s μ, 1 ≤ p ∧ p ≤ pN μ ∧ μ.1 2 p = nI s ∧ μ.1 3 p = μ.1 3 ((attL s μ).headD 0) := fun p hp => by
    obtain ⟨q1, q2⟩ := aL_sub p hp
    obtain ⟨q3, q4, q5, q6⟩ := kL_mem q1
    exact ⟨q3, q4, q5, by rw [show (attL s μ).headD 0 = (kL (μ.1 2) (μ.1 6) s (pN μ)).headD 0 from hat.2]; exact q2⟩
  have hP := h.pay.2
  have hhead : (attL s μ).headD 0 ∈ attL s μ := by
    revert hne
    generalize attL s μ = D
    intro hne
    cases D with
    | nil => exact absurd rfl hne
    | cons a D => simp
  have h34s : (fAtt0 s (attL s μ) μ).1 34 (4 * s) = nI ((attL s μ).headD 0) := wr_head hne
  have hqs : qTo (fAtt0 s (attL s μ) μ) s = μ.1 3 ((attL s μ).headD 0) := by
    unfold qTo
    rw [h34s, nI_clampS (by have := (hmem _ hhead).2.1; omega)]
    rfl
  have hq : ∀ i, i ≠ s → qTo (fAtt0 s (attL s μ) μ) i = qTo μ i := fun i hi => by
    unfold qTo
    rw [fAtt0_34, if_neg (by omega)]
    rfl
  unfold fAttempt
  rw [fBegin_eq]
  generalize hD : attL s μ = D at *
  refine ⟨h.n1, h.pay, h.coin, h.noi, h.ev, h.wid, h.pl, h.nu, fun i hi => ?_, h.dk, h.hb, fun i hi => ?_⟩
  · show TR (fAtt0 s D μ) i
    by_cases e : i = s
    · subst e
      refine ⟨D.length, hl, by rw [fAtt0_35, if_pos rfl], fun k hk => ?_, fun q => by omega, ?_⟩
      · have hm := hmem _ (List.getElem_mem hk)
        refine ⟨D[k], ?_, hm.1, hm.2.1, hm.2.2.1, ?_⟩
        · rw [fAtt0_34, if_pos ⟨by omega, by omega⟩, show 4 * i + k - 4 * i = k by omega]
          simp [List.getD_eq_getElem?_getD, List.getElem?_eq_getElem hk]
        · show μ.1 3 D[k] = qTo (fAtt0 i D μ) i
          rw [hqs]
          exact hm.2.2.2
      · right
        rw [fAtt0_tl hl, fAtt0_36, if_pos rfl]
        rfl
    · have ht := h.tr i hi
      have hlen := ht.len
      have htl := fAtt0_tlo (D := D) e hl ht
      obtain ⟨c, h4, e1, e2, e3, e4⟩ := ht
      have h34 : ∀ k, k < 4 → (fAtt0 s D μ).1 34 (4 * i + k) = μ.1 34 (4 * i + k) := fun k hk => by rw [fAtt0_34, if_neg (by omega)]
      have h340 : (fAtt0 s D μ).1 34 (4 * i) = μ.1 34 (4 * i) := h34 0 (by omega)
      refine ⟨c, h4, by rw [fAtt0_35, if_neg e]; exact e1, fun k hk => ?_, fun q => by rw [h340]; exact e3 q, ?_⟩
      · obtain ⟨p, q1, q2, q3, q4, q5⟩ := e2 k hk
        exact ⟨p, by rw [h34 k (by omega)]; exact q1, q2, q3, q4, by rw [h340]; exact q5⟩
      · rw [htl, fAtt0_36, if_neg e]
        exact e4
  · have h36 : ∀ (wh ot si : Int32), (zb n s (fBeg0 s wh ot si 0 t (fAtt0 s D μ))).1 36 i = if i = s then sz (μ.1 4) (D.map nI) else μ.1 36 i := fun wh ot si => fAtt0_36 i
    have hsz : ¬ sz (μ.1 4) (D.map nI) = 0 := by
      obtain ⟨z, ez, z1, z2⟩ := sz_bound (sl := μ.1 4) (D.map nI) 1 (fun p hp => by
        obtain ⟨q, hq, rfl⟩ := List.mem_map.mp hp
        obtain ⟨q1, q2, -⟩ := hmem q hq
        obtain ⟨-, -, c, -, -, -, ec, -, -, -, hc1, hc8, -⟩ := h.pl q q1 q2
        rw [nI_clampS (by omega)]
        exact ⟨c, ec, hc1, hc8⟩)
      rw [List.length_map] at z1 z2
      show ¬ List.foldl _ (nI 1) _ = 0
      rw [ez]
      exact nI_ne0 (by omega) (by omega)
    generalize hwh : (if sz (μ.1 4) (D.map nI) < μ.1 0 3 then (3 : Int32) else 1) = what
    generalize hot : qTo (fAtt0 s D μ) s = other at *
    generalize sz (μ.1 4) (D.map nI) = size at *
    have h37 : (zb n s (fBeg0 s what other size 0 t (fAtt0 s D μ))).1 37 i = if i = s then what else μ.1 37 i := by
      show (if 37 = 37 ∧ i = s then what else μ.1 37 i) = _
      simp
    have h38 : (zb n s (fBeg0 s what other size 0 t (fAtt0 s D μ))).1 38 i = if i = s then other else μ.1 38 i := by
      show (if 38 = 38 ∧ i = s then other else μ.1 38 i) = _
      simp
    have hqz : ∀ j, qTo (zb n s (fBeg0 s what other size 0 t (fAtt0 s D μ))) j = qTo (fAtt0 s D μ) j := fun j => rfl
    have hw' : (zb n s (fBeg0 s what other size 0 t (fAtt0 s D μ))).2 23 i = μ.2 23 i := rfl
    have hd' : (zb n s (fBeg0 s what other size 0 t (fAtt0 s D μ))).2 26 i = μ.2 26 i := rfl
    unfold WH
    rw [h37, h38, hqz, hw', hd', h36]
    by_cases e : i = s
    · subst e
      exact ⟨fun _ => ⟨by rw [if_pos rfl, hot], by rw [if_pos rfl]; exact hsz⟩, fun q => absurd hw (Int64.not_lt.mpr q), fun q => absurd hd (Int64.not_lt.mpr q)⟩
    · rw [if_neg e, if_neg e, if_neg e, hq i e]
      exact h.wh i hi
end MF5
