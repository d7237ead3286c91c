/-! what is acknowledged, bit by bit and by rows -/
def cAck (t : Int64) (ν : Mu) (p : Int32) : Mu := fTell p 3 t (ui ν 6 p.toNatClampNeg 0)
section PW
variable {n T s r E : Nat} {μ ν : Mu} {t : Int64}
theorem shr_bits : ∀ k : Fin 4, ∀ b : Fin 16, ((nI b.val >>> (nI k.val &&& 31)) &&& 1 = 1) ↔ b.val / 2 ^ k.val % 2 = 1 := by decide +kernel
theorem ack_list {b c : Nat} (hc : c ≤ 4) (hb : b < 16) {tr : Nat → Int32} : ∀ (j k : Nat) (ν : Mu), k + j = c → (∀ q, ν.1 34 q = tr q) → it (fA1 r (nI b) t) k j ν = (sel (b / 2 ^ k) (lst tr (4 * r + k) j)).foldl (cAck t) ν
  | 0, _, _, _, _ => rfl
  | j + 1, k, ν, hk, h34 => by
    have hk4 : k < 4 := by omega
    have hsh := shr_bits ⟨k, hk4⟩ ⟨b, hb⟩
    show it (fA1 r (nI b) t) (k + 1) j (fA1 r (nI b) t k ν) = _
    have h34' : ∀ q, (fA1 r (nI b) t k ν).1 34 q = tr q := fun q => by rw [fA1_1 (by decide)]; exact h34 q
    rw [ack_list hc hb j (k + 1) (fA1 r (nI b) t k ν) (by omega) h34']
    simp only [lst, sel, List.foldl_append]
    have e1 : b / 2 ^ k / 2 = b / 2 ^ (k + 1) := by rw [Nat.pow_succ, Nat.div_div_eq_div_mul]
    rw [e1]
    unfold fA1
    rw [h34]
    by_cases q : b / 2 ^ k % 2 = 1
    · rw [if_pos (hsh.mpr q), if_pos q]
      rfl
    · rw [if_neg (fun c => q (hsh.mp c)), if_neg q]
      rfl
theorem ackL_eq (h : TR μ r) {b : Nat} (hb : b < 2 ^ (tl (μ.1 34) (μ.1 35) r).length) : fAckL r (nI b) t μ = (sel b (tl (μ.1 34) (μ.1 35) r)).foldl (cAck t) (ul μ 23 r (-1)) := by
  obtain ⟨c, c4, ec, -⟩ := h
  have etl : tl (μ.1 34) (μ.1 35) r = lst (μ.1 34) (4 * r) c := by
    unfold tl
    rw [ec, nI_clampS (by omega)]
    exact lst_eq c (4 * r)
  have hlen : (tl (μ.1 34) (μ.1 35) r).length = c := by
    unfold tl
    rw [List.length_map, List.length_range, ec, nI_clampS (by omega)]
  rw [hlen] at hb
  have hb16 : b < 16 := Nat.lt_of_lt_of_le hb (by have : 2 ^ c ≤ 2 ^ 4 := Nat.pow_le_pow_right (by omega) c4; omega)
  unfold fAckL
  rw [etl, ec, nI_clampS (by omega)]
  have := ack_list (r := r) (t := t) (c := c) c4 hb16 (tr := μ.1 34) c 0 (ul μ 23 r (-1)) (by omega) (fun q => rfl)
  rw [this]
  simp
theorem ack_comm {g : Nat} {i : Nat} {x : Int32} (hg : g ≠ 0 ∧ g ≠ 6 ∧ g ≠ 14 ∧ g ≠ 15) : ∀ (D : List Int32) (ν : Mu), D.foldl (cAck t) (ui ν g i x) = ui (D.foldl (cAck t) ν) g i x
  | [], _ => rfl
  | p :: D, ν => by
    simp only [List.foldl_cons]
    have e : cAck t (ui ν g i x) p = ui (cAck t ν p) g i x := by
      unfold cAck
      rw [ui_comm (Or.inl hg.2.1), tell_comm ⟨hg.1, hg.2.2.1, hg.2.2.2⟩]
    rw [e, ack_comm hg D]
theorem sel_nil : ∀ (L : List Int32) (b : Nat), b < 2 ^ L.length → (sel b L = [] ↔ b = 0)
  | [], b, h => by
    have : b = 0 := by simpa using h
    simp [sel, this]
  | p :: L, b, h => by
    have h' : b < 2 * 2 ^ L.length := by rw [List.length_cons, Nat.pow_succ] at h; omega
    have ih := sel_nil L (b / 2) (by omega)
    simp only [sel]
    by_cases q : b % 2 = 1
    · rw [if_pos q]
      constructor
      · intro c; simp at c
      · intro c; omega
    · rw [if_neg q, List.nil_append, ih]
      omega
theorem sel_len : ∀ (L : List Int32) (b : Nat), (sel b L).length ≤ L.length
  | [], _ => by simp [sel]
  | p :: L, b => by
    have := sel_len L (b / 2)
    simp only [sel, List.length_append, List.length_cons]
    split <;> simp <;> omega
theorem fail_idem : fFail r t (ul μ 23 r (-1)) = fFail r t μ := by
  have e0 : ul (ul μ 23 r (-1)) 23 r (-1) = ul μ 23 r (-1) := by
    refine Prod.ext rfl (funext fun g => funext fun k => ?_)
    show (if g = 23 ∧ k = r then (-1 : Int64) else if g = 23 ∧ k = r then -1 else μ.2 g k) = (if g = 23 ∧ k = r then -1 else μ.2 g k)
    by_cases q : g = 23 ∧ k = r
    · rw [if_pos q, if_pos q]
    · rw [if_neg q, if_neg q]
  rw [fFail_eq, fFail_eq]
  congr 1
  unfold fFail0
  rw [e0]
  rfl
/-! what stepThree leaves alone -/
theorem fail_1 {g j : Nat} (hg : g ≠ 0 ∧ g ≠ 6 ∧ g ≠ 14 ∧ g ≠ 15 ∧ g ≠ 17 ∧ g ≠ 18 ∧ g ≠ 19) : (fFail s t μ).1 g j = μ.1 g j := by
  rw [fFail_eq]
  have h0 : (fFail0 s t μ).1 g j = μ.1 g j := by
    unfold fFail0
    split
    · simp [ui, ul, hg]
    · show (if g = 17 ∧ j = s then _ else if g = 18 ∧ j = s then _ else (fTell _ _ _ _).1 g j) = _
      rw [if_neg (fun q => hg.2.2.2.2.1 q.1), if_neg (fun q => hg.2.2.2.2.2.1 q.1), fTell_1 ⟨hg.1, hg.2.2.1, hg.2.2.2.1⟩]
      simp [ui, ul, hg]
  unfold fKeepDraw
  split
  · exact h0
  · unfold fDraw
    show (if g = 19 ∧ j = s then _ else if g = 0 ∧ j = 15 then _ else (fFail0 s t μ).1 g j) = _
    rw [if_neg (fun q => hg.2.2.2.2.2.2 q.1), if_neg (fun q => hg.1 q.1)]
    exact h0
theorem fail_2 {g j : Nat} (hg : g ≠ 16 ∧ g ≠ 23) : (fFail s t μ).2 g j = μ.2 g j := by
  rw [fFail_eq]
  have h0 : (fFail0 s t μ).2 g j = μ.2 g j := by
    unfold fFail0
    split
    · simp [ui, ul, hg]
    · show (fTell _ _ _ _).2 g j = _
      rw [fTell_2 hg.1]
      simp [ui, ul, hg]
  unfold fKeepDraw
  split
  · exact h0
  · exact h0
theorem take_1 (hn : okN n) (h : MI n E μ) (hs : s < n) (hr : r < n) {g j : Nat} (hg : g ≠ 0 ∧ g ≠ 7 ∧ g ≠ 9 ∧ g ≠ 14 ∧ g ≠ 15) : (fTake s r t μ).2.1 g j = μ.1 g j := by
  rw [take_eq hn h hs hr]
  unfold cTake
  refine it_inv1 (f := cRel s r t) (hi := pN μ + 1) (P := fun _ (ν : Mu) => ν.1 g j = μ.1 g j) (fun q ν _ _ h => ?_) (pN μ) 1 _ (Nat.le_refl 1) (by omega) ?_
  · unfold cRel
    split
    · split
      · show (if g = 9 ∧ j = 6 * s + r then _ else (fHand (nI q) t ν).1 g j) = _
        rw [if_neg (fun c => hg.2.2.1 c.1), fHand_1 ⟨hg.1, hg.2.1, hg.2.2.2⟩]
        exact h
      · rw [fHand_1 ⟨hg.1, hg.2.1, hg.2.2.2⟩]
        exact h
    · exact h
  · rw [holds_g hg.2.1]
    exact if_neg (fun c => hg.2.2.1 c.1)
theorem ack_1 {g j : Nat} {bits : Int32} (hg : g ≠ 0 ∧ g ≠ 6 ∧ g ≠ 14 ∧ g ≠ 15 ∧ g ≠ 17 ∧ g ≠ 18 ∧ g ≠ 19) : (fAck r bits t μ).1 g j = μ.1 g j := by
  have h1 : (fAckL r bits t μ).1 g j = μ.1 g j := it_inv (f := fA1 r bits t) (hi := (μ.1 35 r).toNatClampNeg) (P := fun _ (ν : Mu) => ν.1 g j = μ.1 g j) (fun _ _ _ q => (fA1_1 ⟨hg.1, hg.2.1, hg.2.2.1, hg.2.2.2.1⟩).trans q) (μ.1 35 r).toNatClampNeg 0 (ul μ 23 r (-1)) (by omega) rfl
  unfold fAck
  split
  · rw [fail_1 hg]; exact h1
  · have h2 : (ui (ui (fAckL r bits t μ) 18 r 0) 17 r 3).1 g j = μ.1 g j := by
      show (if g = 17 ∧ j = r then _ else if g = 18 ∧ j = r then _ else (fAckL r bits t μ).1 g j) = _
      rw [if_neg (fun q => hg.2.2.2.2.1 q.1), if_neg (fun q => hg.2.2.2.2.2.1 q.1)]
      exact h1
    unfold fKeepDraw
    split
    · exact h2
    · unfold fDraw
      show (if g = 19 ∧ j = r then _ else if g = 0 ∧ j = 15 then _ else (ui (ui (fAckL r bits t μ) 18 r 0) 17 r 3).1 g j) = _
      rw [if_neg (fun q => hg.2.2.2.2.2.2 q.1), if_neg (fun q => hg.1 q.1)]
      exact h2
theorem ack_2 {g j : Nat} {bits : Int32} (hg : g ≠ 16 ∧ g ≠ 23) : (fAck r bits t μ).2 g j = μ.2 g j := by
  have h1 : (fAckL r bits t μ).2 g j = μ.2 g j := it_inv (f := fA1 r bits t) (hi := (μ.1 35 r).toNatClampNeg) (P := fun _ (ν : Mu) => ν.2 g j = μ.2 g j) (fun _ _ _ q => (fA1_2 hg.1).trans q) (μ.1 35 r).toNatClampNeg 0 (ul μ 23 r (-1)) (by omega) (by
    show (if g = 23 ∧ j = r then _ else μ.2 g j) = _
    rw [if_neg (fun q => hg.2 q.1)])
  unfold fAck
  split
  · rw [fail_2 hg]; exact h1
  · unfold fKeepDraw
    split
    · exact h1
    · exact h1
theorem Q3.rf : Q3 μ μ := ⟨fun _ => rfl, fun _ => rfl, fun _ => rfl, fun _ => rfl⟩
theorem Q3.trans {ρ : Mu} (h : Q3 μ ν) (h2 : Q3 ν ρ) : Q3 μ ρ := ⟨fun j => (h2.1 j).trans (h.1 j), fun j => (h2.2.1 j).trans (h.2.1 j), fun j => (h2.2.2.1 j).trans (h.2.2.1 j), fun j => (h2.2.2.2 j).trans (h.2.2.2 j)⟩
theorem Q3.rec (hn : okN n) (h : MI n E μ) (hs : s < n) (hr : r < n) : Q3 μ (fRec s r t μ) := by
  have hT : Q3 μ (fTake s r t μ).2 := ⟨fun j => take_1 hn h hs hr (by decide), fun j => fTake_2 (by decide), fun j => fTake_2 (by decide), fun j => fTake_2 (by decide)⟩
  unfold fRec
  split
  · split
    · split
      · exact Q3.rf
      · exact Q3.rf
    · split
      · split
        · exact hT
        · exact hT
      · split
        · split
          · exact Q3.rf
          · exact ⟨fun j => ack_1 (by decide), fun j => ack_2 (by decide), fun j => ack_2 (by decide), fun j => ack_2 (by decide)⟩
        · exact Q3.rf
  · exact Q3.rf
theorem Q3.three2 (hn : okN n) (h : MI n E μ) (hs : s < n) (hr : r < n) : Q3 μ (fThree2 t s r μ) := by
  unfold fThree2
  split
  · exact Q3.trans (ν := ul μ 32 r t) Q3.rf (Q3.rec hn (h.got r t) hs hr)
  · exact Q3.rf
theorem Q3.fend : Q3 μ (fEnd t s μ) := by
  unfold fEnd
  split
  · exact Q3.rf
  · exact Q3.rf
end PW
