/-! the tie -/
def sel : Nat → List Int32 → List Int32
  | _, [] => []
  | b, p :: L => (if b % 2 = 1 then [p] else []) ++ sel (b / 2) L
/-- a row of a block -/
def RA (A : Bk) (o N : Nat) (L : List Int32) : Prop := L.length ≤ N ∧ A.1 o 1 = nI L.length ∧ ∀ k, k < L.length → A.1 (o + 1) k = L.getD k 0
/-- k slots have passed: good and bad between them -/
def Bits (k : Nat) (g b : Int64) : Prop := ∀ j, j < 64 → g.toBitVec.getLsbD j = (decide (j < k) && !b.toBitVec.getLsbD j) ∧ (b.toBitVec.getLsbD j = true → j < k)
def Own (n T i : Nat) (A : Bk) (V : Vw) : Prop := A.1 0 0 = nI i ∧ A.1 0 1 = nI (2 ^ i) ∧ A.1 0 2 = nI (mkM n V.2.2.2.2.2.2) ∧ A.1 0 3 = V.1 17 ∧ A.1 0 4 = V.1 18 ∧ A.1 0 5 = V.1 19 ∧ A.1 0 6 = V.1 20 ∧ A.1 0 7 = V.1 21 ∧ A.1 0 18 = V.1 31 ∧ A.2.1 0 8 = V.2.1 22 ∧ A.2.1 0 19 = V.2.1 32 ∧ ∃ a : Nat, V.2.1 22 = lN a ∧ a ≤ T + 64
def Wt (T d : Nat) (A : Bk) (V : Vw) : Prop := (V.2.1 23 = -1 ∧ A.1 0 9 = 0) ∨ ∃ a : Nat, V.2.1 23 = lN a ∧ T + d ≤ a ∧ a ≤ T + 4 ∧ A.1 0 9 = V.1 25 ∧ (V.1 25 = 2 ∨ V.1 25 = 4) ∧ A.1 0 10 = V.1 24 ∧ A.2.1 0 11 = V.2.1 23
def Bg (A : Bk) (V : Vw) : Prop := A.1 5 1 = V.2.2.1 0 ∧ A.1 5 2 = V.2.2.1 1 ∧ A.1 5 3 = V.2.2.1 2 ∧ A.1 5 4 = V.2.2.1 3
/-- a frame's row: of DATA what is tried, of ACKNOWLEDGE what is told of what the other tries -/
def FRow (i : Nat) (L : List Int32) (kind to tells : Int32) (tls : Nat → List Int32) : Prop := (kind = 3 → L = tls i) ∧ (kind = 4 → ∃ b : Nat, tells = nI b ∧ b < 2 ^ (tls to.toNatClampNeg).length ∧ L = sel b (tls to.toNatClampNeg))
def Du (n T d i o : Nat) (A : Bk) (V : Vw) : Prop := ∃ L, RA A (o + 1) 4 L ∧ ((V.2.1 26 = -1 ∧ A.1 o 0 = 0) ∨ ∃ a z r : Nat, V.2.1 26 = lN a ∧ T + d ≤ a ∧ a ≤ T + 2 ∧ A.2.1 0 12 = V.2.1 26 ∧ A.1 o 0 = V.1 27 ∧ (V.1 27 = 2 ∨ V.1 27 = 3 ∨ V.1 27 = 4) ∧ A.1 o 1 = V.1 28 ∧ V.1 28 = nI r ∧ r < n ∧ A.1 o 2 = V.1 29 ∧ V.1 29 = nI z ∧ z ≤ 33 ∧ (V.1 27 = 3 → 1 ≤ z) ∧ A.1 o 3 = 0 ∧ (∀ r, r < n → A.2.1 (o + 3) r = 0) ∧ FRow i L (V.1 27) (V.1 28) (V.1 30) V.2.2.2.2.1)
def Sd (n T m : Nat) (e : Bool) (i o : Nat) (A : Bk) (V : Vw) : Prop := ∃ L, RA A (o + 1) 4 L ∧ A.1 o 0 = (if e then 0 else V.1 37) ∧ (V.1 37 = 0 ∨ ∃ a b z r : Nat, (V.1 37 = 1 ∨ V.1 37 = 2 ∨ V.1 37 = 3 ∨ V.1 37 = 4) ∧ V.2.1 39 = lN a ∧ V.2.1 40 = lN b ∧ a ≤ T ∧ T ≤ b ∧ b < a + 33 ∧ A.1 o 1 = V.1 38 ∧ V.1 38 = nI r ∧ r < n ∧ A.1 o 2 = V.1 41 ∧ V.1 41 = nI z ∧ z ≤ 33 ∧ b + 1 = a + (if V.1 37 = 3 then z else 2) ∧ A.1 o 3 = nI (T - a + m) ∧ (∀ r, r < n → Bits (T - a + m) (A.2.1 (o + 3) r) (V.2.2.2.1 r)) ∧ FRow i L (V.1 37) (V.1 38) (V.1 42) V.2.2.2.2.1 ∧ (e = true → b = T))
def Lg (e : Bool) (V : Vw) : Prop := (V.1 37 = 0 ∨ V.2.1 26 = -1) ∧ (V.1 27 = 3 → V.2.1 26 = -1 ∨ V.2.1 23 = -1) ∧ (V.1 37 = 1 ∨ V.1 37 = 3 → e = false → V.2.1 23 = -1) ∧ (V.1 37 = 3 → V.1 41 = V.1 36) ∧ (V.1 27 = 3 → V.2.1 26 = -1 ∨ V.1 29 = V.1 36)
def Rel (n T d m : Nat) (e : Bool) (i : Nat) (A : Bk) (V : Vw) : Prop := Own n T i A V ∧ Wt T d A V ∧ Bg A V ∧ RA A 1 10 (V.2.2.2.2.2.1.map nI) ∧ RA A 3 4 (V.2.2.2.2.1 i) ∧ Lg e V ∧ ∃ dO sO : Nat, (dO = 6 ∧ sO = 10 ∨ dO = 10 ∧ sO = 6) ∧ A.2.2 0 13 = 22 + 14 * i + dO ∧ A.2.2 0 14 = 22 + 14 * i + sO ∧ Du n T d i dO A V ∧ Sd n T m e i sO A V
def Gl (T : Nat) (S : Int32) (G : (Nat → Nat → Int32) × (Nat → Nat → Int64)) (M : Mu) : Prop :=
  (G.1 1 6 = M.1 0 3 ∧ G.2 1 7 = M.2 0 2 ∧ M.2 0 2 = lN T ∧ G.1 1 8 = S ∧ G.1 2 1 = M.1 0 14 ∧ G.1 2 2 = M.1 0 15 ∧ G.1 4 4 = M.1 0 5 ∧ G.1 11 3 = M.1 0 17 ∧ G.1 15 3 = M.1 0 21) ∧
  (∀ k, G.1 3 k = M.1 10 k) ∧ (∀ p, G.1 5 p = M.1 2 p * 6 + M.1 3 p) ∧ (∀ p, G.1 6 p = M.1 4 p) ∧ (∀ p, G.1 7 p = M.1 5 p) ∧ (∀ p, G.1 8 p = M.1 7 p) ∧ (∀ p, G.1 9 p = M.1 8 p) ∧ (∀ p, G.1 10 p = M.1 9 p) ∧
  (∀ k, G.1 12 k = M.1 11 k) ∧ (∀ k, G.2 13 k = M.2 12 k) ∧ (∀ k, G.2 14 k = M.2 12 k + (M.1 13 k).toInt64) ∧ (∀ k, G.1 16 k = M.1 14 k) ∧ (∀ k, G.1 17 k = M.1 15 k) ∧ (∀ k, G.1 18 k = (M.2 16 k).toInt32) ∧
  ∃ L : List Int32, L.length ≤ 4 ∧ G.1 19 1 = nI L.length ∧ ∀ k, k < L.length → G.1 20 k = L.getD k 0
/-- whoever owes an acknowledgement owes it to one who waits for it -/
def Wf (V : Nat → Vw) (i r a : Nat) : Prop := (V r).2.1 23 = lN (a + 2) ∧ (V r).1 24 = nI i ∧ (V r).1 25 = 4
def Ad (n T cur : Nat) (V : Nat → Vw) : Prop := ∀ i, i < n → ∀ a r, (V i).2.1 26 = lN a → (V i).1 27 = 4 → a ≤ T + 2 → r < n → (V i).1 28 = nI r → Wf V i r a ∨ (r = cur ∧ a = T + 2 ∧ (V r).1 37 = 3 ∧ (V r).1 38 = nI i)
def As (n T lim : Nat) (V : Nat → Vw) : Prop := ∀ i, i < n → ∀ a r, (V i).1 37 = 4 → (V i).2.1 39 = lN a → a ≤ T → T ≤ a + lim → r < n → (V i).1 38 = nI r → Wf V i r a
def R (n T : Nat) (S : Int32) (d m : Nat → Nat) (e : Nat → Bool) (lim cur : Nat) (κ : Ku) (μ : Mu) : Prop := CoK n κ ∧ Gl T S (glo κ) (gmo μ) ∧ (∀ i, i < n → Rel n T (d i) (m i) (e i) i (blk κ i) (view μ i)) ∧ Ad n T cur (view μ) ∧ As n T lim (view μ)
section R1
variable {n T lim cur : Nat} {S : Int32} {d m : Nat → Nat} {e : Nat → Bool} {κ κ' : Ku} {μ μ' : Mu}
theorem R.co (h : R n T S d m e lim cur κ μ) : CoK n κ := h.1
theorem R.gl (h : R n T S d m e lim cur κ μ) : Gl T S (glo κ) (gmo μ) := h.2.1
theorem R.rel (h : R n T S d m e lim cur κ μ) : ∀ i, i < n → Rel n T (d i) (m i) (e i) i (blk κ i) (view μ i) := h.2.2.1
theorem R.ad (h : R n T S d m e lim cur κ μ) : Ad n T cur (view μ) := h.2.2.2.1
theorem R.as (h : R n T S d m e lim cur κ μ) : As n T lim (view μ) := h.2.2.2.2
/-- Rw of the class's rows and rows of the block -/
theorem RA.rw {i o N : Nat} {L : List Int32} (hn : okN n) (hi : i < n) (h : RA (blk κ i) o N L) (ho : o = 1 ∧ N = 10 ∨ (o = 3 ∨ o = 7 ∨ o = 11) ∧ N = 4) : Rw n κ (22 + 14 * i + o) N L := by
  obtain ⟨q1, q2, q3, q4, q5, q6, q7, q8, q9, -⟩ := at_stat hn (at_st hn hi)
  obtain ⟨f1, f2, -⟩ := at_frame hn q8
  obtain ⟨g1, g2, -⟩ := at_frame hn q9
  obtain ⟨h1, h2, h3⟩ := h
  have ho' : o + 1 < 14 := by omega
  have e1 : (blk κ i).1 o 1 = κ.1 (22 + 14 * i + o) 1 := if_pos (by omega)
  have e2 : ∀ k, (blk κ i).1 (o + 1) k = κ.1 (22 + 14 * i + o + 1) k := fun k => if_pos (by omega)
  rw [e1] at h2
  refine ⟨?_, ?_, h1, h2, fun k hk => by rw [← e2]; exact h3 k hk⟩
  · rcases ho with ⟨rfl, rfl⟩ | ⟨rfl | rfl | rfl, rfl⟩
    · exact q1
    · exact q3
    · exact f1
    · exact g1
  · rcases ho with ⟨rfl, rfl⟩ | ⟨rfl | rfl | rfl, rfl⟩
    · exact q2
    · exact q4
    · exact f2
    · exact g2
theorem RA.of {A : Bk} {o N s : Nat} {L : List Int32} (h : Rw n κ' (22 + 14 * s + o) N L) : RA (bow A o (κ'.1 (22 + 14 * s + o)) (κ'.1 (22 + 14 * s + o + 1))) o N L := by
  obtain ⟨-, -, h1, h2, h3⟩ := h
  refine ⟨h1, ?_, fun k hk => ?_⟩
  · show (if o = o then _ else _) = _
    rw [if_pos rfl]
    exact h2
  · show (if o + 1 = o then _ else if o + 1 = o + 1 then _ else _) = _
    rw [if_neg (by omega), if_pos rfl]
    exact h3 k hk
/-- one station has changed -/
theorem R.one {s : Nat} (hs : s < n) (h : R n T S d m e lim cur κ μ) {as : List Nat} (hC : CoK n κ') (hA : Ag as κ κ') (has : ∀ a ∈ as, 22 + 14 * s ≤ a ∧ a < 36 + 14 * s) (hg : gmo μ' = gmo μ) (hV : ∀ i, i < n → i ≠ s → view μ' i = view μ i) {d' m' : Nat → Nat} {e' : Nat → Bool} (hd : ∀ i, i ≠ s → d' i = d i) (hm : ∀ i, i ≠ s → m' i = m i) (he : ∀ i, i ≠ s → e' i = e i) (hr : Rel n T (d' s) (m' s) (e' s) s (blk κ' s) (view μ' s)) {lim' cur' : Nat} (had : Ad n T cur' (view μ')) (hasn : As n T lim' (view μ')) : R n T S d' m' e' lim' cur' κ' μ' := by
  refine ⟨hC, ?_, fun i hi => ?_, had, hasn⟩
  · rw [hA.toGlo (fun a ha => by have := has a ha; omega), hg]
    exact h.gl
  · by_cases q : i = s
    · subst q
      exact hr
    · rw [hA.toBlk (fun a ha => by have := has a ha; omega), hV i hi q, hd i q, hm i q, he i q]
      exact h.rel i hi
/-- of the acknowledgements only these parts of a station matter -/
theorem Ad.keep {V V' : Nat → Vw} (h : Ad n T cur V) (h1 : ∀ i, i < n → (V' i).2.1 26 = (V i).2.1 26 ∧ (V' i).2.1 23 = (V i).2.1 23 ∧ (V' i).1 24 = (V i).1 24 ∧ (V' i).1 25 = (V i).1 25 ∧ (V' i).1 27 = (V i).1 27 ∧ (V' i).1 28 = (V i).1 28 ∧ (V' i).1 37 = (V i).1 37 ∧ (V' i).1 38 = (V i).1 38) : Ad n T cur V' := by
  intro i hi a r q1 q2 q3 q4 q5
  obtain ⟨e1, -, -, -, e5, e6, -⟩ := h1 i hi
  obtain ⟨-, f2, f3, f4, -, -, f7, f8⟩ := h1 r q4
  rw [e1] at q1
  rw [e5] at q2
  rw [e6] at q5
  have := h i hi a r q1 q2 q3 q4 q5
  unfold Wf at this ⊢
  rw [f2, f3, f4, f7, f8]
  exact this
theorem As.keep {V V' : Nat → Vw} (h : As n T lim V) (h1 : ∀ i, i < n → (V' i).2.1 39 = (V i).2.1 39 ∧ (V' i).2.1 23 = (V i).2.1 23 ∧ (V' i).1 24 = (V i).1 24 ∧ (V' i).1 25 = (V i).1 25 ∧ (V' i).1 37 = (V i).1 37 ∧ (V' i).1 38 = (V i).1 38) : As n T lim V' := by
  intro i hi a r q1 q2 q3 q4 q5 q6
  obtain ⟨e1, -, -, -, e5, e6⟩ := h1 i hi
  obtain ⟨-, f2, f3, f4, -, -⟩ := h1 r q5
  rw [e5] at q1
  rw [e1] at q2
  rw [e6] at q6
  have := h i hi a r q1 q2 q3 q4 q5 q6
  unfold Wf at this ⊢
  rw [f2, f3, f4]
  exact this
end R1
