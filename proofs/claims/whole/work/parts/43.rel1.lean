/-! THE TIE OF CLASS AND REFERENCE: what each side shows of one station, and of what is not a station's -/
abbrev Bk : Type := (Nat → Nat → Int32) × (Nat → Nat → Int64) × (Nat → Nat → Nat)
def blk (κ : Ku) (i : Nat) : Bk := (fun o k => if o < 14 then κ.1 (22 + 14 * i + o) k else 0, fun o k => if o < 14 then κ.2.1 (22 + 14 * i + o) k else 0, fun o k => if o < 14 then κ.2.2 (22 + 14 * i + o) k else 0)
def bki (A : Bk) (o k : Nat) (x : Int32) : Bk := (fun o' k' => if o' = o ∧ k' = k then x else A.1 o' k', A.2)
def bkl (A : Bk) (o k : Nat) (x : Int64) : Bk := (A.1, fun o' k' => if o' = o ∧ k' = k then x else A.2.1 o' k', A.2.2)
def bkr (A : Bk) (o k : Nat) (x : Nat) : Bk := (A.1, A.2.1, fun o' k' => if o' = o ∧ k' = k then x else A.2.2 o' k')
def bfl (A : Bk) (o N : Nat) (x : Int64) : Bk := (A.1, fun o' k' => if o' = o ∧ k' < N then x else A.2.1 o' k', A.2.2)
/-- a row's two cells are new -/
def bow (A : Bk) (o : Nat) (g h : Nat → Int32) : Bk := (fun o' k => if o' = o then g k else if o' = o + 1 then h k else A.1 o' k, A.2)
section BLK
variable {κ κ' : Ku} {i s o k : Nat}
theorem blk_ki {x : Int32} (ho : o < 14) : blk (ki κ (22 + 14 * s + o) k x) s = bki (blk κ s) o k x := by
  refine Prod.ext (funext fun o' => funext fun k' => ?_) rfl
  simp only [blk, bki, ki]
  by_cases h1 : o' < 14
  · rw [if_pos h1, if_pos h1]
    by_cases h2 : o' = o ∧ k' = k
    · rw [if_pos h2, if_pos ⟨by omega, h2.2⟩]
    · rw [if_neg h2, if_neg (fun q => h2 ⟨by omega, q.2⟩)]
  · rw [if_neg h1, if_neg h1, if_neg (fun q => h1 (by omega))]
theorem blk_kl {x : Int64} (ho : o < 14) : blk (kl κ (22 + 14 * s + o) k x) s = bkl (blk κ s) o k x := by
  refine Prod.ext rfl (Prod.ext (funext fun o' => funext fun k' => ?_) rfl)
  simp only [blk, bkl, kl]
  by_cases h1 : o' < 14
  · rw [if_pos h1, if_pos h1]
    by_cases h2 : o' = o ∧ k' = k
    · rw [if_pos h2, if_pos ⟨by omega, h2.2⟩]
    · rw [if_neg h2, if_neg (fun q => h2 ⟨by omega, q.2⟩)]
  · rw [if_neg h1, if_neg h1, if_neg (fun q => h1 (by omega))]
theorem blk_kr {x : Nat} (ho : o < 14) : blk (kr κ (22 + 14 * s + o) k x) s = bkr (blk κ s) o k x := by
  refine Prod.ext rfl (Prod.ext rfl (funext fun o' => funext fun k' => ?_))
  simp only [blk, bkr, kr]
  by_cases h1 : o' < 14
  · rw [if_pos h1, if_pos h1]
    by_cases h2 : o' = o ∧ k' = k
    · rw [if_pos h2, if_pos ⟨by omega, h2.2⟩]
    · rw [if_neg h2, if_neg (fun q => h2 ⟨by omega, q.2⟩)]
  · rw [if_neg h1, if_neg h1, if_neg (fun q => h1 (by omega))]
theorem blk_fill {x : Int64} {N : Nat} (ho : o < 14) : blk (kfill κ (22 + 14 * s + o) N x) s = bfl (blk κ s) o N x := by
  refine Prod.ext rfl (Prod.ext (funext fun o' => funext fun k' => ?_) rfl)
  simp only [blk, bfl, kfill]
  by_cases h1 : o' < 14
  · rw [if_pos h1, if_pos h1]
    by_cases h2 : o' = o ∧ k' < N
    · rw [if_pos h2, if_pos ⟨by omega, h2.2⟩]
    · rw [if_neg h2, if_neg (fun q => h2 ⟨by omega, q.2⟩)]
  · rw [if_neg h1, if_neg h1, if_neg (fun q => h1 (by omega))]
/-- only these cells have changed -/
def Ag (as : List Nat) (κ κ' : Ku) : Prop := ∀ a, a ∉ as → κ'.1 a = κ.1 a ∧ κ'.2.1 a = κ.2.1 a ∧ κ'.2.2 a = κ.2.2 a
theorem Ag.toBlk {as : List Nat} (h : Ag as κ κ') (hi : ∀ a ∈ as, a < 22 + 14 * i ∨ 36 + 14 * i ≤ a) : blk κ' i = blk κ i := by
  have hb : ∀ o, o < 14 → κ'.1 (22 + 14 * i + o) = κ.1 (22 + 14 * i + o) ∧ κ'.2.1 (22 + 14 * i + o) = κ.2.1 (22 + 14 * i + o) ∧ κ'.2.2 (22 + 14 * i + o) = κ.2.2 (22 + 14 * i + o) := fun o ho => h _ (fun q => by have := hi _ q; omega)
  refine Prod.ext (funext fun o' => funext fun k' => ?_) (Prod.ext (funext fun o' => funext fun k' => ?_) (funext fun o' => funext fun k' => ?_))
  · simp only [blk]
    by_cases h1 : o' < 14
    · rw [if_pos h1, if_pos h1, (hb o' h1).1]
    · rw [if_neg h1, if_neg h1]
  · simp only [blk]
    by_cases h1 : o' < 14
    · rw [if_pos h1, if_pos h1, (hb o' h1).2.1]
    · rw [if_neg h1, if_neg h1]
  · simp only [blk]
    by_cases h1 : o' < 14
    · rw [if_pos h1, if_pos h1, (hb o' h1).2.2]
    · rw [if_neg h1, if_neg h1]
theorem Ag.ii {a : Nat} {x : Int32} : Ag [a] κ (ki κ a k x) := fun b hb => ⟨funext fun j => if_neg (fun q => hb (by simp [q.1])), rfl, rfl⟩
theorem Ag.ll {a : Nat} {x : Int64} : Ag [a] κ (kl κ a k x) := fun b hb => ⟨rfl, funext fun j => if_neg (fun q => hb (by simp [q.1])), rfl⟩
theorem Ag.rr {a x : Nat} : Ag [a] κ (kr κ a k x) := fun b hb => ⟨rfl, rfl, funext fun j => if_neg (fun q => hb (by simp [q.1]))⟩
theorem Ag.fill {a N : Nat} {x : Int64} : Ag [a] κ (kfill κ a N x) := fun b hb => ⟨rfl, funext fun j => if_neg (fun q => hb (by simp [q.1])), rfl⟩
theorem OI.ag {as : List Nat} (h : OI as κ κ') : Ag as κ κ' := fun a ha => ⟨h.2 a ha, by rw [h.1], by rw [h.1]⟩
theorem Ag.trans {as : List Nat} {κ'' : Ku} (h : Ag as κ κ') (h2 : Ag as κ' κ'') : Ag as κ κ'' := fun a ha => ⟨(h2 a ha).1.trans (h a ha).1, (h2 a ha).2.1.trans (h a ha).2.1, (h2 a ha).2.2.trans (h a ha).2.2⟩
theorem Ag.wide {as bs : List Nat} (h : Ag as κ κ') (hs : ∀ a ∈ as, a ∈ bs) : Ag bs κ κ' := fun a ha => h a (fun q => ha (hs a q))
theorem blk_ow (h : OI [22 + 14 * s + o, 22 + 14 * s + o + 1] κ κ') (ho : o + 1 < 14) : blk κ' s = bow (blk κ s) o (κ'.1 (22 + 14 * s + o)) (κ'.1 (22 + 14 * s + o + 1)) := by
  refine Prod.ext (funext fun o' => funext fun k' => ?_) ?_
  · simp only [blk, bow]
    by_cases h1 : o' < 14
    · rw [if_pos h1, if_pos h1]
      by_cases h2 : o' = o
      · rw [if_pos h2, h2]
      · rw [if_neg h2]
        by_cases h3 : o' = o + 1
        · rw [if_pos h3, h3, Nat.add_assoc _ o 1]
        · rw [if_neg h3, h.2 _ (by simp; omega)]
    · rw [if_neg h1, if_neg h1, if_neg (by omega), if_neg (by omega)]
  · show (blk κ' s).2 = (blk κ s).2
    simp only [blk]
    rw [h.1]
end BLK
/-- what is not a station's -/
def glo (κ : Ku) : (Nat → Nat → Int32) × (Nat → Nat → Int64) := (fun a k => if a < 22 then κ.1 a k else 0, fun a k => if a < 22 then κ.2.1 a k else 0)
theorem Ag.toGlo {κ κ' : Ku} {as : List Nat} (h : Ag as κ κ') (hi : ∀ a ∈ as, 22 ≤ a) : glo κ' = glo κ := by
  have hb : ∀ a, a < 22 → κ'.1 a = κ.1 a ∧ κ'.2.1 a = κ.2.1 a := fun a ha => ⟨(h a (fun q => by have := hi _ q; omega)).1, (h a (fun q => by have := hi _ q; omega)).2.1⟩
  refine Prod.ext (funext fun a => funext fun k => ?_) (funext fun a => funext fun k => ?_)
  · simp only [glo]
    by_cases h1 : a < 22
    · rw [if_pos h1, if_pos h1, (hb a h1).1]
    · rw [if_neg h1, if_neg h1]
  · simp only [glo]
    by_cases h1 : a < 22
    · rw [if_pos h1, if_pos h1, (hb a h1).2]
    · rw [if_neg h1, if_neg h1]
def gmo (μ : Mu) : Mu := (fun g k => if g < 17 ∧ g ≠ 1 ∧ g ≠ 6 ∧ ¬ (g = 0 ∧ k = 0) then μ.1 g k else 0, fun g k => if g < 17 then μ.2 g k else 0)
theorem gmo_ui {μ : Mu} {g k : Nat} {x : Int32} (hg : 17 ≤ g ∨ g = 1 ∨ g = 6 ∨ (g = 0 ∧ k = 0)) : gmo (ui μ g k x) = gmo μ := by
  refine Prod.ext (funext fun g' => funext fun k' => ?_) rfl
  simp only [gmo, ui]
  by_cases h1 : g' < 17 ∧ g' ≠ 1 ∧ g' ≠ 6 ∧ ¬ (g' = 0 ∧ k' = 0)
  · rw [if_pos h1, if_pos h1, if_neg (by omega)]
  · rw [if_neg h1, if_neg h1]
theorem gmo_ul {μ : Mu} {g k : Nat} {x : Int64} (hg : 17 ≤ g) : gmo (ul μ g k x) = gmo μ := by
  refine Prod.ext rfl (funext fun g' => funext fun k' => ?_)
  simp only [gmo, ul]
  by_cases h1 : g' < 17
  · rw [if_pos h1, if_pos h1, if_neg (by omega)]
  · rw [if_neg h1, if_neg h1]
/-- one station, as the reference shows it -/
abbrev Vw : Type := (Nat → Int32) × (Nat → Int64) × (Nat → Int32) × (Nat → Int64) × (Nat → List Int32) × List Nat × (Nat → Bool)
def okg (g : Nat) : Bool := decide (17 ≤ g) && (decide (g ≤ 42) && (!decide (g = 33) && (!decide (g = 34) && !decide (g = 35))))
def okl (g : Nat) : Bool := decide (17 ≤ g) && decide (g ≤ 42)
def view (μ : Mu) (i : Nat) : Vw := (fun g => if okg g then μ.1 g i else 0, fun g => if okl g then μ.2 g i else 0, fun k => if k < 4 then μ.1 33 (4 * i + k) else 0, fun r => if r < 6 then μ.2 43 (6 * i + r) else 0, tl (μ.1 34) (μ.1 35), kL (μ.1 2) (μ.1 6) i (pN μ), fHears μ i)
def vui (V : Vw) (g : Nat) (x : Int32) : Vw := (fun g' => if g' = g then x else V.1 g', V.2)
def vul (V : Vw) (g : Nat) (x : Int64) : Vw := (V.1, fun g' => if g' = g then x else V.2.1 g', V.2.2)
section VIEW
variable {μ : Mu} {i s g : Nat}
theorem view_ui {x : Int32} (hg : okg g = true) : view (ui μ g s x) s = vui (view μ s) g x := by
  simp only [okg, Bool.and_eq_true, Bool.not_eq_true', decide_eq_true_eq, decide_eq_false_iff_not] at hg
  have e33 : (ui μ g s x).1 33 = μ.1 33 := funext fun k => if_neg (by omega)
  have e34 : (ui μ g s x).1 34 = μ.1 34 := funext fun k => if_neg (by omega)
  have e35 : (ui μ g s x).1 35 = μ.1 35 := funext fun k => if_neg (by omega)
  have e2 : (ui μ g s x).1 2 = μ.1 2 := funext fun k => if_neg (by omega)
  have e6 : (ui μ g s x).1 6 = μ.1 6 := funext fun k => if_neg (by omega)
  have e1 : (ui μ g s x).1 1 = μ.1 1 := funext fun k => if_neg (by omega)
  have eP : pN (ui μ g s x) = pN μ := by unfold pN; rw [show (ui μ g s x).1 0 5 = μ.1 0 5 from if_neg (by omega)]
  have eH : fHears (ui μ g s x) s = fHears μ s := by funext q; unfold fHears; rw [e1]
  unfold view vui
  rw [e33, e34, e35, e2, e6, eP, eH]
  refine Prod.ext (funext fun g' => ?_) rfl
  by_cases h1 : g' = g
  · subst h1
    have : okg g' = true := by simp [okg]; omega
    simp [this, ui]
  · simp [h1, ui]
theorem view_ui_ne {x : Int32} (hg : okg g = true) (hi : i ≠ s) : view (ui μ g s x) i = view μ i := by
  simp only [okg, Bool.and_eq_true, Bool.not_eq_true', decide_eq_true_eq, decide_eq_false_iff_not] at hg
  have e33 : (ui μ g s x).1 33 = μ.1 33 := funext fun k => if_neg (by omega)
  have e34 : (ui μ g s x).1 34 = μ.1 34 := funext fun k => if_neg (by omega)
  have e35 : (ui μ g s x).1 35 = μ.1 35 := funext fun k => if_neg (by omega)
  have e2 : (ui μ g s x).1 2 = μ.1 2 := funext fun k => if_neg (by omega)
  have e6 : (ui μ g s x).1 6 = μ.1 6 := funext fun k => if_neg (by omega)
  have e1 : (ui μ g s x).1 1 = μ.1 1 := funext fun k => if_neg (by omega)
  have eP : pN (ui μ g s x) = pN μ := by unfold pN; rw [show (ui μ g s x).1 0 5 = μ.1 0 5 from if_neg (by omega)]
  have eH : fHears (ui μ g s x) i = fHears μ i := by funext q; unfold fHears; rw [e1]
  have eI : ∀ g', (ui μ g s x).1 g' i = μ.1 g' i := fun g' => if_neg (fun q => hi q.2)
  unfold view
  rw [e33, e34, e35, e2, e6, eP, eH]
  refine Prod.ext (funext fun g' => ?_) rfl
  simp only [eI]
theorem view_ul {x : Int64} (hg : okl g = true) : view (ul μ g s x) s = vul (view μ s) g x := by
  simp only [okl, Bool.and_eq_true, decide_eq_true_eq] at hg
  have e43 : (ul μ g s x).2 43 = μ.2 43 := funext fun k => if_neg (by omega)
  unfold view vul
  rw [e43]
  refine Prod.ext rfl (Prod.ext (funext fun g' => ?_) rfl)
  by_cases h1 : g' = g
  · subst h1
    have : okl g' = true := by simp [okl]; omega
    simp [this, ul]
  · simp [h1, ul]
theorem view_ul_ne {x : Int64} (hg : okl g = true) (hi : i ≠ s) : view (ul μ g s x) i = view μ i := by
  simp only [okl, Bool.and_eq_true, decide_eq_true_eq] at hg
  have e43 : (ul μ g s x).2 43 = μ.2 43 := funext fun k => if_neg (by omega)
  have eI : ∀ g', (ul μ g s x).2 g' i = μ.2 g' i := fun g' => if_neg (fun q => hi q.2)
  unfold view
  rw [e43]
  refine Prod.ext rfl (Prod.ext (funext fun g' => ?_) rfl)
  simp only [eI]
/-- what no station shows -/
theorem view_lo {k : Nat} {x : Int32} (hg : g < 17) (h1 : g ≠ 1) (h2 : g ≠ 2) (h6 : g ≠ 6) (h0 : ¬ (g = 0 ∧ k = 5)) : view (ui μ g k x) i = view μ i := by
  have eq : ∀ g', g' ≠ g → (ui μ g k x).1 g' = μ.1 g' := fun g' q => funext fun k => if_neg (fun r => q r.1)
  have eP : pN (ui μ g k x) = pN μ := by
    unfold pN
    rw [show (ui μ g k x).1 0 5 = μ.1 0 5 from if_neg (fun q => h0 ⟨q.1.symm, q.2.symm⟩)]
  have eH : fHears (ui μ g k x) i = fHears μ i := by funext q; unfold fHears; rw [eq 1 (by omega)]
  unfold view
  rw [eq 33 (by omega), eq 34 (by omega), eq 35 (by omega), eq 2 (by omega), eq 6 (by omega), eP, eH]
  refine Prod.ext (funext fun g' => ?_) rfl
  by_cases hk : okg g' = true
  · have : 17 ≤ g' := by
      simp only [okg, Bool.and_eq_true, decide_eq_true_eq] at hk
      exact hk.1
    show (if okg g' = true then (ui μ g k x).1 g' i else 0) = (if okg g' = true then μ.1 g' i else 0)
    rw [eq g' (by omega)]
  · have hk' : okg g' = false := by simpa using hk
    simp [hk']
theorem view_lol {k : Nat} {x : Int64} (hg : g < 17) : view (ul μ g k x) i = view μ i := by
  have eq : ∀ g', g' ≠ g → (ul μ g k x).2 g' = μ.2 g' := fun g' q => funext fun k => if_neg (fun r => q r.1)
  unfold view
  rw [eq 43 (by omega)]
  refine Prod.ext rfl (Prod.ext (funext fun g' => ?_) rfl)
  by_cases hk : okl g' = true
  · have : 17 ≤ g' := by
      simp only [okl, Bool.and_eq_true, decide_eq_true_eq] at hk
      exact hk.1
    show (if okl g' = true then (ul μ g k x).2 g' i else 0) = (if okl g' = true then μ.2 g' i else 0)
    rw [eq g' (by omega)]
  · have hk' : okl g' = false := by simpa using hk
    simp [hk']
end VIEW
/-! masks -/
def mkM : Nat → (Nat → Bool) → Nat
  | 0, _ => 0
  | n + 1, f => mkM n f ||| (if f n then 2 ^ n else 0)
theorem mkM_lt {f : Nat → Bool} : ∀ {n : Nat}, mkM n f < 2 ^ n
  | 0 => by simp [mkM]
  | n + 1 => by
    have := mkM_lt (f := f) (n := n)
    simp only [mkM]
    refine Nat.or_lt_two_pow ?_ ?_
    · rw [Nat.pow_succ]; omega
    · split
      · exact Nat.pow_lt_pow_right (by omega) (by omega)
      · exact Nat.pos_of_ne_zero (by simp)
theorem mkM_bit {f : Nat → Bool} : ∀ {n i : Nat}, (mkM n f).testBit i = (decide (i < n) && f i)
  | 0, i => by simp [mkM]
  | n + 1, i => by
    simp only [mkM]
    rw [Nat.testBit_or, mkM_bit]
    by_cases e : i = n
    · subst e
      cases hf : f i
      · simp
      · simp [Nat.testBit_two_pow_self]
    · have h3 : (if f n = true then 2 ^ n else 0).testBit i = false := by
        split
        · exact Nat.testBit_two_pow_of_ne (fun q => e q.symm)
        · simp
      rw [h3, Bool.or_false]
      by_cases h2 : i < n
      · simp [h2, show i < n + 1 by omega]
      · simp [h2, show ¬ i < n + 1 by omega]
