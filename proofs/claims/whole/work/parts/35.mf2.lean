/-! THE REFERENCE: what holds of its state at all times -/
theorem r_M.mono {l : Launch} {w : r_V} {B : Nat} {t : r_T} {as : List Value} {σ : r_S} {Q Q' : Option Value → r_S → Prop} (h : r_M l w B t as σ Q) (hq : ∀ o σ', Q o σ' → Q' o σ') : r_M l w B t as σ Q' := by
  intro p e ad fc fk s m args below hf hs hP hK
  obtain ⟨n, o, h1, h2, h3, ⟨⟨⟨r, σ', e1, e2, e3⟩, e4⟩, e5⟩⟩ := h p e ad fc fk s m args below hf hs hP hK
  exact ⟨n, o, h1, h2, h3, ⟨⟨r, σ', e1, hq _ _ e2, e3⟩, e4⟩, e5⟩
theorem r_KV.full {l : Launch} {w : r_V} {B n : Nat} {t : r_T} {as : List Value} {κ : Ku} {Q : Ku → Prop} (h : r_KV l w B n t as κ Q) : r_KV l w B n t as κ (fun κ' => Gr n κ κ' ∧ CoK n κ' ∧ Q κ') :=
  r_M.mono h (fun _ _ q => ⟨q.1, q.2.1, q.2.2.1, q.2.2.2.1, q.2.2⟩)
theorem r_KI.full {l : Launch} {w : r_V} {B n : Nat} {t : r_T} {as : List Value} {κ : Ku} {Q : Int32 → Ku → Prop} (h : r_KI l w B n t as κ Q) : r_KI l w B n t as κ (fun z κ' => Gr n κ κ' ∧ CoK n κ' ∧ Q z κ') :=
  r_M.mono h (fun _ _ q => ⟨q.1, by obtain ⟨z, e, q2⟩ := q.2; exact ⟨z, e, q2.1, q2.2.1, q2⟩⟩)
/-- the payloads 1 .. i that station s keeps -/
def kL (f k : Nat → Int32) (s : Nat) : Nat → List Nat
  | 0 => []
  | i + 1 => kL f k s i ++ (if f (i + 1) = nI s ∧ ¬ k (i + 1) = 0 then [i + 1] else [])
/-- what station i tries -/
def tl (tr cn : Nat → Int32) (i : Nat) : List Int32 := (List.range (cn i).toNatClampNeg).map (fun k => tr (4 * i + k))
def sz (sl : Nat → Int32) (L : List Int32) : Int32 := L.foldl (fun a p => a + sl p.toNatClampNeg) 1
def hc (h : Nat → Int32) : Nat → Nat
  | 0 => 0
  | k + 1 => hc h k + (if h k = 0 then 0 else 1)
def PL (n : Nat) (μ : Mu) (p : Nat) : Prop := ∃ a b c k : Nat, μ.1 2 p = nI a ∧ μ.1 3 p = nI b ∧ μ.1 4 p = nI c ∧ μ.1 5 p = nI k ∧ a < n ∧ b < n ∧ 1 ≤ c ∧ c ≤ 8 ∧ k < 300
def NU (n : Nat) (μ : Mu) : Prop := (∀ p q, 1 ≤ p → p < q → q ≤ pN μ → μ.1 2 p = μ.1 2 q → μ.1 3 p = μ.1 3 q → μ.1 5 p < μ.1 5 q) ∧ (∀ p a b, 1 ≤ p → p ≤ pN μ → μ.1 2 p = nI a → μ.1 3 p = nI b → a < n → b < n → μ.1 5 p < μ.1 8 (6 * a + b)) ∧ ∀ a b, a < n → b < n → ∃ k : Nat, μ.1 8 (6 * a + b) = nI k ∧ k ≤ pN μ
def TR (μ : Mu) (i : Nat) : Prop := ∃ c : Nat, c ≤ 4 ∧ μ.1 35 i = nI c ∧ (∀ k, k < c → ∃ p : Nat, μ.1 34 (4 * i + k) = nI p ∧ 1 ≤ p ∧ p ≤ pN μ ∧ μ.1 2 p = nI i ∧ μ.1 3 p = μ.1 3 (μ.1 34 (4 * i)).toNatClampNeg) ∧ (c = 0 → μ.1 34 (4 * i) = 0) ∧ (μ.1 36 i = 0 ∨ μ.1 36 i = sz (μ.1 4) (tl (μ.1 34) (μ.1 35) i))
def DK (μ : Mu) (i : Nat) : Prop := μ.2 26 i < 0 ∨ μ.1 27 i = 2 ∨ μ.1 27 i = 3 ∨ μ.1 27 i = 4
def HB (n : Nat) (μ : Mu) : Prop := (∀ p, μ.1 7 p = 0 ∨ (μ.1 7 p = 1 ∧ 1 ≤ p ∧ p ≤ pN μ)) ∧ ∀ p a b, 1 ≤ p → p ≤ pN μ → ¬ μ.1 7 p = 0 → μ.1 2 p = nI a → μ.1 3 p = nI b → a < n → b < n → μ.1 9 (6 * a + b) ≤ μ.1 5 p
/-- whom a station's first tried payload is for -/
def qTo (μ : Mu) (i : Nat) : Int32 := μ.1 3 (μ.1 34 (4 * i)).toNatClampNeg
def WH (μ : Mu) (i : Nat) : Prop := (μ.1 37 i = 1 ∨ μ.1 37 i = 3 → μ.1 38 i = qTo μ i ∧ ¬ μ.1 36 i = 0) ∧ (0 ≤ μ.2 23 i → μ.1 24 i = qTo μ i ∧ ¬ μ.1 36 i = 0) ∧ (0 ≤ μ.2 26 i → μ.1 27 i = 3 → μ.1 28 i = qTo μ i ∧ ¬ μ.1 36 i = 0)
def MI (n E : Nat) (μ : Mu) : Prop :=
  μ.1 0 1 = nI n ∧ (μ.1 0 5 = nI (pN μ) ∧ pN μ ≤ 300) ∧ (∃ a b : Nat, μ.1 0 14 = nI a ∧ μ.1 0 15 = nI b ∧ b ≤ a ∧ a ≤ 400) ∧ (μ.1 0 17 = nI (nN μ) ∧ nN μ ≤ 40) ∧ (∃ e : Nat, μ.1 0 21 = nI e ∧ e + hc (μ.1 7) 301 ≤ E) ∧ (∀ i, i < n → ∃ x : Nat, μ.1 17 i = nI x ∧ x ≤ 63) ∧ (∀ p, 1 ≤ p → p ≤ pN μ → PL n μ p) ∧ NU n μ ∧ (∀ i, i < n → TR μ i) ∧ (∀ i, i < n → DK μ i) ∧ HB n μ ∧ ∀ i, i < n → WH μ i
section MIP
variable {n E : Nat} {μ : Mu}
theorem MI.n1 (h : MI n E μ) : μ.1 0 1 = nI n := h.1
theorem MI.pay (h : MI n E μ) : μ.1 0 5 = nI (pN μ) ∧ pN μ ≤ 300 := h.2.1
theorem MI.coin (h : MI n E μ) : ∃ a b : Nat, μ.1 0 14 = nI a ∧ μ.1 0 15 = nI b ∧ b ≤ a ∧ a ≤ 400 := h.2.2.1
theorem MI.noi (h : MI n E μ) : μ.1 0 17 = nI (nN μ) ∧ nN μ ≤ 40 := h.2.2.2.1
theorem MI.ev (h : MI n E μ) : ∃ e : Nat, μ.1 0 21 = nI e ∧ e + hc (μ.1 7) 301 ≤ E := h.2.2.2.2.1
theorem MI.wid (h : MI n E μ) : ∀ i, i < n → ∃ x : Nat, μ.1 17 i = nI x ∧ x ≤ 63 := h.2.2.2.2.2.1
theorem MI.pl (h : MI n E μ) : ∀ p, 1 ≤ p → p ≤ pN μ → PL n μ p := h.2.2.2.2.2.2.1
theorem MI.nu (h : MI n E μ) : NU n μ := h.2.2.2.2.2.2.2.1
theorem MI.tr (h : MI n E μ) : ∀ i, i < n → TR μ i := h.2.2.2.2.2.2.2.2.1
theorem MI.dk (h : MI n E μ) : ∀ i, i < n → DK μ i := h.2.2.2.2.2.2.2.2.2.1
theorem MI.hb (h : MI n E μ) : HB n μ := h.2.2.2.2.2.2.2.2.2.2.1
theorem MI.wh (h : MI n E μ) : ∀ i, i < n → WH μ i := h.2.2.2.2.2.2.2.2.2.2.2
theorem MI.up {E' : Nat} (h : MI n E μ) (hE : E ≤ E') : MI n E' μ := by
  obtain ⟨e, e1, e2⟩ := h.ev
  exact ⟨h.n1, h.pay, h.coin, h.noi, ⟨e, e1, by omega⟩, h.wid, h.pl, h.nu, h.tr, h.dk, h.hb, h.wh⟩
theorem MI.evIn (h : MI n E μ) (hE : E < 2 ^ 30) : ¬ 700 ≤ μ.1 0 21 → vp_in (μ.1 0 21) 700 := by
  obtain ⟨e, e1, e2⟩ := h.ev
  rw [e1]
  intro c
  have : e < 700 := Nat.not_le.mp (fun q => c (nI_le (a := 700) q (by omega)))
  exact vp_in_nI this (by decide)
theorem MI.drIn (h : MI n E μ) : ¬ μ.1 0 14 ≤ μ.1 0 15 → vp_in (μ.1 0 15) 400 := by
  obtain ⟨a, b, e1, e2, e3, e4⟩ := h.coin
  rw [e1, e2]
  intro c
  have : b < a := Nat.not_le.mp (fun q => c (nI_le q (by omega)))
  exact vp_in_nI (by omega) (by decide)
theorem MI.wi1 (h : MI n E μ) {s : Nat} (hs : s < n) : ¬ μ.1 17 s + 1 = 0 := by
  obtain ⟨x, e1, e2⟩ := h.wid s hs
  rw [e1, nI_1]
  exact nI_ne0 (by omega) (by omega)
theorem MI.tr0 (h : MI n E μ) {s : Nat} (hs : s < n) : ∃ p : Nat, μ.1 34 (4 * s) = nI p ∧ p ≤ 300 ∧ p ≤ pN μ := by
  obtain ⟨c, h4, e1, e2, e3, e4⟩ := h.tr s hs
  have := h.pay.2
  by_cases h0 : c = 0
  · exact ⟨0, by rw [e3 h0, nI_0], by omega, by omega⟩
  · obtain ⟨p, q1, q2, q3, q4⟩ := e2 0 (by omega)
    exact ⟨p, q1, by omega, q3⟩
theorem MI.draw (h : MI n E μ) (s : Nat) : MI n E (fDraw s μ) := by
  refine ⟨h.n1, h.pay, ?_, h.noi, h.ev, h.wid, h.pl, h.nu, h.tr, h.dk, h.hb, h.wh⟩
  obtain ⟨a, b, e1, e2, e3, e4⟩ := h.coin
  by_cases c : μ.1 0 14 ≤ μ.1 0 15
  · refine ⟨a, b, e1, ?_, e3, e4⟩
    show (if μ.1 0 14 ≤ μ.1 0 15 then μ.1 0 15 else μ.1 0 15 + 1) = nI b
    rw [if_pos c, e2]
  · refine ⟨a, b + 1, e1, ?_, ?_, e4⟩
    · show (if μ.1 0 14 ≤ μ.1 0 15 then μ.1 0 15 else μ.1 0 15 + 1) = nI (b + 1)
      rw [if_neg c, e2, nI_1]
    · rw [e1, e2] at c
      exact Nat.not_le.mp (fun q => c (nI_le q (by omega)))
theorem MI.keepDraw (h : MI n E μ) (s : Nat) : MI n E (fKeepDraw s μ) := by
  unfold fKeepDraw
  split
  · exact h
  · exact h.draw s
theorem MI.tell (h : MI n E μ) (p k : Int32) (t : Int64) : MI n (E + 1) (fTell p k t μ) := by
  obtain ⟨e, e1, e2⟩ := h.ev
  unfold fTell
  by_cases c : 700 ≤ μ.1 0 21
  · rw [if_pos c]
    exact ⟨h.n1, h.pay, h.coin, h.noi, ⟨e + 1, by show μ.1 0 21 + 1 = _; rw [e1, nI_1], by show e + 1 + hc (μ.1 7) 301 ≤ _; omega⟩, h.wid, h.pl, h.nu, h.tr, h.dk, h.hb, h.wh⟩
  · rw [if_neg c]
    exact ⟨h.n1, h.pay, h.coin, h.noi, ⟨e + 1, by show μ.1 0 21 + 1 = _; rw [e1, nI_1], by show e + 1 + hc (μ.1 7) 301 ≤ _; omega⟩, h.wid, h.pl, h.nu, h.tr, h.dk, h.hb, h.wh⟩
theorem MI.width (h : MI n E μ) {s x : Nat} (hx : x ≤ 63) : MI n E (ui μ 17 s (nI x)) := by
  refine ⟨h.n1, h.pay, h.coin, h.noi, h.ev, fun i hi => ?_, h.pl, h.nu, h.tr, h.dk, h.hb, h.wh⟩
  by_cases e : i = s
  · subst e
    exact ⟨x, by simp [ui], hx⟩
  · obtain ⟨y, e1, e2⟩ := h.wid i hi
    exact ⟨y, by simp [ui, e]; exact e1, e2⟩
theorem MI.nowait (h : MI n E μ) (s : Nat) : MI n E (ul μ 23 s (-1)) := by
  refine ⟨h.n1, h.pay, h.coin, h.noi, h.ev, h.wid, h.pl, h.nu, h.tr, h.dk, h.hb, fun i hi => ⟨(h.wh i hi).1, fun q => ?_, (h.wh i hi).2.2⟩⟩
  by_cases e : i = s
  · subst e
    simp [ul] at q
  · simp [ul, e] at q
    exact (h.wh i hi).2.1 q
theorem MI.tries (h : MI n E μ) (s : Nat) (x : Int32) : MI n E (ui μ 18 s x) := h
theorem MI.kept (h : MI n E μ) (p : Nat) (x : Int32) : MI n E (ui μ 6 p x) := h
end MIP
/-- fail, ahead of the drawing -/
def fFail0 (s : Nat) (t : Int64) (μ : Mu) : Mu := if μ.1 18 s + 1 ≤ 4 then ui (ui (ul μ 23 s (-1)) 18 s (μ.1 18 s + 1)) 17 s (if 2 * μ.1 17 s + 1 ≤ 63 then 2 * μ.1 17 s + 1 else 63) else ui (ui (fTell (μ.1 34 (4 * s)) 2 t (ui (ui (ul μ 23 s (-1)) 18 s (μ.1 18 s + 1)) 6 (μ.1 34 (4 * s)).toNatClampNeg 0)) 18 s 0) 17 s 3
theorem fFail_eq {s : Nat} {t : Int64} {μ : Mu} : fFail s t μ = fKeepDraw s (fFail0 s t μ) := rfl
theorem MI.fail0 {n E s : Nat} {μ : Mu} {t : Int64} (h : MI n E μ) (hs : s < n) : MI n (E + 1) (fFail0 s t μ) := by
  unfold fFail0
  split
  · obtain ⟨x, e1, e2⟩ := h.wid s hs
    have e3 : (if 2 * μ.1 17 s + 1 ≤ 63 then 2 * μ.1 17 s + 1 else 63) = nI (if 2 * x + 1 ≤ 63 then 2 * x + 1 else 63) := by
      rw [e1, show (2 : Int32) = nI 2 from rfl, pk_mul, nI_1, show (63 : Int32) = nI 63 from rfl]
      by_cases q : 2 * x + 1 ≤ 63
      · rw [if_pos q, if_pos (nI_le q (by decide))]
      · rw [if_neg q, if_neg (nI_ge (by omega) (by omega))]
    rw [e3]
    exact (((h.nowait s).tries s _).width (by split <;> omega)).up (by omega)
  · exact (((((h.nowait s).tries s _).kept _ 0).tell _ _ _).tries s 0).width (x := 3) (by omega)
theorem MI.fail {n E s : Nat} {μ : Mu} {t : Int64} (h : MI n E μ) (hs : s < n) : MI n (E + 1) (fFail s t μ) := (h.fail0 hs).keepDraw s
section MF2
variable {l : Launch} {w : r_V} {B m n E : Nat} {μ : Mu}
theorem kc_eq (s : Nat) : ∀ k, kc μ s k = (kL (μ.1 2) (μ.1 6) s k).length
  | 0 => rfl
  | k + 1 => by
    simp only [kc, kL, List.length_append, kc_eq s k, kp]
    by_cases c1 : μ.1 2 (k + 1) = nI s <;> by_cases c2 : μ.1 6 (k + 1) = 0 <;> simp [c1, c2]
theorem kL_len (f k : Nat → Int32) (s : Nat) : ∀ i, (kL f k s i).length ≤ i
  | 0 => by simp [kL]
  | i + 1 => by
    have := kL_len f k s i
    simp only [kL, List.length_append]
    split <;> simp <;> omega
theorem k_keepDraw {s : Nat} (hn : okN n) (hs : s < n) (h : MI n E μ) : ∀ (X : r_X) (σ0 : r_S), r_C X w B 5 cX8_fail RX8 → r_E X l tX8_fail → r_Wm X w B 5 m σ0 (r_Z X w B tX8_fail (ZMV m σ0 (fun μ' => μ' = fKeepDraw s μ))) 108 [(0, Value.ref (B + m)), (1, Value.int (nI s))] [] μ := by
  intro X σ0 C E
  have hn6 := hn.2
  have hk : kc μ s (pN μ) ≤ 300 := by rw [kc_eq]; exact Nat.le_trans (kL_len _ _ _ _) h.pay.2
  refine u_X8_fail_108 C E ⟨_, k_keeps (by omega) h.pay.2 h.pay.1, fun z μ3 q => ?_⟩
  obtain ⟨rfl, rfl⟩ := q
  refine ⟨fun c => ?_, fun c => ⟨_, k_draw (by omega) h.drIn (h.wi1 hs), fun μ13 q => ?_⟩⟩
  · have : kc μ3 s (pN μ3) = 0 := by
      by_cases q : kc μ3 s (pN μ3) = 0
      · exact q
      · exact absurd c (nI_nle (by omega) (by omega))
    unfold fKeepDraw
    rw [if_pos this]
  · have : ¬ kc μ3 s (pN μ3) = 0 := fun q => c (by rw [q]; decide)
    unfold fKeepDraw
    rw [if_neg this, q]
end MF2
section MF3
variable {l : Launch} {w : r_V} {B m n E : Nat} {μ : Mu}
theorem k_fail {s : Nat} {t : Int64} (hn : okN n) (hs : s < n) (h : MI n E μ) (hE : E < 2 ^ 30) : r_MV l w B m tX8_fail [.int (nI s), .long t] μ (fun μ' => μ' = fFail s t μ) := by
  have hn6 := hn.2
  have hE1 : (nI s).toNatClampNeg = s := nI_clampS (by omega)
  refine r_MV.of (by decide) (fun _ => Nat.le_of_ble_eq_true rfl) (fun X σ0 C Ex => ?_)
  refine u_X8_fail_0 C Ex ⟨vp_in_nI (by omega) (by decide), fun μ2 e2 μ8 e8 => ?_⟩
  rw [hE1] at *
  have h18 : μ8.1 18 s = μ.1 18 s + 1 := by rw [e8, e2]; simp [ui, ul]
  have h17 : μ8.1 17 s = μ.1 17 s := by rw [e8, e2]; simp [ui, ul]
  have h34 : μ8.1 34 = μ.1 34 := by rw [e8, e2]; rfl
  have h8 : μ8 = ui (ul μ 23 s (-1)) 18 s (μ.1 18 s + 1) := by rw [e8, e2]; rfl
  rw [h18, h17, h34, four0, nI_clampS (show 4 * s < 1000000 by omega)]
  rw [fFail_eq]
  have hM := h.fail0 (t := t) hs
  refine ⟨fun c z e μ20 e20 => ?_, fun c => ⟨vp_in_nI (by omega) (by decide), fun z e => ?_⟩⟩
  · have : μ20 = fFail0 s t μ := by unfold fFail0; rw [if_pos c, e20, e, h8]
    rw [this]
    exact k_keepDraw hn hs hM X σ0 C Ex
  · obtain ⟨p, ep, hp, -⟩ := h.tr0 hs
    have hz : z = nI p := by rw [e]; exact ep
    refine ⟨by rw [hz]; exact vp_in_nI (by omega) (by decide), fun μ30 e30 => ?_⟩
    have hM30 : MI n E μ30 := by rw [e30, h8]; exact ((h.nowait s).tries s _).kept _ 0
    refine ⟨_, k_tell (hM30.evIn hE), fun μ38 q μ45 e45 μ51 e51 => ?_⟩
    have : μ51 = fFail0 s t μ := by unfold fFail0; rw [if_neg c, e51, e45, q, e30, h8, e]
    rw [this]
    exact k_keepDraw hn hs hM X σ0 C Ex
/-- bad bits of a station's frame, all 0 -/
def zb (n s : Nat) (ν : Mu) : Mu := (ν.1, fun g i => if g = 43 ∧ (6 * s ≤ i ∧ i < 6 * s + n) then 0 else ν.2 g i)
theorem zb_it {s : Nat} : ∀ (k i : Nat) (ν : Mu), it (fun r μ => ul μ 43 (6 * s + r) 0) i k (zb i s ν) = zb (i + k) s ν
  | 0, i, ν => rfl
  | k + 1, i, ν => by
    have h1 : ul (zb i s ν) 43 (6 * s + i) 0 = zb (i + 1) s ν := by
      refine Prod.ext rfl (funext fun g => funext fun j => ?_)
      simp only [ul, zb]
      by_cases hg : g = 43
      · by_cases hj : j = 6 * s + i
        · rw [if_pos ⟨hg, hj⟩, if_pos ⟨hg, by omega⟩]
        · rw [if_neg (fun q => hj q.2)]
          by_cases hk : 6 * s ≤ j ∧ j < 6 * s + i
          · rw [if_pos ⟨hg, hk⟩, if_pos ⟨hg, by omega⟩]
          · rw [if_neg (fun q => hk q.2), if_neg (fun q => hk (by omega))]
      · rw [if_neg (fun q => hg q.1), if_neg (fun q => hg q.1), if_neg (fun q => hg q.1)]
    show it _ (i + 1) k (ul (zb i s ν) 43 (6 * s + i) 0) = _
    rw [h1, zb_it k (i + 1) ν, show i + 1 + k = i + (k + 1) by omega]
theorem zb_0 {s : Nat} {ν : Mu} : zb 0 s ν = ν := by
  refine Prod.ext rfl (funext fun g => funext fun j => ?_)
  simp only [zb]
  rw [if_neg (by omega)]
def fBeg0 (s : Nat) (what other size tale : Int32) (t : Int64) (μ : Mu) : Mu := ui (ui (ui (ul (ul (ui (ui μ 37 s what) 38 s other) 39 s t) 40 s ((t + (if what = 3 then size else 2).toInt64) - 1)) 41 s size) 42 s tale) 33 ((4 * nI s + what) - 1).toNatClampNeg (μ.1 33 ((4 * nI s + what) - 1).toNatClampNeg + 1)
theorem fBegin_eq {s : Nat} {what other size tale : Int32} {t : Int64} : fBegin n s what other size tale t μ = zb n s (fBeg0 s what other size tale t μ) := by
  have := zb_it (s := s) n 0 (fBeg0 s what other size tale t μ)
  rw [zb_0, Nat.zero_add] at this
  exact this
theorem k_begin {s : Nat} {what other size tale : Int32} {t : Int64} (hn : okN n) (hs : s < n) (h1 : μ.1 0 1 = nI n) (hw : what = 1 ∨ what = 2 ∨ what = 3 ∨ what = 4) : r_MV l w B m tX8_begin [.int (nI s), .int what, .int other, .int size, .int tale, .long t] μ (fun μ' => μ' = fBegin n s what other size tale t μ) := by
  have hn6 := hn.2
  have hE1 : (nI s).toNatClampNeg = s := nI_clampS (by omega)
  have hv : vp_in ((4 * nI s + what) - 1) 24 := by
    rw [four0]
    rcases hw with rfl | rfl | rfl | rfl
    · rw [show (1 : Int32) = nI 1 from rfl, nI_add, pk_sub (by omega)]; exact vp_in_nI (by omega) (by decide)
    · rw [show (2 : Int32) = nI 2 from rfl, show (1 : Int32) = nI 1 from rfl, nI_add, pk_sub (by omega)]; exact vp_in_nI (by omega) (by decide)
    · rw [show (3 : Int32) = nI 3 from rfl, show (1 : Int32) = nI 1 from rfl, nI_add, pk_sub (by omega)]; exact vp_in_nI (by omega) (by decide)
    · rw [show (4 : Int32) = nI 4 from rfl, show (1 : Int32) = nI 1 from rfl, nI_add, pk_sub (by omega)]; exact vp_in_nI (by omega) (by decide)
  refine r_MV.of (by decide) (fun _ => Nat.le_of_ble_eq_true rfl) (fun X σ0 C Ex => ?_)
  refine u_X8_begin_0 C Ex ⟨vp_in_nI (by omega) (by decide), fun μ2 e2 μ8 e8 μ14 e14 z22 e22 μ25 e25 μ31 e31 μ37 e37 => ⟨hv, fun μ44 e44 => ?_⟩⟩
  rw [hE1] at *
  have e0 : μ44 = fBeg0 s what other size tale t μ := by rw [e44, e37, e31, e25, e22, e14, e8, e2]; rfl
  have key : ∀ (k i : Nat) (ν : Mu), i + k = n → ν.1 0 1 = nI n → it (fun r μ => ul μ 43 (6 * s + r) 0) i k ν = fBegin n s what other size tale t μ → r_Wm X w B 9 m σ0 (r_Z X w B tX8_begin (ZMV m σ0 (fun μ' => μ' = fBegin n s what other size tale t μ))) 80 [(0, Value.ref (B + m)), (1, Value.int (nI s)), (8, Value.int (nI i))] [] ν := by
    intro k
    induction k with
    | zero =>
      intro i ν hi hν hF
      have hi : i = n := by omega
      subst hi
      exact u_X8_begin_80 C Ex ⟨fun _ => hF, fun c => absurd (by rw [hν]; exact nI_le (Nat.le_refl _) (by omega)) c⟩
    | succ k ih =>
      intro i ν hi hν hF
      refine u_X8_begin_80 C Ex ⟨fun c => absurd c (by rw [hν]; exact nI_ge (by omega) (by omega)), fun _ => ?_⟩
      rw [six, nI_clampS (show 6 * s + i < 1000000 by omega)]
      refine ⟨vp_in_nI (by omega) (by decide), fun μ3 e3 z9 e9 => ?_⟩
      rw [e9, nI_1]
      exact ih (i + 1) μ3 (by omega) (by rw [e3]; exact hν) (by rw [e3]; exact hF)
  have h0 := key n 0 μ44 (by omega) (by rw [e0]; exact h1) (by rw [e0]; rfl)
  rw [nI_0] at h0
  exact h0
end MF3
