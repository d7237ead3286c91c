/-! THE REFERENCE, exactly: its methods as functions of its state -/
def it {α : Type} (f : Nat → α → α) : Nat → Nat → α → α
  | _, 0, a => a
  | i, k + 1, a => it f (i + 1) k (f i a)
def pN (μ : Mu) : Nat := (μ.1 0 5).toNatClampNeg
def nN (μ : Mu) : Nat := (μ.1 0 17).toNatClampNeg
def fSends (μ : Mu) (s : Nat) (t : Int64) : Bool := !decide (μ.1 37 s ≤ 0) && (!decide (t < μ.2 39 s) && !decide (μ.2 40 s < t))
def fHears (μ : Mu) (r s : Nat) : Bool := !decide (r = s) && decide (μ.1 1 (6 * r + s) = 0)
def fAny (n : Nat) (μ : Mu) (r but : Nat) (t : Int64) : Bool := (List.range n).any (fun s => !decide (s = but) && (fHears μ r s && fSends μ s t))
def fCov (μ : Mu) (s : Nat) (t : Int64) (k : Nat) : Bool := decide (μ.1 11 k = nI s) && (!decide (t < μ.2 12 k) && !decide (μ.2 12 k + (μ.1 13 k).toInt64 ≤ t))
def fNoise (μ : Mu) (s : Nat) (t : Int64) : Bool := (List.range (nN μ)).any (fCov μ s t)
def kp (μ : Mu) (s p : Nat) : Bool := decide (μ.1 2 p = nI s) && !decide (μ.1 6 p = 0)
/-- how many of the payloads 1 .. k are kept by s -/
def kc (μ : Mu) (s : Nat) : Nat → Nat
  | 0 => 0
  | k + 1 => kc μ s k + (if kp μ s (k + 1) then 1 else 0)
def fTell (p k : Int32) (t : Int64) (μ : Mu) : Mu := ui (if 700 ≤ μ.1 0 21 then μ else ul (ui (ui μ 14 (μ.1 0 21).toNatClampNeg p) 15 (μ.1 0 21).toNatClampNeg k) 16 (μ.1 0 21).toNatClampNeg t) 0 21 (μ.1 0 21 + 1)
def fDraw (s : Nat) (μ : Mu) : Mu := ui (ui μ 0 15 (if μ.1 0 14 ≤ μ.1 0 15 then μ.1 0 15 else μ.1 0 15 + 1)) 19 s (rem (if μ.1 0 14 ≤ μ.1 0 15 then 0 else μ.1 10 (μ.1 0 15).toNatClampNeg) (μ.1 17 s + 1))
def fKeepDraw (s : Nat) (μ : Mu) : Mu := if kc μ s (pN μ) = 0 then μ else fDraw s μ
def fFail (s : Nat) (t : Int64) (μ : Mu) : Mu := fKeepDraw s (if μ.1 18 s + 1 ≤ 4 then ui (ui (ul μ 23 s (-1)) 18 s (μ.1 18 s + 1)) 17 s (if 2 * μ.1 17 s + 1 ≤ 63 then 2 * μ.1 17 s + 1 else 63) else ui (ui (fTell (μ.1 34 (4 * s)) 2 t (ui (ui (ul μ 23 s (-1)) 18 s (μ.1 18 s + 1)) 6 (μ.1 34 (4 * s)).toNatClampNeg 0)) 18 s 0) 17 s 3)
def fLeft (μ : Mu) (s : Nat) : Int32 := if μ.1 37 s = 1 then 7 + μ.1 41 s else if μ.1 37 s = 2 then 4 + μ.1 41 s else if μ.1 37 s = 3 then 3 else 0
def fDue (r : Nat) (what other size tale : Int32) (t : Int64) (μ : Mu) : Mu := ui (ui (ui (ui (ul μ 26 r (t + 2)) 27 r what) 28 r other) 29 r size) 30 r tale
def fHand (p : Int32) (t : Int64) (μ : Mu) : Mu := fTell p 1 t (ui μ 7 p.toNatClampNeg 0)
def fBegin (n s : Nat) (what other size tale : Int32) (t : Int64) (μ : Mu) : Mu := it (fun r μ => ul μ 43 (6 * s + r) 0) 0 n (ui (ui (ui (ul (ul (ui (ui μ 37 s what) 38 s other) 39 s t) 40 s ((t + (if what = 3 then size else 2).toInt64) - 1)) 41 s size) 42 s tale) 33 ((4 * nI s + what) - 1).toNatClampNeg (μ.1 33 ((4 * nI s + what) - 1).toNatClampNeg + 1))
theorem six {r s : Nat} : (6 : Int32) * nI r + nI s = nI (6 * r + s) := by rw [show (6 : Int32) = nI 6 from rfl, pk_mul, nI_add]
theorem four {r s : Nat} : (4 : Int32) * nI r + nI s = nI (4 * r + s) := by rw [show (4 : Int32) = nI 4 from rfl, pk_mul, nI_add]
theorem four0 {r : Nat} : (4 : Int32) * nI r = nI (4 * r) := by rw [show (4 : Int32) = nI 4 from rfl, pk_mul]
theorem nI_clampS {n : Nat} (h : n < 1000000) : (nI n).toNatClampNeg = n := nI_clamp (by omega)
section MF1
variable {l : Launch} {w : r_V} {B m n : Nat} {μ : Mu}
theorem k_isStation {x : Int32} : r_MI l w B m tX8_isStation [.int x] μ (fun z μ' => μ' = μ ∧ z = if x < 0 then 0 else if μ.1 0 1 ≤ x then 0 else 1) := by
  refine r_MI.of (by decide) (fun _ => Nat.le_of_ble_eq_true rfl) (fun X σ0 C E => ?_)
  refine u_X8_isStation_0 C E (fun z e => ?_)
  exact ⟨by rw [e]; split <;> (try split) <;> simp, rfl, e⟩
theorem k_sends {s : Nat} {t : Int64} (hs : s < 6) : r_MI l w B m tX8_sends [.int (nI s), .long t] μ (fun z μ' => μ' = μ ∧ z = if fSends μ s t then 1 else 0) := by
  refine r_MI.of (by decide) (fun _ => Nat.le_of_ble_eq_true rfl) (fun X σ0 C E => ?_)
  refine u_X8_sends_0 C E ⟨vp_in_nI hs (by decide), fun z e => ?_⟩
  rw [nI_clampS (by omega)] at e
  have e2 : z = if fSends μ s t then 1 else 0 := by
    rw [e]
    unfold fSends
    by_cases c1 : μ.1 37 s ≤ 0 <;> by_cases c2 : t < μ.2 39 s <;> by_cases c3 : μ.2 40 s < t <;> simp [c1, c2, c3]
  exact ⟨by rw [e2]; exact ite10 _, rfl, e2⟩
theorem k_hears {r s : Nat} (hr : r < 6) (hs : s < 6) : r_MI l w B m tX8_hears [.int (nI r), .int (nI s)] μ (fun z μ' => μ' = μ ∧ z = if fHears μ r s then 1 else 0) := by
  refine r_MI.of (by decide) (fun _ => Nat.le_of_ble_eq_true rfl) (fun X σ0 C E => ?_)
  have hrs : nI r = nI s ↔ r = s := nI_eq (by omega) (by omega)
  refine u_X8_hears_0 C E ?_
  rw [six, nI_clampS (by omega)]
  refine ⟨⟨fun _ => trivial, fun _ => vp_in_nI (by omega) (by decide)⟩, fun z e => ?_⟩
  have e2 : z = if fHears μ r s then 1 else 0 := by
    rw [e]
    unfold fHears
    by_cases c1 : r = s <;> by_cases c2 : μ.1 1 (6 * r + s) = 0 <;> simp [hrs, c1, c2]
    all_goals (try (subst c1; simp [c2]))
  exact ⟨by rw [e2]; exact ite10 _, rfl, e2⟩
theorem k_left {s : Nat} (hs : s < 6) : r_MI l w B m tX8_left [.int (nI s)] μ (fun z μ' => μ' = μ ∧ z = fLeft μ s) := by
  refine r_MI.of (by decide) (fun _ => Nat.le_of_ble_eq_true rfl) (fun X σ0 C E => ?_)
  refine u_X8_left_0 C E ⟨vp_in_nI hs (by decide), fun z e => ?_⟩
  rw [nI_clampS (by omega)] at e
  exact ⟨rfl, e⟩
theorem k_due {r : Nat} {a b c d : Int32} {t : Int64} (hr : r < 6) : r_MV l w B m tX8_due [.int (nI r), .int a, .int b, .int c, .int d, .long t] μ (fun μ' => μ' = fDue r a b c d t μ) := by
  refine r_MV.of (by decide) (fun _ => Nat.le_of_ble_eq_true rfl) (fun X σ0 C E => ?_)
  refine u_X8_due_0 C E ?_
  rw [nI_clampS (by omega)]
  exact ⟨vp_in_nI hr (by decide), fun μ2 e2 μ8 e8 μ14 e14 μ20 e20 μ26 e26 => by rw [e26, e20, e14, e8, e2]; rfl⟩
theorem k_tell {p k : Int32} {t : Int64} (h : ¬ 700 ≤ μ.1 0 21 → vp_in (μ.1 0 21) 700) : r_MV l w B m tX8_tell [.int p, .int k, .long t] μ (fun μ' => μ' = fTell p k t μ) := by
  refine r_MV.of (by decide) (fun _ => Nat.le_of_ble_eq_true rfl) (fun X σ0 C E => ?_)
  refine u_X8_tell_0 C E ⟨fun c μ2 e => by unfold fTell; rw [if_pos c]; exact e, fun c => ⟨h c, fun μ9 e9 => ⟨by rw [e9]; exact h c, fun μ16 e16 => ⟨by rw [e16, e9]; exact h c, fun μ23 e23 μ29 e29 => ?_⟩⟩⟩⟩
  unfold fTell
  rw [if_neg c, e29, e23, e16, e9]
  rfl
theorem k_hand {p : Nat} {t : Int64} (hp : p < 301) (h : ¬ 700 ≤ μ.1 0 21 → vp_in (μ.1 0 21) 700) : r_MV l w B m tX8_handOver [.int (nI p), .long t] μ (fun μ' => μ' = fHand (nI p) t μ) := by
  refine r_MV.of (by decide) (fun _ => Nat.le_of_ble_eq_true rfl) (fun X σ0 C E => ?_)
  refine u_X8_handOver_0 C E ⟨vp_in_nI hp (by decide), fun μ2 e2 => ⟨_, k_tell (by rw [e2]; exact h), fun μ10 q => ?_⟩⟩
  rw [q, e2]
  rfl
theorem k_draw {s : Nat} (hs : s < 6) (hd : ¬ μ.1 0 14 ≤ μ.1 0 15 → vp_in (μ.1 0 15) 400) (hw : ¬ μ.1 17 s + 1 = 0) : r_MV l w B m tX8_draw [.int (nI s)] μ (fun μ' => μ' = fDraw s μ) := by
  refine r_MV.of (by decide) (fun _ => Nat.le_of_ble_eq_true rfl) (fun X σ0 C E => ?_)
  refine u_X8_draw_0 C E ⟨⟨fun _ => trivial, hd⟩, fun z5 e5 z10 e10 μ13 e13 => ?_⟩
  rw [nI_clampS (by omega)]
  have h17 : μ13.1 17 s = μ.1 17 s := by rw [e13]; simp [ui]
  rw [h17]
  refine ⟨vp_in_nI hs (by decide), hw, fun μ21 e21 => ?_⟩
  rw [e21, e13, e10, e5]
  rfl
theorem k_keeps {s P : Nat} (hs : s < 6) (hP : P ≤ 300) (hp : μ.1 0 5 = nI P) : r_MI l w B m tX8_keeps [.int (nI s)] μ (fun z μ' => μ' = μ ∧ z = nI (kc μ s P)) := by
  refine r_MI.of (by decide) (fun _ => Nat.le_of_ble_eq_true rfl) (fun X σ0 C E => ?_)
  refine u_X8_keeps_0 C E ?_
  have key : ∀ (k i : Nat), i + k = P → r_Wm X w B 4 m σ0 (r_Z X w B tX8_keeps (ZMI m σ0 (fun z μ' => μ' = μ ∧ z = nI (kc μ s P)))) 4 [(0, Value.ref (B + m)), (1, Value.int (nI s)), (2, Value.int (nI (kc μ s i))), (3, Value.int (nI (i + 1)))] [] μ := by
    intro k
    induction k with
    | zero =>
      intro i hi
      have hi : i = P := by omega
      subst hi
      exact u_X8_keeps_4 C E ⟨fun _ => ⟨rfl, rfl⟩, fun c => absurd (by rw [hp]; exact nI_lt (by omega) (by omega)) c⟩
    | succ k ih =>
      intro i hi
      refine u_X8_keeps_4 C E ⟨fun c => absurd c (by rw [hp]; exact nI_nlt (by omega) (by omega)), fun _ => ⟨vp_in_nI (by omega) (by decide), fun z7 e7 z10 e10 => ?_⟩⟩
      rw [nI_clampS (by omega)] at e7
      have h1 := ih (i + 1) (by omega)
      have e8 : z7 = nI (kc μ s (i + 1)) := by
        rw [e7]
        simp only [kc, kp]
        by_cases c1 : μ.1 2 (i + 1) = nI s <;> by_cases c2 : μ.1 6 (i + 1) = 0 <;> simp [c1, c2, nI_1]
      rw [e8, e10, nI_1]
      exact h1
  have h0 := key P 0 (by omega)
  simp only [kc, nI_0] at h0
  exact h0
theorem k_noise {s N : Nat} {t : Int64} (hs : s < 6) (hN : N ≤ 40) (hn : μ.1 0 17 = nI N) : r_MI l w B m tX8_hasNoise [.int (nI s), .long t] μ (fun z μ' => μ' = μ ∧ z = if fNoise μ s t then 1 else 0) := by
  have hnn : nN μ = N := by unfold nN; rw [hn]; exact nI_clampS (by omega)
  refine r_MI.of (by decide) (fun _ => Nat.le_of_ble_eq_true rfl) (fun X σ0 C E => ?_)
  refine u_X8_hasNoise_0 C E ?_
  have key : ∀ (k i : Nat), i + k = N → r_Wm X w B 6 m σ0 (r_Z X w B tX8_hasNoise (ZMI m σ0 (fun z μ' => μ' = μ ∧ z = if fNoise μ s t then 1 else 0))) 6 [(0, Value.ref (B + m)), (1, Value.int (nI s)), (2, Value.long t), (4, Value.int (if (List.range i).any (fCov μ s t) then 1 else 0)), (5, Value.int (nI i))] [] μ := by
    intro k
    induction k with
    | zero =>
      intro i hi
      have hi : i = N := by omega
      subst hi
      refine u_X8_hasNoise_6 C E ⟨fun _ => ⟨ite10 _, rfl, by unfold fNoise; rw [hnn]⟩, fun c => absurd (by rw [hn]; exact nI_le (Nat.le_refl _) (by omega)) c⟩
    | succ k ih =>
      intro i hi
      have h1 := ih (i + 1) (by omega)
      refine u_X8_hasNoise_6 C E ⟨fun c => absurd c (by rw [hn]; exact nI_ge (by omega) (by omega)), fun _ => ⟨⟨fun _ => vp_in_nI (by omega) (by decide), fun _ => trivial⟩, fun z13 e13 z16 e16 => ?_⟩⟩
      rw [nI_clampS (by omega)] at e13
      have e : z13 = if (List.range (i + 1)).any (fCov μ s t) then 1 else 0 := by
        rw [e13, List.range_succ, List.any_append]
        by_cases c0 : (List.range i).any (fCov μ s t) = true
        · simp [c0]
        · have c0' : (List.range i).any (fCov μ s t) = false := by simpa using c0
          simp only [c0', List.any_cons, List.any_nil, Bool.false_or, Bool.or_false, fCov]
          by_cases c1 : μ.1 11 i = nI s <;> by_cases c2 : t < μ.2 12 i <;> by_cases c3 : μ.2 12 i + (μ.1 13 i).toInt64 ≤ t <;> simp [c1, c2, c3]
      rw [e, e16, nI_1]
      exact h1
  have h0 := key N 0 (by omega)
  simp only [List.range_zero, List.any_nil, nI_0] at h0
  exact h0
theorem k_any {r but : Nat} {t : Int64} (hn6 : n ≤ 6) (hr : r < 6) (hb : but < 6) (hn : μ.1 0 1 = nI n) : r_MI l w B m tX8_hearsAny [.int (nI r), .int (nI but), .long t] μ (fun z μ' => μ' = μ ∧ z = if fAny n μ r but t then 1 else 0) := by
  refine r_MI.of (by decide) (fun _ => Nat.le_of_ble_eq_true rfl) (fun X σ0 C E => ?_)
  refine u_X8_hearsAny_0 C E ?_
  have key : ∀ (k i : Nat), i + k = n → r_Wm X w B 7 m σ0 (r_Z X w B tX8_hearsAny (ZMI m σ0 (fun z μ' => μ' = μ ∧ z = if fAny n μ r but t then 1 else 0))) 6 [(0, Value.ref (B + m)), (1, Value.int (nI r)), (2, Value.int (nI but)), (3, Value.long t), (5, Value.int (if fAny i μ r but t then 1 else 0)), (6, Value.int (nI i))] [] μ := by
    intro k
    induction k with
    | zero =>
      intro i hi
      have hi : i = n := by omega
      subst hi
      exact u_X8_hearsAny_6 C E ⟨fun _ => ⟨ite10 _, rfl, rfl⟩, fun c => absurd (by rw [hn]; exact nI_le (Nat.le_refl _) (by omega)) c⟩
    | succ k ih =>
      intro i hi
      have h1 := ih (i + 1) (by omega)
      have hib : nI i = nI but ↔ i = but := nI_eq (by omega) (by omega)
      have hs : fAny (i + 1) μ r but t = (fAny i μ r but t || (!decide (i = but) && (fHears μ r i && fSends μ i t))) := by
        unfold fAny
        rw [List.range_succ, List.any_append]
        simp
      refine u_X8_hearsAny_6 C E ⟨fun c => absurd c (by rw [hn]; exact nI_ge (by omega) (by omega)), fun _ => ⟨fun c0 => ?_, fun c0 z e => ?_⟩⟩
      · have c0' : fAny i μ r but t = false := by
          by_cases q : fAny i μ r but t = true
          · rw [if_pos q] at c0; exact absurd c0 (by decide)
          · simpa using q
        rw [c0', Bool.false_or] at hs
        refine ⟨fun c1 z e => ?_, fun c1 => ⟨_, k_hears (by omega) (by omega), fun z μ9 q => ?_⟩⟩
        · rw [e, nI_1]
          have : fAny (i + 1) μ r but t = false := by rw [hs]; simp [hib.mp c1]
          rw [this] at h1
          exact h1
        · obtain ⟨rfl, rfl⟩ := q
          have c1' : ¬ i = but := fun q => c1 (hib.mpr q)
          refine ⟨fun c2 z e => ?_, fun c2 => ⟨_, k_sends (by omega), fun z μ21 q z30 e30 z33 e33 => ?_⟩⟩
          · rw [e, nI_1]
            have hh : fHears μ9 r i = false := by
              by_cases q : fHears μ9 r i = true
              · rw [if_pos q] at c2; exact absurd c2 (by decide)
              · simpa using q
            have : fAny (i + 1) μ9 r but t = false := by rw [hs]; simp [hh]
            rw [this] at h1
            exact h1
          · obtain ⟨rfl, rfl⟩ := q
            have hh : fHears μ21 r i = true := by
              by_cases q : fHears μ21 r i = true
              · exact q
              · rw [if_neg q] at c2; exact absurd rfl c2
            have : z30 = if fAny (i + 1) μ21 r but t then 1 else 0 := by
              rw [e30, hs]
              by_cases q : fSends μ21 i t = true <;> simp [c1', hh, q]
            rw [this, e33, nI_1]
            exact h1
      · have c0' : fAny i μ r but t = true := by
          by_cases q : fAny i μ r but t = true
          · exact q
          · rw [if_neg q] at c0; exact absurd rfl c0
        rw [e, nI_1]
        rw [hs, c0', Bool.true_or] at h1
        exact h1
  have h0 := key n 0 (by omega)
  simp only [fAny, List.range_zero, List.any_nil, nI_0] at h0
  exact h0
end MF1
