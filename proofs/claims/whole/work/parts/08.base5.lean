/-! reads by name; answers by kind; the rows that the walker lays -/
def r_gi (σ : r_S) (a k : Nat) : Int32 := σ.2.1 a k
def r_gl (σ : r_S) (a k : Nat) : Int64 := σ.2.2.1 a k
def r_gr (σ : r_S) (a k : Nat) : Nat := σ.2.2.2 a k
theorem gi_ui {σ : r_S} {a k a' k' : Nat} {x : Int32} : r_gi (r_ui σ a k x) a' k' = if a' = a ∧ k' = k then x else r_gi σ a' k' := rfl
theorem gi_ul {σ : r_S} {a k a' k' : Nat} {x : Int64} : r_gi (r_ul σ a k x) a' k' = r_gi σ a' k' := rfl
theorem gi_ur {σ : r_S} {a k a' k' : Nat} {x : Nat} : r_gi (r_ur σ a k x) a' k' = r_gi σ a' k' := rfl
theorem gl_ui {σ : r_S} {a k a' k' : Nat} {x : Int32} : r_gl (r_ui σ a k x) a' k' = r_gl σ a' k' := rfl
theorem gl_ul {σ : r_S} {a k a' k' : Nat} {x : Int64} : r_gl (r_ul σ a k x) a' k' = if a' = a ∧ k' = k then x else r_gl σ a' k' := rfl
theorem gl_ur {σ : r_S} {a k a' k' : Nat} {x : Nat} : r_gl (r_ur σ a k x) a' k' = r_gl σ a' k' := rfl
theorem gr_ui {σ : r_S} {a k a' k' : Nat} {x : Int32} : r_gr (r_ui σ a k x) a' k' = r_gr σ a' k' := rfl
theorem gr_ul {σ : r_S} {a k a' k' : Nat} {x : Int64} : r_gr (r_ul σ a k x) a' k' = r_gr σ a' k' := rfl
theorem gr_ur {σ : r_S} {a k a' k' : Nat} {x : Nat} : r_gr (r_ur σ a k x) a' k' = if a' = a ∧ k' = k then x else r_gr σ a' k' := rfl
theorem r_atT {σ σ' : r_S} {e : Nat} {sh : r_Sh} (h : σ'.1 = σ.1) (g : r_at σ e = some sh) : r_at σ' e = some sh := by
  unfold r_at at g ⊢
  rw [h]
  exact g
theorem r_atN {σ : r_S} {e : Nat} {sh : r_Sh} (g : r_at σ e = some sh) : e ≠ 0 := by
  obtain ⟨h, -⟩ := r_at_pos g
  omega
def r_QI (σ0 : r_S) (Q : Int32 → r_S → Prop) : Option Value → r_S → Prop := fun o σ' => σ'.1 = σ0.1 ∧ ∃ z : Int32, o = some (.int z) ∧ Q z σ'
def r_QL (σ0 : r_S) (Q : Int64 → r_S → Prop) : Option Value → r_S → Prop := fun o σ' => σ'.1 = σ0.1 ∧ ∃ z : Int64, o = some (.long z) ∧ Q z σ'
def r_QV (σ0 : r_S) (Q : r_S → Prop) : Option Value → r_S → Prop := fun o σ' => σ'.1 = σ0.1 ∧ o = none ∧ Q σ'
theorem lgc_lt {x y : Int64} : lg_cmp x y < 0 ↔ x < y := by
  unfold lg_cmp
  by_cases h1 : y < x
  · have h2 : ¬ x < y := fun h => by
      rw [Int64.lt_iff_toInt_lt] at h h1; omega
    simp [h1, h2]
  · by_cases h2 : x = y
    · subst h2
      simp [h1]
    · have h3 : x < y := by
        rw [Int64.lt_iff_toInt_lt] at h1 ⊢
        have h4 : x.toInt ≠ y.toInt := fun h => h2 (Int64.toInt_inj.mp h)
        omega
      simp [h1, h2, h3]
theorem lgc_gt {x y : Int64} : 0 < lg_cmp x y ↔ y < x := by
  unfold lg_cmp
  by_cases h1 : y < x
  · simp [h1]
  · by_cases h2 : x = y
    · subst h2
      simp [h1]
    · simp [h1, h2]
theorem lgc_eq {x y : Int64} : lg_cmp x y = 0 ↔ x = y := by
  unfold lg_cmp
  by_cases h1 : y < x
  · have h2 : ¬ x = y := fun h => by subst h; rw [Int64.lt_iff_toInt_lt] at h1; omega
    simp [h1, h2]
  · by_cases h2 : x = y
    · subst h2
      simp [h1]
    · simp [h1, h2]
theorem lgc_le {x y : Int64} : lg_cmp x y ≤ 0 ↔ x ≤ y := by
  have h1 : lg_cmp x y ≤ 0 ↔ ¬ 0 < lg_cmp x y := by rw [Int32.not_lt]
  rw [h1, lgc_gt, Int64.not_lt]
theorem lgc_ge {x y : Int64} : 0 ≤ lg_cmp x y ↔ y ≤ x := by
  have h1 : 0 ≤ lg_cmp x y ↔ ¬ lg_cmp x y < 0 := by rw [Int32.not_lt]
  rw [h1, lgc_lt, Int64.not_lt]
section RWE
variable {X : r_X} {w : r_V} {B nL cells slots : Nat} {Q : State → Prop} {cc : ByteArray} {own : String} {pc : Nat} {lv : List (Nat × Value)} {rest st : List Value} {σ : r_S} {l : Launch} {t : r_T}
theorem r_nam (k : ∀ σ' : r_S, σ' = σ → r_W X w B nL cells slots Q pc lv st σ') : r_W X w B nL cells slots Q pc lv st σ := k σ rfl
theorem r_topi {x : Int32} (k : ∀ y : Int32, y = x → r_W X w B nL cells slots Q pc lv (.int y :: rest) σ) : r_W X w B nL cells slots Q pc lv (.int x :: rest) σ := k x rfl
theorem r_topl {x : Int64} (k : ∀ y : Int64, y = x → r_W X w B nL cells slots Q pc lv (.long y :: rest) σ) : r_W X w B nL cells slots Q pc lv (.long x :: rest) σ := k x rfl
theorem r_topa {x : Nat} (k : ∀ y : Nat, y = x → r_W X w B nL cells slots Q pc lv (.ref (B + y) :: rest) σ) : r_W X w B nL cells slots Q pc lv (.ref (B + x) :: rest) σ := k x rfl
theorem r_putI (C : r_C X w B nL cc own) {a ci k index : Nat} {x : Int32} (hat : r_at σ a = some (.inl ci)) (F : r_Fa own index ci k false) (hI : r_isI (kTf ci k) = true) (hn : narrow (kTf ci k) (.int x) = .int x) (hf : fits (kTf ci k) (.int x) = true) (hdg : decode cc pc = .ok (.putfield index, 3)) (kk : r_W X w B nL cells slots Q (pc + 3) lv rest (r_ui σ a k x)) : r_W X w B nL cells slots Q pc lv (.int x :: .ref (B + a) :: rest) σ :=
  r_put C hat F (σ' := r_ui σ a k x) (by rw [r_fv_I hI]; simp [r_ui]) hn hf rfl (fun a' k' h => ⟨by simp [r_ui, h], rfl, rfl⟩) hdg kk
theorem r_putL (C : r_C X w B nL cc own) {a ci k index : Nat} {x : Int64} (hat : r_at σ a = some (.inl ci)) (F : r_Fa own index ci k false) (hI : kTf ci k = .long) (hdg : decode cc pc = .ok (.putfield index, 3)) (kk : r_W X w B nL cells slots Q (pc + 3) lv rest (r_ul σ a k x)) : r_W X w B nL cells slots Q pc lv (.long x :: .ref (B + a) :: rest) σ :=
  r_put C hat F (σ' := r_ul σ a k x) (by rw [hI]; simp [r_fv, r_ul]) (by rw [hI]; rfl) (by rw [hI]; rfl) rfl (fun a' k' h => ⟨rfl, by simp [r_ul, h], rfl⟩) hdg kk
theorem r_putR (C : r_C X w B nL cc own) {a ci k index r : Nat} (hat : r_at σ a = some (.inl ci)) (F : r_Fa own index ci k false) (hI : r_isR (kTf ci k) = true) (hr : r ≠ 0) (hdg : decode cc pc = .ok (.putfield index, 3)) (kk : r_W X w B nL cells slots Q (pc + 3) lv rest (r_ur σ a k r)) : r_W X w B nL cells slots Q pc lv (.ref (B + r) :: .ref (B + a) :: rest) σ :=
  r_put C hat F (σ' := r_ur σ a k r) (by rw [r_fv_R hI, ← r_rf_ne hr]; simp [r_ur]) (by cases hk : kTf ci k <;> first | (rw [hk] at hI; cases hI; done) | rfl) (by cases hk : kTf ci k <;> first | (rw [hk] at hI; cases hI; done) | rfl) rfl (fun a' k' h => ⟨rfl, rfl, by simp [r_ur, h]⟩) hdg kk
theorem r_iretQ {σ0 : r_S} {Qr : Int32 → r_S → Prop} (C : r_C X w B nL cc own) (E : r_E X l t) {v : Int32} (hr : t.2.2.2.1 = some .int) (hc : cells ≤ t.2.2.2.2.cells) (hs : slots ≤ t.2.2.2.2.slots) (hdg : decode cc pc = .ok (.ireturn, 1)) (h0 : σ.1 = σ0.1) (hq : Qr v σ) : r_W X w B nL cells slots (r_Z X w B t (r_QI σ0 Qr)) pc lv [.int v] σ := r_iret C E hr hc hs hdg ⟨h0, v, rfl, hq⟩
theorem r_zretQ {σ0 : r_S} {Qr : Int32 → r_S → Prop} (C : r_C X w B nL cc own) (E : r_E X l t) {v : Int32} (hr : t.2.2.2.1 = some .boolean) (h01 : v = 0 ∨ v = 1) (hc : cells ≤ t.2.2.2.2.cells) (hs : slots ≤ t.2.2.2.2.slots) (hdg : decode cc pc = .ok (.ireturn, 1)) (h0 : σ.1 = σ0.1) (hq : Qr v σ) : r_W X w B nL cells slots (r_Z X w B t (r_QI σ0 Qr)) pc lv [.int v] σ := r_zret C E hr (by rcases h01 with rfl | rfl <;> rfl) hc hs hdg ⟨h0, v, rfl, hq⟩
theorem r_lretQ {σ0 : r_S} {Qr : Int64 → r_S → Prop} (C : r_C X w B nL cc own) (E : r_E X l t) {v : Int64} (hr : t.2.2.2.1 = some .long) (hc : cells ≤ t.2.2.2.2.cells) (hs : slots ≤ t.2.2.2.2.slots) (hdg : decode cc pc = .ok (.lreturn, 1)) (h0 : σ.1 = σ0.1) (hq : Qr v σ) : r_W X w B nL cells slots (r_Z X w B t (r_QL σ0 Qr)) pc lv [.long v] σ := r_lret C E hr hc hs hdg ⟨h0, v, rfl, hq⟩
theorem r_vretQ {σ0 : r_S} {Qr : r_S → Prop} (C : r_C X w B nL cc own) (E : r_E X l t) (hr : t.2.2.2.1 = none) (hc : cells ≤ t.2.2.2.2.cells) (hs : slots ≤ t.2.2.2.2.slots) (hdg : decode cc pc = .ok (.return_, 1)) (h0 : σ.1 = σ0.1) (hq : Qr σ) : r_W X w B nL cells slots (r_Z X w B t (r_QV σ0 Qr)) pc lv [] σ := r_vret C E hr hc hs hdg ⟨h0, rfl, hq⟩
theorem r_callVI {Qr : Int32 → r_S → Prop} (C : r_C X w B nL cc own) (E : r_E X l t) {t2 : r_T} {a ci index n : Nat} (As : List Value) {T : u_T} {N : Nat} (hat : r_at σ a = some (.inl ci)) (hcl : kCl[ci]? = some (t2.1.cls, T, N)) (K : r_Ky t2 n) (w1 : Cond.methodLink own index t2.1 ∈ kBig) (w2 : Cond.instanceMethod t2.1 ∈ kBig) (w3 : Cond.selects t2.1.cls t2.1 t2.1 ∈ kBig) (hR : r_Rm t t2) (hz : t2.2.2.2.2.cells = 0 ∧ t2.2.2.2.2.slots = 0) (hM : r_M l w B t2 (.ref (B + a) :: As) σ (r_QI σ Qr)) (hn : As.length = n) (hst : st = As.reverse ++ .ref (B + a) :: rest) (h8 : (rest.map fun v => v.category).sum ≤ 8) (hc1 : cells ≤ t.2.2.2.2.cells) (hs1 : slots ≤ t.2.2.2.2.slots) (hdg : decode cc pc = .ok (.invokevirtual index, 3))
    (kk : ∀ (z : Int32) (σ' : r_S), σ'.1 = σ.1 → Qr z σ' → r_W X w B nL cells slots Q (pc + 3) lv (.int z :: rest) σ') : r_W X w B nL cells slots Q pc lv st σ := by
  refine r_callV C E hat hcl K w1 w2 w3 hR hM hn hst h8 (by rw [hz.1]; exact hc1) (by rw [hz.2]; exact hs1) hdg (fun r σ' hq => ?_)
  obtain ⟨h1, z, rfl, hq⟩ := hq
  rw [hz.1, hz.2]
  exact kk z σ' h1 hq
theorem r_callVL {Qr : Int64 → r_S → Prop} (C : r_C X w B nL cc own) (E : r_E X l t) {t2 : r_T} {a ci index n : Nat} (As : List Value) {T : u_T} {N : Nat} (hat : r_at σ a = some (.inl ci)) (hcl : kCl[ci]? = some (t2.1.cls, T, N)) (K : r_Ky t2 n) (w1 : Cond.methodLink own index t2.1 ∈ kBig) (w2 : Cond.instanceMethod t2.1 ∈ kBig) (w3 : Cond.selects t2.1.cls t2.1 t2.1 ∈ kBig) (hR : r_Rm t t2) (hz : t2.2.2.2.2.cells = 0 ∧ t2.2.2.2.2.slots = 0) (hM : r_M l w B t2 (.ref (B + a) :: As) σ (r_QL σ Qr)) (hn : As.length = n) (hst : st = As.reverse ++ .ref (B + a) :: rest) (h8 : (rest.map fun v => v.category).sum ≤ 8) (hc1 : cells ≤ t.2.2.2.2.cells) (hs1 : slots ≤ t.2.2.2.2.slots) (hdg : decode cc pc = .ok (.invokevirtual index, 3))
    (kk : ∀ (z : Int64) (σ' : r_S), σ'.1 = σ.1 → Qr z σ' → r_W X w B nL cells slots Q (pc + 3) lv (.long z :: rest) σ') : r_W X w B nL cells slots Q pc lv st σ := by
  refine r_callV C E hat hcl K w1 w2 w3 hR hM hn hst h8 (by rw [hz.1]; exact hc1) (by rw [hz.2]; exact hs1) hdg (fun r σ' hq => ?_)
  obtain ⟨h1, z, rfl, hq⟩ := hq
  rw [hz.1, hz.2]
  exact kk z σ' h1 hq
theorem r_callVV {Qr : r_S → Prop} (C : r_C X w B nL cc own) (E : r_E X l t) {t2 : r_T} {a ci index n : Nat} (As : List Value) {T : u_T} {N : Nat} (hat : r_at σ a = some (.inl ci)) (hcl : kCl[ci]? = some (t2.1.cls, T, N)) (K : r_Ky t2 n) (w1 : Cond.methodLink own index t2.1 ∈ kBig) (w2 : Cond.instanceMethod t2.1 ∈ kBig) (w3 : Cond.selects t2.1.cls t2.1 t2.1 ∈ kBig) (hR : r_Rm t t2) (hz : t2.2.2.2.2.cells = 0 ∧ t2.2.2.2.2.slots = 0) (hM : r_M l w B t2 (.ref (B + a) :: As) σ (r_QV σ Qr)) (hn : As.length = n) (hst : st = As.reverse ++ .ref (B + a) :: rest) (h8 : (rest.map fun v => v.category).sum ≤ 8) (hc1 : cells ≤ t.2.2.2.2.cells) (hs1 : slots ≤ t.2.2.2.2.slots) (hdg : decode cc pc = .ok (.invokevirtual index, 3))
    (kk : ∀ (σ' : r_S), σ'.1 = σ.1 → Qr σ' → r_W X w B nL cells slots Q (pc + 3) lv rest σ') : r_W X w B nL cells slots Q pc lv st σ := by
  refine r_callV C E hat hcl K w1 w2 w3 hR hM hn hst h8 (by rw [hz.1]; exact hc1) (by rw [hz.2]; exact hs1) hdg (fun r σ' hq => ?_)
  obtain ⟨h1, rfl, hq⟩ := hq
  rw [hz.1, hz.2]
  exact kk σ' h1 hq
theorem r_callSI {Qr : Int32 → r_S → Prop} (C : r_C X w B nL cc own) (E : r_E X l t) {t2 : r_T} {index n : Nat} (As : List Value) (K : r_Ky t2 n) (w1 : Cond.methodLink own index t2.1 ∈ kBig) (w2 : Cond.static t2.1 ∈ kBig) (hR : r_Rm t t2) (hz : t2.2.2.2.2.cells = 0 ∧ t2.2.2.2.2.slots = 0) (hM : r_M l w B t2 As σ (r_QI σ Qr)) (hn : As.length = n) (hst : st = As.reverse ++ rest) (h8 : (rest.map fun v => v.category).sum ≤ 8) (hc1 : cells ≤ t.2.2.2.2.cells) (hs1 : slots ≤ t.2.2.2.2.slots) (hdg : decode cc pc = .ok (.invokestatic index, 3))
    (kk : ∀ (z : Int32) (σ' : r_S), σ'.1 = σ.1 → Qr z σ' → r_W X w B nL cells slots Q (pc + 3) lv (.int z :: rest) σ') : r_W X w B nL cells slots Q pc lv st σ := by
  refine r_callS C E K w1 w2 hR hM hn hst h8 (by rw [hz.1]; exact hc1) (by rw [hz.2]; exact hs1) hdg (fun r σ' hq => ?_)
  obtain ⟨h1, z, rfl, hq⟩ := hq
  rw [hz.1, hz.2]
  exact kk z σ' h1 hq
theorem r_callSL {Qr : Int64 → r_S → Prop} (C : r_C X w B nL cc own) (E : r_E X l t) {t2 : r_T} {index n : Nat} (As : List Value) (K : r_Ky t2 n) (w1 : Cond.methodLink own index t2.1 ∈ kBig) (w2 : Cond.static t2.1 ∈ kBig) (hR : r_Rm t t2) (hz : t2.2.2.2.2.cells = 0 ∧ t2.2.2.2.2.slots = 0) (hM : r_M l w B t2 As σ (r_QL σ Qr)) (hn : As.length = n) (hst : st = As.reverse ++ rest) (h8 : (rest.map fun v => v.category).sum ≤ 8) (hc1 : cells ≤ t.2.2.2.2.cells) (hs1 : slots ≤ t.2.2.2.2.slots) (hdg : decode cc pc = .ok (.invokestatic index, 3))
    (kk : ∀ (z : Int64) (σ' : r_S), σ'.1 = σ.1 → Qr z σ' → r_W X w B nL cells slots Q (pc + 3) lv (.long z :: rest) σ') : r_W X w B nL cells slots Q pc lv st σ := by
  refine r_callS C E K w1 w2 hR hM hn hst h8 (by rw [hz.1]; exact hc1) (by rw [hz.2]; exact hs1) hdg (fun r σ' hq => ?_)
  obtain ⟨h1, z, rfl, hq⟩ := hq
  rw [hz.1, hz.2]
  exact kk z σ' h1 hq
theorem r_callSV {Qr : r_S → Prop} (C : r_C X w B nL cc own) (E : r_E X l t) {t2 : r_T} {index n : Nat} (As : List Value) (K : r_Ky t2 n) (w1 : Cond.methodLink own index t2.1 ∈ kBig) (w2 : Cond.static t2.1 ∈ kBig) (hR : r_Rm t t2) (hz : t2.2.2.2.2.cells = 0 ∧ t2.2.2.2.2.slots = 0) (hM : r_M l w B t2 As σ (r_QV σ Qr)) (hn : As.length = n) (hst : st = As.reverse ++ rest) (h8 : (rest.map fun v => v.category).sum ≤ 8) (hc1 : cells ≤ t.2.2.2.2.cells) (hs1 : slots ≤ t.2.2.2.2.slots) (hdg : decode cc pc = .ok (.invokestatic index, 3))
    (kk : ∀ (σ' : r_S), σ'.1 = σ.1 → Qr σ' → r_W X w B nL cells slots Q (pc + 3) lv rest σ') : r_W X w B nL cells slots Q pc lv st σ := by
  refine r_callS C E K w1 w2 hR hM hn hst h8 (by rw [hz.1]; exact hc1) (by rw [hz.2]; exact hs1) hdg (fun r σ' hq => ?_)
  obtain ⟨h1, rfl, hq⟩ := hq
  rw [hz.1, hz.2]
  exact kk σ' h1 hq
end RWE
