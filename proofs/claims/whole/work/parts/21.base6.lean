/-! constructors: the shapes grow at their end -/
def r_Ex (σ σ' : r_S) : Prop := ∃ ext : List r_Sh, σ'.1 = σ.1 ++ ext
theorem r_Ex.of_eq {σ σ' : r_S} (h : σ'.1 = σ.1) : r_Ex σ σ' := ⟨[], by rw [h, List.append_nil]⟩
theorem r_Ex.trans {σ σ' σ'' : r_S} (h : r_Ex σ σ') (h2 : r_Ex σ' σ'') : r_Ex σ σ'' := by
  obtain ⟨e1, h1⟩ := h
  obtain ⟨e2, h2⟩ := h2
  exact ⟨e1 ++ e2, by rw [h2, h1, List.append_assoc]⟩
theorem r_Ex.push {σ : r_S} {sh : r_Sh} : r_Ex σ (r_push σ sh) := ⟨[sh], rfl⟩
theorem r_at_ext {σ σ' : r_S} {e : Nat} {sh : r_Sh} (hx : r_Ex σ σ') (h : r_at σ e = some sh) : r_at σ' e = some sh := by
  obtain ⟨ext, hx⟩ := hx
  obtain ⟨h1, h2⟩ := r_at_pos h
  have hl : e - 1 < σ.1.length := (List.getElem?_eq_some_iff.mp h2).1
  unfold r_at
  rw [if_neg (by omega), hx, List.getElem?_append_left hl]
  exact h2
theorem r_at_new {σ : r_S} {sh : r_Sh} : r_at (r_push σ sh) (σ.1.length + 1) = some sh := by
  unfold r_at
  rw [if_neg (by omega)]
  show (σ.1 ++ [sh])[σ.1.length + 1 - 1]? = _
  simp
def r_QN (σ0 : r_S) (Q : r_S → Prop) : Option Value → r_S → Prop := fun o σ' => r_Ex σ0 σ' ∧ o = none ∧ Q σ'
section RWF
variable {X : r_X} {w : r_V} {B nL cells slots : Nat} {Q : State → Prop} {cc : ByteArray} {own : String} {pc : Nat} {lv : List (Nat × Value)} {rest st : List Value} {σ : r_S} {l : Launch} {t : r_T}
theorem r_vretN {σ0 : r_S} {Qr : r_S → Prop} (C : r_C X w B nL cc own) (E : r_E X l t) (hr : t.2.2.2.1 = none) (hc : cells ≤ t.2.2.2.2.cells) (hs : slots ≤ t.2.2.2.2.slots) (hdg : decode cc pc = .ok (.return_, 1)) (h0 : r_Ex σ0 σ) (hq : Qr σ) : r_W X w B nL cells slots (r_Z X w B t (r_QN σ0 Qr)) pc lv [] σ := r_vret C E hr hc hs hdg ⟨h0, rfl, hq⟩
theorem r_callN {Qr : r_S → Prop} (C : r_C X w B nL cc own) (E : r_E X l t) {t2 : r_T} {a index n : Nat} (As : List Value) (K : r_Ky t2 n) (hret : t2.2.2.2.1 = none) (hnm : t2.1.name = "<init>") (w1 : Cond.methodLink own index t2.1 ∈ kBig) (w2 : Cond.instanceMethod t2.1 ∈ kBig) (hR : r_Rm t t2) (hM : r_M l w B t2 (.ref (B + a) :: As) σ (r_QN σ Qr)) (hn : As.length = n) (hst : st = As.reverse ++ .ref (B + a) :: rest) (h8 : (rest.map fun v => v.category).sum ≤ 8) (hc1 : cells + t2.2.2.2.2.cells ≤ t.2.2.2.2.cells) (hs1 : slots + t2.2.2.2.2.slots ≤ t.2.2.2.2.slots) (hdg : decode cc pc = .ok (.invokespecial index, 3))
    (kk : ∀ (σ' : r_S), r_Ex σ σ' → Qr σ' → r_W X w B nL (cells + t2.2.2.2.2.cells) (slots + t2.2.2.2.2.slots) Q (pc + 3) lv rest σ') : r_W X w B nL cells slots Q pc lv st σ := by
  refine r_callI C E K hret hnm w1 w2 hR hM hn hst h8 hc1 hs1 hdg (fun r σ' hq => ?_)
  obtain ⟨h1, rfl, hq⟩ := hq
  exact kk σ' h1 hq
theorem r_callNN {Qr : r_S → Prop} (C : r_C X w B nL cc own) (E : r_E X l t) {t2 : r_T} {a index n : Nat} (As : List Value) {host : String} (K : r_Ky t2 n) (hret : t2.2.2.2.1 = none) (hnm : t2.1.name = "<init>") (w1 : ∀ U : State, r_N U → va_Nw (.methodLinkNest own index t2.1 host) U) (w2 : Cond.instanceMethod t2.1 ∈ kBig) (hR : r_Rm t t2) (hM : r_M l w B t2 (.ref (B + a) :: As) σ (r_QN σ Qr)) (hn : As.length = n) (hst : st = As.reverse ++ .ref (B + a) :: rest) (h8 : (rest.map fun v => v.category).sum ≤ 8) (hc1 : cells + t2.2.2.2.2.cells ≤ t.2.2.2.2.cells) (hs1 : slots + t2.2.2.2.2.slots ≤ t.2.2.2.2.slots) (hdg : decode cc pc = .ok (.invokespecial index, 3))
    (kk : ∀ (σ' : r_S), r_Ex σ σ' → Qr σ' → r_W X w B nL (cells + t2.2.2.2.2.cells) (slots + t2.2.2.2.2.slots) Q (pc + 3) lv rest σ') : r_W X w B nL cells slots Q pc lv st σ := by
  refine r_callIN C E K hret hnm w1 w2 hR hM hn hst h8 hc1 hs1 hdg (fun r σ' hq => ?_)
  obtain ⟨h1, rfl, hq⟩ := hq
  exact kk σ' h1 hq
theorem r_putFI (C : r_C X w B nL cc own) (E : r_E X l t) (hini : t.1.name = "<init>") {a ci k index : Nat} {x : Int32} (hat : r_at σ a = some (.inl ci)) (F : r_Fa own index ci k true) (hcn : (kCl[ci]?).map (fun q => (q.2.1 k).1) = some own) (hI : r_isI (kTf ci k) = true) (hn : narrow (kTf ci k) (.int x) = .int x) (hf : fits (kTf ci k) (.int x) = true) (hdg : decode cc pc = .ok (.putfield index, 3)) (kk : r_W X w B nL cells slots Q (pc + 3) lv rest (r_ui σ a k x)) : r_W X w B nL cells slots Q pc lv (.int x :: .ref (B + a) :: rest) σ :=
  r_putF C E hini hat F hcn (σ' := r_ui σ a k x) (by rw [r_fv_I hI]; simp [r_ui]) hn hf rfl (fun a' k' h => ⟨by simp [r_ui, h], rfl, rfl⟩) hdg kk
theorem r_putFR (C : r_C X w B nL cc own) (E : r_E X l t) (hini : t.1.name = "<init>") {a ci k index r : Nat} (hat : r_at σ a = some (.inl ci)) (F : r_Fa own index ci k true) (hcn : (kCl[ci]?).map (fun q => (q.2.1 k).1) = some own) (hI : r_isR (kTf ci k) = true) (hr : r ≠ 0) (hdg : decode cc pc = .ok (.putfield index, 3)) (kk : r_W X w B nL cells slots Q (pc + 3) lv rest (r_ur σ a k r)) : r_W X w B nL cells slots Q pc lv (.ref (B + r) :: .ref (B + a) :: rest) σ :=
  r_putF C E hini hat F hcn (σ' := r_ur σ a k r) (by rw [r_fv_R hI, ← r_rf_ne hr]; simp [r_ur]) (by cases hk : kTf ci k <;> first | (rw [hk] at hI; cases hI; done) | rfl) (by cases hk : kTf ci k <;> first | (rw [hk] at hI; cases hI; done) | rfl) rfl (fun a' k' h => ⟨rfl, rfl, by simp [r_ur, h]⟩) hdg kk
end RWF
