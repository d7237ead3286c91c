/-! My worlds: ONE state for all cells that were made since the law began. A cell has a number a (1, 2, ..); its address is B + a; 0 is null. -/
abbrev r_Sh : Type := Nat ⊕ (Nat × Nat)
abbrev r_S : Type := List r_Sh × (Nat → Nat → Int32) × (Nat → Nat → Int64) × (Nat → Nat → Nat)
abbrev r_V : Type := va_G × (Nat → ClassId)
abbrev r_T : Type := MethodName × ByteArray × Nat × Option FieldType × Room
abbrev r_X : Type := Program × Launch × Env × Room × State × MethodId × Array Value × List Frame × Method × Code
def r_at (σ : r_S) (a : Nat) : Option r_Sh := if a = 0 then none else σ.1[a - 1]?
def r_op (B r : Nat) : Option Nat := if r = 0 then none else some (B + r)
def r_fv (B : Nat) (σ : r_S) (ty : FieldType) (a k : Nat) : Value := match ty with
  | .long => .long (σ.2.2.1 a k)
  | .object _ => va_rf (r_op B (σ.2.2.2 a k))
  | .array _ => va_rf (r_op B (σ.2.2.2 a k))
  | _ => .int (σ.2.1 a k)
def r_ar (B : Nat) (σ : r_S) (ty : FieldType) (a n : Nat) : vp_A := (n, match ty with
  | .long => .inr (.inl (σ.2.2.1 a))
  | .object _ => .inr (.inr (.inr (.inr (fun j => r_op B (σ.2.2.2 a j)))))
  | .array _ => .inr (.inr (.inr (.inr (fun j => r_op B (σ.2.2.2 a j)))))
  | _ => .inl (σ.2.1 a))
def r_cell (dA : Nat → ClassId) (B : Nat) (σ : r_S) (a : Nat) (sh : r_Sh) : va_E := match sh with
  | .inl ci => .inr (ci, (List.range (kNf ci)).map (fun k => r_fv B σ (kTf ci k) a k))
  | .inr q => .inl (dA q.1, r_ar B σ (kTa q.1) a q.2)
def r_ws (dA : Nat → ClassId) (B : Nat) (σ : r_S) : va_W := σ.1.mapIdx (fun i sh => (B + (i + 1), r_cell dA B σ (i + 1) sh))
/-! writing one place -/
def r_ui (σ : r_S) (a k : Nat) (x : Int32) : r_S := (σ.1, fun a' k' => if a' = a ∧ k' = k then x else σ.2.1 a' k', σ.2.2)
def r_ul (σ : r_S) (a k : Nat) (x : Int64) : r_S := (σ.1, σ.2.1, fun a' k' => if a' = a ∧ k' = k then x else σ.2.2.1 a' k', σ.2.2.2)
def r_ur (σ : r_S) (a k : Nat) (x : Nat) : r_S := (σ.1, σ.2.1, σ.2.2.1, fun a' k' => if a' = a ∧ k' = k then x else σ.2.2.2 a' k')
def r_zr {α : Type} (z : α) (f : Nat → Nat → α) (a : Nat) : Nat → Nat → α := fun a' k => if a' = a then z else f a' k
def r_push (σ : r_S) (sh : r_Sh) : r_S := (σ.1 ++ [sh], r_zr 0 σ.2.1 (σ.1.length + 1), r_zr 0 σ.2.2.1 (σ.1.length + 1), r_zr 0 σ.2.2.2 (σ.1.length + 1))
theorem r_ws_len {d : Nat → ClassId} {B : Nat} {σ : r_S} : (r_ws d B σ).length = σ.1.length := by simp [r_ws]
theorem r_at_pos {σ : r_S} {a : Nat} {sh : r_Sh} (h : r_at σ a = some sh) : 0 < a ∧ σ.1[a - 1]? = some sh := by
  unfold r_at at h
  by_cases ha : a = 0
  · rw [if_pos ha] at h; cases h
  · rw [if_neg ha] at h; exact ⟨by omega, h⟩
theorem r_ws_at {d : Nat → ClassId} {B : Nat} {σ : r_S} {a : Nat} {sh : r_Sh} (h : r_at σ a = some sh) : (r_ws d B σ)[a - 1]? = some (B + a, r_cell d B σ a sh) := by
  obtain ⟨ha, h⟩ := r_at_pos h
  obtain ⟨i, rfl⟩ : ∃ i, a = i + 1 := ⟨a - 1, by omega⟩
  simp only [Nat.add_sub_cancel] at h ⊢
  simp [r_ws, h]
theorem r_ws_inv {d : Nat → ClassId} {B : Nat} {σ : r_S} {k : Nat} {q : Nat × va_E} (h : (r_ws d B σ)[k]? = some q) : ∃ sh, σ.1[k]? = some sh ∧ q = (B + (k + 1), r_cell d B σ (k + 1) sh) := by
  simp only [r_ws, List.getElem?_mapIdx, Option.map_eq_some_iff] at h
  obtain ⟨sh, h1, h2⟩ := h
  exact ⟨sh, h1, h2.symm⟩
theorem r_ws_D {d : Nat → ClassId} {B : Nat} {σ : r_S} : va_D (fun q => B < q) (r_ws d B σ) := by
  refine ⟨fun i j p q hp hq e => ?_, fun k q hq => ?_⟩
  · obtain ⟨_, _, rfl⟩ := r_ws_inv hp
    obtain ⟨_, _, rfl⟩ := r_ws_inv hq
    simp only at e
    omega
  · obtain ⟨_, _, rfl⟩ := r_ws_inv hq
    show B < B + (k + 1)
    omega
theorem r_cell_congr {d : Nat → ClassId} {B : Nat} {σ σ' : r_S} {a : Nat} {sh : r_Sh} (h1 : σ'.2.1 a = σ.2.1 a) (h2 : σ'.2.2.1 a = σ.2.2.1 a) (h3 : σ'.2.2.2 a = σ.2.2.2 a) : r_cell d B σ' a sh = r_cell d B σ a sh := by
  unfold r_cell
  cases sh <;> simp only [r_fv, r_ar, h1, h2, h3]
theorem r_ws_set {d : Nat → ClassId} {B : Nat} {σ σ' : r_S} {a : Nat} {sh : r_Sh} {e : va_E} (h1 : σ'.1 = σ.1) (hat : r_at σ a = some sh) (he : r_cell d B σ' a sh = e) (ho : ∀ a', a' ≠ a → σ'.2.1 a' = σ.2.1 a' ∧ σ'.2.2.1 a' = σ.2.2.1 a' ∧ σ'.2.2.2 a' = σ.2.2.2 a') : (r_ws d B σ).set (a - 1) (B + a, e) = r_ws d B σ' := by
  obtain ⟨ha, hs⟩ := r_at_pos hat
  obtain ⟨i, rfl⟩ : ∃ i, a = i + 1 := ⟨a - 1, by omega⟩
  simp only [Nat.add_sub_cancel] at hs ⊢
  have hlt : i < σ.1.length := (List.getElem?_eq_some_iff.mp hs).1
  apply List.ext_getElem?
  intro k
  rw [List.getElem?_set]
  by_cases hk : i = k
  · subst hk
    rw [if_pos rfl, if_pos (by rw [r_ws_len]; exact hlt)]
    simp [r_ws, h1, hs, he]
  · rw [if_neg hk]
    simp only [r_ws, h1, List.getElem?_mapIdx]
    cases σ.1[k]? with
    | none => rfl
    | some s2 =>
      obtain ⟨e1, e2, e3⟩ := ho (k + 1) (by omega)
      simp [r_cell_congr (d := d) (B := B) (sh := s2) e1 e2 e3]
theorem r_fs_set {n k : Nat} {f f' : Nat → Value} {v : Value} (h1 : f' k = v) (h2 : ∀ j, j ≠ k → f' j = f j) : ((List.range n).map f).set k v = (List.range n).map f' := by
  apply List.ext_getElem?
  intro j
  rw [List.getElem?_set]
  by_cases hj : k = j
  · subst hj
    rw [if_pos rfl]
    by_cases hn : k < n
    · simp [hn, h1]
    · simp [hn]
  · rw [if_neg hj]
    by_cases hn : j < n
    · simp [hn, h2 j (fun e => hj e.symm)]
    · simp [hn]
def r_isI (ty : FieldType) : Bool := match ty with
  | .long => false
  | .object _ => false
  | .array _ => false
  | _ => true
def r_isR (ty : FieldType) : Bool := match ty with
  | .object _ => true
  | .array _ => true
  | _ => false
theorem r_fv_I {B : Nat} {σ : r_S} {ty : FieldType} {a k : Nat} (h : r_isI ty = true) : r_fv B σ ty a k = .int (σ.2.1 a k) := by
  cases ty <;> first | rfl | cases h
theorem r_fv_R {B : Nat} {σ : r_S} {ty : FieldType} {a k : Nat} (h : r_isR ty = true) : r_fv B σ ty a k = va_rf (r_op B (σ.2.2.2 a k)) := by
  cases ty <;> first | rfl | cases h
theorem r_rf_ne {B r : Nat} (h : r ≠ 0) : va_rf (r_op B r) = .ref (B + r) := by simp [r_op, h, va_rf]
theorem r_rf_0 {B : Nat} : va_rf (r_op B 0) = .null := by simp [r_op, va_rf]
/-! the heap as the state says; a class's facts; a field's access -/
def r_H (w : r_V) (B : Nat) (σ : r_S) (H : Heap) : Prop := H.size = B + 1 + σ.1.length ∧ va_P w.1 kCl (r_ws w.2 B σ) H
def r_Cl (ci : Nat) (cn : String) (T : u_T) (N : Nat) : Prop := kCl[ci]? = some (cn, T, N) ∧ kNf ci = N ∧ (∀ q ∈ u_ws cn T N, q ∈ kBig) ∧ (∀ k, k < N → parseFieldDescriptor (T k).2.2.1 = some (kTf ci k)) ∧ ∀ a, a < N → ∀ b, b < N → a ≠ b → (T a).2.1 ≠ (T b).2.1
def r_Fa (own : String) (index ci k : Nat) (fin : Bool) : Prop := ∃ (cn : String) (T : u_T) (N : Nat) (ref nm ds : String), r_Cl ci cn T N ∧ k < N ∧ T k = (ref, nm, ds, fin) ∧ Cond.fieldLink own index ref nm ds ∈ kBig
def r_N (U : State) : Prop := va_Nw (.methodLinkNest RX7 9 yX0_init RX7) U ∧ va_Nw (.methodLinkNest RX7 18 yX4_init RX7) U ∧ va_Nw (.methodLinkNest RX7 25 yX3_init RX7) U ∧ va_Nw (.methodLinkNest RX7 32 yX1_init RX7) U ∧ va_AO "SlotRadio$Station" U
def r_K (w : r_V) (U : State) : Prop := va_K w.1 kCl (kTys w.2) U ∧ r_N U
theorem r_K.warm {w : r_V} {s U : State} (hW : s.WarmedH U.vm) (h : r_K w s) : r_K w U := ⟨va_K.moved hW.alike h.1, va_Nw.warmM hW h.2.1, va_Nw.warmM hW h.2.2.1, va_Nw.warmM hW h.2.2.2.1, va_Nw.warmM hW h.2.2.2.2.1, va_AO.moved hW.alike h.2.2.2.2.2⟩
theorem r_K.calling {w : r_V} {U : State} {g : JFrame} {mk : MethodId} {a : Array Value} (h : r_K w U) : r_K w (U.calling g mk a) := ⟨va_K.moved (u := U) (U := U.calling g mk a) (Vm.Alike.refl U.vm) h.1, va_Nw.same (u := U) rfl rfl h.2.1, va_Nw.same (u := U) rfl rfl h.2.2.1, va_Nw.same (u := U) rfl rfl h.2.2.2.1, va_Nw.same (u := U) rfl rfl h.2.2.2.2.1, va_AO.moved (u := U) (U := U.calling g mk a) (Vm.Alike.refl U.vm) h.2.2.2.2.2⟩
def r_U (w : r_V) (B : Nat) (σ : r_S) (U : State) : Prop := r_H w B σ U.heap ∧ r_K w U
def r_Qc (w : r_V) (B : Nat) (Q : Option Value → r_S → Prop) : Array Value → State → Outcome → State → Prop := fun _ st oc t => (∃ (r : Option Value) (σ' : r_S), oc = .returned r ∧ Q r σ' ∧ r_U w B σ' t) ∧ va_F (fun q => B < q) st t
def r_M (l : Launch) (w : r_V) (B : Nat) (t : r_T) (as : List Value) (σ : r_S) (Q : Option Value → r_S → Prop) : Prop :=
  Met l t.1 (Cond.code t.1 t.2.1 t.2.2.1 t.2.2.2.1 :: kBig) t.2.2.2.2 (fun a U => a = as.toArray ∧ B < U.heap.size ∧ r_U w B σ U) (r_Qc w B Q) t.2.2.2.2.cells t.2.2.2.2.slots (fun q => B < q)
/-! the context of a walk; the walk -/
def r_C (X : r_X) (w : r_V) (B nL : Nat) (cc : ByteArray) (own : String) : Prop := match X with
  | (p, _, _, _, s, m, args, _, _, c) => CallFix p m c cc nL s args kBig own ∧ r_K w s ∧ B < s.heap.size
def r_W (X : r_X) (w : r_V) (B nL cells slots : Nat) (Q : State → Prop) (pc : Nat) (lv : List (Nat × Value)) (st : List Value) (σ : r_S) : Prop := match X with
  | (p, l, e, R, s, m, args, below, meth, c) => ∀ (H : Heap) (locs : List Loc) (la : Array Slot), r_H w B σ H → va_S (fun q => B < q) s.heap H locs → lv_has la nL lv → W p l e R s m args below meth c H locs cells slots Q (F0 m pc la st)
/-- what a method's frame is, behind its entry -/
def r_E (X : r_X) (l : Launch) (t : r_T) : Prop := match X with
  | (_, l', _, R, _, _, _, _, meth, _) => l' = l ∧ R = t.2.2.2.2 ∧ meth.sig.returnType = t.2.2.2.1 ∧ meth.locks = false ∧ meth.name = t.1.name
def r_Z (X : r_X) (w : r_V) (B : Nat) (t : r_T) (Q : Option Value → r_S → Prop) : State → Prop := match X with
  | (_, _, _, _, s, _, args, below, _, _) => MQ below (r_Qc w B Q) args s t.2.2.2.2.cells t.2.2.2.2.slots (fun q => B < q)
