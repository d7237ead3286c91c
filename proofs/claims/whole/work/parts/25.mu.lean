/-! The reference's state: ints and longs by group (0: the object's own fields by number; 1 ..: its arrays in the order of their making) -/
abbrev Mu : Type := (Nat → Nat → Int32) × (Nat → Nat → Int64)
def mu (m : Nat) (σ : r_S) : Mu := (fun g i => r_gi σ (m + g) i, fun g i => r_gl σ (m + g) i)
def ui (μ : Mu) (g i : Nat) (x : Int32) : Mu := (fun g' i' => if g' = g ∧ i' = i then x else μ.1 g' i', μ.2)
def ul (μ : Mu) (g i : Nat) (x : Int64) : Mu := (μ.1, fun g' i' => if g' = g ∧ i' = i then x else μ.2 g' i')
/-- field, group, array type, length -/
def moTab : List (Nat × Nat × Nat × Nat) := [(4, 1, 2, 36), (6, 2, 0, 301), (7, 3, 0, 301), (8, 4, 0, 301), (9, 5, 0, 301), (10, 6, 2, 301), (11, 7, 2, 301), (12, 8, 0, 36), (13, 9, 0, 36), (16, 10, 0, 400), (18, 11, 0, 40), (19, 12, 1, 40), (20, 13, 0, 40), (22, 14, 0, 700), (23, 15, 0, 700), (24, 16, 1, 700), (25, 17, 0, 6), (26, 18, 0, 6), (27, 19, 0, 6), (28, 20, 0, 6), (29, 21, 0, 6), (30, 22, 1, 6), (31, 23, 1, 6), (32, 24, 0, 6), (33, 25, 0, 6), (34, 26, 1, 6), (35, 27, 0, 6), (36, 28, 0, 6), (37, 29, 0, 6), (38, 30, 0, 6), (39, 31, 2, 6), (40, 32, 1, 6), (41, 33, 0, 24), (42, 34, 0, 24), (43, 35, 0, 6), (44, 36, 0, 6), (45, 37, 0, 6), (46, 38, 0, 6), (47, 39, 1, 6), (48, 40, 1, 6), (49, 41, 0, 6), (50, 42, 0, 6), (51, 43, 1, 36)]
def Mo (m : Nat) (σ : r_S) : Prop := r_at σ m = some (.inl 8) ∧ ∀ q ∈ moTab, r_gr σ m q.1 = m + q.2.1 ∧ r_at σ (m + q.2.1) = some (.inr (q.2.2.1, q.2.2.2))
/-- nothing below m and no reference has changed -/
def Fr (m : Nat) (σ σ' : r_S) : Prop := (∀ a k, r_gr σ' a k = r_gr σ a k) ∧ ∀ a k, a < m → r_gi σ' a k = r_gi σ a k ∧ r_gl σ' a k = r_gl σ a k
theorem Fr.rf {m : Nat} {σ : r_S} : Fr m σ σ := ⟨fun _ _ => rfl, fun _ _ _ => ⟨rfl, rfl⟩⟩
theorem Fr.trans {m : Nat} {σ σ' σ'' : r_S} (h : Fr m σ σ') (h2 : Fr m σ' σ'') : Fr m σ σ'' := ⟨fun a k => (h2.1 a k).trans (h.1 a k), fun a k ha => ⟨(h2.2 a k ha).1.trans (h.2 a k ha).1, (h2.2 a k ha).2.trans (h.2 a k ha).2⟩⟩
theorem Fr.ui {m g i : Nat} {σ σ' : r_S} {x : Int32} (h : Fr m σ σ') : Fr m σ (r_ui σ' (m + g) i x) := ⟨fun a k => h.1 a k, fun a k ha => ⟨by rw [gi_ui, if_neg (by omega)]; exact (h.2 a k ha).1, (h.2 a k ha).2⟩⟩
theorem Fr.ul {m g i : Nat} {σ σ' : r_S} {x : Int64} (h : Fr m σ σ') : Fr m σ (r_ul σ' (m + g) i x) := ⟨fun a k => h.1 a k, fun a k ha => ⟨(h.2 a k ha).1, by rw [gl_ul, if_neg (by omega)]; exact (h.2 a k ha).2⟩⟩
theorem Mo.fr {m : Nat} {σ σ' : r_S} (h : Mo m σ) (hs : σ'.1 = σ.1) (hf : ∀ a k, r_gr σ' a k = r_gr σ a k) : Mo m σ' := ⟨r_atT hs h.1, fun q hq => ⟨by rw [hf]; exact (h.2 q hq).1, r_atT hs (h.2 q hq).2⟩⟩
theorem mu_ui {m g i : Nat} {σ : r_S} {x : Int32} : mu m (r_ui σ (m + g) i x) = ui (mu m σ) g i x := by
  refine Prod.ext (funext fun g' => funext fun i' => ?_) rfl
  simp only [mu, ui, gi_ui]
  by_cases h : g' = g ∧ i' = i
  · rw [if_pos h, if_pos ⟨by omega, h.2⟩]
  · rw [if_neg h, if_neg (fun q => h ⟨by omega, q.2⟩)]
theorem mu_ul {m g i : Nat} {σ : r_S} {x : Int64} : mu m (r_ul σ (m + g) i x) = ul (mu m σ) g i x := by
  refine Prod.ext rfl (funext fun g' => funext fun i' => ?_)
  simp only [mu, ul, gl_ul]
  by_cases h : g' = g ∧ i' = i
  · rw [if_pos h, if_pos ⟨by omega, h.2⟩]
  · rw [if_neg h, if_neg (fun q => h ⟨by omega, q.2⟩)]
def r_Wm (X : r_X) (w : r_V) (B nL m : Nat) (σ0 : r_S) (Z : State → Prop) (pc : Nat) (lv : List (Nat × Value)) (st : List Value) (μ : Mu) : Prop := ∀ σ : r_S, σ.1 = σ0.1 → Mo m σ → Fr m σ0 σ → mu m σ = μ → r_W X w B nL 0 0 Z pc lv st σ
def ZMI (m : Nat) (σ : r_S) (Q : Int32 → Mu → Prop) : Option Value → r_S → Prop := r_QI σ (fun z σ' => Fr m σ σ' ∧ Q z (mu m σ'))
def ZML (m : Nat) (σ : r_S) (Q : Int64 → Mu → Prop) : Option Value → r_S → Prop := r_QL σ (fun z σ' => Fr m σ σ' ∧ Q z (mu m σ'))
def ZMV (m : Nat) (σ : r_S) (Q : Mu → Prop) : Option Value → r_S → Prop := r_QV σ (fun σ' => Fr m σ σ' ∧ Q (mu m σ'))
def r_MI (l : Launch) (w : r_V) (B m : Nat) (t : r_T) (as : List Value) (μ : Mu) (Q : Int32 → Mu → Prop) : Prop := ∀ σ : r_S, Mo m σ → mu m σ = μ → r_M l w B t (.ref (B + m) :: as) σ (ZMI m σ Q)
def r_ML (l : Launch) (w : r_V) (B m : Nat) (t : r_T) (as : List Value) (μ : Mu) (Q : Int64 → Mu → Prop) : Prop := ∀ σ : r_S, Mo m σ → mu m σ = μ → r_M l w B t (.ref (B + m) :: as) σ (ZML m σ Q)
def r_MV (l : Launch) (w : r_V) (B m : Nat) (t : r_T) (as : List Value) (μ : Mu) (Q : Mu → Prop) : Prop := ∀ σ : r_S, Mo m σ → mu m σ = μ → r_M l w B t (.ref (B + m) :: as) σ (ZMV m σ Q)
section RWM
variable {l : Launch} {w : r_V} {B m : Nat} {t : r_T} {as : List Value} {μ : Mu}
theorem r_MI.of {Q : Int32 → Mu → Prop} (hy : plainName t.1.cls = true) (hlen : ∀ a : Nat, (lg_sl (.ref a :: as)).length ≤ t.2.2.1) (h : ∀ (X : r_X) (σ0 : r_S), r_C X w B t.2.2.1 t.2.1 t.1.cls → r_E X l t → r_Wm X w B t.2.2.1 m σ0 (r_Z X w B t (ZMI m σ0 Q)) 0 (lv_args 0 (.ref (B + m) :: as)) [] μ) : r_MI l w B m t as μ Q := fun σ hM hμ => r_enter hy (hlen _) (fun X C E => h X σ C E σ rfl hM Fr.rf hμ)
theorem r_ML.of {Q : Int64 → Mu → Prop} (hy : plainName t.1.cls = true) (hlen : ∀ a : Nat, (lg_sl (.ref a :: as)).length ≤ t.2.2.1) (h : ∀ (X : r_X) (σ0 : r_S), r_C X w B t.2.2.1 t.2.1 t.1.cls → r_E X l t → r_Wm X w B t.2.2.1 m σ0 (r_Z X w B t (ZML m σ0 Q)) 0 (lv_args 0 (.ref (B + m) :: as)) [] μ) : r_ML l w B m t as μ Q := fun σ hM hμ => r_enter hy (hlen _) (fun X C E => h X σ C E σ rfl hM Fr.rf hμ)
theorem r_MV.of {Q : Mu → Prop} (hy : plainName t.1.cls = true) (hlen : ∀ a : Nat, (lg_sl (.ref a :: as)).length ≤ t.2.2.1) (h : ∀ (X : r_X) (σ0 : r_S), r_C X w B t.2.2.1 t.2.1 t.1.cls → r_E X l t → r_Wm X w B t.2.2.1 m σ0 (r_Z X w B t (ZMV m σ0 Q)) 0 (lv_args 0 (.ref (B + m) :: as)) [] μ) : r_MV l w B m t as μ Q := fun σ hM hμ => r_enter hy (hlen _) (fun X C E => h X σ C E σ rfl hM Fr.rf hμ)
end RWM
section RWMA
variable {X : r_X} {w : r_V} {B nL cells slots : Nat} {Q : State → Prop} {cc : ByteArray} {own : String} {pc : Nat} {lv : List (Nat × Value)} {rest st : List Value} {σ : r_S} {m : Nat}
/-- an array of the reference, by its field -/
theorem r_getA (C : r_C X w B nL cc own) (hM : Mo m σ) {k index g ti n : Nat} {fin : Bool} (hq : (k, g, ti, n) ∈ moTab) (F : r_Fa own index 8 k fin) (hR : r_isR (kTf 8 k) = true) (hdg : decode cc pc = .ok (.getfield index, 3)) (kk : r_W X w B nL cells slots Q (pc + 3) lv (.ref (B + (m + g)) :: rest) σ) : r_W X w B nL cells slots Q pc lv (.ref (B + m) :: rest) σ := by
  obtain ⟨h1, h2⟩ := hM.2 _ hq
  refine r_getR C hM.1 F hR ?_ hdg ?_
  · show r_gr σ m k ≠ 0
    rw [h1]
    exact r_atN h2
  · show r_W X w B nL cells slots Q (pc + 3) lv (.ref (B + r_gr σ m k) :: rest) σ
    rw [h1]
    exact kk
end RWMA
