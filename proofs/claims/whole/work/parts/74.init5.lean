/-! the state when both are made -/
def lkI (a k : Nat) : Nat → Int32 → List Op → Int32
  | _, v, [] => v
  | c, v, .inl _ :: L => lkI a k (c + 1) (if a = c + 1 then 0 else v) L
  | c, v, .inr (a', k', .inl x) :: L => lkI a k c (if a = a' ∧ k = k' then x else v) L
  | c, v, .inr (_, _, .inr _) :: L => lkI a k c v L
def lkL (a k : Nat) : Nat → Int64 → List Op → Int64
  | _, v, [] => v
  | c, v, .inl _ :: L => lkL a k (c + 1) (if a = c + 1 then 0 else v) L
  | c, v, .inr (a', k', .inr (.inl x)) :: L => lkL a k c (if a = a' ∧ k = k' then x else v) L
  | c, v, .inr (_, _, .inl _) :: L => lkL a k c v L
  | c, v, .inr (_, _, .inr (.inr _)) :: L => lkL a k c v L
def lkR (a k : Nat) : Nat → Nat → List Op → Nat
  | _, v, [] => v
  | c, v, .inl _ :: L => lkR a k (c + 1) (if a = c + 1 then 0 else v) L
  | c, v, .inr (a', k', .inr (.inr x)) :: L => lkR a k c (if a = a' ∧ k = k' then x else v) L
  | c, v, .inr (_, _, .inl _) :: L => lkR a k c v L
  | c, v, .inr (_, _, .inr (.inl _)) :: L => lkR a k c v L
def shO : List Op → List r_Sh
  | [] => []
  | .inl sh :: L => sh :: shO L
  | .inr _ :: L => shO L
section IR
variable {l : Launch} {w : r_V} {B m c N n a k : Nat} {σ s8 : r_S}
theorem plen1 {sh : r_Sh} : (r_push σ sh).1.length = σ.1.length + 1 := push_len rfl rfl
theorem rn_I : ∀ (L : List Op) (σ : r_S), (rn L σ).2.1 a k = lkI a k σ.1.length (σ.2.1 a k) L
  | [], _ => rfl
  | .inl sh :: L, σ => by
    show (rn L (r_push σ sh)).2.1 a k = lkI a k (σ.1.length + 1) (if a = σ.1.length + 1 then 0 else σ.2.1 a k) L
    rw [rn_I L, plen1]
    rfl
  | .inr (a', k', .inl x) :: L, σ => rn_I L (r_ui σ a' k' x)
  | .inr (a', k', .inr (.inl x)) :: L, σ => rn_I L (r_ul σ a' k' x)
  | .inr (a', k', .inr (.inr x)) :: L, σ => rn_I L (r_ur σ a' k' x)
theorem rn_L : ∀ (L : List Op) (σ : r_S), (rn L σ).2.2.1 a k = lkL a k σ.1.length (σ.2.2.1 a k) L
  | [], _ => rfl
  | .inl sh :: L, σ => by
    show (rn L (r_push σ sh)).2.2.1 a k = lkL a k (σ.1.length + 1) (if a = σ.1.length + 1 then 0 else σ.2.2.1 a k) L
    rw [rn_L L, plen1]
    rfl
  | .inr (a', k', .inl x) :: L, σ => rn_L L (r_ui σ a' k' x)
  | .inr (a', k', .inr (.inl x)) :: L, σ => rn_L L (r_ul σ a' k' x)
  | .inr (a', k', .inr (.inr x)) :: L, σ => rn_L L (r_ur σ a' k' x)
theorem rn_R : ∀ (L : List Op) (σ : r_S), (rn L σ).2.2.2 a k = lkR a k σ.1.length (σ.2.2.2 a k) L
  | [], _ => rfl
  | .inl sh :: L, σ => by
    show (rn L (r_push σ sh)).2.2.2 a k = lkR a k (σ.1.length + 1) (if a = σ.1.length + 1 then 0 else σ.2.2.2 a k) L
    rw [rn_R L, plen1]
    rfl
  | .inr (a', k', .inl x) :: L, σ => rn_R L (r_ui σ a' k' x)
  | .inr (a', k', .inr (.inl x)) :: L, σ => rn_R L (r_ul σ a' k' x)
  | .inr (a', k', .inr (.inr x)) :: L, σ => rn_R L (r_ur σ a' k' x)
theorem rn_S : ∀ (L : List Op) (σ : r_S), (rn L σ).1 = σ.1 ++ shO L
  | [], σ => by
    show σ.1 = σ.1 ++ []
    rw [List.append_nil]
  | .inl sh :: L, σ => by
    show (rn L (r_push σ sh)).1 = σ.1 ++ (sh :: shO L)
    rw [rn_S L]
    show (σ.1 ++ [sh]) ++ shO L = _
    rw [List.append_assoc]
    rfl
  | .inr (a', k', .inl x) :: L, σ => rn_S L (r_ui σ a' k' x)
  | .inr (a', k', .inr (.inl x)) :: L, σ => rn_S L (r_ul σ a' k' x)
  | .inr (a', k', .inr (.inr x)) :: L, σ => rn_S L (r_ur σ a' k' x)
def zI (a : Nat) (o : Op) : Bool := match o with
  | .inr (a', _, .inl _) => !decide (a' = a)
  | _ => true
def zL (a : Nat) (o : Op) : Bool := match o with
  | .inr (a', _, .inr (.inl _)) => !decide (a' = a)
  | _ => true
theorem lk_zI : ∀ (L : List Op) (c : Nat), L.all (zI a) = true → lkI a k c 0 L = 0
  | [], _, _ => rfl
  | .inl sh :: L, c, h => by
    rw [List.all_cons, Bool.and_eq_true] at h
    show lkI a k (c + 1) (if a = c + 1 then 0 else 0) L = 0
    rw [show (if a = c + 1 then (0 : Int32) else 0) = 0 by split <;> rfl]
    exact lk_zI L (c + 1) h.2
  | .inr (a', k', .inl x) :: L, c, h => by
    rw [List.all_cons, Bool.and_eq_true] at h
    have h1 := h.1
    simp only [zI, Bool.not_eq_true', decide_eq_false_iff_not] at h1
    show lkI a k c (if a = a' ∧ k = k' then x else 0) L = 0
    rw [if_neg (fun q => h1 q.1.symm)]
    exact lk_zI L c h.2
  | .inr (a', k', .inr (.inl x)) :: L, c, h => by
    rw [List.all_cons, Bool.and_eq_true] at h
    exact lk_zI L c h.2
  | .inr (a', k', .inr (.inr x)) :: L, c, h => by
    rw [List.all_cons, Bool.and_eq_true] at h
    exact lk_zI L c h.2
theorem lk_zL : ∀ (L : List Op) (c : Nat), L.all (zL a) = true → lkL a k c 0 L = 0
  | [], _, _ => rfl
  | .inl sh :: L, c, h => by
    rw [List.all_cons, Bool.and_eq_true] at h
    show lkL a k (c + 1) (if a = c + 1 then 0 else 0) L = 0
    rw [show (if a = c + 1 then (0 : Int64) else 0) = 0 by split <;> rfl]
    exact lk_zL L (c + 1) h.2
  | .inr (a', k', .inr (.inl x)) :: L, c, h => by
    rw [List.all_cons, Bool.and_eq_true] at h
    have h1 := h.1
    simp only [zL, Bool.not_eq_true', decide_eq_false_iff_not] at h1
    show lkL a k c (if a = a' ∧ k = k' then x else 0) L = 0
    rw [if_neg (fun q => h1 q.1.symm)]
    exact lk_zL L c h.2
  | .inr (a', k', .inl x) :: L, c, h => by
    rw [List.all_cons, Bool.and_eq_true] at h
    exact lk_zL L c h.2
  | .inr (a', k', .inr (.inr x)) :: L, c, h => by
    rw [List.all_cons, Bool.and_eq_true] at h
    exact lk_zL L c h.2
def oC (n : Nat) : List Op := hL20 n ++ oSts n n
def s1_ : r_S := r_push z0 (.inl 7)
def s8_ (n : Nat) : r_S := r_push (rn (oC n) s1_) (.inl 8)
def F_ (n : Nat) : r_S := rn (oLoop (mOf n) 6) (rn (mL43 (mOf n) ++ [oI (mOf n) 1 (nI n)]) (s8_ n))
def o8 (n : Nat) : List Op := oP (.inl 7) :: (oC n ++ [oP (.inl 8)])
def oA (n : Nat) : List Op := o8 n ++ ((mL43 (mOf n) ++ [oI (mOf n) 1 (nI n)]) ++ oLoop (mOf n) 6)
theorem rn_cons {o : Op} {L : List Op} : rn (o :: L) σ = rn L (ap σ o) := rfl
theorem ap_P {sh : r_Sh} : ap σ (oP sh) = r_push σ sh := rfl
theorem s8_eq : s8_ n = rn (o8 n) z0 := by
  unfold s8_ s1_ o8
  rw [push_app, rn_cons, ap_P]
theorem F_eq : F_ n = rn (oA n) z0 := by
  unfold F_ oA
  rw [s8_eq, rn_app (L := o8 n), rn_app (L := mL43 (mOf n) ++ [oI (mOf n) 1 (nI n)]) (M := oLoop (mOf n) 6)]
def qI (n a k : Nat) : Int32 := lkI a k 0 0 (oA n)
def qL (n a k : Nat) : Int64 := lkL a k 0 0 (oA n)
def qR (n a k : Nat) : Nat := lkR a k 0 0 (oA n)
theorem F_I : (F_ n).2.1 a k = qI n a k := by rw [F_eq, rn_I]; rfl
theorem F_L : (F_ n).2.2.1 a k = qL n a k := by rw [F_eq, rn_L]; rfl
theorem F_R : (F_ n).2.2.2 a k = qR n a k := by rw [F_eq, rn_R]; rfl
theorem F_S (hn : okN n) : (F_ n).1 = shp n := by
  rw [F_eq, rn_S]
  show shO (oA n) = shp n
  refine hn.cases (P := fun n => shO (oA n) = shp n) ?_ ?_ ?_ ?_ ?_ <;> decide +kernel
theorem s8_len (hn : okN n) : (s8_ n).1.length = mOf n := by
  rw [s8_eq, rn_S]
  show (shO (o8 n)).length = mOf n
  refine hn.cases (P := fun n => (shO (o8 n)).length = mOf n) ?_ ?_ ?_ ?_ ?_ <;> decide +kernel
theorem s8_at (hn : okN n) : r_at (s8_ n) (mOf n) = some (.inl 8) := by
  have hl : (rn (oC n) s1_).1.length + 1 = mOf n := by
    rw [← s8_len hn]
    exact plen1.symm
  rw [← hl]
  exact r_at_new
/-- the reference's cells, by the rows of deeds -/
def ckM (n : Nat) (L : List Op) : Bool := moTab.all (fun q => decide (lkR (mOf n) q.1 0 0 L = mOf n + q.2.1) && decide ((shO L)[mOf n + q.2.1 - 1]? = some (.inr (q.2.2.1, q.2.2.2))))
theorem Mo_of {L : List Op} (hat : r_at (rn L z0) (mOf n) = some (.inl 8)) (h : ckM n L = true) : Mo (mOf n) (rn L z0) := by
  refine ⟨hat, fun q hq => ?_⟩
  have h1 := List.all_eq_true.mp h q hq
  simp only [Bool.and_eq_true, decide_eq_true_eq] at h1
  refine ⟨?_, ?_⟩
  · show (rn L z0).2.2.2 (mOf n) q.1 = _
    rw [rn_R]
    exact h1.1
  · unfold r_at
    rw [if_neg (by unfold mOf; omega), rn_S]
    exact h1.2
theorem Mo_43 (hn : okN n) : Mo (mOf n) (rn (mL43 (mOf n)) (s8_ n)) := by
  rw [s8_eq, ← rn_app]
  refine Mo_of ?_ ?_
  · rw [rn_app, ← s8_eq]
    exact rn_at _ _ (s8_at hn)
  · refine hn.cases (P := fun n => ckM n (o8 n ++ mL43 (mOf n)) = true) ?_ ?_ ?_ ?_ ?_ <;> decide +kernel
theorem Mo_F (hn : okN n) : Mo (mOf n) (F_ n) := by
  rw [F_eq]
  refine Mo_of ?_ ?_
  · rw [← F_eq]
    exact rn_at _ _ (rn_at _ _ (s8_at hn))
  · refine hn.cases (P := fun n => ckM n (oA n) = true) ?_ ?_ ?_ ?_ ?_ <;> decide +kernel
end IR
