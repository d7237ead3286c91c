/-! ROWS: a row at r holds the payloads L; what a method leaves alone -/
def Rw (n : Nat) (κ : Ku) (r N : Nat) (L : List Int32) : Prop := atS n r = some (.inl 5) ∧ atS n (r + 1) = some (.inr (0, N)) ∧ L.length ≤ N ∧ κ.1 r 1 = nI L.length ∧ ∀ k, k < L.length → κ.1 (r + 1) k = L.getD k 0
/-- only ints of these cells have changed -/
def OI (as : List Nat) (κ κ' : Ku) : Prop := κ'.2 = κ.2 ∧ ∀ a, a ∉ as → κ'.1 a = κ.1 a
theorem OI.rf {as : List Nat} {κ : Ku} : OI as κ κ := ⟨rfl, fun _ _ => rfl⟩
theorem OI.trans {as : List Nat} {κ κ' κ'' : Ku} (h : OI as κ κ') (h2 : OI as κ' κ'') : OI as κ κ'' := ⟨h2.1.trans h.1, fun a ha => (h2.2 a ha).trans (h.2 a ha)⟩
theorem OI.i {as : List Nat} {κ κ' : Ku} {a k : Nat} {x : Int32} (h : OI as κ κ') (ha : a ∈ as) : OI as κ (ki κ' a k x) := ⟨h.1, fun b hb => (funext fun j => if_neg (fun (q : b = a ∧ j = k) => hb (q.1 ▸ ha))).trans (h.2 b hb)⟩
theorem OI.co {as : List Nat} {n : Nat} {κ κ' : Ku} (h : OI as κ κ') (hC : CoK n κ) : CoK n κ' := by
  unfold CoK at hC ⊢
  rw [h.1]
  exact hC
theorem nI_inj {a b : Nat} (ha : a < 2 ^ 31) (hb : b < 2 ^ 31) (h : nI a = nI b) : a = b := (nI_eq ha hb).mp h
section ROWS
variable {l : Launch} {w : r_V} {B n : Nat} {κ : Ku}
theorem Rw.cap {r N : Nat} {L : List Int32} (hn : okN n) (h : Rw n κ r N L) : N ≤ 10 := by
  obtain ⟨h1, h2, -⟩ := h
  rcases (at_row hn h1).1 with q | q <;> (rw [q] at h2; simp at h2; omega)
theorem Rw.keep {κ' : Ku} {r N : Nat} {L : List Int32} (h : Rw n κ r N L) (h1 : κ'.1 r = κ.1 r) (h2 : κ'.1 (r + 1) = κ.1 (r + 1)) : Rw n κ' r N L := by
  obtain ⟨a1, a2, a3, a4, a5⟩ := h
  exact ⟨a1, a2, a3, by rw [h1]; exact a4, fun k hk => by rw [h2]; exact a5 k hk⟩
theorem s_Row_full {r N : Nat} {L : List Int32} (hn : okN n) (hC : CoK n κ) (h : Rw n κ r N L) : r_KI l w B n tX5_isFull [.ref (B + r)] κ (fun z κ' => κ' = κ ∧ z = if L.length < N then 0 else 1) := by
  have hN := h.cap hn
  obtain ⟨a1, a2, a3, a4, a5⟩ := h
  refine r_enter (by decide) (Nat.le_of_ble_eq_true rfl) (fun _ C E => ?_)
  refine v_X5_isFull_0 C E hn hC Gr.rf a1 ?_
  refine ⟨N, a2, fun z e => ⟨by rw [e]; split <;> simp, rfl, ?_⟩⟩
  rw [e, a4]
  by_cases q : L.length < N
  · rw [if_pos q, if_pos ((nI_ltI (by omega) (by omega)).mpr q)]
  · rw [if_neg q, if_neg (fun c => q ((nI_ltI (by omega) (by omega)).mp c))]
theorem s_Row_get {r N k : Nat} {L : List Int32} (hn : okN n) (hC : CoK n κ) (h : Rw n κ r N L) (hk : k < 2 ^ 30) : r_KI l w B n tX5_get [.ref (B + r), .int (nI k)] κ (fun z κ' => κ' = κ ∧ z = L.getD k 0) := by
  have hN := h.cap hn
  obtain ⟨a1, a2, a3, a4, a5⟩ := h
  refine r_enter (by decide) (Nat.le_of_ble_eq_true rfl) (fun _ C E => ?_)
  refine v_X5_get_0 C E hn hC Gr.rf a1 ?_
  refine ⟨fun c => absurd c (nI_pos (by omega)), fun _ => ⟨fun c => ⟨rfl, ?_⟩, fun c => ⟨N, a2, ?_, rfl, ?_⟩⟩⟩
  · rw [a4] at c
    have : L.length ≤ k := (nI_leI (by omega) (by omega)).mp c
    simp [List.getD_eq_getElem?_getD, List.getElem?_eq_none this]
  · rw [a4] at c
    have : k < L.length := Nat.not_le.mp (fun q => c (nI_le q (by omega)))
    exact vp_in_nI (by omega) (by omega)
  · rw [a4] at c
    have : k < L.length := Nat.not_le.mp (fun q => c (nI_le q (by omega)))
    rw [nI_clamp (by omega)]
    exact a5 k this
theorem Rw.add {r N : Nat} {L : List Int32} {x : Int32} (h : Rw n κ r N L) (hl : L.length < N) : Rw n (ki (ki κ (r + 1) L.length x) r 1 (nI (L.length + 1))) r N (L ++ [x]) := by
  obtain ⟨a1, a2, a3, a4, a5⟩ := h
  refine ⟨a1, a2, by simp; omega, by simp [ki], fun k hk => ?_⟩
  have h1 : ¬ (r + 1 = r ∧ k = 1) := by omega
  simp only [ki, if_neg h1]
  by_cases q : k = L.length
  · subst q
    simp [List.getD_eq_getElem?_getD]
  · rw [if_neg (fun c => q c.2), a5 k (by simp at hk; omega)]
    have : k < L.length := by simp at hk; omega
    simp [List.getD_eq_getElem?_getD, List.getElem?_append_left this]
theorem s_Row_add {r N : Nat} {L : List Int32} {x : Int32} (hn : okN n) (hC : CoK n κ) (h : Rw n κ r N L) : r_KV l w B n tX5_add [.ref (B + r), .int x] κ (fun κ' => OI [r, r + 1] κ κ' ∧ Rw n κ' r N (if L.length < N then L ++ [x] else L)) := by
  have hN := h.cap hn
  have h0 := h
  obtain ⟨a1, a2, a3, a4, a5⟩ := h
  refine r_enter (by decide) (Nat.le_of_ble_eq_true rfl) (fun _ C E => ?_)
  refine v_X5_add_0 C E hn hC Gr.rf a1 ?_
  refine ⟨_, s_Row_full hn hC h0, fun z κ3 q => ?_⟩
  obtain ⟨rfl, rfl⟩ := q
  by_cases q : L.length < N
  · rw [if_pos q]
    refine ⟨fun _ => ⟨N, a2, by rw [a4]; exact vp_in_nI q (by omega), fun κ14 e14 κ18 e18 => ?_⟩, fun c => absurd rfl c⟩
    have e : κ18 = ki (ki κ3 (r + 1) L.length x) r 1 (nI (L.length + 1)) := by
      rw [e18, e14, a4, nI_clamp (by omega)]
      have h1 : ¬ (r = r + 1 ∧ 1 = L.length) := by omega
      have h2 : (ki κ3 (r + 1) L.length x).1 r 1 = nI L.length := by simp only [ki, if_neg h1]; exact a4
      rw [h2, nI_1]
    rw [e, if_pos q]
    exact ⟨(OI.rf.i (by simp)).i (by simp), h0.add q⟩
  · rw [if_neg q]
    exact ⟨fun c => absurd c (by decide), fun _ => by rw [if_neg q]; exact ⟨OI.rf, h0⟩⟩
theorem Rw.nil {r N : Nat} {L : List Int32} (h : Rw n κ r N L) : Rw n (ki κ r 1 0) r N [] := by
  obtain ⟨a1, a2, a3, a4, a5⟩ := h
  exact ⟨a1, a2, Nat.zero_le _, by simp [ki, nI_0], fun k hk => absurd hk (by simp)⟩
/-- copy: the other row is another one -/
theorem s_Row_copy {r N r2 N2 : Nat} {L L2 : List Int32} (hn : okN n) (hC : CoK n κ) (h : Rw n κ r N L) (h2 : Rw n κ r2 N2 L2) (hne : r ≠ r2 ∧ r + 1 ≠ r2 ∧ r ≠ r2 + 1) (hl : L2.length ≤ N) : r_KV l w B n tX5_copy [.ref (B + r), .ref (B + r2)] κ (fun κ' => OI [r, r + 1] κ κ' ∧ Rw n κ' r N L2) := by
  have hN := h.cap hn
  have hN2 := h2.cap hn
  refine r_enter (by decide) (Nat.le_of_ble_eq_true rfl) (fun X C E => ?_)
  refine v_X5_copy_0 C E hn hC Gr.rf h.1 h2.1 (fun κ1 e1 => ?_)
  have hb := (at_row hn h.1).2.1
  have key : ∀ (k i : Nat) (κ' : Ku), i + k = L2.length → OI [r, r + 1] κ κ' → Gr n κ κ' → Rw n κ' r N (L2.take i) → r_W X w B 3 0 0 (r_Z X w B tX5_copy (ZKV n κ (fun κ' => OI [r, r + 1] κ κ' ∧ Rw n κ' r N L2))) 7 [(0, Value.ref (B + r)), (1, Value.ref (B + r2)), (2, Value.int (nI i))] [] (shp n, κ') := by
    intro k
    induction k with
    | zero =>
      intro i κ' hi hO hG hR
      have hi : i = L2.length := by omega
      subst hi
      rw [List.take_length] at hR
      have h2' : κ'.1 r2 1 = nI L2.length := by rw [hO.2 r2 (by simp; omega)]; exact h2.2.2.2.1
      exact v_X5_copy_7 C E hn (hO.co hC) hG h.1 h2.1 ⟨fun _ => ⟨hO, hR⟩, fun c => absurd (by rw [h2']; exact nI_le (Nat.le_refl _) (by omega)) c⟩
    | succ k ih =>
      intro i κ' hi hO hG hR
      have h2' : κ'.1 r2 1 = nI L2.length := by rw [hO.2 r2 (by simp; omega)]; exact h2.2.2.2.1
      have h3' : κ'.1 (r2 + 1) i = L2.getD i 0 := by rw [hO.2 (r2 + 1) (by simp; omega)]; exact h2.2.2.2.2 i (by omega)
      refine v_X5_copy_7 C E hn (hO.co hC) hG h.1 h2.1 ⟨fun c => absurd c (by rw [h2']; exact nI_ge (by omega) (by omega)), fun _ => ⟨N2, h2.2.1, vp_in_nI (by have := h2.2.2.1; omega) (by omega), _, s_Row_add hn (hO.co hC) hR, fun κ7 q z e => ?_⟩⟩
      rw [nI_clamp (by omega), h3'] at q
      have hlen : (L2.take i).length = i := by simp; omega
      rw [hlen, if_pos (by omega)] at q
      have ht : L2.take i ++ [L2.getD i 0] = L2.take (i + 1) := by
        have hi2 : i < L2.length := by omega
        rw [List.take_succ_eq_append_getElem hi2]
        simp [List.getD_eq_getElem?_getD, List.getElem?_eq_getElem hi2]
      rw [ht] at q
      rw [e, nI_1]
      refine ih (i + 1) κ7 (by omega) (hO.trans q.1) ?_ q.2
      intro a k' ha
      have := hG a k' ha
      have hne2 : a ∉ [r, r + 1] := by simp; omega
      rw [q.1.1, q.1.2 a hne2]
      exact this
  have hO1 : OI [r, r + 1] κ κ1 := by rw [e1]; exact OI.rf.i (by simp)
  have h0 := key L2.length 0 κ1 (by omega) hO1 (by rw [e1]; exact Gr.rf.i (by omega)) (by rw [e1, List.take_zero]; exact h.nil)
  rw [nI_0] at h0
  exact h0
end ROWS
section ROWS2
variable {l : Launch} {w : r_V} {B n : Nat} {κ : Ku}
theorem OI.gr {as : List Nat} {κ0 κ' : Ku} (h : OI as κ κ') (hG : Gr n κ0 κ) (ha : ∀ a ∈ as, a < mOf n) : Gr n κ0 κ' := by
  intro a k hk
  have hne : a ∉ as := fun q => absurd (ha a q) (by omega)
  rw [h.1, h.2 a hne]
  exact hG a k hk
/-- drop: the others stay in their order -/
theorem s_Row_drop {r N : Nat} {L : List Int32} {x : Int32} (hn : okN n) (hC : CoK n κ) (h : Rw n κ r N L) : r_KV l w B n tX5_drop [.ref (B + r), .int x] κ (fun κ' => OI [r, r + 1] κ κ' ∧ Rw n κ' r N (L.filter (fun p => !decide (p = x)))) := by
  have hN := h.cap hn
  have hb := (at_row hn h.1).2.1
  have hbs : ∀ a ∈ [r, r + 1], a < mOf n := by intro a ha; simp at ha; omega
  obtain ⟨a1, a2, a3, a4, a5⟩ := h
  refine r_enter (by decide) (Nat.le_of_ble_eq_true rfl) (fun X C E => ?_)
  refine v_X5_drop_0 C E hn hC Gr.rf a1 ?_
  have key : ∀ (k i j : Nat) (κ' : Ku), i + k = L.length → OI [r + 1] κ κ' → j = ((L.take i).filter (fun p => !decide (p = x))).length → (∀ q, q < j → κ'.1 (r + 1) q = ((L.take i).filter (fun p => !decide (p = x))).getD q 0) → (∀ q, i ≤ q → q < L.length → κ'.1 (r + 1) q = L.getD q 0) → r_W X w B 4 0 0 (r_Z X w B tX5_drop (ZKV n κ (fun κ' => OI [r, r + 1] κ κ' ∧ Rw n κ' r N (L.filter (fun p => !decide (p = x)))))) 4 [(0, Value.ref (B + r)), (1, Value.int x), (2, Value.int (nI j)), (3, Value.int (nI i))] [] (shp n, κ') := by
    intro k
    induction k with
    | zero =>
      intro i j κ' hi hO hj h1 h2
      have hi : i = L.length := by omega
      subst hi
      rw [List.take_length] at hj h1
      have hO2 : OI [r, r + 1] κ κ' := ⟨hO.1, fun a ha => hO.2 a (fun q => ha (by simp at q ⊢; omega))⟩
      have hs : κ'.1 r 1 = nI L.length := by rw [hO.2 r (by simp)]; exact a4
      have hjl : j ≤ L.length := by rw [hj]; exact List.length_filter_le _ _
      refine v_X5_drop_4 C E hn (hO.co hC) (hO.gr Gr.rf (by intro a ha; simp at ha; omega)) a1 ⟨fun _ κ2 e2 => ?_, fun c => absurd (by rw [hs]; exact nI_le (Nat.le_refl _) (by omega)) c⟩
      rw [e2]
      refine ⟨hO2.i (by simp), a1, a2, by omega, by simp [ki, hj], fun q hq => ?_⟩
      have hne : ¬ (r + 1 = r ∧ q = 1) := by omega
      simp only [ki, if_neg hne]
      exact h1 q (by omega)
    | succ k ih =>
      intro i j κ' hi hO hj h1 h2
      have hs : κ'.1 r 1 = nI L.length := by rw [hO.2 r (by simp)]; exact a4
      have hil : i < L.length := by omega
      have hji : j ≤ i := by
        rw [hj]
        refine Nat.le_trans (List.length_filter_le _ _) ?_
        simp; omega
      have ht : L.take (i + 1) = L.take i ++ [L.getD i 0] := by
        rw [List.take_succ_eq_append_getElem hil]
        simp [List.getD_eq_getElem?_getD, List.getElem?_eq_getElem hil]
      refine v_X5_drop_4 C E hn (hO.co hC) (hO.gr Gr.rf (by intro a ha; simp at ha; omega)) a1 ⟨fun c => absurd c (by rw [hs]; exact nI_ge (by omega) (by omega)), fun _ => ⟨N, a2, vp_in_nI (by omega) (by omega), ?_⟩⟩
      rw [nI_clamp (show i < 2 ^ 31 by omega), nI_clamp (show j < 2 ^ 31 by omega), h2 i (Nat.le_refl i) hil]
      refine ⟨fun c z e => ?_, fun c => ⟨vp_in_nI (by omega) (by omega), fun κ13 e13 z17 e17 z19 e19 => ?_⟩⟩
      · rw [e, nI_1]
        have hf : (L.take (i + 1)).filter (fun p => !decide (p = x)) = (L.take i).filter (fun p => !decide (p = x)) := by
          have c' : (!decide (L.getD i 0 = x)) = false := by rw [decide_eq_true c]; rfl
          rw [ht, List.filter_append, List.filter_cons, if_neg (by rw [c']; exact Bool.false_ne_true)]
          simp
        exact ih (i + 1) j κ' (by omega) hO (by rw [hf]; exact hj) (by rw [hf]; exact h1) (fun q q1 q2 => h2 q (by omega) q2)
      · rw [e17, nI_1, e19, nI_1]
        have hf : (L.take (i + 1)).filter (fun p => !decide (p = x)) = (L.take i).filter (fun p => !decide (p = x)) ++ [L.getD i 0] := by
          have c' : (!decide (L.getD i 0 = x)) = true := by rw [decide_eq_false c]; rfl
          rw [ht, List.filter_append, List.filter_cons, if_pos c']
          rfl
        refine ih (i + 1) (j + 1) κ13 (by omega) (by rw [e13]; exact hO.i (by simp)) (by rw [hf]; simp [← hj]) (fun q hq => ?_) (fun q q1 q2 => ?_)
        · rw [hf, e13]
          simp only [ki]
          by_cases hqj : q = j
          · rw [if_pos ⟨trivial, hqj⟩, hqj, hj]
            simp [List.getD_eq_getElem?_getD]
          · rw [if_neg (fun c => hqj c.2), h1 q (by omega)]
            have hq2 : q < ((L.take i).filter (fun p => !decide (p = x))).length := by omega
            simp only [List.getD_eq_getElem?_getD, List.getElem?_append_left hq2]
        · rw [e13]
          simp only [ki]
          rw [if_neg (fun c => by omega)]
          exact h2 q (by omega) q2
  have h0 := key L.length 0 0 κ (by omega) OI.rf (by simp) (fun q hq => absurd hq (by omega)) (fun q _ hq => a5 q hq)
  rw [nI_0] at h0
  exact h0
/-- the slots of the payloads of a row, and one for the head -/
def sumSl (κ : Ku) (L : List Int32) (s : Int32) : Int32 := L.foldl (fun s p => s + κ.1 6 p.toNatClampNeg) s
theorem s_Pay_dataSlots {r N : Nat} {L : List Int32} (hn : okN n) (hC : CoK n κ) (h : Rw n κ r N L) (hp : ∀ p ∈ L, vp_in p 301) : r_KI l w B n tX4_dataSlotsOf [.ref (B + 4), .ref (B + r)] κ (fun z κ' => κ' = κ ∧ z = sumSl κ L 1) := by
  have hN := h.cap hn
  have a4 := h.2.2.2.1
  have a3 := h.2.2.1
  refine r_enter (by decide) (Nat.le_of_ble_eq_true rfl) (fun X C E => ?_)
  refine v_X4_dataSlotsOf_0 C E hn hC Gr.rf h.1 ?_
  have key : ∀ (k i : Nat) (s : Int32), i + k = L.length → sumSl κ (L.drop i) s = sumSl κ L 1 → r_W X w B 4 0 0 (r_Z X w B tX4_dataSlotsOf (ZKI n κ (fun z κ' => κ' = κ ∧ z = sumSl κ L 1))) 4 [(0, Value.ref (B + 4)), (1, Value.ref (B + r)), (2, Value.int s), (3, Value.int (nI i))] [] (shp n, κ) := by
    intro k
    induction k with
    | zero =>
      intro i s hi hs
      have hi : i = L.length := by omega
      subst hi
      rw [List.drop_length] at hs
      exact v_X4_dataSlotsOf_4 C E hn hC Gr.rf h.1 ⟨fun _ => ⟨rfl, hs⟩, fun c => absurd (by rw [a4]; exact nI_le (Nat.le_refl _) (by omega)) c⟩
    | succ k ih =>
      intro i s hi hs
      have hil : i < L.length := by omega
      have hd : L.drop i = L.getD i 0 :: L.drop (i + 1) := by
        rw [List.drop_eq_getElem_cons hil]
        simp [List.getD_eq_getElem?_getD, List.getElem?_eq_getElem hil]
      have hm : L.getD i 0 ∈ L := by
        rw [List.getD_eq_getElem?_getD, List.getElem?_eq_getElem hil]
        exact List.getElem_mem hil
      refine v_X4_dataSlotsOf_4 C E hn hC Gr.rf h.1 ⟨fun c => absurd c (by rw [a4]; exact nI_ge (by omega) (by omega)), fun _ => ⟨_, s_Row_get hn hC h (show i < 2 ^ 30 by omega), fun z κ4 q => ?_⟩⟩
      obtain ⟨rfl, rfl⟩ := q
      refine ⟨hp _ hm, fun z12 e12 z14 e14 => ?_⟩
      rw [e14, nI_1, e12]
      refine ih (i + 1) _ (by omega) ?_
      rw [← hs, hd]
      rfl
  have h0 := key L.length 0 1 (by omega) rfl
  rw [nI_0] at h0
  exact h0
theorem s_Pay_receiver {r N : Nat} {L : List Int32} (hn : okN n) (hC : CoK n κ) (h : Rw n κ r N L) (hp : vp_in (L.getD 0 0) 301) : r_KI l w B n tX4_receiverOf [.ref (B + 4), .ref (B + r)] κ (fun z κ' => κ' = κ ∧ z = rem (κ.1 5 (L.getD 0 0).toNatClampNeg) 6) := by
  refine r_enter (by decide) (Nat.le_of_ble_eq_true rfl) (fun X C E => ?_)
  refine v_X4_receiverOf_0 C E hn hC Gr.rf h.1 ⟨_, s_Row_get hn hC h (show 0 < 2 ^ 30 by decide), fun z κ3 q => ?_⟩
  obtain ⟨rfl, rfl⟩ := q
  exact ⟨hp, rfl, rfl⟩
end ROWS2
section ROWS3
variable {l : Launch} {w : r_V} {B n : Nat} {κ : Ku}
/-- the first payloads of one pair, 4 at most -/
def firstOf (κ : Ku) (L : List Int32) : List Int32 := (L.takeWhile (fun p => decide (κ.1 5 p.toNatClampNeg = κ.1 5 (L.getD 0 0).toNatClampNeg))).take 4
theorem tw_succ {α : Type} {P : α → Bool} : ∀ (L : List α) (i : Nat) (h : i < L.length), (∀ k (hk : k < i), P (L[k]'(by omega)) = true) → (P L[i] = true → (L.takeWhile P).take (i + 1) = (L.takeWhile P).take i ++ [L[i]]) ∧ (P L[i] = false → L.takeWhile P = L.take i)
  | [], i, h, _ => absurd h (by simp)
  | a :: L, 0, _, _ => ⟨fun q => by simp at q; simp [List.takeWhile_cons, q], fun q => by simp at q; simp [List.takeWhile_cons, q]⟩
  | a :: L, i + 1, h, hp => by
    have ha : P a = true := hp 0 (by omega)
    have h1 : i < L.length := by simpa using h
    obtain ⟨q1, q2⟩ := tw_succ (P := P) L i h1 (fun k hk => hp (k + 1) (by omega))
    refine ⟨fun q => ?_, fun q => ?_⟩
    · have q' : P L[i] = true := by simpa using q
      simp only [List.takeWhile_cons, ha, if_true, List.take_succ_cons, List.getElem_cons_succ, List.cons_append]
      rw [q1 q']
    · have q' : P L[i] = false := by simpa using q
      simp only [List.takeWhile_cons, ha, if_true, List.take_succ_cons]
      rw [q2 q']
theorem tw_all {α : Type} {P : α → Bool} : ∀ (L : List α) (i : Nat), i ≤ L.length → (∀ k (hk : k < i) (hl : k < L.length), P (L[k]'hl) = true) → (L.takeWhile P).take i = L.take i
  | [], i, h, _ => by simp
  | a :: L, 0, _, _ => by simp
  | a :: L, i + 1, h, hp => by
    have ha : P a = true := hp 0 (by omega) (by simp)
    simp only [List.takeWhile_cons, ha, if_true, List.take_succ_cons]
    rw [tw_all (P := P) L i (by simpa using h) (fun k hk hl => hp (k + 1) (by omega) (by simpa using hl))]
theorem s_Pay_copyFirst {r N r2 : Nat} {L L2 : List Int32} (hn : okN n) (hC : CoK n κ) (h : Rw n κ r N L) (h2 : Rw n κ r2 4 L2) (hne : r2 ≠ r ∧ r2 + 1 ≠ r ∧ r2 ≠ r + 1 ∧ 19 ≤ r2) (hp : ∀ p ∈ L, vp_in p 301) : r_KV l w B n tX4_copyFirstOfOneReceiver [.ref (B + 4), .ref (B + r), .ref (B + r2)] κ (fun κ' => OI [r2, r2 + 1] κ κ' ∧ Rw n κ' r2 4 (firstOf κ L)) := by
  have hN := h.cap hn
  have hb := (at_row hn h2.1).2.1
  have hbs : ∀ a ∈ [r2, r2 + 1], a < mOf n := by intro a ha; simp at ha; omega
  have a3 := h.2.2.1
  refine r_enter (by decide) (Nat.le_of_ble_eq_true rfl) (fun X C E => ?_)
  refine v_X4_copyFirstOfOneReceiver_0 C E hn hC Gr.rf h.1 h2.1 (fun κ1 e1 => ?_)
  have hg : ∀ (i : Nat) (hi : i < L.length), L.getD i 0 = L[i] := fun i hi => by simp [List.getD_eq_getElem?_getD, List.getElem?_eq_getElem hi]
  have key : ∀ (k i : Nat) (κ' : Ku), i + k = L.length → i ≤ 4 → OI [r2, r2 + 1] κ κ' → Rw n κ' r2 4 (L.take i) → (∀ k (hk : k < i) (hl : k < L.length), decide (κ.1 5 (L[k]'hl).toNatClampNeg = κ.1 5 (L.getD 0 0).toNatClampNeg) = true) → r_W X w B 4 0 0 (r_Z X w B tX4_copyFirstOfOneReceiver (ZKV n κ (fun κ' => OI [r2, r2 + 1] κ κ' ∧ Rw n κ' r2 4 (firstOf κ L)))) 7 [(0, Value.ref (B + 4)), (1, Value.ref (B + r)), (2, Value.ref (B + r2)), (3, Value.int (nI i))] [] (shp n, κ') := by
    intro k
    induction k with
    | zero =>
      intro i κ' hi h4 hO hR hP
      have hi : i = L.length := by omega
      subst hi
      have hs : κ'.1 r 1 = nI L.length := by rw [hO.2 r (by simp; omega)]; exact h.2.2.2.1
      refine v_X4_copyFirstOfOneReceiver_7 C E hn (hO.co hC) (hO.gr Gr.rf hbs) h.1 h2.1 ⟨fun _ => ⟨hO, ?_⟩, fun c => absurd (by rw [hs]; exact nI_le (Nat.le_refl _) (by omega)) c⟩
      have e : firstOf κ L = L.take L.length := by
        unfold firstOf
        have q := tw_all (P := fun p => decide (κ.1 5 p.toNatClampNeg = κ.1 5 (L.getD 0 0).toNatClampNeg)) L L.length (Nat.le_refl _) hP
        have ql : (L.takeWhile (fun p => decide (κ.1 5 p.toNatClampNeg = κ.1 5 (L.getD 0 0).toNatClampNeg))).length ≤ L.length := (List.takeWhile_sublist _).length_le
        rw [List.take_of_length_le (by omega), ← q, List.take_of_length_le ql]
      rw [e]; exact hR
    | succ k ih =>
      intro i κ' hi h4 hO hR hP
      have hil : i < L.length := by omega
      have hs : κ'.1 r 1 = nI L.length := by rw [hO.2 r (by simp; omega)]; exact h.2.2.2.1
      have hR1 : Rw n κ' r N L := h.keep (hO.2 r (by simp; omega)) (hO.2 (r + 1) (by simp; omega))
      have h5 : κ'.1 5 = κ.1 5 := hO.2 5 (by simp; omega)
      have hm : L.getD i 0 ∈ L := by rw [hg i hil]; exact List.getElem_mem hil
      have hm0 : L.getD 0 0 ∈ L := by rw [hg 0 (by omega)]; exact List.getElem_mem (by omega)
      have hlen : (L.take i).length = i := by simp; omega
      obtain ⟨t1, t2⟩ := tw_succ (P := fun p => decide (κ.1 5 p.toNatClampNeg = κ.1 5 (L.getD 0 0).toNatClampNeg)) L i hil (fun k hk => hP k hk (by omega))
      have t3 := tw_all (P := fun p => decide (κ.1 5 p.toNatClampNeg = κ.1 5 (L.getD 0 0).toNatClampNeg)) L i (by omega) hP
      refine v_X4_copyFirstOfOneReceiver_7 C E hn (hO.co hC) (hO.gr Gr.rf hbs) h.1 h2.1 ⟨fun c => absurd c (by rw [hs]; exact nI_ge (by omega) (by omega)), fun _ => ⟨_, s_Row_full hn (hO.co hC) hR, fun z κ4 q => ?_⟩⟩
      obtain ⟨rfl, rfl⟩ := q
      rw [hlen]
      by_cases h44 : i < 4
      · rw [if_pos h44]
        refine ⟨fun _ => ⟨_, s_Row_get hn (hO.co hC) hR1 (show i < 2 ^ 30 by omega), fun z κ14 q => ?_⟩, fun c => absurd rfl c⟩
        obtain ⟨rfl, rfl⟩ := q
        refine ⟨hp _ hm, _, s_Row_get hn (hO.co hC) hR1 (show 0 < 2 ^ 30 by decide), fun z κ24 q => ?_⟩
        obtain ⟨rfl, rfl⟩ := q
        refine ⟨hp _ hm0, fun c => ⟨_, s_Row_get hn (hO.co hC) hR1 (show i < 2 ^ 30 by omega), fun z κ35 q => ?_⟩, fun c => ⟨hO, ?_⟩⟩
        · obtain ⟨rfl, rfl⟩ := q
          refine ⟨_, s_Row_add hn (hO.co hC) hR, fun κ44 q z e => ?_⟩
          rw [e, nI_1]
          rw [hlen, if_pos h44] at q
          have ht : L.take i ++ [L.getD i 0] = L.take (i + 1) := by rw [List.take_succ_eq_append_getElem hil, hg i hil]
          rw [ht] at q
          refine ih (i + 1) κ44 (by omega) (by omega) (hO.trans q.1) q.2 (fun k hk hl => ?_)
          rcases Nat.lt_succ_iff_lt_or_eq.mp hk with hk | hk
          · exact hP k hk hl
          · subst hk
            rw [h5, hg k hl] at c
            exact decide_eq_true c
        · rw [h5, hg i hil] at c
          have e : firstOf κ L = L.take i := by
            unfold firstOf
            rw [t2 (decide_eq_false c), List.take_take, Nat.min_eq_right (by omega)]
          rw [e]; exact hR
      · have h44 : i = 4 := by omega
        subst h44
        rw [if_neg (by omega)]
        refine ⟨fun c => absurd c (by decide), fun _ => ⟨hO, ?_⟩⟩
        have e : firstOf κ L = L.take 4 := by unfold firstOf; exact t3
        rw [e]; exact hR
  have hO1 : OI [r2, r2 + 1] κ κ1 := by rw [e1]; exact OI.rf.i (by simp)
  have h0 := key L.length 0 κ1 (by omega) (by omega) hO1 (by rw [e1, List.take_zero]; exact h2.nil) (fun k hk => absurd hk (by omega))
  rw [nI_0] at h0
  exact h0
end ROWS3
