/-! FRAMES, STATIONS: leaves -/
theorem ite01 (c : Prop) [Decidable c] : (if c then (0 : Int32) else 1) = 0 ∨ (if c then (0 : Int32) else 1) = 1 := by by_cases h : c <;> simp [h]
theorem ite10 (c : Prop) [Decidable c] : (if c then (1 : Int32) else 0) = 0 ∨ (if c then (1 : Int32) else 0) = 1 := by by_cases h : c <;> simp [h]
section FRM
variable {l : Launch} {w : r_V} {B n : Nat} {κ : Ku}
theorem s_isStation {x : Int32} (hn : okN n) (hC : CoK n κ) : r_KI l w B n tX7_isStation [.ref (B + 1), .int x] κ (fun z κ' => κ' = κ ∧ z = if x < 0 then 0 else if nI n ≤ x then 0 else 1) := by
  refine r_enter (by decide) (Nat.le_of_ble_eq_true rfl) (fun _ C E => ?_)
  refine v_X7_isStation_0 C E hn hC Gr.rf ?_
  exact ⟨fun c => ⟨rfl, by rw [if_pos c]⟩, fun c z e => ⟨by rw [e]; split <;> simp, rfl, by rw [if_neg c]; exact e⟩⟩
/-- a frame made anew -/
def kMake (κ : Ku) (n f : Nat) (kind to size : Int32) : Ku := kfill (ki (ki (ki (ki (ki κ f 0 kind) f 1 to) f 2 size) f 3 0) (f + 1) 1 0) (f + 3) n 0
theorem s_Frame_make {f : Nat} {x1 x2 x3 : Int32} (hn : okN n) (hC : CoK n κ) (hf : atS n f = some (.inl 2)) : r_KV l w B n tX2_make [.ref (B + f), .int x1, .int x2, .int x3] κ (fun κ' => κ' = kMake κ n f x1 x2 x3) := by
  obtain ⟨h1, h2, h3, h4, h5⟩ := at_frame hn hf
  have hn2 := hn.2
  refine r_enter (by decide) (Nat.le_of_ble_eq_true rfl) (fun _ C E => ?_)
  refine v_X2_make_0 C E hn hC Gr.rf hf (fun κ1 e1 κ5 e5 κ9 e9 κ13 e13 κ17 e17 => ?_)
  have hC17 : CoK n κ17 := by rw [e17, e13, e9, e5, e1]; exact hC
  refine ⟨_, j_fill hC17 h3 (by omega) (by omega), fun κ23 q => ?_⟩
  rw [q, e17, e13, e9, e5, e1]
  rfl
theorem s_Frame_length {f : Nat} (hn : okN n) (hC : CoK n κ) (hf : atS n f = some (.inl 2)) : r_KI l w B n tX2_length [.ref (B + f)] κ (fun z κ' => κ' = κ ∧ z = if κ.1 f 0 = 3 then κ.1 f 2 else 2) := by
  refine r_enter (by decide) (Nat.le_of_ble_eq_true rfl) (fun _ C E => ?_)
  refine v_X2_length_0 C E hn hC Gr.rf hf ?_
  exact fun z e => ⟨rfl, e⟩
theorem s_Frame_isOver {f : Nat} (hn : okN n) (hC : CoK n κ) (hf : atS n f = some (.inl 2)) : r_KI l w B n tX2_isOver [.ref (B + f)] κ (fun z κ' => κ' = κ ∧ z = if κ.1 f 0 = 0 then 0 else if κ.1 f 3 < (if κ.1 f 0 = 3 then κ.1 f 2 else 2) then 0 else 1) := by
  refine r_enter (by decide) (Nat.le_of_ble_eq_true rfl) (fun _ C E => ?_)
  refine v_X2_isOver_0 C E hn hC Gr.rf hf ?_
  refine ⟨fun c => ⟨rfl, by rw [if_pos c]⟩, fun c => ⟨_, s_Frame_length hn hC hf, fun z κ4 q z12 e12 => ?_⟩⟩
  obtain ⟨rfl, rfl⟩ := q
  exact ⟨by rw [e12]; exact ite01 _, rfl, by rw [if_neg c]; exact e12⟩
theorem s_Frame_left {f : Nat} (hn : okN n) (hC : CoK n κ) (hf : atS n f = some (.inl 2)) : r_KI l w B n tX2_left [.ref (B + f)] κ (fun z κ' => κ' = κ ∧ z = if κ.1 f 0 = 1 then 7 + κ.1 f 2 else if κ.1 f 0 = 2 then 4 + κ.1 f 2 else if κ.1 f 0 = 3 then 3 else 0) := by
  refine r_enter (by decide) (Nat.le_of_ble_eq_true rfl) (fun _ C E => ?_)
  refine v_X2_left_0 C E hn hC Gr.rf hf (fun z e => ?_)
  subst e
  refine ⟨fun c => ⟨rfl, by rw [if_pos c]⟩, fun c => ⟨fun c2 => ⟨rfl, by rw [if_neg c, if_pos c2]⟩, fun c2 => ⟨fun c3 => ⟨rfl, by rw [if_neg c, if_neg c2, if_pos c3]⟩, fun c3 => ⟨rfl, by rw [if_neg c, if_neg c2, if_neg c3]⟩⟩⟩⟩
theorem s_Frame_mark {f : Nat} {x : Int32} (hn : okN n) (hC : CoK n κ) (hf : atS n f = some (.inl 2)) (hx : vp_in x n) : r_KV l w B n tX2_markGood [.ref (B + f), .int x] κ (fun κ' => κ' = kl κ (f + 3) x.toNatClampNeg (κ.2.1 (f + 3) x.toNatClampNeg ||| ((1 : Int64) <<< ((κ.1 f 3).toInt64 &&& 63)))) := by
  refine r_enter (by decide) (Nat.le_of_ble_eq_true rfl) (fun _ C E => ?_)
  refine v_X2_markGood_0 C E hn hC Gr.rf hf ?_
  exact ⟨hx, fun κ2 e => e⟩
/-- the bits of slots first .. first + slots - 1 -/
def maskOf (first slots : Int32) : Int64 := ((1 : Int64) <<< (slots.toInt64 &&& 63) - 1) <<< (first.toInt64 &&& 63)
theorem s_Frame_areGood {f : Nat} {x a b : Int32} (hn : okN n) (hC : CoK n κ) (hf : atS n f = some (.inl 2)) (hx : vp_in x n) : r_KI l w B n tX2_areGood [.ref (B + f), .int x, .int a, .int b] κ (fun z κ' => κ' = κ ∧ z = if κ.2.1 (f + 3) x.toNatClampNeg &&& maskOf a b = maskOf a b then 1 else 0) := by
  refine r_enter (by decide) (Nat.le_of_ble_eq_true rfl) (fun _ C E => ?_)
  refine v_X2_areGood_0 C E hn hC Gr.rf hf (fun y e => ?_)
  have e2 : y = maskOf a b := e
  subst e2
  exact ⟨hx, fun z e => ⟨by rw [e]; split <;> simp, rfl, e⟩⟩
theorem s_Frame_isReceived {f : Nat} {x : Int32} (hn : okN n) (hC : CoK n κ) (hf : atS n f = some (.inl 2)) (hx : vp_in x n) : r_KI l w B n tX2_isReceivedAt [.ref (B + f), .int x] κ (fun z κ' => κ' = κ ∧ z = if κ.2.1 (f + 3) x.toNatClampNeg &&& maskOf 0 (if κ.1 f 0 = 3 then 1 else 2) = maskOf 0 (if κ.1 f 0 = 3 then 1 else 2) then 1 else 0) := by
  refine r_enter (by decide) (Nat.le_of_ble_eq_true rfl) (fun _ C E => ?_)
  refine v_X2_isReceivedAt_0 C E hn hC Gr.rf hf (fun z e => ?_)
  subst e
  refine ⟨_, s_Frame_areGood hn hC hf hx, fun z9 κ7 q => ?_⟩
  obtain ⟨rfl, rfl⟩ := q
  exact ⟨ite10 _, rfl, rfl⟩
theorem s_St_isFree {s : Nat} (hn : okN n) (hC : CoK n κ) (hs : atS n s = some (.inl 6)) : r_KI l w B n tX6_isFree [.ref (B + s)] κ (fun z κ' => κ' = κ ∧ z = if κ.1 s 9 = 0 then if κ.1 (κ.2.2 s 13) 0 = 0 then 1 else 0 else 0) := by
  refine r_enter (by decide) (Nat.le_of_ble_eq_true rfl) (fun _ C E => ?_)
  refine v_X6_isFree_0 C E hn hC Gr.rf hs (fun z e => ?_)
  exact ⟨by rw [e]; split <;> (try split) <;> simp, rfl, e⟩
theorem s_St_may {s : Nat} {t : Int64} (hn : okN n) (hC : CoK n κ) (hs : atS n s = some (.inl 6)) : r_KI l w B n tX6_mayAttempt [.ref (B + s), .long t] κ (fun z κ' => κ' = κ ∧ (z = 0 ∨ z = 1) ∧ (z = 1 ↔ κ.1 (κ.2.2 s 14) 0 = 0 ∧ κ.1 s 9 = 0 ∧ κ.1 (κ.2.2 s 13) 0 = 0 ∧ ¬ κ.1 (s + 1) 1 ≤ 0 ∧ κ.1 s 5 = 0 ∧ ¬ κ.1 s 6 < κ.1 s 7 ∧ ¬ t < κ.2.1 s 8)) := by
  refine r_enter (by decide) (Nat.le_of_ble_eq_true rfl) (fun _ C E => ?_)
  refine v_X6_mayAttempt_0 C E hn hC Gr.rf hs ?_
  refine ⟨fun c => ⟨_, s_St_isFree hn hC hs, fun z κ4 q z16 e => ?_⟩, fun c => ⟨rfl, Or.inl rfl, by simp [c]⟩⟩
  obtain ⟨rfl, rfl⟩ := q
  have h01 : z16 = 0 ∨ z16 = 1 := by
    rw [e]
    repeat' split
    all_goals simp
  refine ⟨h01, rfl, h01, ?_⟩
  rw [e]
  by_cases c1 : κ4.1 s 9 = 0 <;> by_cases c2 : κ4.1 (κ4.2.2 s 13) 0 = 0 <;> by_cases c3 : κ4.1 (s + 1) 1 ≤ 0 <;> by_cases c4 : κ4.1 s 5 = 0 <;> by_cases c5 : κ4.1 s 6 < κ4.1 s 7 <;> by_cases c6 : t < κ4.2.1 s 8 <;> simp [c, c1, c2, c3, c4, c5, c6]
theorem s_St_waitsFor {s : Nat} {x y : Int32} (hn : okN n) (hC : CoK n κ) (hs : atS n s = some (.inl 6)) : r_KI l w B n tX6_waitsFor [.ref (B + s), .int x, .int y] κ (fun z κ' => κ' = κ ∧ z = if κ.1 s 9 = x then if κ.1 s 10 = y then 1 else 0 else 0) := by
  refine r_enter (by decide) (Nat.le_of_ble_eq_true rfl) (fun _ C E => ?_)
  refine v_X6_waitsFor_0 C E hn hC Gr.rf hs (fun z e => ?_)
  exact ⟨by rw [e]; split <;> (try split) <;> simp, rfl, e⟩
theorem s_St_anew {s : Nat} (hn : okN n) (hC : CoK n κ) (hs : atS n s = some (.inl 6)) : r_KV l w B n tX6_startAnew [.ref (B + s)] κ (fun κ' => κ' = ki (ki κ s 4 0) s 3 3) := by
  refine r_enter (by decide) (Nat.le_of_ble_eq_true rfl) (fun _ C E => ?_)
  refine v_X6_startAnew_0 C E hn hC Gr.rf hs (fun κ1 e1 κ5 e5 => ?_)
  rw [e5, e1]
def kBegun (κ : Ku) (s : Nat) : Ku := ki κ (s + 5) (κ.1 (κ.2.2 s 14) 0).toNatClampNeg (κ.1 (s + 5) (κ.1 (κ.2.2 s 14) 0).toNatClampNeg + 1)
theorem s_St_begun {s : Nat} (hn : okN n) (hC : CoK n κ) (hs : atS n s = some (.inl 6)) (hk : vp_in (κ.1 (κ.2.2 s 14) 0) 5) : r_KV l w B n tX6_countBegun [.ref (B + s)] κ (fun κ' => κ' = kBegun κ s) := by
  refine r_enter (by decide) (Nat.le_of_ble_eq_true rfl) (fun _ C E => ?_)
  refine v_X6_countBegun_0 C E hn hC Gr.rf hs ?_
  exact ⟨hk, fun κ2 e => e⟩
def kSwap (κ : Ku) (s : Nat) : Ku := kr (ki (kr κ s 13 (κ.2.2 s 14)) (κ.2.2 s 14) 0 0) s 14 (κ.2.2 s 13)
theorem s_St_beginDue {s : Nat} (hn : okN n) (hC : CoK n κ) (hs : atS n s = some (.inl 6)) (hd : κ.2.2 s 13 ≠ κ.2.2 s 14) (hk : vp_in (κ.1 (κ.2.2 s 13) 0) 5) : r_KV l w B n tX6_beginDue [.ref (B + s)] κ (fun κ' => κ' = kBegun (kSwap κ s) s) := by
  obtain ⟨-, -, -, f1, f2⟩ := hC.2.2.2.1 s hs
  refine r_enter (by decide) (Nat.le_of_ble_eq_true rfl) (fun _ C E => ?_)
  refine v_X6_beginDue_0 C E hn hC Gr.rf hs (fun b1 e1 κ4 e4 κ8 e8 κ12 e12 => ?_)
  have e13 : κ4.2.2 s 13 = κ.2.2 s 14 := by rw [e4]; simp [kr]
  have e : κ12 = kSwap κ s := by rw [e12, e8, e13, e1, e4]; rfl
  have hC4 : CoK n κ4 := by rw [e4]; exact CoK.r hn hC hs (Or.inl rfl) f2
  have hC8 : CoK n κ8 := by rw [e8]; exact hC4
  have hC12 : CoK n κ12 := by rw [e12]; exact CoK.r hn hC8 hs (Or.inr rfl) (by rw [e1]; exact f1)
  have h14 : κ12.2.2 s 14 = κ.2.2 s 13 := by rw [e12, e1]; simp [kr]
  refine ⟨_, s_St_begun hn hC12 hs ?_, fun κ18 q => by rw [q, e]⟩
  rw [h14, e12, e8, e13, e4]
  have : (kr (ki (kr κ s 13 (κ.2.2 s 14)) (κ.2.2 s 14) 0 0) s 14 b1).1 (κ.2.2 s 13) 0 = κ.1 (κ.2.2 s 13) 0 := by
    simp [kr, ki, hd]
  rw [this]
  exact hk
theorem s_St_endFrame {s : Nat} {t : Int64} (hn : okN n) (hC : CoK n κ) (hs : atS n s = some (.inl 6)) : r_KV l w B n tX6_endFrame [.ref (B + s), .long t] κ (fun κ' => κ' = if κ.1 (κ.2.2 s 14) 0 = 1 ∨ κ.1 (κ.2.2 s 14) 0 = 3 then kl (ki (ki (ki κ (κ.2.2 s 14) 0 0) s 9 (if κ.1 (κ.2.2 s 14) 0 = 1 then 2 else 4)) s 10 (κ.1 (κ.2.2 s 14) 1)) s 11 (t + 4) else ki κ (κ.2.2 s 14) 0 0) := by
  obtain ⟨-, -, -, f1, f2⟩ := hC.2.2.2.1 s hs
  have hne : κ.2.2 s 14 ≠ s := fun q => by rw [q, hs] at f2; cases f2
  have hb := (at_frame hn f2).2.2.2.1
  refine r_enter (by decide) (Nat.le_of_ble_eq_true rfl) (fun X C E => ?_)
  refine v_X6_endFrame_0 C E hn hC Gr.rf hs (fun z e κ3 e3 => ?_)
  subst e
  have hC3 : CoK n κ3 := by rw [e3]; exact hC
  have hG3 : Gr n κ κ3 := by rw [e3]; exact Gr.rf.i (by omega)
  have fin : (κ.1 (κ.2.2 s 14) 0 = 1 ∨ κ.1 (κ.2.2 s 14) 0 = 3) → r_W X w B 4 0 0 (r_Z X w B tX6_endFrame (ZKV n κ (fun κ' => κ' = if κ.1 (κ.2.2 s 14) 0 = 1 ∨ κ.1 (κ.2.2 s 14) 0 = 3 then kl (ki (ki (ki κ (κ.2.2 s 14) 0 0) s 9 (if κ.1 (κ.2.2 s 14) 0 = 1 then 2 else 4)) s 10 (κ.1 (κ.2.2 s 14) 1)) s 11 (t + 4) else ki κ (κ.2.2 s 14) 0 0))) 26 [(0, Value.ref (B + s)), (1, Value.long t), (3, Value.int (κ.1 (κ.2.2 s 14) 0))] [] (shp n, κ3) := by
    intro hc
    refine v_X6_endFrame_26 C E hn hC3 hG3 hs (fun z2 e2 κ5 e5 κ9 e9 κ13 e13 => ?_)
    rw [if_pos hc, e13, e9, e5, e2, e3]
    have h1 : (ki (ki κ (κ.2.2 s 14) 0 0) s 9 (if κ.1 (κ.2.2 s 14) 0 = 1 then 2 else 4)).1 ((ki (ki κ (κ.2.2 s 14) 0 0) s 9 (if κ.1 (κ.2.2 s 14) 0 = 1 then 2 else 4)).2.2 s 14) 1 = κ.1 (κ.2.2 s 14) 1 := by
      simp [ki, hne]
    rw [h1]
  exact ⟨fun c => fin (Or.inl c), fun c => ⟨fun c2 => fin (Or.inr c2), fun c2 => by rw [if_neg (fun q => q.elim c c2)]; exact e3⟩⟩
theorem s_St_idle {s : Nat} {x : Int32} (hn : okN n) (hC : CoK n κ) (hs : atS n s = some (.inl 6)) : r_KV l w B n tX6_countIdle [.ref (B + s), .int x] κ (fun κ' => κ' = if x = 0 then ki κ s 6 0 else if κ.1 s 6 + 1 ≤ κ.1 s 7 ∨ κ.1 s 5 ≤ 0 then ki κ s 6 (κ.1 s 6 + 1) else ki (ki κ s 6 (κ.1 s 6 + 1)) s 5 (κ.1 s 5 - 1)) := by
  refine r_enter (by decide) (Nat.le_of_ble_eq_true rfl) (fun X C E => ?_)
  refine v_X6_countIdle_0 C E hn hC Gr.rf hs ?_
  have g6 : ∀ y : Int32, (ki κ s 6 y).1 s 6 = y := fun y => by simp [ki]
  have g7 : ∀ y : Int32, (ki κ s 6 y).1 s 7 = κ.1 s 7 := fun y => by simp [ki]
  have g5 : ∀ y : Int32, (ki κ s 6 y).1 s 5 = κ.1 s 5 := fun y => by simp [ki]
  refine ⟨fun c κ2 e => by rw [if_pos c]; exact e, fun c κ6 e6 => ?_⟩
  rw [e6, g6, g7, g5]
  refine ⟨fun c1 => by rw [if_neg c, if_pos (Or.inl c1)], fun c1 => ⟨fun c2 => by rw [if_neg c, if_pos (Or.inr c2)], fun c2 κ12 e => by rw [if_neg c, if_neg (fun q => q.elim c1 c2)]; exact e⟩⟩
theorem s_drawCount {s : Nat} (hn : okN n) (hC : CoK n κ) (hs : atS n s = some (.inl 6)) (hx : 1 ≤ κ.1 s 3 + 1) (hx0 : ¬ κ.1 s 3 + 1 = 0) (h : ¬ κ.1 2 1 ≤ κ.1 2 2 → vp_in (κ.1 2 2) 400) : r_KV l w B n tX7_drawCount [.ref (B + 1), .ref (B + s)] κ (fun κ' => κ' = if κ.1 2 1 ≤ κ.1 2 2 then ki κ s 5 0 else ki (ki κ 2 2 (κ.1 2 2 + 1)) s 5 (rem (κ.1 3 (κ.1 2 2).toNatClampNeg) (κ.1 s 3 + 1))) := by
  refine r_enter (by decide) (Nat.le_of_ble_eq_true rfl) (fun X C E => ?_)
  refine v_X7_drawCount_0 C E hn hC Gr.rf hs ⟨_, s_Coins_draw hn hC hx hx0 h, fun z κ3 q κ10 e => ?_⟩
  by_cases c : κ.1 2 1 ≤ κ.1 2 2
  · obtain ⟨rfl, rfl⟩ := q.1 c
    rw [if_pos c]; exact e
  · obtain ⟨rfl, rfl⟩ := q.2 c
    rw [if_neg c]; exact e
theorem s_Pay_releases {x y : Int32} (hn : okN n) (hC : CoK n κ) (hy : vp_in y 301) (hx : vp_in x 36) : r_KI l w B n tX4_releases [.ref (B + 4), .int x, .int y] κ (fun z κ' => (z = 0 ∨ z = 1) ∧ (z = 1 ↔ ¬ κ.1 8 y.toNatClampNeg = 0 ∧ κ.1 5 y.toNatClampNeg = x ∧ κ.1 7 y.toNatClampNeg ≤ κ.1 10 x.toNatClampNeg) ∧ κ' = if z = 1 then (if κ.1 7 y.toNatClampNeg = κ.1 10 x.toNatClampNeg then ki (ki κ 8 y.toNatClampNeg 0) 10 x.toNatClampNeg (κ.1 10 x.toNatClampNeg + 1) else ki κ 8 y.toNatClampNeg 0) else κ) := by
  refine r_enter (by decide) (Nat.le_of_ble_eq_true rfl) (fun X C E => ?_)
  refine v_X4_releases_0 C E hn hC Gr.rf ⟨hy, fun c1 => ⟨Or.inl rfl, by simp [c1], by simp⟩, fun c1 => ⟨fun c2 => ⟨hx, fun c3 κ6 e6 => ?_, fun c3 => ⟨Or.inl rfl, by simp [c3], by simp⟩⟩, fun c2 => ⟨Or.inl rfl, by simp [c2], by simp⟩⟩⟩
  have g7 : κ6.1 7 y.toNatClampNeg = κ.1 7 y.toNatClampNeg := by rw [e6]; simp [ki]
  have g10 : κ6.1 10 x.toNatClampNeg = κ.1 10 x.toNatClampNeg := by rw [e6]; simp [ki]
  rw [g7, g10]
  refine ⟨fun c4 κ11 e11 => ⟨Or.inr rfl, by simp [c1, c2, c3], ?_⟩, fun c4 => ⟨Or.inr rfl, by simp [c1, c2, c3], ?_⟩⟩
  · rw [if_pos rfl, if_pos c4, e11, e6]
  · rw [if_pos rfl, if_neg c4, e6]
end FRM
section FRM2
variable {l : Launch} {w : r_V} {B n : Nat} {κ : Ku}
/-- the payloads of a row whose slots are all good, by the bits g; at: where the next one begins -/
def goodOf (κ : Ku) (g : Int64) : List Int32 → Int32 → List Int32
  | [], _ => []
  | p :: L, at1 => (if g &&& maskOf at1 (κ.1 6 p.toNatClampNeg) = maskOf at1 (κ.1 6 p.toNatClampNeg) then [p] else []) ++ goodOf κ g L (at1 + κ.1 6 p.toNatClampNeg)
theorem goodOf_len (κ : Ku) (g : Int64) : ∀ (L : List Int32) (a : Int32), (goodOf κ g L a).length ≤ L.length
  | [], _ => by simp [goodOf]
  | p :: L, a => by
    have := goodOf_len κ g L (a + κ.1 6 p.toNatClampNeg)
    simp only [goodOf, List.length_append, List.length_cons]
    split <;> simp <;> omega
theorem s_Pay_copyGood {f r : Nat} {L L2 : List Int32} {x : Int32} (hn : okN n) (hC : CoK n κ) (hf : atS n f = some (.inl 2)) (h : Rw n κ (f + 1) 4 L) (h2 : Rw n κ r 4 L2) (hne : r ≠ f ∧ r ≠ f + 1 ∧ r + 1 ≠ f + 1 ∧ r ≠ f + 2 ∧ 19 ≤ r) (hx : vp_in x n) (hp : ∀ p ∈ L, vp_in p 301) : r_KV l w B n tX4_copyGood [.ref (B + 4), .ref (B + f), .int x, .ref (B + r)] κ (fun κ' => OI [r, r + 1] κ κ' ∧ Rw n κ' r 4 (goodOf κ (κ.2.1 (f + 3) x.toNatClampNeg) L 1)) := by
  have hb := (at_row hn h2.1).2.1
  have hbs : ∀ a ∈ [r, r + 1], a < mOf n := by intro a ha; simp at ha; omega
  have a3 := h.2.2.1
  refine r_enter (by decide) (Nat.le_of_ble_eq_true rfl) (fun X C E => ?_)
  refine v_X4_copyGood_0 C E hn hC Gr.rf hf h2.1 (fun κ1 e1 => ?_)
  generalize hg : κ.2.1 (f + 3) x.toNatClampNeg = g
  have hgd : ∀ (i : Nat) (hi : i < L.length), L.getD i 0 = L[i] := fun i hi => by simp [List.getD_eq_getElem?_getD, List.getElem?_eq_getElem hi]
  have key : ∀ (k i : Nat) (κ' : Ku) (at1 : Int32) (D : List Int32), i + k = L.length → D.length ≤ i → OI [r, r + 1] κ κ' → Rw n κ' r 4 D → D ++ goodOf κ g (L.drop i) at1 = goodOf κ g L 1 → r_W X w B 7 0 0 (r_Z X w B tX4_copyGood (ZKV n κ (fun κ' => OI [r, r + 1] κ κ' ∧ Rw n κ' r 4 (goodOf κ g L 1)))) 11 [(0, Value.ref (B + 4)), (1, Value.ref (B + f)), (2, Value.int x), (3, Value.ref (B + r)), (4, Value.int at1), (5, Value.int (nI i))] [] (shp n, κ') := by
    intro k
    induction k with
    | zero =>
      intro i κ' at1 D hi hd hO hR hD
      have hi : i = L.length := by omega
      subst hi
      rw [List.drop_length] at hD
      simp only [goodOf, List.append_nil] at hD
      have hs : κ'.1 (f + 1) 1 = nI L.length := by rw [hO.2 (f + 1) (by simp; omega)]; exact h.2.2.2.1
      exact v_X4_copyGood_11 C E hn (hO.co hC) (hO.gr Gr.rf hbs) hf h2.1 ⟨fun _ => ⟨hO, by rw [← hD]; exact hR⟩, fun c => absurd (by rw [hs]; exact nI_le (Nat.le_refl _) (by omega)) c⟩
    | succ k ih =>
      intro i κ' at1 D hi hd hO hR hD
      have hil : i < L.length := by omega
      have hs : κ'.1 (f + 1) 1 = nI L.length := by rw [hO.2 (f + 1) (by simp; omega)]; exact h.2.2.2.1
      have hR1 : Rw n κ' (f + 1) 4 L := h.keep (hO.2 (f + 1) (by simp; omega)) (hO.2 (f + 1 + 1) (by simp; omega))
      have h6 : ∀ κ'' : Ku, OI [r, r + 1] κ κ'' → κ''.1 6 = κ.1 6 := fun κ'' q => q.2 6 (by simp; omega)
      have hgo : κ'.2.1 (f + 3) x.toNatClampNeg = g := by rw [hO.1]; exact hg
      have hm : L.getD i 0 ∈ L := by rw [hgd i hil]; exact List.getElem_mem hil
      have hdr : L.drop i = L.getD i 0 :: L.drop (i + 1) := by rw [List.drop_eq_getElem_cons hil, hgd i hil]
      rw [hdr] at hD
      simp only [goodOf] at hD
      have fin : ∀ (κ'' : Ku) (D' : List Int32), OI [r, r + 1] κ κ'' → Rw n κ'' r 4 D' → D'.length ≤ i + 1 → D' ++ goodOf κ g (L.drop (i + 1)) (at1 + κ.1 6 (L.getD i 0).toNatClampNeg) = goodOf κ g L 1 → r_W X w B 7 0 0 (r_Z X w B tX4_copyGood (ZKV n κ (fun κ' => OI [r, r + 1] κ κ' ∧ Rw n κ' r 4 (goodOf κ g L 1)))) 57 [(0, Value.ref (B + 4)), (1, Value.ref (B + f)), (2, Value.int x), (3, Value.ref (B + r)), (4, Value.int at1), (5, Value.int (nI i)), (6, Value.int (L.getD i 0))] [] (shp n, κ'') := by
        intro κ'' D' hO' hR' hd' hD'
        refine v_X4_copyGood_57 C E hn (hO'.co hC) (hO'.gr Gr.rf hbs) hf h2.1 ⟨hp _ hm, fun z2 e2 z4 e4 => ?_⟩
        rw [e4, nI_1, e2, h6 κ'' hO']
        exact ih (i + 1) κ'' _ D' (by omega) hd' hO' hR' hD'
      refine v_X4_copyGood_11 C E hn (hO.co hC) (hO.gr Gr.rf hbs) hf h2.1 ⟨fun c => absurd c (by rw [hs]; exact nI_ge (by omega) (by omega)), fun _ => ⟨_, s_Row_get hn (hO.co hC) hR1 (show i < 2 ^ 30 by omega), fun z κ4 q => ?_⟩⟩
      obtain ⟨rfl, rfl⟩ := q
      refine ⟨hp _ hm, _, s_Frame_areGood hn (hO.co hC) hf hx, fun z16 κ14 q => ?_⟩
      obtain ⟨rfl, rfl⟩ := q
      rw [hgo, h6 _ hO]
      by_cases c : g &&& maskOf at1 (κ.1 6 (L.getD i 0).toNatClampNeg) = maskOf at1 (κ.1 6 (L.getD i 0).toNatClampNeg)
      · rw [if_pos c] at hD ⊢
        refine ⟨fun q => absurd q (by decide), fun _ => ⟨_, s_Row_add hn (hO.co hC) hR, fun κ24 q => ?_⟩⟩
        rw [if_pos (by omega)] at q
        exact fin κ24 (D ++ [L.getD i 0]) (hO.trans q.1) q.2 (by simp; omega) (by rw [List.append_assoc]; exact hD)
      · rw [if_neg c] at hD ⊢
        exact ⟨fun _ => fin _ D hO hR (by omega) (by simpa using hD), fun q => absurd rfl q⟩
  have hO1 : OI [r, r + 1] κ κ1 := by rw [e1]; exact OI.rf.i (by simp)
  have h0 := key L.length 0 κ1 1 [] (by omega) (by simp) hO1 (by rw [e1]; exact h2.nil) (by simp)
  rw [nI_0] at h0
  exact h0
theorem s_Pay_add {a b z : Int32} {P : Nat} (hn : okN n) (hC : CoK n κ) (hP : P < 300) (h : κ.1 4 4 = nI P) (hq : vp_in (a * 6 + b) 36) : r_KI l w B n tX4_add [.ref (B + 4), .int a, .int b, .int z] κ (fun r κ' => r = nI (P + 1) ∧ κ' = ki (ki (ki (ki (ki κ 4 4 (nI (P + 1))) 5 (P + 1) (a * 6 + b)) 6 (P + 1) z) 7 (P + 1) (κ.1 9 (a * 6 + b).toNatClampNeg)) 9 (a * 6 + b).toNatClampNeg (κ.1 9 (a * 6 + b).toNatClampNeg + 1)) := by
  refine r_enter (by decide) (Nat.le_of_ble_eq_true rfl) (fun X C E => ?_)
  refine v_X4_add_0 C E hn hC Gr.rf (fun κ1 e1 => ?_)
  have hC1 : CoK n κ1 := by rw [e1]; exact hC
  refine ⟨_, s_Pay_pairOf hn hC1, fun z9 κ7 q => ?_⟩
  obtain ⟨rfl, rfl⟩ := q
  have h1 : κ7.1 4 4 = nI (P + 1) := by rw [e1, h, nI_1]; simp [ki]
  have hv : vp_in (nI (P + 1)) 301 := vp_in_nI (by omega) (by decide)
  have hcl : (nI (P + 1)).toNatClampNeg = P + 1 := nI_clamp (by omega)
  rw [h1, hcl]
  refine ⟨hv, fun κ15 e15 => ?_⟩
  have h2 : κ15.1 4 4 = nI (P + 1) := by rw [e15]; simp [ki, h1]
  rw [h2, hcl]
  refine ⟨hv, fun κ20 e20 => ?_⟩
  have h3 : κ20.1 4 4 = nI (P + 1) := by rw [e20]; simp [ki, h2]
  have h35 : κ20.1 5 (P + 1) = a * 6 + b := by rw [e20, e15]; simp [ki]
  have h39 : κ20.1 9 = κ.1 9 := by rw [e20, e15, e1]; funext j; simp [ki]
  rw [h3, hcl, h35, h39]
  refine ⟨hv, hq, fun κ26 e26 => ?_⟩
  have h4 : κ26.1 4 4 = nI (P + 1) := by rw [e26]; simp [ki, h3]
  have h45 : κ26.1 5 (P + 1) = a * 6 + b := by rw [e26]; simp [ki, h35]
  have h49 : κ26.1 9 = κ.1 9 := by rw [e26]; funext j; simp [ki, h39]
  rw [h4, hcl, h45, h49]
  refine ⟨hv, hq, fun κ32 e32 => ⟨by rw [e32]; simp [ki, h4], ?_⟩⟩
  rw [e32, e26, e20, e15, e1, h, nI_1]
end FRM2
