/-! LEAVES OF THE CLASS, exactly: what each answers and what it writes -/
def rem (a b : Int32) : Int32 := a - a / b * b
section LEAF
variable {l : Launch} {w : r_V} {B n : Nat} {κ : Ku}
theorem r_enterF {σ : r_S} {t : r_T} {as : List Value} {Q : Option Value → r_S → Prop} (hy : plainFor t.1 = true) (hlen : (lg_sl as).length ≤ t.2.2.1) (h : ∀ X : r_X, r_C X w B t.2.2.1 t.2.1 t.1.cls → r_E X l t → r_W X w B t.2.2.1 0 0 (r_Z X w B t Q) 0 (lv_args 0 as) [] σ) : r_M l w B t as σ Q := by
  refine va_MetF (cc := t.2.1) (maxL := t.2.2.1) (ret := t.2.2.2.1) hy rfl ?_
  intro p e s m args below meth c s₁ Bd hml hv
  obtain ⟨rfl, hB, hH, hK⟩ := hv
  have hts := atoms_spec (ws := Cond.code t.1 t.2.1 t.2.2.1 t.2.2.2.1 :: kBig) Bd.pre
  have hown : s.vm.findClass t.1.cls = some m.cls := findClass_of_methodNamed Bd.named
  have hin : meth.name = t.1.name := (name_of_methodNamed Bd.named Bd.method).1
  have hl := lv_entry as (n := t.2.2.1) hlen
  rw [lg_entry_eq]
  exact h (p, l, e, (headSpec (Cond.code t.1 t.2.1 t.2.2.1 t.2.2.2.1 :: kBig) t.2.2.2.2).room, s, m, as.toArray, below, meth, c) ⟨⟨Bd.exec, Bd.bytes, hml, hown, fun q hq => hts q (List.mem_cons_of_mem _ hq)⟩, hK, hB⟩ ⟨rfl, rfl, Bd.returns, Bd.notSynchronized, hin⟩ s.heap [] _ hH va_S.rf hl
theorem j_max {x y : Int32} (hC : CoK n κ) : r_KI l w B n tJ9_max_7cf53 [.int x, .int y] κ (fun z κ' => κ' = κ ∧ z = if x < y then y else x):= by
  refine r_enterF (by decide +kernel) (Nat.le_of_ble_eq_true rfl) (fun _ C E => ?_)
  refine w_J9_max_7cf53_0 C E rfl ?_
  exact ⟨fun c => ⟨Gr.rf, hC, rfl, by rw [if_pos c]⟩, fun c => ⟨Gr.rf, hC, rfl, by rw [if_neg c]⟩⟩
theorem j_min {x y : Int32} (hC : CoK n κ) : r_KI l w B n tJ9_min_7cf53 [.int x, .int y] κ (fun z κ' => κ' = κ ∧ z = if y < x then y else x):= by
  refine r_enterF (by decide +kernel) (Nat.le_of_ble_eq_true rfl) (fun _ C E => ?_)
  refine w_J9_min_7cf53_0 C E rfl ?_
  exact ⟨fun c => ⟨Gr.rf, hC, rfl, by rw [if_pos c]⟩, fun c => ⟨Gr.rf, hC, rfl, by rw [if_neg c]⟩⟩
theorem j_maxl {x y : Int64} (hC : CoK n κ) : r_KL l w B n tJ9_max_f86c9 [.long x, .long y] κ (fun z κ' => κ' = κ ∧ z = if x < y then y else x):= by
  refine r_enterF (by decide +kernel) (Nat.le_of_ble_eq_true rfl) (fun _ C E => ?_)
  refine w_J9_max_f86c9_0 C E rfl ?_
  exact ⟨fun c => ⟨Gr.rf, hC, rfl, by rw [if_pos c]⟩, fun c => ⟨Gr.rf, hC, rfl, by rw [if_neg c]⟩⟩
/-- a row of longs, all one value from place i to place k -/
def kfill (κ : Ku) (a N : Nat) (x : Int64) : Ku := (κ.1, fun a' k => if a' = a ∧ k < N then x else κ.2.1 a' k, κ.2.2)
theorem kfill_0 {a : Nat} {x : Int64} : kfill κ a 0 x = κ := by
  unfold kfill
  simp
theorem kfill_s {a N : Nat} {x : Int64} : kl (kfill κ a N x) a N x = kfill κ a (N + 1) x := by
  unfold kfill kl
  refine Prod.ext rfl (Prod.ext (funext fun a' => funext fun k => ?_) rfl)
  simp only
  by_cases h1 : a' = a
  · by_cases h2 : k = N
    · rw [if_pos ⟨h1, h2⟩, if_pos ⟨h1, by omega⟩]
    · rw [if_neg (fun q => h2 q.2)]
      by_cases h3 : k < N
      · rw [if_pos ⟨h1, h3⟩, if_pos ⟨h1, by omega⟩]
      · rw [if_neg (fun q => h3 q.2), if_neg (fun q => by omega)]
  · rw [if_neg (fun q => h1 q.1), if_neg (fun q => h1 q.1), if_neg (fun q => h1 q.1)]
theorem Gr.fill {κ0 : Ku} {a N : Nat} {x : Int64} (h : Gr n κ0 κ) (ha : a < mOf n) : Gr n κ0 (kfill κ a N x) := fun a' k' h' => ⟨(h a' k' h').1, by simp only [kfill]; rw [if_neg (by omega)]; exact (h a' k' h').2.1, (h a' k' h').2.2⟩
theorem j_fill {a N : Nat} {x : Int64} (hC : CoK n κ) (ha : atS n a = some (.inr (1, N))) (hb : a < mOf n) (hN : N < 2 ^ 31) : r_KV l w B n tJ7_fill_d0a16 [.ref (B + a), .long x] κ (fun κ' => κ' = kfill κ a N x) := by
  refine r_enter (by decide) (Nat.le_of_ble_eq_true rfl) (fun X C E => w_J7_fill_d0a16_0 C E rfl ⟨N, ha, fun z e => ?_⟩)
  subst e
  have key : ∀ (k i : Nat), i + k = N → r_W X w B 5 0 0 (r_Z X w B tJ7_fill_d0a16 (ZKV n κ (fun κ' => κ' = kfill κ a N x))) 6 [(0, Value.ref (B + a)), (1, Value.long x), (3, Value.int (nI i)), (4, Value.int (nI N))] [] (shp n, kfill κ a i x) := by
    intro k
    induction k with
    | zero =>
      intro i hi
      have hi : i = N := by omega
      subst hi
      exact w_J7_fill_d0a16_6 C E rfl ⟨fun _ => ⟨Gr.rf.fill hb, hC, rfl⟩, fun c => absurd (nI_le (Nat.le_refl i) hN) c⟩
    | succ k ih =>
      intro i hi
      refine w_J7_fill_d0a16_6 C E rfl ⟨fun c => absurd c (nI_ge (by omega) hN), fun _ => ⟨N, ha, vp_in_nI (by omega) hN, fun σ5 e5 z8 e8 => ?_⟩⟩
      have h1 := ih (i + 1) (by omega)
      rw [e5, e8, nI_1, nI_clamp (show i < 2 ^ 31 by omega)]
      have h2 : r_ul (shp n, kfill κ a i x) a i x = (shp n, kfill κ a (i + 1) x) := by rw [← kfill_s]; rfl
      rw [h2]
      exact h1
  have h0 := key N 0 (by omega)
  rw [kfill_0, nI_0] at h0
  exact h0
theorem s_Coins_add {x : Int32} (hn : okN n) (hC : CoK n κ) (h : ¬ 400 ≤ κ.1 2 1 → vp_in (κ.1 2 1) 400) : r_KV l w B n tX0_add [.ref (B + 2), .int x] κ (fun κ' => κ' = if 400 ≤ κ.1 2 1 then κ else ki (ki κ 3 (κ.1 2 1).toNatClampNeg x) 2 1 (κ.1 2 1 + 1)):= by
  refine r_enter (by decide) (Nat.le_of_ble_eq_true rfl) (fun _ C E => ?_)
  refine v_X0_add_0 C E hn hC Gr.rf ?_
  exact ⟨fun c => by rw [if_pos c], fun c => ⟨h c, fun κ3 e3 κ7 e7 => by rw [if_neg c, e7, e3]; simp [ki]⟩⟩
theorem s_Coins_undrawn (hn : okN n) (hC : CoK n κ) : r_KI l w B n tX0_undrawn [.ref (B + 2)] κ (fun z κ' => κ' = κ ∧ z = κ.1 2 1 - κ.1 2 2):= by
  refine r_enter (by decide) (Nat.le_of_ble_eq_true rfl) (fun _ C E => ?_)
  refine v_X0_undrawn_0 C E hn hC Gr.rf ?_
  exact ⟨rfl, rfl⟩
theorem s_Coins_draw {x : Int32} (hn : okN n) (hC : CoK n κ) (hx : 1 ≤ x) (hx0 : ¬ x = 0) (h : ¬ κ.1 2 1 ≤ κ.1 2 2 → vp_in (κ.1 2 2) 400) : r_KI l w B n tX0_draw [.ref (B + 2), .int x] κ (fun z κ' => (κ.1 2 1 ≤ κ.1 2 2 → z = 0 ∧ κ' = κ) ∧ (¬ κ.1 2 1 ≤ κ.1 2 2 → z = rem (κ.1 3 (κ.1 2 2).toNatClampNeg) x ∧ κ' = ki κ 2 2 (κ.1 2 2 + 1))):= by
  refine r_enter (by decide) (Nat.le_of_ble_eq_true rfl) (fun _ C E => ?_)
  refine v_X0_draw_0 C E hn hC Gr.rf ?_
  exact ⟨fun c => ⟨fun _ => ⟨rfl, rfl⟩, fun q => absurd c q⟩, fun c => ⟨fun _ => ⟨h c, fun z e κ6 e6 => ⟨hx0, fun q => absurd q c, fun _ => ⟨by rw [e]; rfl, e6⟩⟩⟩, fun q => absurd hx q⟩⟩
theorem s_Events_told (hn : okN n) (hC : CoK n κ) : r_KI l w B n tX1_told [.ref (B + 15)] κ (fun z κ' => κ' = κ ∧ z = if 700 < κ.1 15 3 then 700 else κ.1 15 3):= by
  refine r_enter (by decide) (Nat.le_of_ble_eq_true rfl) (fun _ C E => ?_)
  refine v_X1_told_0 C E hn hC Gr.rf ?_
  exact ⟨_, j_min hC, fun z κ' h => h⟩
def kTell (p k : Int32) (t : Int64) (κ : Ku) : Ku := ki (if 700 ≤ κ.1 15 3 then κ else ki (ki (ki κ 16 (κ.1 15 3).toNatClampNeg p) 17 (κ.1 15 3).toNatClampNeg k) 18 (κ.1 15 3).toNatClampNeg t.toInt32) 15 3 (κ.1 15 3 + 1)
theorem s_Events_add {p k : Int32} {t : Int64} (hn : okN n) (hC : CoK n κ) (h : ¬ 700 ≤ κ.1 15 3 → vp_in (κ.1 15 3) 700) : r_KV l w B n tX1_add [.ref (B + 15), .int p, .int k, .long t] κ (fun κ' => κ' = kTell p k t κ):= by
  refine r_enter (by decide) (Nat.le_of_ble_eq_true rfl) (fun _ C E => ?_)
  refine v_X1_add_0 C E hn hC Gr.rf ?_
  exact ⟨fun c κ2 e2 => by unfold kTell; rw [if_pos c]; exact e2, fun c => ⟨h c, fun κ7 e7 => ⟨by rw [e7]; exact h c, fun κ12 e12 => ⟨by rw [e12, e7]; exact h c, fun κ17 e17 κ21 e21 => by unfold kTell; rw [if_neg c, e21, e17, e12, e7]; rfl⟩⟩⟩⟩
theorem s_Noise_full (hn : okN n) (hC : CoK n κ) : r_KI l w B n tX3_isFull [.ref (B + 11)] κ (fun z κ' => κ' = κ ∧ z = if κ.1 11 3 < 40 then 0 else 1):= by
  refine r_enter (by decide) (Nat.le_of_ble_eq_true rfl) (fun _ C E => ?_)
  refine v_X3_isFull_0 C E hn hC Gr.rf ?_
  exact (fun z e => ⟨by rw [e]; split <;> simp, rfl, e⟩)
theorem s_Noise_add {x k : Int32} {y : Int64} (hn : okN n) (hC : CoK n κ) (h : vp_in (κ.1 11 3) 40) : r_KV l w B n tX3_add [.ref (B + 11), .int x, .long y, .int k] κ (fun κ' => κ' = ki (kl (kl (ki κ 12 (κ.1 11 3).toNatClampNeg x) 13 (κ.1 11 3).toNatClampNeg y) 14 (κ.1 11 3).toNatClampNeg (y + k.toInt64)) 11 3 (κ.1 11 3 + 1)):= by
  refine r_enter (by decide) (Nat.le_of_ble_eq_true rfl) (fun _ C E => ?_)
  refine v_X3_add_0 C E hn hC Gr.rf ?_
  exact ⟨h, fun κ2 e2 => ⟨by rw [e2]; exact h, fun κ7 e7 => ⟨by rw [e7, e2]; exact h, fun κ12 e12 κ16 e16 => by rw [e16, e12, e7, e2]; rfl⟩⟩⟩
/-- is there noise among the first k rows -/
def kCov (κ : Ku) (x : Int32) (t : Int64) (i : Nat) : Bool := decide (κ.1 12 i = x) && !decide (t < κ.2.1 13 i) && !decide (κ.2.1 14 i ≤ t)
theorem s_Noise_cover {x : Int32} {t : Int64} {N : Nat} (hn : okN n) (hC : CoK n κ) (hN : N ≤ 40) (h : κ.1 11 3 = nI N) : r_KI l w B n tX3_cover [.ref (B + 11), .int x, .long t] κ (fun z κ' => κ' = κ ∧ z = if (List.range N).any (kCov κ x t) then 1 else 0) := by
  refine r_enter (by decide) (Nat.le_of_ble_eq_true rfl) (fun X C E => v_X3_cover_0 C E hn hC Gr.rf ?_)
  have key : ∀ (k i : Nat), i + k = N → (∀ j, j < i → kCov κ x t j = false) → r_W X w B 5 0 0 (r_Z X w B tX3_cover (ZKI n κ (fun z κ' => κ' = κ ∧ z = if (List.range N).any (kCov κ x t) then 1 else 0))) 3 [(0, Value.ref (B + 11)), (1, Value.int x), (2, Value.long t), (4, Value.int (nI i))] [] (shp n, κ) := by
    intro k
    induction k with
    | zero =>
      intro i hi hj
      have hi : i = N := by omega
      subst hi
      refine v_X3_cover_3 C E hn hC Gr.rf ⟨fun _ => ⟨rfl, ?_⟩, fun c => absurd (by rw [h]; exact nI_le (Nat.le_refl i) (by omega)) c⟩
      rw [if_neg]
      intro q
      obtain ⟨j, hj1, hj2⟩ := List.any_eq_true.mp q
      rw [hj j (List.mem_range.mp hj1)] at hj2
      cases hj2
    | succ k ih =>
      intro i hi hj
      have hcl : (nI i).toNatClampNeg = i := nI_clamp (by omega)
      have next : kCov κ x t i = false → r_W X w B 5 0 0 (r_Z X w B tX3_cover (ZKI n κ (fun z κ' => κ' = κ ∧ z = if (List.range N).any (kCov κ x t) then 1 else 0))) 3 [(0, Value.ref (B + 11)), (1, Value.int x), (2, Value.long t), (4, Value.int (nI (i + 1)))] [] (shp n, κ) := fun hc => ih (i + 1) (by omega) (fun j q => by
        rcases Nat.lt_succ_iff_lt_or_eq.mp q with q | q
        · exact hj j q
        · rw [q]; exact hc)
      refine v_X3_cover_3 C E hn hC Gr.rf ⟨fun c => absurd c (by rw [h]; exact nI_ge (by omega) (by omega)), fun _ => ⟨vp_in_nI (by omega) (by decide), ?_⟩⟩
      rw [hcl]
      refine ⟨fun c1 => ⟨fun c2 z e => ?_, fun c2 => ⟨fun c3 z e => ?_, fun c3 => ⟨rfl, ?_⟩⟩⟩, fun c1 z e => ?_⟩
      · rw [e, nI_1]; exact next (by simp [kCov, c2])
      · rw [e, nI_1]; exact next (by simp [kCov, c3])
      · rw [if_pos]
        exact List.any_eq_true.mpr ⟨i, List.mem_range.mpr (by omega), by simp [kCov, c1, c2, c3]⟩
      · rw [e, nI_1]; exact next (by simp [kCov, c1])
  have h0 := key N 0 (by omega) (fun j q => absurd q (by omega))
  rw [nI_0] at h0
  exact h0
theorem s_Pay_pairOf {x y : Int32} (hn : okN n) (hC : CoK n κ) : r_KI l w B n tX4_pairOf [.ref (B + 4), .int x, .int y] κ (fun z κ' => κ' = κ ∧ z = x * 6 + y):= by
  refine r_enter (by decide) (Nat.le_of_ble_eq_true rfl) (fun _ C E => ?_)
  refine v_X4_pairOf_0 C E hn hC Gr.rf ?_
  exact ⟨rfl, rfl⟩
theorem s_Pay_full (hn : okN n) (hC : CoK n κ) : r_KI l w B n tX4_isFull [.ref (B + 4)] κ (fun z κ' => κ' = κ ∧ z = if κ.1 4 4 < 300 then 0 else 1):= by
  refine r_enter (by decide) (Nat.le_of_ble_eq_true rfl) (fun _ C E => ?_)
  refine v_X4_isFull_0 C E hn hC Gr.rf ?_
  exact (fun z e => ⟨by rw [e]; split <;> simp, rfl, e⟩)
theorem s_Pay_number {x : Int32} (hn : okN n) (hC : CoK n κ) (h : vp_in x 301) : r_KI l w B n tX4_numberOf [.ref (B + 4), .int x] κ (fun z κ' => κ' = κ ∧ z = κ.1 7 x.toNatClampNeg):= by
  refine r_enter (by decide) (Nat.le_of_ble_eq_true rfl) (fun _ C E => ?_)
  refine v_X4_numberOf_0 C E hn hC Gr.rf ?_
  exact ⟨h, rfl, rfl⟩
theorem s_Pay_want {x y : Int32} (hn : okN n) (hC : CoK n κ) (h : vp_in x 36) : r_KV l w B n tX4_wantAtLeast [.ref (B + 4), .int x, .int y] κ (fun κ' => κ' = ki κ 10 x.toNatClampNeg (if κ.1 10 x.toNatClampNeg < y then y else κ.1 10 x.toNatClampNeg)):= by
  refine r_enter (by decide) (Nat.le_of_ble_eq_true rfl) (fun _ C E => ?_)
  refine v_X4_wantAtLeast_0 C E hn hC Gr.rf ?_
  exact ⟨h, _, j_max hC, fun z κ4 q κ11 e => by rw [e, q.1, q.2]⟩
theorem s_Pay_hold {x y : Int32} (hn : okN n) (hC : CoK n κ) (hx : vp_in x 36) (hy : vp_in y 301) : r_KV l w B n tX4_hold [.ref (B + 4), .int x, .int y] κ (fun κ' => κ' = if κ.1 7 y.toNatClampNeg < κ.1 10 x.toNatClampNeg then κ else ki κ 8 y.toNatClampNeg 1):= by
  refine r_enter (by decide) (Nat.le_of_ble_eq_true rfl) (fun _ C E => ?_)
  refine v_X4_hold_0 C E hn hC Gr.rf ?_
  exact ⟨hy, hx, fun c => by rw [if_pos c], fun c κ4 e => by rw [if_neg c]; exact e⟩
end LEAF
