section IT
variable {l : Launch} {w : r_V} {B m c N n a k : Nat}
theorem all_z {L : List Nat} {f : Nat → Bool} (h : L.all f = true) {a : Nat} (ha : a ∈ L) : f a = true := List.all_eq_true.mp h a ha
theorem q_zI (hn : okN n) (ha : a ∈ [3, 5, 6, 7, 8, 9, 10, 12, 16, 17, 18] ++ [1, 2, 3, 4, 5, 7, 8, 9, 10, 11, 13, 14, 15, 34].map (fun g => mOf n + g)) : qI n a k = 0 := by
  have h := (ck_all hn).1
  unfold ckZ at h
  rw [Bool.and_eq_true] at h
  unfold qI
  exact lk_zI _ _ (all_z h.1 ha)
theorem q_zL (hn : okN n) (ha : a ∈ [13, 14] ++ [12, 16].map (fun g => mOf n + g)) : qL n a k = 0 := by
  have h := (ck_all hn).1
  unfold ckZ at h
  rw [Bool.and_eq_true] at h
  unfold qL
  exact lk_zL _ _ (all_z h.2 ha)
theorem mq_zI (hn : okN n) {g i : Nat} (hg : g ∈ [1, 2, 3, 4, 5, 7, 8, 9, 10, 11, 13, 14, 15, 34]) : qI n (mOf n + g) i = 0 := q_zI hn (List.mem_append_right _ (List.mem_map.mpr ⟨g, hg, rfl⟩))
theorem mq_zL (hn : okN n) {g i : Nat} (hg : g ∈ [12, 16]) : qL n (mOf n + g) i = 0 := q_zL hn (List.mem_append_right _ (List.mem_map.mpr ⟨g, hg, rfl⟩))
theorem kq_zI (hn : okN n) {a k : Nat} (ha : a ∈ [3, 5, 6, 7, 8, 9, 10, 12, 16, 17, 18]) : qI n a k = 0 := q_zI hn (List.mem_append_left _ ha)
theorem kq_zL (hn : okN n) {a k : Nat} (ha : a ∈ [13, 14]) : qL n a k = 0 := q_zL hn (List.mem_append_left _ ha)
theorem CoK_F {σ : r_S} (hR : ∀ a k, σ.2.2.2 a k = qR n a k) (hn : okN n) : CoK n σ.2 := by
  have h := (ck_all hn).2.2.1
  unfold ckR at h
  rw [Bool.and_eq_true, Bool.and_eq_true] at h
  obtain ⟨h1, h2, h3⟩ := h
  have e1 : ∀ a k r, (a, k, r) ∈ [(1, 0, 21), (1, 1, 2), (1, 2, 4), (1, 3, 11), (1, 4, 15), (1, 5, 19), (2, 0, 3), (4, 0, 5), (4, 1, 6), (4, 2, 7), (4, 3, 8), (4, 5, 9), (4, 6, 10), (11, 0, 12), (11, 1, 13), (11, 2, 14), (15, 0, 16), (15, 1, 17), (15, 2, 18)] → σ.2.2.2 a k = r := fun a k r hq => by
    rw [hR]
    have := List.all_eq_true.mp h1 (a, k, r) hq
    exact of_decide_eq_true this
  have e2 : ∀ a sh, atS n a = some sh → (match some sh with
      | some (.inl 5) => decide (qR n a 0 = a + 1)
      | some (.inl 2) => decide (qR n a 4 = a + 1) && decide (qR n a 5 = a + 3)
      | some (.inl 6) => decide (qR n a 15 = a + 1) && (decide (qR n a 16 = a + 3) && (decide (qR n a 17 = a + 5) && (decide (atS n (qR n a 13) = some (.inl 2)) && decide (atS n (qR n a 14) = some (.inl 2)))))
      | _ => true) = true := fun a sh hq => by
    have := List.all_eq_true.mp h2 a (List.mem_range.mpr (atS_lt hn hq))
    rw [hq] at this
    exact this
  refine ⟨⟨e1 _ _ _ (by decide), e1 _ _ _ (by decide), e1 _ _ _ (by decide), e1 _ _ _ (by decide), e1 _ _ _ (by decide), e1 _ _ _ (by decide), e1 _ _ _ (by decide), e1 _ _ _ (by decide), e1 _ _ _ (by decide), e1 _ _ _ (by decide), e1 _ _ _ (by decide), e1 _ _ _ (by decide), e1 _ _ _ (by decide), e1 _ _ _ (by decide), e1 _ _ _ (by decide), e1 _ _ _ (by decide), e1 _ _ _ (by decide), e1 _ _ _ (by decide), e1 _ _ _ (by decide)⟩, fun a ha => ?_, fun a ha => ?_, fun a ha => ?_, fun i hi => ?_⟩
  · rw [hR]
    exact of_decide_eq_true (e2 a _ ha)
  · have q := e2 a _ ha
    simp only [Bool.and_eq_true, decide_eq_true_eq] at q
    rw [hR, hR]
    exact q
  · have q := e2 a _ ha
    simp only [Bool.and_eq_true, decide_eq_true_eq] at q
    rw [hR, hR, hR, hR, hR]
    exact q
  · rw [hR]
    exact of_decide_eq_true (List.all_eq_true.mp h3 i (List.mem_range.mpr hi))
theorem hc_zero {h : Nat → Int32} (hz : ∀ p, h p = 0) : ∀ N, hc h N = 0
  | 0 => rfl
  | N + 1 => by
    show hc h N + (if h N = 0 then 0 else 1) = 0
    rw [hc_zero hz N, if_pos (hz N)]
theorem INV_of {σ : r_S} (hS : σ.1 = shp n) (hM : Mo (mOf n) σ) (hI : ∀ a k, σ.2.1 a k = qI n a k) (hL : ∀ a k, σ.2.2.1 a k = qL n a k) (hR : ∀ a k, σ.2.2.2 a k = qR n a k) (hn : okN n) : INV n 0 σ := by
  have hn6 := hn.2
  obtain ⟨-, hG, -, hSt⟩ := ck_all hn
  have mu_I : ∀ {g i : Nat}, (mu (mOf n) σ).1 g i = qI n (mOf n + g) i := fun {g i} => hI _ _
  have mu_L : ∀ {g i : Nat}, (mu (mOf n) σ).2 g i = qL n (mOf n + g) i := fun {g i} => hL _ _
  have mu_zI : ∀ (_ : okN n) {g i : Nat}, g ∈ [1, 2, 3, 4, 5, 7, 8, 9, 10, 11, 13, 14, 15, 34] → (mu (mOf n) σ).1 g i = 0 := fun _ {g i} hg => mu_I.trans (mq_zI hn hg)
  have mu_zL : ∀ (_ : okN n) {g i : Nat}, g ∈ [12, 16] → (mu (mOf n) σ).2 g i = 0 := fun _ {g i} hg => mu_L.trans (mq_zL hn hg)
  have ka_zI : ∀ (_ : okN n) {a k : Nat}, a ∈ [3, 5, 6, 7, 8, 9, 10, 12, 16, 17, 18] → σ.2.1 a k = 0 := fun _ {a k} ha => (hI _ _).trans (kq_zI hn ha)
  have ka_zL : ∀ (_ : okN n) {a k : Nat}, a ∈ [13, 14] → σ.2.2.1 a k = 0 := fun _ {a k} ha => (hL _ _).trans (kq_zL hn ha)
  unfold ckG at hG
  simp only [Bool.and_eq_true, decide_eq_true_eq] at hG
  obtain ⟨g1, g2, g3, g4, g5, g6, g7, g8, g9, g10, g11, g12, g13, g14, g15, g16⟩ := hG
  have st : ∀ i, i < n → ckS n i = true := fun i hi => List.all_eq_true.mp hSt i (List.mem_range.mpr hi)
  have p0 : pN (mu (mOf n) σ) = 0 := by
    show ((mu (mOf n) σ).1 0 5).toNatClampNeg = 0
    rw [mu_I]
    show (qI n (mOf n) 5).toNatClampNeg = 0
    rw [g12]
    rfl
  have n0 : nN (mu (mOf n) σ) = 0 := by
    show ((mu (mOf n) σ).1 0 17).toNatClampNeg = 0
    rw [mu_I]
    show (qI n (mOf n) 17).toNatClampNeg = 0
    rw [g15]
    rfl
  have m0 : ∀ k, (mu (mOf n) σ).1 0 k = qI n (mOf n) k := fun k => mu_I
  have tl0 : ∀ i, i < n → tl ((mu (mOf n) σ).1 34) ((mu (mOf n) σ).1 35) i = [] := fun i hi => by
    have h := st i hi
    unfold ckS at h
    simp only [Bool.and_eq_true, decide_eq_true_eq] at h
    obtain ⟨s0, s1, s2, s3, s17, s4, s5, s6, s7, s18, sl8, sl22, sl19, sl23, s9, t1, t2, t3, t4, u1, u3, u35, u36, u37, u27, ul26, r13, r14, v7, v6, v11, v10⟩ := h
    unfold tl
    rw [mu_I, u35]
    rfl
  have hh : ∀ i, fHears (mu (mOf n) σ) i = fun s => !decide (i = s) := fun i => by
    funext s
    unfold fHears
    rw [mu_zI hn (by decide)]
    simp
  refine ⟨hS, hM, 0, 0, by omega, by omega, ⟨0, CoK_F hR hn, ?_, fun i hi => ?_, ?_, ?_⟩, ?_, ?_⟩
  · -- what they share
    have K : ∀ a k, a < 22 → (glo σ.2).1 a k = σ.2.1 a k := fun a k ha => if_pos ha
    have KL : ∀ a k, a < 22 → (glo σ.2).2 a k = σ.2.2.1 a k := fun a k ha => if_pos ha
    have M : ∀ g k, g < 17 → g ≠ 1 → g ≠ 6 → ¬ (g = 0 ∧ k = 0) → (gmo (mu (mOf n) σ)).1 g k = (mu (mOf n) σ).1 g k := fun g k q1 q2 q3 q4 => if_pos ⟨q1, q2, q3, q4⟩
    have ML : ∀ g k, g < 17 → (gmo (mu (mOf n) σ)).2 g k = (mu (mOf n) σ).2 g k := fun g k q1 => if_pos q1
    have z : ∀ k, (mu (mOf n) σ).2 0 k = qL n (mOf n) k := fun k => mu_L
    refine ⟨⟨?_, ?_, ?_, ?_, ?_, ?_, ?_, ?_, ?_⟩, fun k => ?_, fun p => ?_, fun p => ?_, fun p => ?_, fun p => ?_, fun p => ?_, fun p => ?_, fun k => ?_, fun k => ?_, fun k => ?_, fun k => ?_, fun k => ?_, fun k => ?_, [], by simp, ?_, fun k hk => absurd hk (by simp)⟩
    · rw [K _ _ (by omega), M _ _ (by omega) (by omega) (by omega) (by omega), hI, m0]; exact g1
    · rw [KL _ _ (by omega), ML _ _ (by omega), hL, z, g2, g3]
    · rw [ML _ _ (by omega), z, g3]; rfl
    · rw [K _ _ (by omega), hI]; exact g4
    · rw [K _ _ (by omega), M _ _ (by omega) (by omega) (by omega) (by omega), hI, m0, g5, g13]
    · rw [K _ _ (by omega), M _ _ (by omega) (by omega) (by omega) (by omega), hI, m0, g6, g14]
    · rw [K _ _ (by omega), M _ _ (by omega) (by omega) (by omega) (by omega), hI, m0, g7, g12]
    · rw [K _ _ (by omega), M _ _ (by omega) (by omega) (by omega) (by omega), hI, m0, g8, g15]
    · rw [K _ _ (by omega), M _ _ (by omega) (by omega) (by omega) (by omega), hI, m0, g9, g16]
    · rw [K _ _ (by omega), M _ _ (by omega) (by omega) (by omega) (by omega), ka_zI hn (by decide), mu_zI hn (by decide)]
    · rw [K _ _ (by omega), M _ _ (by omega) (by omega) (by omega) (by omega), M _ _ (by omega) (by omega) (by omega) (by omega), ka_zI hn (by decide), mu_zI hn (by decide), mu_zI hn (by decide)]; rfl
    · rw [K _ _ (by omega), M _ _ (by omega) (by omega) (by omega) (by omega), ka_zI hn (by decide), mu_zI hn (by decide)]
    · rw [K _ _ (by omega), M _ _ (by omega) (by omega) (by omega) (by omega), ka_zI hn (by decide), mu_zI hn (by decide)]
    · rw [K _ _ (by omega), M _ _ (by omega) (by omega) (by omega) (by omega), ka_zI hn (by decide), mu_zI hn (by decide)]
    · rw [K _ _ (by omega), M _ _ (by omega) (by omega) (by omega) (by omega), ka_zI hn (by decide), mu_zI hn (by decide)]
    · rw [K _ _ (by omega), M _ _ (by omega) (by omega) (by omega) (by omega), ka_zI hn (by decide), mu_zI hn (by decide)]
    · rw [K _ _ (by omega), M _ _ (by omega) (by omega) (by omega) (by omega), ka_zI hn (by decide), mu_zI hn (by decide)]
    · rw [KL _ _ (by omega), ML _ _ (by omega), ka_zL hn (by decide), mu_zL hn (by decide)]
    · rw [KL _ _ (by omega), ML _ _ (by omega), M _ _ (by omega) (by omega) (by omega) (by omega), ka_zL hn (by decide), mu_zL hn (by decide), mu_zI hn (by decide)]; rfl
    · rw [K _ _ (by omega), M _ _ (by omega) (by omega) (by omega) (by omega), ka_zI hn (by decide), mu_zI hn (by decide)]
    · rw [K _ _ (by omega), M _ _ (by omega) (by omega) (by omega) (by omega), ka_zI hn (by decide), mu_zI hn (by decide)]
    · rw [K _ _ (by omega), ML _ _ (by omega), ka_zI hn (by decide), mu_zL hn (by decide)]; rfl
    · rw [K _ _ (by omega), hI]; exact g10
  · -- a station
    have h := st i hi
    unfold ckS at h
    simp only [Bool.and_eq_true, decide_eq_true_eq] at h
    obtain ⟨s0, s1, s2, s3, s17, s4, s5, s6, s7, s18, sl8, sl22, sl19, sl23, s9, t1, t2, t3, t4, u1, u3, u35, u36, u37, u27, ul26, r13, r14, v7, v6, v11, v10⟩ := h
    have K : ∀ o k, o < 14 → (blk σ.2 i).1 o k = qI n (22 + 14 * i + o) k := fun o k ho => by rw [blk_cell ho]; exact hI _ _
    have KL : ∀ o k, o < 14 → (blk σ.2 i).2.1 o k = qL n (22 + 14 * i + o) k := fun o k ho => by rw [blk_celll ho]; exact hL _ _
    have KR : ∀ o k, o < 14 → (blk σ.2 i).2.2 o k = qR n (22 + 14 * i + o) k := fun o k ho => by rw [blk_cellr ho]; exact hR _ _
    have V : ∀ g, okg g = true → (view (mu (mOf n) σ) i).1 g = qI n (mOf n + g) i := fun g hg => by
      show (if okg g = true then (mu (mOf n) σ).1 g i else 0) = _
      rw [if_pos hg]; exact mu_I
    have VL : ∀ g, okl g = true → (view (mu (mOf n) σ) i).2.1 g = qL n (mOf n + g) i := fun g hg => by
      show (if okl g = true then (mu (mOf n) σ).2 g i else 0) = _
      rw [if_pos hg]; exact mu_L
    have VB : ∀ k, k < 4 → (view (mu (mOf n) σ) i).2.2.1 k = qI n (mOf n + 33) (4 * i + k) := fun k hk => by
      show (if k < 4 then (mu (mOf n) σ).1 33 (4 * i + k) else 0) = _
      rw [if_pos hk]; exact mu_I
    have nil : ∀ o, o + 1 < 14 → ∀ N, qI n (22 + 14 * i + o) 1 = 0 → RA (blk σ.2 i) o N [] := fun o ho N q => ⟨by simp, by rw [K o 1 (by omega)]; exact q, fun k hk => absurd hk (by simp)⟩
    have VK : (view (mu (mOf n) σ) i).2.2.2.2.2.1.map nI = [] := by
      show (kL _ _ i (pN (mu (mOf n) σ))).map nI = []
      rw [p0]
      rfl
    have VT : (view (mu (mOf n) σ) i).2.2.2.2.1 i = [] := tl0 i hi
    refine ⟨⟨?_, ?_, ?_, ?_, ?_, ?_, ?_, ?_, ?_, ?_, ?_, 0, ?_, by omega⟩, Or.inl ⟨?_, ?_⟩, ⟨?_, ?_, ?_, ?_⟩, ?_, ?_, ⟨Or.inl ?_, fun q => ?_, fun q => ?_, fun q => ?_, fun q => ?_⟩, 6, 10, Or.inl ⟨rfl, rfl⟩, ?_, ?_, ⟨[], nil 7 (by omega) 4 v7, Or.inl ⟨?_, ?_⟩⟩, ⟨[], nil 11 (by omega) 4 v11, ?_, Or.inl ?_⟩⟩
    · rw [K _ _ (by omega)]; exact s0
    · rw [K _ _ (by omega)]; exact s1
    · rw [K _ _ (by omega)]
      show _ = nI (mkM n (fHears (mu (mOf n) σ) i))
      rw [hh i]
      exact s2
    · rw [K _ _ (by omega), V _ (by decide), s17]; exact s3
    · rw [K _ _ (by omega), V _ (by decide)]; exact s4
    · rw [K _ _ (by omega), V _ (by decide)]; exact s5
    · rw [K _ _ (by omega), V _ (by decide)]; exact s6
    · rw [K _ _ (by omega), V _ (by decide)]; exact s7
    · rw [K _ _ (by omega), V _ (by decide)]; exact s18
    · rw [KL _ _ (by omega), VL _ (by decide), sl22]; exact sl8
    · rw [KL _ _ (by omega), VL _ (by decide)]; exact sl19
    · rw [VL _ (by decide), sl22]; rfl
    · rw [VL _ (by decide)]; exact sl23
    · rw [K _ _ (by omega)]; exact s9
    · rw [K _ _ (by omega), VB _ (by omega)]; exact t1
    · rw [K _ _ (by omega), VB _ (by omega)]; exact t2
    · rw [K _ _ (by omega), VB _ (by omega)]; exact t3
    · rw [K _ _ (by omega), VB _ (by omega)]; exact t4
    · rw [VK]; exact nil 1 (by omega) 10 u1
    · rw [VT]; exact nil 3 (by omega) 4 u3
    · rw [V _ (by decide)]; exact u37
    · rw [V _ (by decide), u27] at q; exact absurd q (by decide)
    · rw [V _ (by decide), u37] at q; exact absurd q (by decide)
    · rw [V _ (by decide), u37] at q; exact absurd q (by decide)
    · rw [V _ (by decide), u27] at q; exact absurd q (by decide)
    · rw [KR _ _ (by omega)]; exact r13
    · rw [KR _ _ (by omega)]; exact r14
    · rw [VL _ (by decide)]; exact ul26
    · rw [K _ _ (by omega)]; exact v6
    · rw [K _ _ (by omega), V _ (by decide), u37]; exact v10
    · rw [V _ (by decide)]; exact u37
  · intro i hi a r q1 q2 q3 q4 q5
    have h := st i hi
    unfold ckS at h
    simp only [Bool.and_eq_true, decide_eq_true_eq] at h
    obtain ⟨s0, s1, s2, s3, s17, s4, s5, s6, s7, s18, sl8, sl22, sl19, sl23, s9, t1, t2, t3, t4, u1, u3, u35, u36, u37, u27, ul26, -⟩ := h
    have q1 : (mu (mOf n) σ).2 26 i = lN a := q1
    rw [mu_L, ul26] at q1
    exact absurd q1.symm (lN_m1 (by omega))
  · intro i hi a r q1 q2 q3 q4 q5 q6
    have h := st i hi
    unfold ckS at h
    simp only [Bool.and_eq_true, decide_eq_true_eq] at h
    obtain ⟨s0, s1, s2, s3, s17, s4, s5, s6, s7, s18, sl8, sl22, sl19, sl23, s9, t1, t2, t3, t4, u1, u3, u35, u36, u37, u27, ul26, -⟩ := h
    have q1 : (mu (mOf n) σ).1 37 i = 4 := q1
    rw [mu_I, u37] at q1
    exact absurd q1 (by decide)
  · refine ⟨(m0 1).trans g11, ⟨?_, by rw [p0]; omega⟩, ⟨0, 0, ?_, ?_, by omega, by omega⟩, ⟨?_, by rw [n0]; omega⟩, ⟨0, ?_, ?_⟩, fun i hi => ⟨3, ?_, by omega⟩, fun p p1 p2 => ?_, ⟨fun p q p1 p2 p3 => ?_, fun p a b p1 p2 => ?_, fun a b ha hb => ⟨0, ?_, by omega⟩⟩, fun i hi => ?_, fun i hi => ?_, ⟨fun p => Or.inl ?_, fun p a b p1 p2 => ?_⟩, fun i hi => ?_⟩
    · rw [m0, g12, p0]; rfl
    · rw [m0, g13]; rfl
    · rw [m0, g14]; rfl
    · rw [m0, g15, n0]; rfl
    · rw [m0, g16]; rfl
    · rw [hc_zero (fun p => mu_zI hn (by decide))]; omega
    · have h := st i hi
      unfold ckS at h
      simp only [Bool.and_eq_true, decide_eq_true_eq] at h
      obtain ⟨s0, s1, s2, s3, s17, -⟩ := h
      rw [mu_I, s17]; rfl
    · rw [p0] at p2; omega
    · rw [p0] at p3; omega
    · rw [p0] at p2; omega
    · rw [mu_zI hn (by decide)]; rfl
    · have h := st i hi
      unfold ckS at h
      simp only [Bool.and_eq_true, decide_eq_true_eq] at h
      obtain ⟨s0, s1, s2, s3, s17, s4, s5, s6, s7, s18, sl8, sl22, sl19, sl23, s9, t1, t2, t3, t4, u1, u3, u35, u36, -⟩ := h
      refine ⟨0, by omega, ?_, fun k hk => absurd hk (by omega), fun _ => mu_zI hn (by decide), Or.inl ?_⟩
      · rw [mu_I, u35]; rfl
      · rw [mu_I, u36]
    · have h := st i hi
      unfold ckS at h
      simp only [Bool.and_eq_true, decide_eq_true_eq] at h
      obtain ⟨s0, s1, s2, s3, s17, s4, s5, s6, s7, s18, sl8, sl22, sl19, sl23, s9, t1, t2, t3, t4, u1, u3, u35, u36, u37, u27, ul26, -⟩ := h
      left
      rw [mu_L, ul26]
      decide
    · exact mu_zI hn (by decide)
    · rw [p0] at p2; omega
    · have h := st i hi
      unfold ckS at h
      simp only [Bool.and_eq_true, decide_eq_true_eq] at h
      obtain ⟨s0, s1, s2, s3, s17, s4, s5, s6, s7, s18, sl8, sl22, sl19, sl23, s9, t1, t2, t3, t4, u1, u3, u35, u36, u37, u27, ul26, -⟩ := h
      refine ⟨fun q => ?_, fun q => ?_, fun q => ?_⟩
      · rw [mu_I, u37] at q; exact absurd q (by decide)
      · rw [mu_L, sl23] at q; exact absurd q (by decide)
      · rw [mu_L, ul26] at q; exact absurd q (by decide)
  · intro j
    left
    exact mu_zI hn (by decide)
theorem INV_F (hn : okN n) : INV n 0 (F_ n) := INV_of (F_S hn) (Mo_F hn) (fun _ _ => F_I) (fun _ _ => F_L) (fun _ _ => F_R) hn
end IT
