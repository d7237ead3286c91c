/-! paired changes -/
section R2
variable {n T d m i : Nat} {e : Bool} {A : Bk} {V : Vw}
theorem Rel.own {k g : Nat} {x : Int32} (h : Rel n T d m e i A V) (hq : k = 3 ∧ g = 17 ∨ k = 4 ∧ g = 18 ∨ k = 5 ∧ g = 19 ∨ k = 6 ∧ g = 20 ∨ k = 7 ∧ g = 21 ∨ k = 18 ∧ g = 31) : Rel n T d m e i (bki A 0 k x) (vui V g x) := by
  obtain ⟨⟨a0, a1, a2, a3, a4, a5, a6, a7, a8, a9, a10, a11⟩, hW, hB, hK, hT, hL, dO, sO, hds, p1, p2, hD, hS⟩ := h
  rcases hds with ⟨rfl, rfl⟩ | ⟨rfl, rfl⟩
  · rcases hq with ⟨rfl, rfl⟩ | ⟨rfl, rfl⟩ | ⟨rfl, rfl⟩ | ⟨rfl, rfl⟩ | ⟨rfl, rfl⟩ | ⟨rfl, rfl⟩
    all_goals
      refine ⟨⟨a0, a1, a2, ?_, ?_, ?_, ?_, ?_, ?_, a9, a10, a11⟩, hW, hB, hK, hT, hL, 6, 10, Or.inl ⟨rfl, rfl⟩, p1, p2, hD, hS⟩
      all_goals first | exact a3 | exact a4 | exact a5 | exact a6 | exact a7 | exact a8 | rfl
  · rcases hq with ⟨rfl, rfl⟩ | ⟨rfl, rfl⟩ | ⟨rfl, rfl⟩ | ⟨rfl, rfl⟩ | ⟨rfl, rfl⟩ | ⟨rfl, rfl⟩
    all_goals
      refine ⟨⟨a0, a1, a2, ?_, ?_, ?_, ?_, ?_, ?_, a9, a10, a11⟩, hW, hB, hK, hT, hL, 10, 6, Or.inr ⟨rfl, rfl⟩, p1, p2, hD, hS⟩
      all_goals first | exact a3 | exact a4 | exact a5 | exact a6 | exact a7 | exact a8 | rfl
theorem Rel.got {x : Int64} (h : Rel n T d m e i A V) : Rel n T d m e i (bkl A 0 19 x) (vul V 32 x) := by
  obtain ⟨⟨a0, a1, a2, a3, a4, a5, a6, a7, a8, a9, a10, a11⟩, hW, hB, hK, hT, hL, dO, sO, hds, p1, p2, hD, hS⟩ := h
  rcases hds with ⟨rfl, rfl⟩ | ⟨rfl, rfl⟩
  · exact ⟨⟨a0, a1, a2, a3, a4, a5, a6, a7, a8, a9, rfl, a11⟩, hW, hB, hK, hT, hL, 6, 10, Or.inl ⟨rfl, rfl⟩, p1, p2, hD, hS⟩
  · exact ⟨⟨a0, a1, a2, a3, a4, a5, a6, a7, a8, a9, rfl, a11⟩, hW, hB, hK, hT, hL, 10, 6, Or.inr ⟨rfl, rfl⟩, p1, p2, hD, hS⟩
theorem Rel.silent {x : Nat} (h : Rel n T d m e i A V) (hx : x ≤ T + 64) : Rel n T d m e i (bkl A 0 8 (lN x)) (vul V 22 (lN x)) := by
  obtain ⟨⟨a0, a1, a2, a3, a4, a5, a6, a7, a8, a9, a10, a11⟩, hW, hB, hK, hT, hL, dO, sO, hds, p1, p2, hD, hS⟩ := h
  rcases hds with ⟨rfl, rfl⟩ | ⟨rfl, rfl⟩
  · exact ⟨⟨a0, a1, a2, a3, a4, a5, a6, a7, a8, rfl, a10, x, rfl, hx⟩, hW, hB, hK, hT, hL, 6, 10, Or.inl ⟨rfl, rfl⟩, p1, p2, hD, hS⟩
  · exact ⟨⟨a0, a1, a2, a3, a4, a5, a6, a7, a8, rfl, a10, x, rfl, hx⟩, hW, hB, hK, hT, hL, 10, 6, Or.inr ⟨rfl, rfl⟩, p1, p2, hD, hS⟩
theorem Rel.nowait (h : Rel n T d m e i A V) : Rel n T d m e i (bki A 0 9 0) (vul V 23 (-1)) := by
  obtain ⟨hO, hW, hB, hK, hT, hL, dO, sO, hds, p1, p2, hD, hS⟩ := h
  rcases hds with ⟨rfl, rfl⟩ | ⟨rfl, rfl⟩
  · exact ⟨hO, Or.inl ⟨rfl, rfl⟩, hB, hK, hT, ⟨hL.1, fun _ => Or.inr rfl, fun _ _ => rfl, hL.2.2.2⟩, 6, 10, Or.inl ⟨rfl, rfl⟩, p1, p2, hD, hS⟩
  · exact ⟨hO, Or.inl ⟨rfl, rfl⟩, hB, hK, hT, ⟨hL.1, fun _ => Or.inr rfl, fun _ _ => rfl, hL.2.2.2⟩, 10, 6, Or.inr ⟨rfl, rfl⟩, p1, p2, hD, hS⟩
def vkp (V : Vw) (K : List Nat) : Vw := (V.1, V.2.1, V.2.2.1, V.2.2.2.1, V.2.2.2.2.1, K, V.2.2.2.2.2.2)
theorem Rel.keptRow {K : List Nat} {g h' : Nat → Int32} (h : Rel n T d m e i A V) (hK' : RA (bow A 1 g h') 1 10 (K.map nI)) : Rel n T d m e i (bow A 1 g h') (vkp V K) := by
  obtain ⟨hO, hW, hB, hK, hT, hL, dO, sO, hds, p1, p2, hD, hS⟩ := h
  rcases hds with ⟨rfl, rfl⟩ | ⟨rfl, rfl⟩
  · exact ⟨hO, hW, hB, hK', hT, hL, 6, 10, Or.inl ⟨rfl, rfl⟩, p1, p2, hD, hS⟩
  · exact ⟨hO, hW, hB, hK', hT, hL, 10, 6, Or.inr ⟨rfl, rfl⟩, p1, p2, hD, hS⟩
end R2
section R3
variable {n T lim cur s : Nat} {S : Int32} {d m : Nat → Nat} {e : Nat → Bool} {κ κ' : Ku} {μ μ' : Mu}
theorem view_at {x : Int32} {g : Nat} (hg : okg g = true) (i : Nat) : view (ui μ g s x) i = if i = s then vui (view μ s) g x else view μ i := by
  by_cases h : i = s
  · subst h; rw [if_pos rfl]; exact view_ui hg
  · rw [if_neg h]; exact view_ui_ne hg h
theorem view_atl {x : Int64} {g : Nat} (hg : okl g = true) (i : Nat) : view (ul μ g s x) i = if i = s then vul (view μ s) g x else view μ i := by
  by_cases h : i = s
  · subst h; rw [if_pos rfl]; exact view_ul hg
  · rw [if_neg h]; exact view_ul_ne hg h
theorem okg_17 {g : Nat} (h : okg g = true) : 17 ≤ g := by
  simp only [okg, Bool.and_eq_true, decide_eq_true_eq] at h
  exact h.1
theorem okl_17 {g : Nat} (h : okl g = true) : 17 ≤ g := by
  simp only [okl, Bool.and_eq_true, decide_eq_true_eq] at h
  exact h.1
theorem R.own {k g : Nat} {x : Int32} (h : R n T S d m e lim cur κ μ) (hs : s < n) (hq : k = 3 ∧ g = 17 ∨ k = 4 ∧ g = 18 ∨ k = 5 ∧ g = 19 ∨ k = 6 ∧ g = 20 ∨ k = 7 ∧ g = 21 ∨ k = 18 ∧ g = 31) : R n T S d m e lim cur (ki κ (22 + 14 * s) k x) (ui μ g s x) := by
  have hok : okg g = true := by rcases hq with ⟨-, rfl⟩ | ⟨-, rfl⟩ | ⟨-, rfl⟩ | ⟨-, rfl⟩ | ⟨-, rfl⟩ | ⟨-, rfl⟩ <;> decide
  have hr : Rel n T (d s) (m s) (e s) s (blk (ki κ (22 + 14 * s) k x) s) (view (ui μ g s x) s) := by
    rw [view_ui hok]
    have := blk_ki (κ := κ) (s := s) (o := 0) (k := k) (x := x) (by omega)
    rw [Nat.add_zero] at this
    rw [this]
    exact (h.rel s hs).own hq
  refine h.one (κ' := ki κ (22 + 14 * s) k x) (μ' := ui μ g s x) hs h.co Ag.ii (by simp) (gmo_ui (Or.inl (okg_17 hok))) (fun i _ hi => view_ui_ne hok hi) (fun _ _ => rfl) (fun _ _ => rfl) (fun _ _ => rfl) hr ?_ ?_
  · refine h.ad.keep (fun i hi => ?_)
    rw [view_at hok]
    by_cases q : i = s
    · subst q
      rw [if_pos rfl]
      rcases hq with ⟨-, rfl⟩ | ⟨-, rfl⟩ | ⟨-, rfl⟩ | ⟨-, rfl⟩ | ⟨-, rfl⟩ | ⟨-, rfl⟩ <;> exact ⟨rfl, rfl, rfl, rfl, rfl, rfl, rfl, rfl⟩
    · rw [if_neg q]
      exact ⟨rfl, rfl, rfl, rfl, rfl, rfl, rfl, rfl⟩
  · refine h.as.keep (fun i hi => ?_)
    rw [view_at hok]
    by_cases q : i = s
    · subst q
      rw [if_pos rfl]
      rcases hq with ⟨-, rfl⟩ | ⟨-, rfl⟩ | ⟨-, rfl⟩ | ⟨-, rfl⟩ | ⟨-, rfl⟩ | ⟨-, rfl⟩ <;> exact ⟨rfl, rfl, rfl, rfl, rfl, rfl⟩
    · rw [if_neg q]
      exact ⟨rfl, rfl, rfl, rfl, rfl, rfl⟩
theorem R.got {x : Int64} (h : R n T S d m e lim cur κ μ) (hs : s < n) : R n T S d m e lim cur (kl κ (22 + 14 * s) 19 x) (ul μ 32 s x) := by
  have hr : Rel n T (d s) (m s) (e s) s (blk (kl κ (22 + 14 * s) 19 x) s) (view (ul μ 32 s x) s) := by
    rw [view_ul (by decide)]
    have := blk_kl (κ := κ) (s := s) (o := 0) (k := 19) (x := x) (by omega)
    rw [Nat.add_zero] at this
    rw [this]
    exact (h.rel s hs).got
  refine h.one (κ' := kl κ (22 + 14 * s) 19 x) (μ' := ul μ 32 s x) hs h.co Ag.ll (by simp) (gmo_ul (by omega)) (fun i _ hi => view_ul_ne (by decide) hi) (fun _ _ => rfl) (fun _ _ => rfl) (fun _ _ => rfl) hr ?_ ?_
  · refine h.ad.keep (fun i hi => ?_)
    rw [view_atl (by decide)]
    by_cases q : i = s
    · subst q; rw [if_pos rfl]; exact ⟨rfl, rfl, rfl, rfl, rfl, rfl, rfl, rfl⟩
    · rw [if_neg q]; exact ⟨rfl, rfl, rfl, rfl, rfl, rfl, rfl, rfl⟩
  · refine h.as.keep (fun i hi => ?_)
    rw [view_atl (by decide)]
    by_cases q : i = s
    · subst q; rw [if_pos rfl]; exact ⟨rfl, rfl, rfl, rfl, rfl, rfl⟩
    · rw [if_neg q]; exact ⟨rfl, rfl, rfl, rfl, rfl, rfl⟩
theorem R.silent {x : Nat} (h : R n T S d m e lim cur κ μ) (hs : s < n) (hx : x ≤ T + 64) : R n T S d m e lim cur (kl κ (22 + 14 * s) 8 (lN x)) (ul μ 22 s (lN x)) := by
  have hr : Rel n T (d s) (m s) (e s) s (blk (kl κ (22 + 14 * s) 8 (lN x)) s) (view (ul μ 22 s (lN x)) s) := by
    rw [view_ul (by decide)]
    have := blk_kl (κ := κ) (s := s) (o := 0) (k := 8) (x := lN x) (by omega)
    rw [Nat.add_zero] at this
    rw [this]
    exact (h.rel s hs).silent hx
  refine h.one (κ' := kl κ (22 + 14 * s) 8 (lN x)) (μ' := ul μ 22 s (lN x)) hs h.co Ag.ll (by simp) (gmo_ul (by omega)) (fun i _ hi => view_ul_ne (by decide) hi) (fun _ _ => rfl) (fun _ _ => rfl) (fun _ _ => rfl) hr ?_ ?_
  · refine h.ad.keep (fun i hi => ?_)
    rw [view_atl (by decide)]
    by_cases q : i = s
    · subst q; rw [if_pos rfl]; exact ⟨rfl, rfl, rfl, rfl, rfl, rfl, rfl, rfl⟩
    · rw [if_neg q]; exact ⟨rfl, rfl, rfl, rfl, rfl, rfl, rfl, rfl⟩
  · refine h.as.keep (fun i hi => ?_)
    rw [view_atl (by decide)]
    by_cases q : i = s
    · subst q; rw [if_pos rfl]; exact ⟨rfl, rfl, rfl, rfl, rfl, rfl⟩
    · rw [if_neg q]; exact ⟨rfl, rfl, rfl, rfl, rfl, rfl⟩
/-- nobody owes s an acknowledgement -/
def NP (n T lim : Nat) (V : Nat → Vw) (s : Nat) : Prop := (∀ i, i < n → ∀ a, (V i).2.1 26 = lN a → (V i).1 27 = 4 → a ≤ T + 2 → ¬ (V i).1 28 = nI s) ∧ ∀ i, i < n → ∀ a, (V i).1 37 = 4 → (V i).2.1 39 = lN a → a ≤ T → T ≤ a + lim → ¬ (V i).1 38 = nI s
theorem R.nowait (h : R n T S d m e lim cur κ μ) (hs : s < n) (hN : NP n T lim (view μ) s) : R n T S d m e lim cur (ki κ (22 + 14 * s) 9 0) (ul μ 23 s (-1)) := by
  have hr : Rel n T (d s) (m s) (e s) s (blk (ki κ (22 + 14 * s) 9 0) s) (view (ul μ 23 s (-1)) s) := by
    rw [view_ul (by decide)]
    have := blk_ki (κ := κ) (s := s) (o := 0) (k := 9) (x := 0) (by omega)
    rw [Nat.add_zero] at this
    rw [this]
    exact (h.rel s hs).nowait
  have hV1 : ∀ i, (view (ul μ 23 s (-1)) i).1 = (view μ i).1 := fun i => by
    rw [view_atl (by decide)]
    by_cases q : i = s
    · subst q; rw [if_pos rfl]; rfl
    · rw [if_neg q]
  have hV2 : ∀ i g, g ≠ 23 → (view (ul μ 23 s (-1)) i).2.1 g = (view μ i).2.1 g := fun i g hg => by
    rw [view_atl (by decide)]
    by_cases q : i = s
    · subst q; rw [if_pos rfl]; exact if_neg hg
    · rw [if_neg q]
  have hV3 : ∀ i, i ≠ s → view (ul μ 23 s (-1)) i = view μ i := fun i hi => view_ul_ne (by decide) hi
  refine h.one (κ' := ki κ (22 + 14 * s) 9 0) (μ' := ul μ 23 s (-1)) hs h.co Ag.ii (by simp) (gmo_ul (by omega)) (fun i _ hi => hV3 i hi) (fun _ _ => rfl) (fun _ _ => rfl) (fun _ _ => rfl) hr ?_ ?_
  · intro i hi a r q1 q2 q3 q4 q5
    rw [hV2 i 26 (by decide)] at q1
    rw [hV1] at q2 q5
    have hrs : r ≠ s := fun q => hN.1 i hi a q1 q2 q3 (by rw [← q]; exact q5)
    have := h.ad i hi a r q1 q2 q3 q4 q5
    unfold Wf at this ⊢
    rw [hV3 r hrs]
    exact this
  · intro i hi a r q1 q2 q3 q4 q5 q6
    rw [hV2 i 39 (by decide)] at q2
    rw [hV1] at q1 q6
    have hrs : r ≠ s := fun q => hN.2 i hi a q1 q2 q3 q4 (by rw [← q]; exact q6)
    have := h.as i hi a r q1 q2 q3 q4 q5 q6
    unfold Wf at this ⊢
    rw [hV3 r hrs]
    exact this
/-! kept payloads -/
theorem kL_drop {f k : Nat → Int32} {s p : Nat} : ∀ i, kL f (fun q => if q = p then 0 else k q) s i = (kL f k s i).filter (fun q => !decide (q = p))
  | 0 => rfl
  | i + 1 => by
    simp only [kL, List.filter_append, kL_drop i]
    congr 1
    by_cases h1 : i + 1 = p
    · subst h1
      by_cases h2 : f (i + 1) = nI s ∧ ¬ k (i + 1) = 0
      · rw [if_pos h2]; simp
      · rw [if_neg h2]; simp
    · simp only [h1, if_false]
      by_cases h2 : f (i + 1) = nI s ∧ ¬ k (i + 1) = 0
      · rw [if_pos h2]
        simp [h1]
      · rw [if_neg h2]
        rfl
theorem kL_other {f k : Nat → Int32} {s p : Nat} (hp : ¬ f p = nI s ∨ p = 0) : ∀ i, kL f (fun q => if q = p then 0 else k q) s i = kL f k s i
  | 0 => rfl
  | i + 1 => by
    simp only [kL, kL_other hp i]
    by_cases h1 : i + 1 = p
    · subst h1
      have h2 : ¬ f (i + 1) = nI s := hp.resolve_right (by omega)
      rw [if_neg (fun q => h2 q.1), if_neg (fun q => h2 q.1)]
    · simp only [h1, if_false]
theorem map_drop {K : List Nat} {p : Nat} (hK : ∀ q ∈ K, q < 2 ^ 31) (hp : p < 2 ^ 31) : (K.filter (fun q => !decide (q = p))).map nI = (K.map nI).filter (fun q => !decide (q = nI p)) := by
  induction K with
  | nil => rfl
  | cons a K ih =>
    have ih' := ih (fun q hq => hK q (by simp [hq]))
    have ha := nI_eq (hK a (by simp)) hp
    by_cases q : a = p
    · have q2 : nI a = nI p := ha.mpr q
      simp [q, ih']
    · have q2 : ¬ nI a = nI p := fun c => q (ha.mp c)
      simp [q, q2, ih']
theorem kL_self {f k : Nat → Int32} {s p : Nat} (h0 : ¬ p ∈ kL f k s n) : (kL f k s n).filter (fun q => !decide (q = p)) = kL f k s n := by
  rw [List.filter_eq_self]
  intro q hq
  simp
  intro c
  rw [c] at hq
  exact h0 hq
theorem R.keptRow {K : List Nat} (h : R n T S d m e lim cur κ μ) (hs : s < n) (hO : OI [22 + 14 * s + 1, 22 + 14 * s + 2] κ κ') (hR : Rw n κ' (22 + 14 * s + 1) 10 (K.map nI)) (hg : gmo μ' = gmo μ) (hVs : view μ' s = vkp (view μ s) K) (hV : ∀ i, i < n → i ≠ s → view μ' i = view μ i) : R n T S d m e lim cur κ' μ' := by
  have hr : Rel n T (d s) (m s) (e s) s (blk κ' s) (view μ' s) := by
    rw [hVs, blk_ow (o := 1) hO (by omega)]
    exact (h.rel s hs).keptRow (RA.of hR)
  refine h.one (κ' := κ') (μ' := μ') hs (hO.co h.co) hO.ag (by intro a ha; simp at ha; omega) hg hV (fun _ _ => rfl) (fun _ _ => rfl) (fun _ _ => rfl) hr ?_ ?_
  · refine h.ad.keep (fun i hi => ?_)
    by_cases q : i = s
    · subst q; rw [hVs]; exact ⟨rfl, rfl, rfl, rfl, rfl, rfl, rfl, rfl⟩
    · rw [hV i hi q]; exact ⟨rfl, rfl, rfl, rfl, rfl, rfl, rfl, rfl⟩
  · refine h.as.keep (fun i hi => ?_)
    by_cases q : i = s
    · subst q; rw [hVs]; exact ⟨rfl, rfl, rfl, rfl, rfl, rfl⟩
    · rw [hV i hi q]; exact ⟨rfl, rfl, rfl, rfl, rfl, rfl⟩
theorem ui6 {p : Nat} {x : Int32} : (ui μ 6 p x).1 6 = fun q => if q = p then x else μ.1 6 q := by
  funext q
  simp [ui]
theorem view_6 {p i : Nat} {x : Int32} : view (ui μ 6 p x) i = vkp (view μ i) (kL (μ.1 2) (fun q => if q = p then x else μ.1 6 q) i (pN μ)) := by
  rw [← ui6]
  refine Prod.ext (funext fun g => ?_) rfl
  show (if okg g = true then (ui μ 6 p x).1 g i else 0) = (if okg g = true then μ.1 g i else 0)
  by_cases hk : okg g = true
  · have := okg_17 hk
    rw [show (ui μ 6 p x).1 g i = μ.1 g i from if_neg (by omega)]
  · rw [if_neg hk, if_neg hk]
theorem R.drop {E p : Nat} (h : R n T S d m e lim cur κ μ) (hM : MI n E μ) (hn : okN n) (hs : s < n) (hp : p ≤ 300) (hf : p = 0 ∨ μ.1 2 p = nI s) (hO : OI [22 + 14 * s + 1, 22 + 14 * s + 2] κ κ') (hR : Rw n κ' (22 + 14 * s + 1) 10 (((view μ s).2.2.2.2.2.1.map nI).filter (fun q => !decide (q = nI p)))) : R n T S d m e lim cur κ' (ui μ 6 p 0) := by
  have hn6 := hn.2
  have hP := hM.pay.2
  have hmem : ∀ q ∈ kL (μ.1 2) (μ.1 6) s (pN μ), q < 2 ^ 31 := fun q hq => by have := (kL_mem hq).2.1; omega
  refine h.keptRow (K := (kL (μ.1 2) (μ.1 6) s (pN μ)).filter (fun q => !decide (q = p))) hs hO ?_ (gmo_ui (by omega)) ?_ (fun i hi' hi => ?_)
  · rw [map_drop hmem (by omega)]
    exact hR
  · rw [view_6, kL_drop]
  · rw [view_6, kL_other]
    · rfl
    · rcases hf with hf | hf
      · exact Or.inr hf
      · left
        rw [hf]
        intro c
        exact hi (nI_inj (by omega) (by omega) c).symm
end R3
