section RWB
variable {X : r_X} {w : r_V} {B nL cells slots : Nat} {Q : State → Prop} {cc : ByteArray} {own : String} {pc : Nat} {lv : List (Nat × Value)} {rest : List Value} {σ : r_S}
theorem r_lcmp (C : r_C X w B nL cc own) {x y : Int64} (hdg : decode cc pc = .ok (.lcmp, 1)) (k : r_W X w B nL cells slots Q (pc + 1) lv (.int (lg_cmp x y) :: rest) σ) : r_W X w B nL cells slots Q pc lv (.long y :: .long x :: rest) σ := by
  obtain ⟨p, l, e, R, s, m, args, below, meth, c⟩ := X
  exact fun H locs la g1 g2 g3 => W.lcmp C.1.1 C.1.2.1 hdg (k H locs la g1 g2 g3)
theorem r_ldc (C : r_C X w B nL cc own) {index : Nat} {v : Int32} (hq : Cond.constant own index v ∈ kBig) (hdg : decode cc pc = .ok (.ldc index, 2)) (k : r_W X w B nL cells slots Q (pc + 2) lv (.int v :: rest) σ) : r_W X w B nL cells slots Q pc lv rest σ := by
  obtain ⟨p, l, e, R, s, m, args, below, meth, c⟩ := X
  exact fun H locs la g1 g2 g3 => lv_ldc C.1.1 C.1.2.1 C.1.2.2.2.1 (C.1.2.2.2.2 _ hq) hdg (k H locs la g1 g2 g3)
theorem r_ldc2 (C : r_C X w B nL cc own) {index : Nat} {v : Int64} (hq : Cond.constantLong own index v ∈ kBig) (hdg : decode cc pc = .ok (.ldc2_w index, 3)) (k : r_W X w B nL cells slots Q (pc + 3) lv (.long v :: rest) σ) : r_W X w B nL cells slots Q pc lv rest σ := by
  obtain ⟨p, l, e, R, s, m, args, below, meth, c⟩ := X
  exact fun H locs la g1 g2 g3 => lv_ldc2 C.1.1 C.1.2.1 C.1.2.2.2.1 (C.1.2.2.2.2 _ hq) hdg (k H locs la g1 g2 g3)
/-- fewer locals, in another order -/
theorem r_loc {lv' : List (Nat × Value)} (h : ∀ q ∈ lv', q ∈ lv) {st : List Value} (k : r_W X w B nL cells slots Q pc lv' st σ) : r_W X w B nL cells slots Q pc lv st σ := by
  obtain ⟨p, l, e, R, s, m, args, below, meth, c⟩ := X
  exact fun H locs la g1 g2 g3 => k H locs la g1 g2 ⟨g3.1, g3.2.1, fun q hq => g3.2.2 q (h q hq)⟩
theorem r_wid {c2 s2 : Nat} (h1 : cells ≤ c2) (h2 : slots ≤ s2) {st : List Value} (k : r_W X w B nL c2 s2 Q pc lv st σ) : r_W X w B nL cells slots Q pc lv st σ := by
  obtain ⟨p, l, e, R, s, m, args, below, meth, c⟩ := X
  exact fun H locs la g1 g2 g3 => W.widen h1 h2 (k H locs la g1 g2 g3)
theorem r_get (C : r_C X w B nL cc own) {a ci k index : Nat} {fin : Bool} {v : Value} (hat : r_at σ a = some (.inl ci)) (F : r_Fa own index ci k fin) (hv : r_fv B σ (kTf ci k) a k = v) (hdg : decode cc pc = .ok (.getfield index, 3)) (kk : r_W X w B nL cells slots Q (pc + 3) lv (v :: rest) σ) : r_W X w B nL cells slots Q pc lv (.ref (B + a) :: rest) σ := by
  obtain ⟨p, l, e, R, s, m, args, below, meth, c⟩ := X
  obtain ⟨⟨hx, hb, hml, hown, hts⟩, ⟨hK, hNw⟩, hB⟩ := C
  obtain ⟨cn, T, N, ref, nm, ds, ⟨hc, hN, hin, hty, hnm⟩, hk, hT, hl⟩ := F
  intro H locs la g1 g2 g3
  refine va_get (D := w.1) (cl := kCl) (ci := ci) (C := cn) (T := T) (N := N) hx hb hts hin hown hK g1.2 (a - 1) (r_ws_at hat) hc k hk (ref := ref) (index := index) ?_ ?_ (v := v) ?_ hdg (kk H locs la g1 g2 g3)
  · rw [hT]; exact hts _ hl
  · rw [hT]; exact fun _ h => h
  · simp [hN, hk, hv]
theorem r_getR (C : r_C X w B nL cc own) {a ci k index : Nat} {fin : Bool} (hat : r_at σ a = some (.inl ci)) (F : r_Fa own index ci k fin) (hR : r_isR (kTf ci k) = true) (hv : σ.2.2.2 a k ≠ 0) (hdg : decode cc pc = .ok (.getfield index, 3)) (kk : r_W X w B nL cells slots Q (pc + 3) lv (.ref (B + σ.2.2.2 a k) :: rest) σ) : r_W X w B nL cells slots Q pc lv (.ref (B + a) :: rest) σ :=
  r_get C hat F ((r_fv_R hR).trans (r_rf_ne hv)) hdg kk
theorem r_put (C : r_C X w B nL cc own) {a ci k index : Nat} {v : Value} {σ' : r_S} (hat : r_at σ a = some (.inl ci)) (F : r_Fa own index ci k false) (hv : r_fv B σ' (kTf ci k) a k = v) (hn : narrow (kTf ci k) v = v) (hf : fits (kTf ci k) v = true) (h1 : σ'.1 = σ.1) (ho : ∀ a' k', ¬ (a' = a ∧ k' = k) → σ'.2.1 a' k' = σ.2.1 a' k' ∧ σ'.2.2.1 a' k' = σ.2.2.1 a' k' ∧ σ'.2.2.2 a' k' = σ.2.2.2 a' k') (hdg : decode cc pc = .ok (.putfield index, 3)) (kk : r_W X w B nL cells slots Q (pc + 3) lv rest σ') : r_W X w B nL cells slots Q pc lv (v :: .ref (B + a) :: rest) σ := by
  obtain ⟨p, l, e, R, s, m, args, below, meth, c⟩ := X
  obtain ⟨⟨hx, hb, hml, hown, hts⟩, ⟨hK, hNw⟩, hB⟩ := C
  obtain ⟨cn, T, N, ref, nm, ds, ⟨hc, hN, hin, hty, hnm⟩, hk, hT, hl⟩ := F
  intro H locs la g1 g2 g3
  have he : (r_ws w.2 B σ)[a - 1]? = some (B + a, .inr (ci, (List.range (kNf ci)).map (fun k => r_fv B σ (kTf ci k) a k))) := r_ws_at hat
  have hap := va_apart (own := own) hts hin (kTf ci) hty hnm hK hc
  obtain ⟨r, h9, cell, q1, q2, q3, q4⟩ := g1.2 (a - 1) _ he
  have hr : r = (cn, T, N) := Option.some.inj (h9.symm.trans hc)
  subst hr
  obtain ⟨hS, hfc, kC, hkC, hkind⟩ := hK.1 ci _ hc
  obtain ⟨cf, kf, fi, f, hi, hsl⟩ := hS k hk
  have hlay := hts _ (hin _ (u_in_lay hk))
  unfold u_lay at hlay
  rw [if_neg (by rw [hT]; exact Bool.false_ne_true)] at hlay
  have hst := (u_facts hfc hkC (u_lays hts hin hk) hi).1
  have h6 := u_store hfc hkC hkind hlay hi (hty k hk) hn hf
  have hlk : (Cond.fieldLink own index ref (T k).2.1 (T k).2.2.1).before args s = true := by rw [hT]; exact hts _ hl
  have hi2 : s.fieldFound? (T k).1 (T k).2.1 (T k).2.2.1 = some (cf, kf, fi, f) := hi
  have hsame : s.fieldFound? ref (T k).2.1 (T k).2.2.1 = some (cf, kf, fi, f) := by rw [hT] at hi2 ⊢; exact hi2
  refine W.putK hx hb (f := f) ⟨hown, hlk, ⟨_, _, _, hsame⟩, hst⟩ (by rw [q2]; exact h6) q1 q3 (by rw [hsl]; exact k2_hasslot (q4 k hk)) rfl rfl hdg fun H' e1 e2 e3 => ?_
  rw [hsl] at e1 ⊢
  have hP2 := g1.2.set (e := .inr (ci, ((List.range (kNf ci)).map (fun k => r_fv B σ (kTf ci k) a k)).set k v)) r_ws_D he ⟨_, hc, t_OB.to (V := updV (vp_V _) k v) ⟨_, e1, q2, q3, t_set q4 hap hk v⟩ (fun j _ => vp_updV_set (by simp [hN, hk]) v j)⟩ e3
  rw [r_ws_set (σ := σ) (σ' := σ') h1 hat ?_ ?_] at hP2
  · exact kk H' _ la ⟨by rw [e2, h1]; exact g1.1, hP2⟩ (g2.put e2 e3 (by obtain ⟨z, -⟩ := r_at_pos hat; show B < B + a; omega)) g3
  · show Sum.inr _ = _
    congr 2
    exact (r_fs_set (f := fun k => r_fv B σ (kTf ci k) a k) (f' := fun k => r_fv B σ' (kTf ci k) a k) hv (fun j hj => by
      obtain ⟨o1, o2, o3⟩ := ho a j (fun q => hj q.2)
      simp only [r_fv, o1, o2, o3])).symm
  · intro a' ha'
    exact ⟨funext fun j => (ho a' j (fun q => ha' q.1)).1, funext fun j => (ho a' j (fun q => ha' q.1)).2.1, funext fun j => (ho a' j (fun q => ha' q.1)).2.2⟩
theorem r_putF (C : r_C X w B nL cc own) {l : Launch} {t : r_T} (E : r_E X l t) (hini : t.1.name = "<init>") {a ci k index : Nat} {v : Value} {σ' : r_S} (hat : r_at σ a = some (.inl ci)) (F : r_Fa own index ci k true) (hcn : (kCl[ci]?).map (fun q => (q.2.1 k).1) = some own) (hv : r_fv B σ' (kTf ci k) a k = v) (hn : narrow (kTf ci k) v = v) (hf : fits (kTf ci k) v = true) (h1 : σ'.1 = σ.1) (ho : ∀ a' k', ¬ (a' = a ∧ k' = k) → σ'.2.1 a' k' = σ.2.1 a' k' ∧ σ'.2.2.1 a' k' = σ.2.2.1 a' k' ∧ σ'.2.2.2 a' k' = σ.2.2.2 a' k') (hdg : decode cc pc = .ok (.putfield index, 3)) (kk : r_W X w B nL cells slots Q (pc + 3) lv rest σ') : r_W X w B nL cells slots Q pc lv (v :: .ref (B + a) :: rest) σ := by
  obtain ⟨p, l, e, R, s, m, args, below, meth, c⟩ := X
  obtain ⟨⟨hx, hb, hml, hown, hts⟩, ⟨hK, hNw⟩, hB⟩ := C
  obtain ⟨cn, T, N, ref, nm, ds, ⟨hc, hN, hin, hty, hnm⟩, hk, hT, hl⟩ := F
  obtain ⟨-, -, -, -, hmn⟩ := E
  intro H locs la g1 g2 g3
  have he : (r_ws w.2 B σ)[a - 1]? = some (B + a, .inr (ci, (List.range (kNf ci)).map (fun k => r_fv B σ (kTf ci k) a k))) := r_ws_at hat
  have hap := va_apart (own := own) hts hin (kTf ci) hty hnm hK hc
  obtain ⟨r, h9, cell, q1, q2, q3, q4⟩ := g1.2 (a - 1) _ he
  have hr : r = (cn, T, N) := Option.some.inj (h9.symm.trans hc)
  subst hr
  obtain ⟨hS, hfc, kC, hkC, hkind⟩ := hK.1 ci _ hc
  obtain ⟨cf, kf, fi, f, hi, hsl⟩ := hS k hk
  have hlay := hts _ (hin _ (u_in_lay hk))
  unfold u_lay at hlay
  rw [if_pos (by rw [hT])] at hlay
  have hst := (u_facts hfc hkC (u_lays hts hin hk) hi).1
  have hdecl : (T k).1 = own := by rw [hc] at hcn; exact Option.some.inj hcn
  have hcf : m.cls = cf := by
    obtain ⟨_, _, c', _, _, _, -, -, hf', -, -, -, hown2, -⟩ := Cond.laysFinal_spec hlay
    have e1 : c' = cf := by have := hi.symm.trans hf'; simp at this; exact this.1.symm
    rw [hdecl] at hown2
    rw [← e1]; exact Option.some.inj (hown.symm.trans hown2)
  have h6 := u_fits hfc hkC hkind (Or.inr hlay) hi (hty k hk) hn hf
  have hlk : (Cond.fieldLink own index ref (T k).2.1 (T k).2.2.1).before args s = true := by rw [hT]; exact hts _ hl
  have hi2 : s.fieldFound? (T k).1 (T k).2.1 (T k).2.2.1 = some (cf, kf, fi, f) := hi
  have hsame : s.fieldFound? ref (T k).2.1 (T k).2.2.1 = some (cf, kf, fi, f) := by rw [hT] at hi2 ⊢; exact hi2
  refine W.putFinK hx hb hown hlk hsame hst hcf (hmn.trans hini) (by rw [q2]; exact h6) q1 q3 (by rw [hsl]; exact k2_hasslot (q4 k hk)) rfl rfl hdg fun H' e1 e2 e3 => ?_
  rw [hsl] at e1 ⊢
  have hP2 := g1.2.set (e := .inr (ci, ((List.range (kNf ci)).map (fun k => r_fv B σ (kTf ci k) a k)).set k v)) r_ws_D he ⟨_, hc, t_OB.to (V := updV (vp_V _) k v) ⟨_, e1, q2, q3, t_set q4 hap hk v⟩ (fun j _ => vp_updV_set (by simp [hN, hk]) v j)⟩ e3
  rw [r_ws_set (σ := σ) (σ' := σ') h1 hat ?_ ?_] at hP2
  · exact kk H' _ la ⟨by rw [e2, h1]; exact g1.1, hP2⟩ (g2.put e2 e3 (by obtain ⟨z, -⟩ := r_at_pos hat; show B < B + a; omega)) g3
  · show Sum.inr _ = _
    congr 2
    exact (r_fs_set (f := fun k => r_fv B σ (kTf ci k) a k) (f' := fun k => r_fv B σ' (kTf ci k) a k) hv (fun j hj => by
      obtain ⟨o1, o2, o3⟩ := ho a j (fun q => hj q.2)
      simp only [r_fv, o1, o2, o3])).symm
  · intro a' ha'
    exact ⟨funext fun j => (ho a' j (fun q => ha' q.1)).1, funext fun j => (ho a' j (fun q => ha' q.1)).2.1, funext fun j => (ho a' j (fun q => ha' q.1)).2.2⟩
end RWB
def r_Ta (ti : Nat) (ty : FieldType) : Prop := kTa ti = ty ∧ ∀ d : Nat → ClassId, (kTys d)[ti]? = some (d ti, ty)
def r_okT (ty : FieldType) : Bool := match ty with
  | .float => false
  | .double => false
  | _ => true
theorem r_ws_push {d : Nat → ClassId} {B : Nat} {σ : r_S} {sh : r_Sh} : r_ws d B (r_push σ sh) = r_ws d B σ ++ [(B + (σ.1.length + 1), r_cell d B (r_push σ sh) (σ.1.length + 1) sh)] := by
  apply List.ext_getElem?
  intro k
  by_cases hk : k < σ.1.length
  · rw [List.getElem?_append_left (by rw [r_ws_len]; exact hk)]
    simp only [r_ws, List.getElem?_mapIdx]
    have h1 : (r_push σ sh).1[k]? = σ.1[k]? := by
      show (σ.1 ++ [sh])[k]? = _
      rw [List.getElem?_append_left hk]
    rw [h1]
    cases σ.1[k]? with
    | none => rfl
    | some s2 =>
      have hne : k + 1 ≠ σ.1.length + 1 := by omega
      simp only [Option.map_some]
      rw [r_cell_congr (σ := σ) (σ' := r_push σ sh) (sh := s2)]
      · funext j; simp [r_push, r_zr]; intro h; omega
      · funext j; simp [r_push, r_zr]; intro h; omega
      · funext j; simp [r_push, r_zr]; intro h; omega
  · rw [List.getElem?_append_right (by rw [r_ws_len]; omega), r_ws_len]
    by_cases hk2 : k = σ.1.length
    · subst hk2
      have h1 : (r_push σ sh).1[σ.1.length]? = some sh := by
        show (σ.1 ++ [sh])[σ.1.length]? = _
        simp
      simp [r_ws, List.getElem?_mapIdx, h1]
    · have h1 : (r_push σ sh).1[k]? = none := by
        show (σ.1 ++ [sh])[k]? = _
        simp; omega
      have h2 : k - σ.1.length = (k - σ.1.length - 1) + 1 := by omega
      rw [h2]
      simp [r_ws, List.getElem?_mapIdx, h1]
theorem r_born {B : Nat} {σ : r_S} {sh : r_Sh} {ty : FieldType} (h : r_okT ty = true) (k : Nat) : r_fv B (r_push σ sh) ty (σ.1.length + 1) k = defaultValue ty := by
  cases ty <;> first | (cases h; done) | (simp [r_fv, r_push, r_zr, defaultValue, r_op, va_rf]; done)
theorem r_bornA {B : Nat} {σ : r_S} {sh : r_Sh} {ty : FieldType} (h : r_okT ty = true) (n : Nat) (cA : ClassId) : vp_cell cA (r_ar B (r_push σ sh) ty (σ.1.length + 1) n) = arrV cA n (fun _ => defaultValue ty) := by
  cases ty <;> first | (cases h; done) | (simp [r_ar, vp_cell, r_push, r_zr, defaultValue, r_op, va_rf]; done)
section RWC
variable {X : r_X} {w : r_V} {B nL cells slots : Nat} {Q : State → Prop} {cc : ByteArray} {own : String} {pc : Nat} {lv : List (Nat × Value)} {rest : List Value} {σ : r_S}
theorem r_iald (C : r_C X w B nL cc own) {a ti n : Nat} (hat : r_at σ a = some (.inr (ti, n))) (A : r_Ta ti .int) {i : Int32} (hin : vp_in i n) (hdg : decode cc pc = .ok (.iaload, 1)) (kk : r_W X w B nL cells slots Q (pc + 1) lv (.int (σ.2.1 a i.toNatClampNeg) :: rest) σ) : r_W X w B nL cells slots Q pc lv (.int i :: .ref (B + a) :: rest) σ := by
  obtain ⟨p, l, e, R, s, m, args, below, meth, c⟩ := X
  obtain ⟨⟨hx, hb, hml, hown, hts⟩, ⟨hK, hNw⟩, hB⟩ := C
  intro H locs la g1 g2 g3
  have ha : (r_ws w.2 B σ)[a - 1]? = some (B + a, .inl (w.2 ti, n, .inl (σ.2.1 a))) := by rw [r_ws_at hat]; simp only [r_cell, r_ar, A.1]
  exact va_iald hx hb hK g1.2 (a - 1) ti ha (A.2 _) hin hdg (kk H locs la g1 g2 g3)
theorem r_zald (C : r_C X w B nL cc own) {a ti n : Nat} (hat : r_at σ a = some (.inr (ti, n))) (A : r_Ta ti .boolean) {i : Int32} (hin : vp_in i n) (hdg : decode cc pc = .ok (.baload, 1)) (kk : r_W X w B nL cells slots Q (pc + 1) lv (.int (σ.2.1 a i.toNatClampNeg) :: rest) σ) : r_W X w B nL cells slots Q pc lv (.int i :: .ref (B + a) :: rest) σ := by
  obtain ⟨p, l, e, R, s, m, args, below, meth, c⟩ := X
  obtain ⟨⟨hx, hb, hml, hown, hts⟩, ⟨hK, hNw⟩, hB⟩ := C
  intro H locs la g1 g2 g3
  have ha : (r_ws w.2 B σ)[a - 1]? = some (B + a, .inl (w.2 ti, n, .inl (σ.2.1 a))) := by rw [r_ws_at hat]; simp only [r_cell, r_ar, A.1]
  exact va_zald hx hb hK g1.2 (a - 1) ti ha (A.2 _) hin hdg (kk H locs la g1 g2 g3)
theorem r_lald (C : r_C X w B nL cc own) {a ti n : Nat} (hat : r_at σ a = some (.inr (ti, n))) (A : r_Ta ti .long) {i : Int32} (hin : vp_in i n) (hdg : decode cc pc = .ok (.laload, 1)) (kk : r_W X w B nL cells slots Q (pc + 1) lv (.long (σ.2.2.1 a i.toNatClampNeg) :: rest) σ) : r_W X w B nL cells slots Q pc lv (.int i :: .ref (B + a) :: rest) σ := by
  obtain ⟨p, l, e, R, s, m, args, below, meth, c⟩ := X
  obtain ⟨⟨hx, hb, hml, hown, hts⟩, ⟨hK, hNw⟩, hB⟩ := C
  intro H locs la g1 g2 g3
  have ha : (r_ws w.2 B σ)[a - 1]? = some (B + a, .inl (w.2 ti, n, .inr (.inl (σ.2.2.1 a)))) := by rw [r_ws_at hat]; simp only [r_cell, r_ar, A.1]
  exact va_lald hx hb hK g1.2 (a - 1) ti ha (A.2 _) hin hdg (kk H locs la g1 g2 g3)
theorem r_aald (C : r_C X w B nL cc own) {a ti n : Nat} {cn : String} (hat : r_at σ a = some (.inr (ti, n))) (A : r_Ta ti (.object cn)) {i : Int32} (hin : vp_in i n) (hne : σ.2.2.2 a i.toNatClampNeg ≠ 0) (hdg : decode cc pc = .ok (.aaload, 1)) (kk : r_W X w B nL cells slots Q (pc + 1) lv (.ref (B + σ.2.2.2 a i.toNatClampNeg) :: rest) σ) : r_W X w B nL cells slots Q pc lv (.int i :: .ref (B + a) :: rest) σ := by
  obtain ⟨p, l, e, R, s, m, args, below, meth, c⟩ := X
  obtain ⟨⟨hx, hb, hml, hown, hts⟩, ⟨hK, hNw⟩, hB⟩ := C
  intro H locs la g1 g2 g3
  have ha : (r_ws w.2 B σ)[a - 1]? = some (B + a, .inl (w.2 ti, n, .inr (.inr (.inr (.inr (fun j => r_op B (σ.2.2.2 a j))))))) := by rw [r_ws_at hat]; simp only [r_cell, r_ar, A.1]
  refine va_aldq hx hb hK g1.2 (a - 1) ti ha (A.2 _) hin hdg ?_
  rw [r_rf_ne hne]
  exact kk H locs la g1 g2 g3
theorem r_alen (C : r_C X w B nL cc own) {a ti n : Nat} {ty : FieldType} (hat : r_at σ a = some (.inr (ti, n))) (A : r_Ta ti ty) {v : Int32} (hv : Int32.ofNat n = v) (hdg : decode cc pc = .ok (.arraylength, 1)) (kk : r_W X w B nL cells slots Q (pc + 1) lv (.int v :: rest) σ) : r_W X w B nL cells slots Q pc lv (.ref (B + a) :: rest) σ := by
  obtain ⟨p, l, e, R, s, m, args, below, meth, c⟩ := X
  obtain ⟨⟨hx, hb, hml, hown, hts⟩, ⟨hK, hNw⟩, hB⟩ := C
  intro H locs la g1 g2 g3
  have ha : (r_ws w.2 B σ)[a - 1]? = some (B + a, .inl (w.2 ti, r_ar B σ ty a n)) := by rw [r_ws_at hat]; simp only [r_cell, A.1]
  exact va_alen hx hb hK g1.2 (a - 1) ti ha (A.2 _) (by show Int32.ofNat (r_ar B σ ty a n).1 = v; exact hv) hdg (kk H locs la g1 g2 g3)
theorem r_iast (C : r_C X w B nL cc own) {a ti n : Nat} (hat : r_at σ a = some (.inr (ti, n))) (A : r_Ta ti .int) {i x : Int32} (hin : vp_in i n) (hdg : decode cc pc = .ok (.iastore, 1)) (kk : r_W X w B nL cells slots Q (pc + 1) lv rest (r_ui σ a i.toNatClampNeg x)) : r_W X w B nL cells slots Q pc lv (.int x :: .int i :: .ref (B + a) :: rest) σ := by
  obtain ⟨p, l, e, R, s, m, args, below, meth, c⟩ := X
  obtain ⟨⟨hx, hb, hml, hown, hts⟩, ⟨hK, hNw⟩, hB⟩ := C
  intro H locs la g1 g2 g3
  have ha : (r_ws w.2 B σ)[a - 1]? = some (B + a, .inl (w.2 ti, n, .inl (σ.2.1 a))) := by rw [r_ws_at hat]; simp only [r_cell, r_ar, A.1]
  refine W.iast hx hb (g1.2 (a - 1) _ ha) ((hK.2 ti _ (A.2 _)).1 n (fun j => .int (σ.2.1 a j))) (fun q => by cases q) (by show ¬ (i < 0 ∨ (arrV _ _ _).slots.size ≤ _); rw [arrV_size]; exact hin) rfl rfl hdg fun H1 e z oq => ?_
  have hc1 : va_at w.1 kCl (B + a, .inl (w.2 ti, n, .inl (upd (σ.2.1 a) i.toNatClampNeg x))) H1 := by
    show H1[B + a]? = some (vp_cell _ _)
    rw [e, vp_cell_i, vp_cell_i, arrV_store]
    congr 2
    funext q
    by_cases hq : q = i.toNatClampNeg
    · subst hq; simp [updV, upd]
    · simp [updV, upd, hq]
  have hP2 := g1.2.set r_ws_D ha hc1 oq
  rw [r_ws_set (σ := σ) (σ' := r_ui σ a i.toNatClampNeg x) rfl hat ?_ ?_] at hP2
  · exact kk H1 _ la ⟨by rw [z]; exact g1.1, hP2⟩ (g2.put z oq (by obtain ⟨z, -⟩ := r_at_pos hat; show B < B + a; omega)) g3
  · simp only [r_cell, r_ar, A.1]
    congr 4
    funext q
    by_cases hq : q = i.toNatClampNeg <;> simp [r_ui, upd, hq]
  · intro a' ha'
    refine ⟨funext fun j => ?_, rfl, rfl⟩
    simp [r_ui, ha']
theorem r_zast (C : r_C X w B nL cc own) {a ti n : Nat} (hat : r_at σ a = some (.inr (ti, n))) (A : r_Ta ti .boolean) {i x : Int32} (hin : vp_in i n) (h01 : vp_nar .boolean x = x) (hdg : decode cc pc = .ok (.bastore, 1)) (kk : r_W X w B nL cells slots Q (pc + 1) lv rest (r_ui σ a i.toNatClampNeg x)) : r_W X w B nL cells slots Q pc lv (.int x :: .int i :: .ref (B + a) :: rest) σ := by
  obtain ⟨p, l, e, R, s, m, args, below, meth, c⟩ := X
  obtain ⟨⟨hx, hb, hml, hown, hts⟩, ⟨hK, hNw⟩, hB⟩ := C
  intro H locs la g1 g2 g3
  have ha : (r_ws w.2 B σ)[a - 1]? = some (B + a, .inl (w.2 ti, n, .inl (σ.2.1 a))) := by rw [r_ws_at hat]; simp only [r_cell, r_ar, A.1]
  refine W.zast hx hb (g1.2 (a - 1) _ ha) ((hK.2 ti _ (A.2 _)).1 n (fun j => .int (σ.2.1 a j))) (fun q => by cases q) (by show ¬ (i < 0 ∨ (arrV _ _ _).slots.size ≤ _); rw [arrV_size]; exact hin) rfl rfl hdg fun H1 e z oq => ?_
  have hc1 : va_at w.1 kCl (B + a, .inl (w.2 ti, n, .inl (upd (σ.2.1 a) i.toNatClampNeg (vp_nar .boolean x)))) H1 := by
    show H1[B + a]? = some (vp_cell _ _)
    rw [e, vp_cell_i, vp_cell_i, arrV_store]
    congr 2
    funext q
    by_cases hq : q = i.toNatClampNeg
    · subst hq
      simp [updV, upd, vp_nar]
      try rfl
    · simp [updV, upd, hq]
  rw [h01] at hc1
  have hP2 := g1.2.set r_ws_D ha hc1 oq
  rw [r_ws_set (σ := σ) (σ' := r_ui σ a i.toNatClampNeg x) rfl hat ?_ ?_] at hP2
  · exact kk H1 _ la ⟨by rw [z]; exact g1.1, hP2⟩ (g2.put z oq (by obtain ⟨z, -⟩ := r_at_pos hat; show B < B + a; omega)) g3
  · simp only [r_cell, r_ar, A.1]
    congr 4
    funext q
    by_cases hq : q = i.toNatClampNeg <;> simp [r_ui, upd, hq]
  · intro a' ha'
    refine ⟨funext fun j => ?_, rfl, rfl⟩
    simp [r_ui, ha']
theorem r_last (C : r_C X w B nL cc own) {a ti n : Nat} (hat : r_at σ a = some (.inr (ti, n))) (A : r_Ta ti .long) {i : Int32} {x : Int64} (hin : vp_in i n) (hdg : decode cc pc = .ok (.lastore, 1)) (kk : r_W X w B nL cells slots Q (pc + 1) lv rest (r_ul σ a i.toNatClampNeg x)) : r_W X w B nL cells slots Q pc lv (.long x :: .int i :: .ref (B + a) :: rest) σ := by
  obtain ⟨p, l, e, R, s, m, args, below, meth, c⟩ := X
  obtain ⟨⟨hx, hb, hml, hown, hts⟩, ⟨hK, hNw⟩, hB⟩ := C
  intro H locs la g1 g2 g3
  have ha : (r_ws w.2 B σ)[a - 1]? = some (B + a, .inl (w.2 ti, n, .inr (.inl (σ.2.2.1 a)))) := by rw [r_ws_at hat]; simp only [r_cell, r_ar, A.1]
  refine W.last hx hb (g1.2 (a - 1) _ ha) ((hK.2 ti _ (A.2 _)).1 n (fun j => .long (σ.2.2.1 a j))) (fun q => by cases q) (by show ¬ (i < 0 ∨ (arrV _ _ _).slots.size ≤ _); rw [arrV_size]; exact hin) rfl rfl hdg fun H1 e z oq => ?_
  have hc1 : va_at w.1 kCl (B + a, .inl (w.2 ti, n, .inr (.inl (vp_updL (σ.2.2.1 a) i.toNatClampNeg x)))) H1 := by
    show H1[B + a]? = some (vp_cell _ _)
    rw [e, vp_cell_l, vp_cell_l, arrV_store]
    congr 2
    funext q
    by_cases hq : q = i.toNatClampNeg
    · subst hq; simp [updV, vp_updL]
    · simp [updV, vp_updL, hq]
  have hP2 := g1.2.set r_ws_D ha hc1 oq
  rw [r_ws_set (σ := σ) (σ' := r_ul σ a i.toNatClampNeg x) rfl hat ?_ ?_] at hP2
  · exact kk H1 _ la ⟨by rw [z]; exact g1.1, hP2⟩ (g2.put z oq (by obtain ⟨z, -⟩ := r_at_pos hat; show B < B + a; omega)) g3
  · simp only [r_cell, r_ar, A.1]
    congr 5
    funext q
    by_cases hq : q = i.toNatClampNeg <;> simp [r_ul, vp_updL, hq]
  · intro a' ha'
    refine ⟨rfl, funext fun j => ?_, rfl⟩
    simp [r_ul, ha']
theorem r_aast (C : r_C X w B nL cc own) {a ti n b ci : Nat} {r : vw_C} (hat : r_at σ a = some (.inr (ti, n))) (A : r_Ta ti (.object r.1)) (hb0 : r_at σ b = some (.inl ci)) (hcl : kCl[ci]? = some r) {i : Int32} (hin : vp_in i n) (hdg : decode cc pc = .ok (.aastore, 1)) (kk : r_W X w B nL cells slots Q (pc + 1) lv rest (r_ur σ a i.toNatClampNeg b)) : r_W X w B nL cells slots Q pc lv (.ref (B + b) :: .int i :: .ref (B + a) :: rest) σ := by
  obtain ⟨p, l, e, R, s, m, args, below, meth, c⟩ := X
  obtain ⟨⟨hx, hb, hml, hown, hts⟩, ⟨hK, hNw⟩, hB⟩ := C
  intro H locs la g1 g2 g3
  have ha : (r_ws w.2 B σ)[a - 1]? = some (B + a, .inl (w.2 ti, n, .inr (.inr (.inr (.inr (fun j => r_op B (σ.2.2.2 a j))))))) := by rw [r_ws_at hat]; simp only [r_cell, r_ar, A.1]
  have hv : (r_ws w.2 B σ)[b - 1]? = some (B + b, .inr (ci, (List.range (kNf ci)).map (fun k => r_fv B σ (kTf ci k) b k))) := r_ws_at hb0
  have hlt : i.toNatClampNeg < n := Nat.not_le.mp fun q => hin (Or.inr q)
  have h0 : ¬ i < 0 := fun q => hin (Or.inl q)
  obtain ⟨r', hr', cellV, k1', k2', k3', -⟩ := g1.2 (b - 1) _ hv
  have hcls := (hK.1 ci r hcl).2
  obtain ⟨kA, comp, k1, k2, k3, -⟩ := (hK.2 ti _ (A.2 _)).2
  have hcomp : comp = w.1.1 ci := Option.some.inj (k3.symm.trans hcls.1)
  subst hcomp
  obtain ⟨kC, hkC, -⟩ := hcls.2
  refine W.aast hx hb (g1.2 (a - 1) _ ha) (fun q h => by cases h) (fun h => by cases h) k1 k2 rfl hkC ⟨h0, by show _ < (arrV _ _ _).slots.size; rw [arrV_size]; exact hlt⟩ k1' (fun q h => by rw [k3'] at h; cases h) (by rw [k2']; exact hkC) (by rw [k2']; exact va_assign hcls) rfl rfl hdg fun H1 e z oq => ?_
  have hb1 : b ≠ 0 := by obtain ⟨z, -⟩ := r_at_pos hb0; omega
  have hc1 : va_at w.1 kCl (B + a, .inl (w.2 ti, n, .inr (.inr (.inr (.inr (va_up (fun j => r_op B (σ.2.2.2 a j)) i.toNatClampNeg (some (B + b)))))))) H1 := by
    show H1[B + a]? = some (vp_cell _ _)
    rw [e, vp_cell_q, vp_cell_q, arrV_store]
    congr 2
    funext q
    by_cases hq : q = i.toNatClampNeg
    · subst hq; simp [updV, va_up, va_rf]
    · simp [updV, va_up, hq]
  have hP2 := g1.2.set r_ws_D ha hc1 oq
  rw [r_ws_set (σ := σ) (σ' := r_ur σ a i.toNatClampNeg b) rfl hat ?_ ?_] at hP2
  · exact kk H1 _ la ⟨by rw [z]; exact g1.1, hP2⟩ (g2.put z oq (by obtain ⟨z, -⟩ := r_at_pos hat; show B < B + a; omega)) g3
  · simp only [r_cell, r_ar, A.1]
    congr 8
    funext q
    by_cases hq : q = i.toNatClampNeg <;> simp [r_ur, va_up, hq, r_op, hb1]
  · intro a' ha'
    refine ⟨rfl, rfl, funext fun j => ?_⟩
    simp [r_ur, ha']
theorem r_new (C : r_C X w B nL cc own) {l : Launch} {t : r_T} (E : r_E X l t) {index ci N : Nat} {cn : String} {T : u_T} (hcl : r_Cl ci cn T N) (hok : ∀ k, k < N → r_okT (kTf ci k) = true) (w1 : Cond.classLink own index cn ∈ kBig) (w2 : Cond.instantiable cn N ∈ kBig) (w3 : Cond.initialized cn ∈ kBig) (hc1 : cells + 1 ≤ t.2.2.2.2.cells) (hs1 : slots + N ≤ t.2.2.2.2.slots) (hdg : decode cc pc = .ok (.new index, 3)) (kk : r_W X w B nL (cells + 1) (slots + N) Q (pc + 3) lv (.ref (B + (σ.1.length + 1)) :: rest) (r_push σ (.inl ci))) : r_W X w B nL cells slots Q pc lv rest σ := by
  obtain ⟨p, l, e, R, s, m, args, below, meth, c⟩ := X
  obtain ⟨⟨hx, hb, hml, hown, hts⟩, ⟨hK, hNw⟩, hB⟩ := C
  obtain ⟨-, hR, -, -, -⟩ := E
  obtain ⟨hc, hN, hin, hty, hnm⟩ := hcl
  intro H locs la g1 g2 g3
  have hKn := hK.1 ci _ hc
  have hsz : H.size = B + (σ.1.length + 1) := by rw [g1.1]; omega
  refine W.newcK hx hb hown (hts _ w1) (hts _ w2) (hts _ w3) rfl hdg (by rw [hR]; exact hc1) (by rw [hR]; exact hs1) hKn.2.1 rfl fun H1 kC hkC e1 z1 o1 => ?_
  have hk : ∀ (k : Nat) (x : Nat × va_E), (r_ws w.2 B σ)[k]? = some x → H1[x.1]? = H[x.1]? := fun k x hx => o1 x.1 ((g1.2 k x hx).lt)
  have hP2 : va_P w.1 kCl (r_ws w.2 B (r_push σ (.inl ci))) H1 := by
    rw [r_ws_push]
    refine (g1.2.kept hk).app (fun k x hx => ?_)
    have hz : k < 1 := (List.getElem?_eq_some_iff.mp hx).1
    rw [show k = 0 by omega] at hx
    cases hx
    refine ⟨_, hc, ?_⟩
    rw [← hsz]
    refine (u_born (kTf ci) hts hin hKn hkC e1 hty).to (fun j hj => ?_)
    simp only [vp_V]
    rw [List.getD_eq_getElem?_getD]
    simp [hN, hj, r_born (hok j hj)]
  have hfin := kk H1 locs la ⟨by rw [z1, hsz]; show _ = B + 1 + (σ.1 ++ [_]).length; simp; omega, hP2⟩ ⟨Nat.le_trans g2.1 (by omega), fun x h1 h2 => (o1 x (Nat.lt_of_lt_of_le h1 g2.1)).trans (g2.2.1 x h1 h2), g2.2.2⟩ g3
  rw [← hsz] at hfin
  exact hfin
theorem r_newa (C : r_C X w B nL cc own) {l : Launch} {t : r_T} (E : r_E X l t) {atype : ArrayType} {ti n : Nat} {ty : FieldType} (A : r_Ta ti ty) (hty : newarray.typeOf atype = ty) (w1 : Cond.arrayClass ty ∈ kBig) {x : Int32} (hn : ¬ x < 0) (hN : x.toNatClampNeg = n) (hby : n * componentBytes ty ≤ 536870912) (hok : r_okT ty = true) (hc1 : cells + 1 ≤ t.2.2.2.2.cells) (hs1 : slots + n ≤ t.2.2.2.2.slots) (hdg : decode cc pc = .ok (.newarray atype, 2)) (kk : r_W X w B nL (cells + 1) (slots + n) Q (pc + 2) lv (.ref (B + (σ.1.length + 1)) :: rest) (r_push σ (.inr (ti, n)))) : r_W X w B nL cells slots Q pc lv (.int x :: rest) σ := by
  obtain ⟨p, l, e, R, s, m, args, below, meth, c⟩ := X
  obtain ⟨⟨hx, hb, hml, hown, hts⟩, ⟨hK, hNw⟩, hB⟩ := C
  obtain ⟨-, hR, -, -, -⟩ := E
  intro H locs la g1 g2 g3
  have hsz : H.size = B + (σ.1.length + 1) := by rw [g1.1]; omega
  have hRA := (hK.2 ti _ (A.2 w.2)).2
  subst hty
  refine va_newaK hx hb (hts _ w1) rfl hdg rfl hn hN hby (by rw [hR]; exact hc1) (by rw [hR]; exact hs1) rfl fun H1 cA e1 z1 o1 hAr hNm => ?_
  have hcA : w.2 ti = cA := by
    cases atype <;> exact Option.some.inj (hRA.symm.trans hNm)
  have hk : ∀ (k : Nat) (x : Nat × va_E), (r_ws w.2 B σ)[k]? = some x → H1[x.1]? = H[x.1]? := fun k x hx => o1 x.1 ((g1.2 k x hx).lt)
  have hP2 : va_P w.1 kCl (r_ws w.2 B (r_push σ (.inr (ti, n)))) H1 := by
    rw [r_ws_push]
    refine (g1.2.kept hk).app (fun k x hx => ?_)
    have hz : k < 1 := (List.getElem?_eq_some_iff.mp hx).1
    rw [show k = 0 by omega] at hx
    cases hx
    show H1[B + (σ.1.length + 1)]? = some (vp_cell (w.2 ti) (r_ar B _ (kTa ti) _ n))
    rw [A.1, r_bornA hok, ← hsz, hcA]
    exact e1
  have hfin := kk H1 locs la ⟨by rw [z1, hsz]; show _ = B + 1 + (σ.1 ++ [_]).length; simp; omega, hP2⟩ ⟨Nat.le_trans g2.1 (by omega), fun x h1 h2 => (o1 x (Nat.lt_of_lt_of_le h1 g2.1)).trans (g2.2.1 x h1 h2), g2.2.2⟩ g3
  rw [← hsz] at hfin
  exact hfin
theorem r_newq (C : r_C X w B nL cc own) {l : Launch} {t : r_T} (E : r_E X l t) {index ti n : Nat} (A : r_Ta ti (.object "SlotRadio$Station")) (w1 : Cond.classLink own index "SlotRadio$Station" ∈ kBig) {x : Int32} (hn : ¬ x < 0) (hN : x.toNatClampNeg = n) (hby : n * 4 ≤ 536870912) (hc1 : cells + 1 ≤ t.2.2.2.2.cells) (hs1 : slots + n ≤ t.2.2.2.2.slots) (hdg : decode cc pc = .ok (.anewarray index, 3)) (kk : r_W X w B nL (cells + 1) (slots + n) Q (pc + 3) lv (.ref (B + (σ.1.length + 1)) :: rest) (r_push σ (.inr (ti, n)))) : r_W X w B nL cells slots Q pc lv (.int x :: rest) σ := by
  obtain ⟨p, l, e, R, s, m, args, below, meth, c⟩ := X
  obtain ⟨⟨hx, hb, hml, hown, hts⟩, ⟨hK, hNw⟩, hB⟩ := C
  obtain ⟨-, hR, -, -, -⟩ := E
  intro H locs la g1 g2 g3
  have hsz : H.size = B + (σ.1.length + 1) := by rw [g1.1]; omega
  obtain ⟨_, _, _, _, _, hRA⟩ := (hK.2 ti _ (A.2 w.2)).2
  subst hN
  refine W.anew hx hb hown (hts _ w1) (va_AO.use hNw.2.2.2.2) rfl hdg rfl hn hby (by rw [hR]; exact hc1) (by rw [hR]; exact hs1) fun cA kA comp f1 f2 f3 f4 => ?_
  have hcA : w.2 ti = cA := Option.some.inj (hRA.symm.trans f1)
  generalize hH1 : H.push ({ cls := cA, slots := Array.replicate x.toNatClampNeg .null, vm := .none } : Cell) = H1
  have z1 : H1.size = H.size + 1 := by rw [← hH1, Array.size_push]
  have e1 : H1[H.size]? = some (arrV cA x.toNatClampNeg (fun _ => .null)) := by rw [← hH1, Array.getElem?_push_size, ← arrV_new]
  have o1 : ∀ q : Nat, q < H.size → H1[q]? = H[q]? := fun q hq => by rw [← hH1, Array.getElem?_push, if_neg (Nat.ne_of_lt hq)]
  have hk : ∀ (k : Nat) (x : Nat × va_E), (r_ws w.2 B σ)[k]? = some x → H1[x.1]? = H[x.1]? := fun k x hx => o1 x.1 ((g1.2 k x hx).lt)
  have hP2 : va_P w.1 kCl (r_ws w.2 B (r_push σ (.inr (ti, x.toNatClampNeg)))) H1 := by
    rw [r_ws_push]
    refine (g1.2.kept hk).app (fun k x hx => ?_)
    have hz : k < 1 := (List.getElem?_eq_some_iff.mp hx).1
    rw [show k = 0 by omega] at hx
    cases hx
    show H1[B + (σ.1.length + 1)]? = some (vp_cell (w.2 ti) (r_ar B _ (kTa ti) _ _))
    rw [A.1, r_bornA rfl, ← hsz, hcA]
    exact e1
  have hfin := kk H1 locs la ⟨by rw [z1, hsz]; show _ = B + 1 + (σ.1 ++ [_]).length; simp; omega, hP2⟩ ⟨Nat.le_trans g2.1 (by omega), fun x h1 h2 => (o1 x (Nat.lt_of_lt_of_le h1 g2.1)).trans (g2.2.1 x h1 h2), g2.2.2⟩ g3
  rw [← hsz] at hfin
  exact hfin
end RWC
