/-! the law's own script: an int array below all that is made -/
def r_XX (X : r_X) (B b L : Nat) (xs : Nat → Int32) : Prop := match X with
  | (_, _, _, _, s, _, _, _, _, _) => b ≤ B ∧ b < s.heap.size ∧ va_X b L xs s s.heap
section RWG
variable {X : r_X} {w : r_V} {B nL cells slots : Nat} {Q : State → Prop} {cc : ByteArray} {own : String} {pc : Nat} {lv : List (Nat × Value)} {rest st : List Value} {σ : r_S} {l : Launch} {t : r_T} {b L : Nat} {xs : Nat → Int32}
theorem r_slen (C : r_C X w B nL cc own) (hX : r_XX X B b L xs) (hdg : decode cc pc = .ok (.arraylength, 1)) (k : r_W X w B nL cells slots Q (pc + 1) lv (.int (nI L) :: rest) σ) : r_W X w B nL cells slots Q pc lv (.ref b :: rest) σ := by
  obtain ⟨p, l, e, R, s, m, args, below, meth, c⟩ := X
  obtain ⟨h1, h2, h3⟩ := hX
  exact fun H locs la g1 g2 g3 => va_slen C.1.1 C.1.2.1 h3 h2 (by show ¬ B < b; omega) g2 hdg (k H locs la g1 g2 g3)
theorem r_sld (C : r_C X w B nL cc own) (hX : r_XX X B b L xs) {i : Int32} (hin : vp_in i L) (hdg : decode cc pc = .ok (.iaload, 1)) (k : r_W X w B nL cells slots Q (pc + 1) lv (.int (xs i.toNatClampNeg) :: rest) σ) : r_W X w B nL cells slots Q pc lv (.int i :: .ref b :: rest) σ := by
  obtain ⟨p, l, e, R, s, m, args, below, meth, c⟩ := X
  obtain ⟨h1, h2, h3⟩ := hX
  exact fun H locs la g1 g2 g3 => va_sld C.1.1 C.1.2.1 h3 h2 (by show ¬ B < b; omega) g2 hin hdg (k H locs la g1 g2 g3)
/-- cell(script, 0) -/
def r_cell0 (L : Nat) (xs : Nat → Int32) : Int32 := if L = 0 then 0 else xs 0
def r_PcX (w : r_V) (B b L : Nat) (xs : Nat → Int32) (σ : r_S) : Array Value → State → Prop := fun a U => a = [Value.ref b, Value.int 0].toArray ∧ B < U.heap.size ∧ r_U w B σ U ∧ b ≤ B ∧ va_X b L xs U U.heap
theorem m_L_cell (l : Launch) (w : r_V) (B b L : Nat) (xs : Nat → Int32) (σ : r_S) (hL : L ≤ 2561) : Met l tL_cell.1 (Cond.code tL_cell.1 tL_cell.2.1 tL_cell.2.2.1 tL_cell.2.2.2.1 :: kBig) tL_cell.2.2.2.2 (r_PcX w B b L xs σ) (r_Qc w B (fun o σ' => σ' = σ ∧ o = some (.int (r_cell0 L xs)))) tL_cell.2.2.2.2.cells tL_cell.2.2.2.2.slots (fun q => B < q) := by
  refine Met.ofW (cc := cL_cell) (maxL := 2) (ret := some .int) (by decide) rfl ?_
  intro p e s m args below meth c s₁ Bd hml hv
  obtain ⟨rfl, hB, ⟨hH, hK⟩, hbB, hxs⟩ := hv
  have hts := atoms_spec (ws := Cond.code tL_cell.1 tL_cell.2.1 tL_cell.2.2.1 tL_cell.2.2.2.1 :: kBig) Bd.pre
  have hown : s.vm.findClass tL_cell.1.cls = some m.cls := findClass_of_methodNamed Bd.named
  have hin : meth.name = tL_cell.1.name := (name_of_methodNamed Bd.named Bd.method).1
  have hl := lv_entry [Value.ref b, Value.int 0] (n := 2) (Nat.le_of_ble_eq_true rfl)
  rw [lg_entry_eq]
  have C : r_C (p, l, e, (headSpec (Cond.code tL_cell.1 tL_cell.2.1 tL_cell.2.2.1 tL_cell.2.2.2.1 :: kBig) tL_cell.2.2.2.2).room, s, m, [Value.ref b, Value.int 0].toArray, below, meth, c) w B 2 cL_cell RL := ⟨⟨Bd.exec, Bd.bytes, hml, hown, fun q hq => hts q (List.mem_cons_of_mem _ hq)⟩, hK, hB⟩
  have E : r_E (p, l, e, (headSpec (Cond.code tL_cell.1 tL_cell.2.1 tL_cell.2.2.1 tL_cell.2.2.2.1 :: kBig) tL_cell.2.2.2.2).room, s, m, [Value.ref b, Value.int 0].toArray, below, meth, c) l tL_cell := ⟨rfl, rfl, Bd.returns, Bd.notSynchronized, hin⟩
  have hX : r_XX (p, l, e, (headSpec (Cond.code tL_cell.1 tL_cell.2.1 tL_cell.2.2.1 tL_cell.2.2.2.1 :: kBig) tL_cell.2.2.2.2).room, s, m, [Value.ref b, Value.int 0].toArray, below, meth, c) B b L xs := ⟨hbB, by omega, hxs⟩
  have key : r_W (p, l, e, (headSpec (Cond.code tL_cell.1 tL_cell.2.1 tL_cell.2.2.1 tL_cell.2.2.2.1 :: kBig) tL_cell.2.2.2.2).room, s, m, [Value.ref b, Value.int 0].toArray, below, meth, c) w B 2 0 0 (r_Z (p, l, e, (headSpec (Cond.code tL_cell.1 tL_cell.2.1 tL_cell.2.2.1 tL_cell.2.2.2.1 :: kBig) tL_cell.2.2.2.2).room, s, m, [Value.ref b, Value.int 0].toArray, below, meth, c) w B tL_cell (fun o σ' => σ' = σ ∧ o = some (.int (r_cell0 L xs)))) 0 [(0, Value.ref b), (1, Value.int 0)] [] σ := by
    refine r_iload_n C dL_cell_0 rfl (j := 1) rfl ?_
    refine r_aload_n C dL_cell_1 rfl (j := 0) rfl ?_
    refine r_slen C hX dL_cell_2 ?_
    refine r_icmp_ge (tgt := 12) C dL_cell_3 (by decide) (fun c1 => ?_) (fun c1 => ?_)
    · have h0 : L = 0 := by
        rcases Nat.eq_zero_or_pos L with h | h
        · exact h
        · exact absurd c1 (by rw [← nI_0]; exact nI_ge h (by omega))
      refine r_iconst (v := 0) C dL_cell_12 (by decide) ?_
      exact r_iret C E rfl (Nat.zero_le _) (Nat.zero_le _) dL_cell_13 ⟨rfl, by simp [r_cell0, h0]⟩
    · have h0 : 0 < L := by
        rcases Nat.eq_zero_or_pos L with h | h
        · exact absurd (by rw [h]; decide) c1
        · exact h
      refine r_aload_n C dL_cell_6 rfl (j := 0) rfl ?_
      refine r_iload_n C dL_cell_7 rfl (j := 1) rfl ?_
      refine r_sld C hX (by rw [← nI_0]; exact vp_in_nI h0 (by omega)) dL_cell_8 ?_
      refine r_goto (tgt := 13) C dL_cell_9 (by decide) ?_
      exact r_iret C E rfl (Nat.zero_le _) (Nat.zero_le _) dL_cell_13 ⟨rfl, by simp [r_cell0, Nat.ne_of_gt h0]⟩
  exact key s.heap [] _ hH va_S.rf hl
theorem r_cellS (C : r_C X w B nL cc own) (E : r_E X l t) (hX : r_XX X B b L xs) (hL : L ≤ 2561) {index : Nat} (w1 : Cond.methodLink own index tL_cell.1 ∈ kBig) (hR : r_Rm t tL_cell) (h8 : (rest.map fun v => v.category).sum ≤ 8) (hc1 : cells ≤ t.2.2.2.2.cells) (hs1 : slots ≤ t.2.2.2.2.slots) (hdg : decode cc pc = .ok (.invokestatic index, 3))
    (kk : r_W X w B nL cells slots Q (pc + 3) lv (.int (r_cell0 L xs) :: rest) σ) : r_W X w B nL cells slots Q pc lv (.int 0 :: .ref b :: rest) σ := by
  obtain ⟨p, l', e, R, s, m, args, below, meth, c⟩ := X
  obtain ⟨⟨hx, hb, hml, hown, hts⟩, hK, hB⟩ := C
  obtain ⟨hle, hRe, -, -, -⟩ := E
  obtain ⟨hx1, hx2, hx3⟩ := hX
  subst hle
  subst hRe
  intro H locs la g1 g2 g3
  have hBH : B < H.size := by rw [g1.1]; omega
  have hb1 : ¬ B < b := by omega
  refine r_back (w := w) (Q2 := fun o σ' => σ' = σ ∧ o = some (.int (r_cell0 L xs))) (va_runS (cc := cc) (nL := nL) (Ts := kBig) (own := own) (n := 2) (As := [Value.ref b, Value.int 0]) (rest := rest) ⟨hx, hb, hml, hown, hts⟩ (m_L_cell l' w B b L xs σ hL) ⟨callB_of 2 hts (r_goodc ky_L_cell) rfl rfl rfl (hts _ ky_L_cell.2.1) (hts _ w1) ky_L_cell.2.2 hR, hts _ ks_L_cell⟩ ⟨?_, fun U hU hW => ⟨rfl, by rw [hU]; exact hBH, ⟨by rw [hU]; exact g1, r_K.warm hW hK⟩, hx1, by rw [hU]; exact va_X.moved hW.alike (va_X.kept hx3 (g2.2.1 b hx2 hb1))⟩⟩ rfl rfl g3.1 rfl (lv_room h8) hdg ⟨hc1, hs1⟩) g2 ?_
  · exact fun a U g mk q => ⟨q.1, q.2.1, ⟨q.2.2.1.1, r_K.calling q.2.2.1.2⟩, q.2.2.2.1, va_X.moved (u := U) (U := U.calling g mk a) (Vm.Alike.refl U.vm) q.2.2.2.2⟩
  · intro r σ' hq H1 locs1 k1 k2
    obtain ⟨rfl, rfl⟩ := hq
    exact kk H1 locs1 la k1 k2 g3
end RWG
