theorem r_enter {l : Launch} {w : r_V} {B : Nat} {t : r_T} {as : List Value} {σ : r_S} {Q : Option Value → r_S → Prop} (hy : plainName t.1.cls = true) (hlen : (lg_sl as).length ≤ t.2.2.1) (h : ∀ X : r_X, r_C X w B t.2.2.1 t.2.1 t.1.cls → r_E X l t → r_W X w B t.2.2.1 0 0 (r_Z X w B t Q) 0 (lv_args 0 as) [] σ) : r_M l w B t as σ Q := by
  refine Met.ofW (cc := t.2.1) (maxL := t.2.2.1) (ret := t.2.2.2.1) hy rfl ?_
  intro p e s m args below meth c s₁ Bd hml hv
  obtain ⟨rfl, hB, hH, hK⟩ := hv
  have hts := atoms_spec (ws := Cond.code t.1 t.2.1 t.2.2.1 t.2.2.2.1 :: kBig) Bd.pre
  have hown : s.vm.findClass t.1.cls = some m.cls := findClass_of_methodNamed Bd.named
  have hin : meth.name = t.1.name := (name_of_methodNamed Bd.named Bd.method).1
  have hl := lv_entry as (n := t.2.2.1) hlen
  rw [lg_entry_eq]
  exact h (p, l, e, (headSpec (Cond.code t.1 t.2.1 t.2.2.1 t.2.2.2.1 :: kBig) t.2.2.2.2).room, s, m, as.toArray, below, meth, c) ⟨⟨Bd.exec, Bd.bytes, hml, hown, fun q hq => hts q (List.mem_cons_of_mem _ hq)⟩, hK, hB⟩ ⟨rfl, rfl, Bd.returns, Bd.notSynchronized, hin⟩ s.heap [] _ hH va_S.rf hl
section RWD
variable {X : r_X} {w : r_V} {B nL cells slots : Nat} {Q : State → Prop} {cc : ByteArray} {own : String} {pc : Nat} {lv : List (Nat × Value)} {rest : List Value} {σ : r_S} {l : Launch} {t : r_T} {Q2 : Option Value → r_S → Prop}
theorem r_iret (C : r_C X w B nL cc own) (E : r_E X l t) {v : Int32} (hr : t.2.2.2.1 = some .int) (hc : cells ≤ t.2.2.2.2.cells) (hs : slots ≤ t.2.2.2.2.slots) (hdg : decode cc pc = .ok (.ireturn, 1)) (hq : Q2 (some (.int v)) σ) : r_W X w B nL cells slots (r_Z X w B t Q2) pc lv [.int v] σ := by
  obtain ⟨p, l, e, R, s, m, args, below, meth, c⟩ := X
  obtain ⟨⟨hx, hb, hml, hown, hts⟩, hK, hB⟩ := C
  obtain ⟨-, -, hret, hlk, -⟩ := E
  intro H locs la g1 g2 g3
  refine W.widen hc hs ?_
  exact W.iret hx hb (hret.trans hr) (fun t' ht hW => ⟨⟨_, σ, rfl, hq, by rw [ht]; exact g1, r_K.warm hW hK⟩, g2.F ht⟩) g2.2.2 hdg hlk
theorem r_zret (C : r_C X w B nL cc own) (E : r_E X l t) {v : Int32} (hr : t.2.2.2.1 = some .boolean) (hv : narrow .boolean (.int v) = .int v) (hc : cells ≤ t.2.2.2.2.cells) (hs : slots ≤ t.2.2.2.2.slots) (hdg : decode cc pc = .ok (.ireturn, 1)) (hq : Q2 (some (.int v)) σ) : r_W X w B nL cells slots (r_Z X w B t Q2) pc lv [.int v] σ := by
  obtain ⟨p, l, e, R, s, m, args, below, meth, c⟩ := X
  obtain ⟨⟨hx, hb, hml, hown, hts⟩, hK, hB⟩ := C
  obtain ⟨-, -, hret, hlk, -⟩ := E
  intro H locs la g1 g2 g3
  refine W.widen hc hs ?_
  exact W.zret hx hb (hret.trans hr) hv (fun t' ht hW => ⟨⟨_, σ, rfl, hq, by rw [ht]; exact g1, r_K.warm hW hK⟩, g2.F ht⟩) g2.2.2 hdg hlk
theorem r_lret (C : r_C X w B nL cc own) (E : r_E X l t) {v : Int64} (hr : t.2.2.2.1 = some .long) (hc : cells ≤ t.2.2.2.2.cells) (hs : slots ≤ t.2.2.2.2.slots) (hdg : decode cc pc = .ok (.lreturn, 1)) (hq : Q2 (some (.long v)) σ) : r_W X w B nL cells slots (r_Z X w B t Q2) pc lv [.long v] σ := by
  obtain ⟨p, l, e, R, s, m, args, below, meth, c⟩ := X
  obtain ⟨⟨hx, hb, hml, hown, hts⟩, hK, hB⟩ := C
  obtain ⟨-, -, hret, hlk, -⟩ := E
  intro H locs la g1 g2 g3
  refine W.widen hc hs ?_
  exact W.lret hx hb (hret.trans hr) (fun t' ht hW => ⟨⟨_, σ, rfl, hq, by rw [ht]; exact g1, r_K.warm hW hK⟩, g2.F ht⟩) g2.2.2 hdg hlk
theorem r_vret (C : r_C X w B nL cc own) (E : r_E X l t) (hr : t.2.2.2.1 = none) (hc : cells ≤ t.2.2.2.2.cells) (hs : slots ≤ t.2.2.2.2.slots) (hdg : decode cc pc = .ok (.return_, 1)) (hq : Q2 none σ) : r_W X w B nL cells slots (r_Z X w B t Q2) pc lv [] σ := by
  obtain ⟨p, l, e, R, s, m, args, below, meth, c⟩ := X
  obtain ⟨⟨hx, hb, hml, hown, hts⟩, hK, hB⟩ := C
  obtain ⟨-, -, hret, hlk, -⟩ := E
  intro H locs la g1 g2 g3
  refine W.widen hc hs ?_
  exact W.vret hx hb (hret.trans hr) (fun t' ht hW => ⟨⟨_, σ, rfl, hq, by rw [ht]; exact g1, r_K.warm hW hK⟩, g2.F ht⟩) g2.2.2 hdg hlk
/-- the words of a call that are the callee's own -/
def r_Ky (t2 : r_T) (n : Nat) : Prop := Cond.code t2.1 t2.2.1 t2.2.2.1 t2.2.2.2.1 ∈ kBig ∧ Cond.initialized t2.1.cls ∈ kBig ∧ (t2.1.cls ≠ "java/lang/invoke/MethodHandle" ∧ t2.1.cls ≠ "java/lang/invoke/VarHandle" ∧ (parseMethodDescriptor t2.1.desc).map (fun d => d.parameters.length) = some n)
def r_Rm (t t2 : r_T) : Prop := t2.2.2.2.2.frames + 1 ≤ t.2.2.2.2.frames ∧ 8 + (t2.2.2.1 + 11) + t2.2.2.2.2.locals ≤ t.2.2.2.2.locals
theorem r_blind {as : List Value} : FrameBlind (fun a U => a = as.toArray ∧ B < U.heap.size ∧ r_U w B σ U) := fun a U g mk q => ⟨q.1, q.2.1, q.2.2.1, r_K.calling q.2.2.2⟩
theorem r_goodc {t2 : r_T} {n : Nat} (K : r_Ky t2 n) : GoodIn kBig (Cond.code t2.1 t2.2.1 t2.2.2.1 t2.2.2.2.1 :: kBig) := by
  intro q hq
  rcases List.mem_cons.mp hq with rfl | hq
  · exact ⟨K.1, Or.inl rfl⟩
  · exact kBig_good q hq
theorem r_back {p : Program} {l : Launch} {e : Env} {R : Room} {s : State} {m : MethodId} {args : Array Value} {below : List Frame} {meth : Method} {c : Code} {H : Heap} {locs : List Loc} {mc ms : Nat} {la : Array Slot} {st0 : List Value} {a : Array Value} (hr : va_Run p l e R s m args below meth c H locs cells slots mc ms (F0 m pc la st0) rest (r_Qc w B Q2 a) (fun q => B < q)) (g2 : va_S (fun q => B < q) s.heap H locs)
    (kk : ∀ (r : Option Value) (σ' : r_S), Q2 r σ' → ∀ (H1 : Heap) (locs1 : List Loc), r_H w B σ' H1 → va_S (fun q => B < q) s.heap H1 locs1 → W p l e R s m args below meth c H1 locs1 (cells + mc) (slots + ms) Q (F0 m (pc + 3) la (r.toList ++ rest))) : W p l e R s m args below meth c H locs cells slots Q (F0 m pc la st0) := by
  intro T hT X
  obtain ⟨v, st₀, t, T', L, h0, X', hL, e1, e2, ⟨⟨r, σ', hv, hp, hb⟩, hz, hk⟩, st⟩ := hr T hT X
  cases hv
  rw [h0] at hz hk
  obtain ⟨t2, a1, b1⟩ := kk v σ' hp T'.heap (locs ++ L) (by rw [e1]; exact hb.1)
    ⟨Nat.le_trans g2.1 (by rw [e1]; exact hz), fun q h1 h2 => by rw [e1, hk q (Nat.lt_of_lt_of_le h1 g2.1) h2]; exact g2.2.1 q h1 h2, fun q hq => by
      rcases List.mem_append.mp hq with h | h
      · exact g2.2.2 q h
      · exact hL q h⟩ T' rfl X'
  exact ⟨t2, st t2 a1, b1⟩
theorem r_callV (C : r_C X w B nL cc own) (E : r_E X l t) {t2 : r_T} {a ci index n : Nat} {As st : List Value} {T : u_T} {N : Nat} (hat : r_at σ a = some (.inl ci)) (hcl : kCl[ci]? = some (t2.1.cls, T, N)) (K : r_Ky t2 n) (w1 : Cond.methodLink own index t2.1 ∈ kBig) (w2 : Cond.instanceMethod t2.1 ∈ kBig) (w3 : Cond.selects t2.1.cls t2.1 t2.1 ∈ kBig) (hR : r_Rm t t2) (hM : r_M l w B t2 (.ref (B + a) :: As) σ Q2) (hn : As.length = n) (hst : st = As.reverse ++ .ref (B + a) :: rest) (h8 : (rest.map fun v => v.category).sum ≤ 8) (hc1 : cells + t2.2.2.2.2.cells ≤ t.2.2.2.2.cells) (hs1 : slots + t2.2.2.2.2.slots ≤ t.2.2.2.2.slots) (hdg : decode cc pc = .ok (.invokevirtual index, 3))
    (kk : ∀ (r : Option Value) (σ' : r_S), Q2 r σ' → r_W X w B nL (cells + t2.2.2.2.2.cells) (slots + t2.2.2.2.2.slots) Q (pc + 3) lv (r.toList ++ rest) σ') : r_W X w B nL cells slots Q pc lv st σ := by
  obtain ⟨p, l', e, R, s, m, args, below, meth, c⟩ := X
  obtain ⟨⟨hx, hb, hml, hown, hts⟩, hK, hB⟩ := C
  obtain ⟨hle, hRe, -, -, -⟩ := E
  subst hle
  subst hRe
  subst hst
  intro H locs la g1 g2 g3
  have hv : (r_ws w.2 B σ)[a - 1]? = some (B + a, .inr (ci, (List.range (kNf ci)).map (fun k => r_fv B σ (kTf ci k) a k))) := r_ws_at hat
  have hBH : B < H.size := by rw [g1.1]; omega
  refine r_back (w := w) (Q2 := Q2) (va_runV (cc := cc) (nL := nL) (Ts := kBig) (own := own) (C := t2.1.cls) (n := n) (As := As) (rest := rest) ⟨hx, hb, hml, hown, hts⟩ hM ⟨callB_of n hts (r_goodc K) rfl rfl rfl (hts _ K.2.1) (hts _ w1) K.2.2 hR, hts _ w2, hts _ w3⟩ ⟨r_blind, va_recv hK.1 g1.2 hcl hv, fun U hU hW => ⟨rfl, by rw [hU]; exact hBH, by rw [hU]; exact g1, r_K.warm hW hK⟩⟩ rfl hn g3.1 rfl (lv_room h8) hdg ⟨hc1, hs1⟩) g2 ?_
  exact fun r σ' hq H1 locs1 k1 k2 => kk r σ' hq H1 locs1 la k1 k2 g3
theorem r_callS (C : r_C X w B nL cc own) (E : r_E X l t) {t2 : r_T} {index n : Nat} {As st : List Value} (K : r_Ky t2 n) (w1 : Cond.methodLink own index t2.1 ∈ kBig) (w2 : Cond.static t2.1 ∈ kBig) (hR : r_Rm t t2) (hM : r_M l w B t2 As σ Q2) (hn : As.length = n) (hst : st = As.reverse ++ rest) (h8 : (rest.map fun v => v.category).sum ≤ 8) (hc1 : cells + t2.2.2.2.2.cells ≤ t.2.2.2.2.cells) (hs1 : slots + t2.2.2.2.2.slots ≤ t.2.2.2.2.slots) (hdg : decode cc pc = .ok (.invokestatic index, 3))
    (kk : ∀ (r : Option Value) (σ' : r_S), Q2 r σ' → r_W X w B nL (cells + t2.2.2.2.2.cells) (slots + t2.2.2.2.2.slots) Q (pc + 3) lv (r.toList ++ rest) σ') : r_W X w B nL cells slots Q pc lv st σ := by
  obtain ⟨p, l', e, R, s, m, args, below, meth, c⟩ := X
  obtain ⟨⟨hx, hb, hml, hown, hts⟩, hK, hB⟩ := C
  obtain ⟨hle, hRe, -, -, -⟩ := E
  subst hle
  subst hRe
  subst hst
  intro H locs la g1 g2 g3
  have hBH : B < H.size := by rw [g1.1]; omega
  refine r_back (w := w) (Q2 := Q2) (va_runS (cc := cc) (nL := nL) (Ts := kBig) (own := own) (n := n) (As := As) (rest := rest) ⟨hx, hb, hml, hown, hts⟩ hM ⟨callB_of n hts (r_goodc K) rfl rfl rfl (hts _ K.2.1) (hts _ w1) K.2.2 hR, hts _ w2⟩ ⟨r_blind, fun U hU hW => ⟨rfl, by rw [hU]; exact hBH, by rw [hU]; exact g1, r_K.warm hW hK⟩⟩ rfl hn g3.1 rfl (lv_room h8) hdg ⟨hc1, hs1⟩) g2 ?_
  exact fun r σ' hq H1 locs1 k1 k2 => kk r σ' hq H1 locs1 la k1 k2 g3
theorem r_callI (C : r_C X w B nL cc own) (E : r_E X l t) {t2 : r_T} {a index n : Nat} {As st : List Value} (K : r_Ky t2 n) (hret : t2.2.2.2.1 = none) (hnm : t2.1.name = "<init>") (w1 : Cond.methodLink own index t2.1 ∈ kBig) (w2 : Cond.instanceMethod t2.1 ∈ kBig) (hR : r_Rm t t2) (hM : r_M l w B t2 (.ref (B + a) :: As) σ Q2) (hn : As.length = n) (hst : st = As.reverse ++ .ref (B + a) :: rest) (h8 : (rest.map fun v => v.category).sum ≤ 8) (hc1 : cells + t2.2.2.2.2.cells ≤ t.2.2.2.2.cells) (hs1 : slots + t2.2.2.2.2.slots ≤ t.2.2.2.2.slots) (hdg : decode cc pc = .ok (.invokespecial index, 3))
    (kk : ∀ (r : Option Value) (σ' : r_S), Q2 r σ' → r_W X w B nL (cells + t2.2.2.2.2.cells) (slots + t2.2.2.2.2.slots) Q (pc + 3) lv (r.toList ++ rest) σ') : r_W X w B nL cells slots Q pc lv st σ := by
  obtain ⟨p, l', e, R, s, m, args, below, meth, c⟩ := X
  obtain ⟨⟨hx, hb, hml, hown, hts⟩, hK, hB⟩ := C
  obtain ⟨hle, hRe, -, -, -⟩ := E
  obtain ⟨y, by2, mL, rt, rm⟩ := t2
  simp only at hret
  subst hret
  subst hle
  subst hRe
  subst hst
  intro H locs la g1 g2 g3
  have hBH : B < H.size := by rw [g1.1]; omega
  refine r_back (w := w) (Q2 := Q2) (va_runI (cc := cc) (nL := nL) (Ts := kBig) (own := own) (n := n) (b := B + a) (As := As) (rest := rest) ⟨hx, hb, hml, hown, hts⟩ hM ⟨callB_of n hts (r_goodc K) rfl rfl rfl (hts _ K.2.1) (hts _ w1) K.2.2 hR, hnm, hts _ w2⟩ ⟨r_blind, fun U hU hW => ⟨rfl, by rw [hU]; exact hBH, by rw [hU]; exact g1, r_K.warm hW hK⟩⟩ rfl hn g3.1 rfl (lv_room h8) hdg ⟨hc1, hs1⟩) g2 ?_
  exact fun r σ' hq H1 locs1 k1 k2 => kk r σ' hq H1 locs1 la k1 k2 g3
theorem r_callIN (C : r_C X w B nL cc own) (E : r_E X l t) {t2 : r_T} {a index n : Nat} {As st : List Value} {host : String} (K : r_Ky t2 n) (hret : t2.2.2.2.1 = none) (hnm : t2.1.name = "<init>") (w1 : ∀ U : State, r_N U → va_Nw (.methodLinkNest own index t2.1 host) U) (w2 : Cond.instanceMethod t2.1 ∈ kBig) (hR : r_Rm t t2) (hM : r_M l w B t2 (.ref (B + a) :: As) σ Q2) (hn : As.length = n) (hst : st = As.reverse ++ .ref (B + a) :: rest) (h8 : (rest.map fun v => v.category).sum ≤ 8) (hc1 : cells + t2.2.2.2.2.cells ≤ t.2.2.2.2.cells) (hs1 : slots + t2.2.2.2.2.slots ≤ t.2.2.2.2.slots) (hdg : decode cc pc = .ok (.invokespecial index, 3))
    (kk : ∀ (r : Option Value) (σ' : r_S), Q2 r σ' → r_W X w B nL (cells + t2.2.2.2.2.cells) (slots + t2.2.2.2.2.slots) Q (pc + 3) lv (r.toList ++ rest) σ') : r_W X w B nL cells slots Q pc lv st σ := by
  obtain ⟨p, l', e, R, s, m, args, below, meth, c⟩ := X
  obtain ⟨⟨hx, hb, hml, hown, hts⟩, hK, hB⟩ := C
  obtain ⟨hle, hRe, -, -, -⟩ := E
  obtain ⟨y, by2, mL, rt, rm⟩ := t2
  simp only at hret
  subst hret
  subst hle
  subst hRe
  subst hst
  intro H locs la g1 g2 g3
  have hBH : B < H.size := by rw [g1.1]; omega
  refine r_back (w := w) (Q2 := Q2) (va_runIN (cc := cc) (nL := nL) (Ts := kBig) (own := own) (n := n) (b := B + a) (As := As) (rest := rest) ⟨hx, hb, hml, hown, hts⟩ hM ⟨va_cnB n hts (r_goodc K) rfl rfl rfl (w1 s hK.2) (hts _ K.2.1) K.2.2 hR, hnm, hts _ w2⟩ ⟨r_blind, fun U hU hW => ⟨rfl, by rw [hU]; exact hBH, by rw [hU]; exact g1, r_K.warm hW hK⟩⟩ rfl hn g3.1 rfl (lv_room h8) hdg ⟨hc1, hs1⟩) g2 ?_
  exact fun r σ' hq H1 locs1 k1 k2 => kk r σ' hq H1 locs1 la k1 k2 g3
theorem r_objInit (C : r_C X w B nL cc own) (E : r_E X l t) {index a : Nat} (w1 : Cond.methodLink own index objectInit ∈ kBig) (w2 : Cond.instanceMethod objectInit ∈ kBig) (w3 : Cond.code objectInit ⟨#[0xb1]⟩ 1 none ∈ kBig) (hdg : decode cc pc = .ok (.invokespecial index, 3)) (hfr : 1 ≤ t.2.2.2.2.frames) (hlo : (rest.map fun v => v.category).sum + 12 ≤ t.2.2.2.2.locals) (kk : r_W X w B nL cells slots Q (pc + 3) lv rest σ) : r_W X w B nL cells slots Q pc lv (.ref (B + a) :: rest) σ := by
  obtain ⟨p, l', e, R, s, m, args, below, meth, c⟩ := X
  obtain ⟨⟨hx, hb, hml, hown, hts⟩, hK, hB⟩ := C
  obtain ⟨hle, hRe, -, -, -⟩ := E
  subst hRe
  intro H locs la g1 g2 g3
  exact W.objInit hx hb hown (hts _ w1) (hts _ w2) (hts _ w3) rfl (by rw [hml]; exact g3.1) rfl hdg hfr (by show 2 * 0 + _ + 12 ≤ _; omega) (kk H locs la g1 g2 g3)
end RWD
