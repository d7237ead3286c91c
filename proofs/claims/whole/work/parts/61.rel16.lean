/-! ACKNOWLEDGE is received; receive -/
section RH
variable {l : Launch} {w : r_V} {B : Nat} {n T s r E : Nat} {S : Int32} {d m : Nat → Nat} {e : Nat → Bool} {κ κ' : Ku} {μ μ' : Mu}
theorem c_receiveAck {f a : Nat} (hn : okN n) (hTb : T + 100 < 2 ^ 31) (h : R n T S d m e 0 s κ μ) (hM : MI n E μ) (hE : E + 5 < 2 ^ 30) (he : e s = false) (hs : s < n) (hr : r < n) (hsr : s ≠ r) (hk : μ.1 37 s = 4) (ha : μ.2 39 s = lN a) (hab : a < T) (hto : μ.1 38 s = nI r) (hf : κ.2.2 (22 + 14 * s) 14 = f) : r_KV l w B n tX7_receiveAcknowledge [.ref (B + 1), .ref (B + (22 + 14 * r)), .ref (B + (22 + 14 * s)), .ref (B + f)] κ (fun κ' => R n T S d m e 0 s κ' (if fAwait μ s r then fAck r (μ.1 42 s) (lN T) μ else μ) ∧ κ'.2.2 = κ.2.2) := by
  have hn6 := hn.2
  have hat := at_st hn hr
  have hats := at_st hn hs
  have hbm : 22 + 14 * r + 13 < mOf n := (at_stat hn hat).2.2.2.2.2.1
  have hP := hM.pay.2
  have hmem := (hM.tr r hr).mem
  obtain ⟨sO, -, -, -, -, L, hsO, p2, hL, -, -, -, -, -, -, -, -, -, -, -, -, -, -, -, -, hF⟩ := h.frame hn hs he (by rw [hk]; decide)
  have hff : f = 22 + 14 * s + sO := hf.symm.trans p2
  have hfs : atS n f = some (.inl 2) := by rw [← hf]; exact (h.co.2.2.2.1 _ hats).2.2.2.2
  rw [← hff] at hL
  obtain ⟨b, e42, hb, eL⟩ := hF.2 hk
  rw [hto, nI_clampS (by omega)] at hb eL
  have hLm : ∀ p ∈ L, ∃ q : Nat, p = nI q ∧ 1 ≤ q ∧ q ≤ pN μ ∧ μ.1 2 q = nI r := fun p hp => by
    rw [eL] at hp
    obtain ⟨q, e, q1, q2, q3, -⟩ := hmem p (sel_mem _ _ p hp)
    exact ⟨q, e, q1, q2, q3⟩
  have hL4 : L.length ≤ 4 := hL.2.2.1
  have en := (h.stat hs).1
  rw [e42]
  refine r_enter (by decide) (Nat.le_of_ble_eq_true rfl) (fun X C Ex => ?_)
  refine v_X7_receiveAcknowledge_0 C Ex hn h.co Gr.rf hat hats hfs ?_
  rw [en]
  refine ⟨_, s_St_waitsFor hn h.co hat, fun z5 κ3 q => ?_⟩
  obtain ⟨rfl, e5⟩ := q
  rw [await_iff hTb h hs hr hk (by decide)] at e5
  by_cases hw : fAwait μ s r = true
  · have e5 : z5 = 1 := by rw [e5, hw]; rfl
    refine ⟨fun q => absurd (e5.symm.trans q) (by decide), fun _ b11 e11 => ?_⟩
    subst e11
    have hw' := hw
    simp only [fAwait, Bool.and_eq_true, Bool.not_eq_true', decide_eq_true_eq, decide_eq_false_iff_not] at hw'
    have hN := h.np3 (b := 0) hn hTb hs hr (fun q => hsr q.symm) (by rw [hk]; decide) ha hab (by omega) hw'.2.1
    have hsn := sel_nil (tl (μ.1 34) (μ.1 35) r) b hb
    have hb16 : b < 2 ^ 31 := by
      have : (tl (μ.1 34) (μ.1 35) r).length ≤ 4 := (h.attRw hn hr).2.2.1
      have h2 : 2 ^ (tl (μ.1 34) (μ.1 35) r).length ≤ 2 ^ 4 := Nat.pow_le_pow_right (by omega) this
      omega
    have eack := ackL_eq (t := lN T) (hM.tr r hr) hb
    rw [← eL] at eack hsn
    have eL1 : κ3.1 (f + 1) 1 = nI L.length := hL.2.2.2.1
    rw [eL1]
    refine ⟨fun c => ?_, fun c κ24 e24 => ?_⟩
    · have hl0 : L.length = 0 := nI_inj (by omega) (by omega) (c.trans nI_0.symm)
      have hL0 : L = [] := List.eq_nil_of_length_eq_zero hl0
      have hb0 : b = 0 := hsn.mp hL0
      have eA : fAck r (nI b) (lN T) μ = fFail r (lN T) μ := by
        unfold fAck
        rw [if_pos (by rw [hb0]; exact nI_0), eack, hL0]
        exact fail_idem
      refine ⟨_, c_fail hn hr h hM (by omega) hN, fun κ17 q => ?_⟩
      rw [if_pos hw, eA]
      exact q
    · have hb0 : ¬ nI b = 0 := fun q => c (by
        have : b = 0 := nI_inj hb16 (by omega) (q.trans nI_0.symm)
        rw [hsn.mpr this]
        exact nI_0)
      have h24 : R n T S d m e 0 s κ24 (ul μ 23 r (-1)) := by rw [e24]; exact h.nowait hr hN
      refine ⟨_, s_St_anew hn h24.co hat, fun κ30 q30 => ?_⟩
      have h30 : R n T S d m e 0 s κ30 (ui (ui (ul μ 23 r (-1)) 18 r 0) 17 r 3) := by rw [q30]; exact (h24.own hr (by omega)).own hr (by omega)
      have hG30 : Gr n κ3 κ30 := by rw [q30, e24]; exact ((Gr.rf.i (by omega)).i (by omega)).i (by omega)
      have hM30 : MI n (E + 0) (ui (ui (ul μ 23 r (-1)) 18 r 0) 17 r 3) := ((hM.nowait r).tries r 0).width (x := 3) (by omega)
      have hL30 : Rw n κ30 (f + 1) 4 L := by
        have hA : Ag [22 + 14 * r] κ3 κ30 := by rw [q30, e24]; exact (Ag.ii.trans Ag.ii).trans Ag.ii
        exact hL.keep (hA _ (by simp; omega)).1 (hA _ (by simp; omega)).1
      have key : ∀ (k i : Nat) (κ9 : Ku) (ν : Mu), i + k = L.length → Gr n κ3 κ9 → κ9.2.2 = κ3.2.2 → R n T S d m e 0 s κ9 ν → MI n (E + i) ν → Rw n κ9 (f + 1) 4 L → (∀ j, ν.1 2 j = μ.1 2 j) → (L.drop i).foldl (cAck (lN T)) ν = L.foldl (cAck (lN T)) (ui (ui (ul μ 23 r (-1)) 18 r 0) 17 r 3) → r_W X w B 6 0 0 (r_Z X w B tX7_receiveAcknowledge (ZKV n κ3 (fun κ' => R n T S d m e 0 s κ' (if fAwait μ s r then fAck r (nI b) (lN T) μ else μ) ∧ κ'.2.2 = κ3.2.2))) 45 [(0, Value.ref (B + 1)), (1, Value.ref (B + (22 + 14 * r))), (4, Value.ref (B + (f + 1))), (5, Value.int (nI i))] [] (shp n, κ9) := by
        intro k
        induction k with
        | zero =>
          intro i κ9 ν hi hG hp9 h9 hM9 hL9 h2 hF
          have hi : i = L.length := by omega
          subst hi
          rw [List.drop_length] at hF
          have hF : ν = L.foldl (cAck (lN T)) (ui (ui (ul μ 23 r (-1)) 18 r 0) 17 r 3) := hF
          have eA : fAck r (nI b) (lN T) μ = fKeepDraw r ν := by
            unfold fAck
            rw [if_neg hb0, eack, hF, ack_comm (by decide), ack_comm (by decide)]
          have hD := c_keepDraw (l := l) (w := w) (B := B) hn hr h9 hM9
          rw [if_pos hw, eA]
          exact v_X7_receiveAcknowledge_45 C Ex hn h9.co hG hat hL9.1 ⟨fun _ => ⟨fun c => ⟨hD.1 c, hp9⟩, fun c => ⟨_, hD.2 c, fun κ4 q => ⟨q.1, q.2.trans hp9⟩⟩⟩, fun c => absurd (by rw [hL9.2.2.2.1]; exact nI_le (Nat.le_refl _) (by omega)) c⟩
        | succ k ih =>
          intro i κ9 ν hi hG hp9 h9 hM9 hL9 h2 hF
          have hil : i < L.length := by omega
          have hgd : L.getD i 0 = L[i] := by simp [List.getD_eq_getElem?_getD, List.getElem?_eq_getElem hil]
          obtain ⟨p, ep, p1, pP, pf⟩ := hLm L[i] (List.getElem_mem hil)
          have hdr : L.drop i = nI p :: L.drop (i + 1) := by rw [List.drop_eq_getElem_cons hil, ep]
          rw [hdr] at hF
          refine v_X7_receiveAcknowledge_45 C Ex hn h9.co hG hat hL9.1 ⟨fun c => absurd c (by rw [hL9.2.2.2.1]; exact nI_ge (by omega) (by omega)), fun _ => ⟨_, s_Row_get hn h9.co hL9 (show i < 2 ^ 30 by omega), fun z16 κ14 q => ?_⟩⟩
          obtain ⟨rfl, e16⟩ := q
          rw [hgd, ep] at e16
          subst e16
          refine ⟨_, s_Row_drop hn h9.co (h9.keptRw hn hr), fun κ23 q => ?_⟩
          obtain ⟨hO, hR⟩ := q
          have h23 : R n T S d m e 0 s κ23 (ui ν 6 p 0) := h9.drop hM9 hn hr (by omega) (Or.inr (by rw [h2]; exact pf)) hO hR
          have hM23 : MI n (E + i) (ui ν 6 p 0) := hM9.kept p 0
          have hG23 : Gr n κ3 κ23 := hO.gr hG (by intro a ha; simp at ha; omega)
          have hL23 : Rw n κ23 (f + 1) 4 L := hL9.keep (hO.2 _ (by simp; omega)) (hO.2 _ (by simp; omega))
          refine ⟨_, s_Row_get hn h23.co hL23 (show i < 2 ^ 30 by omega), fun z34 κ32 q => ?_⟩
          obtain ⟨rfl, e34⟩ := q
          rw [hgd, ep] at e34
          subst e34
          have e21 : κ32.1 15 3 = (ui ν 6 p 0).1 0 21 := h23.gl.1.2.2.2.2.2.2.2.2
          refine ⟨_, s_Events_add hn h23.co (by rw [e21]; exact hM23.evIn (by omega)), fun κ41 q41 z48 e48 => ?_⟩
          rw [h23.gl.time.1] at q41
          rw [e48, nI_1]
          have eC : cAck (lN T) ν (nI p) = fTell (nI p) 3 (lN T) (ui ν 6 p 0) := by
            unfold cAck
            rw [nI_clampS (by omega)]
          have h41 : R n T S d m e 0 s κ41 (cAck (lN T) ν (nI p)) := by rw [q41, eC]; exact h23.tell
          have hG41 : Gr n κ3 κ41 := by
            rw [q41]
            unfold kTell
            refine Gr.i ?_ (by omega)
            split
            · exact hG23
            · exact ((hG23.i (by omega)).i (by omega)).i (by omega)
          have hp41 : κ41.2.2 = κ3.2.2 := by
            have x : κ32.2.2 = κ3.2.2 := by rw [hO.1]; exact hp9
            rw [q41]
            unfold kTell
            split
            · exact x
            · exact x
          have hL41 : Rw n κ41 (f + 1) 4 L := by
            have hA : Ag [15, 16, 17, 18] κ32 κ41 := by
              rw [q41]
              unfold kTell
              refine Ag.trans ?_ (Ag.ii.wide (by simp))
              split
              · exact fun a _ => ⟨rfl, rfl, rfl⟩
              · exact ((Ag.ii.wide (by simp)).trans (Ag.ii.wide (by simp))).trans (Ag.ii.wide (by simp))
            exact hL23.keep (hA _ (by simp; omega)).1 (hA _ (by simp; omega)).1
          exact ih (i + 1) κ41 (cAck (lN T) ν (nI p)) (by omega) hG41 hp41 h41 (by rw [eC]; exact hM23.tell _ _ _) hL41 (fun j => by rw [eC, fTell_1 (by decide)]; exact h2 j) hF
      have h0 := key L.length 0 κ30 _ (by omega) hG30 (by rw [q30, e24]; rfl) h30 hM30 hL30 (fun _ => rfl) rfl
      rw [nI_0] at h0
      exact h0
  · have hw : fAwait μ s r = false := by simpa using hw
    have e5 : z5 = 0 := by rw [e5, hw]; rfl
    exact ⟨fun _ => by rw [hw]; exact ⟨h, rfl⟩, fun q => absurd e5 q⟩
theorem left_nI {z : Nat} (hz : z ≤ 33) (ez : μ.1 41 s = nI z) : ∃ v : Nat, v ≤ 40 ∧ fLeft μ s = nI v := by
  unfold fLeft
  rw [ez]
  split
  · exact ⟨7 + z, by omega, nI_add 7 z⟩
  · split
    · exact ⟨4 + z, by omega, nI_add 4 z⟩
    · split
      · exact ⟨3, by omega, rfl⟩
      · exact ⟨0, by omega, rfl⟩
theorem c_receive {f : Nat} (hn : okN n) (hTb : T + 100 < 2 ^ 31) (h : R n T S d m e 0 s κ μ) (hS : S = SN n μ) (hM : MI n E μ) (hE : E + 5 < 2 ^ 30) (hd : d r = 1) (hm : m s = 1) (he : e s = false) (hs : s < n) (hr : r < n) (hsr : s ≠ r) (hk : ¬ μ.1 37 s = 0) (hl : μ.2 40 s = lN T) (hG : ¬ μ.1 37 s = 3 → μ.1 37 r = 0) (hf : κ.2.2 (22 + 14 * s) 14 = f) : r_KV l w B n tX7_receive [.ref (B + 1), .ref (B + (22 + 14 * r)), .ref (B + (22 + 14 * s)), .ref (B + f)] κ (fun κ' => R n T S d m e 0 s κ' (fReceive s r (lN T) μ) ∧ κ'.2.2 = κ.2.2) := by
  have hn6 := hn.2
  have hat := at_st hn hr
  have hats := at_st hn hs
  have hfs : atS n f = some (.inl 2) := by rw [← hf]; exact (h.co.2.2.2.1 _ hats).2.2.2.2
  have h1 : R n T S d m e 0 s (kl κ (22 + 14 * r) 19 (lN T)) (ul μ 32 r (lN T)) := h.got hr
  have hM1 : MI n E (ul μ 32 r (lN T)) := hM.got r (lN T)
  have hS1 : S = SN n (ul μ 32 r (lN T)) := hS
  have hk1 : ¬ (ul μ 32 r (lN T)).1 37 s = 0 := hk
  have hl1 : (ul μ 32 r (lN T)).2 40 s = lN T := hl
  have hG1 : ¬ (ul μ 32 r (lN T)).1 37 s = 3 → (ul μ 32 r (lN T)).1 37 r = 0 := hG
  have hf1 : (kl κ (22 + 14 * r) 19 (lN T)).2.2 (22 + 14 * s) 14 = f := hf
  unfold fReceive
  refine r_enter (by decide) (Nat.le_of_ble_eq_true rfl) (fun X C Ex => ?_)
  refine v_X7_receive_0 C Ex hn h.co Gr.rf hat hats hfs (fun κ1 e1 => ?_)
  rw [h.gl.time.1] at e1
  have kp : κ1.2.2 = κ.2.2 := by rw [e1]; rfl
  rw [← e1] at h1 hf1
  generalize ul μ 32 r (lN T) = μ1 at *
  obtain ⟨sO, a, b, z, q, L, hsO, p2, hL, f0, hkk, ha, hb, haT, hTb2, hba, f1, e38, hq, f2, e41, hz, hlen, f3, hB, hF⟩ := h1.frame hn hs he hk1
  have hff : f = 22 + 14 * s + sO := hf1.symm.trans p2
  rw [← hff] at f0 f1 f2
  have hbT : b = T := (lN_ne (by omega) (by omega)).mp (hb.symm.trans hl1)
  have er := (h1.stat hr).1
  rw [f1, er]
  refine ⟨fun c z6 e6 => ?_, fun c => ?_⟩
  · rw [f0] at e6
    subst e6
    unfold fRec
    rw [if_pos c]
    rcases hkk with k | k | k | k
    · have hk0 := hG1 (by rw [k]; decide)
      refine ⟨fun _ => ⟨_, c_receiveAsk hn hTb h1 hd hs hr hsr hk0 hfs hz e41 (f2.trans e41), fun κ11 q => ?_⟩, fun q => absurd k q⟩
      rw [if_pos k]
      exact ⟨q.1, q.2.trans kp⟩
    · have hk0 := hG1 (by rw [k]; decide)
      rw [if_neg (by rw [k]; decide)] at hlen
      refine ⟨fun q => absurd (k.symm.trans q) (by decide), fun _ => ⟨fun _ => ⟨_, c_receiveAnswer hn hTb h1 hM1 hd hs hr hsr hk0 k ha (by omega), fun κ21 q => ?_⟩, fun q => absurd k q⟩⟩
      rw [if_neg (by rw [k]; decide), if_neg (by rw [k]; decide), if_pos k]
      exact ⟨q.1, q.2.trans kp⟩
    · refine ⟨fun q => absurd (k.symm.trans q) (by decide), fun _ => ⟨fun q => absurd (k.symm.trans q) (by decide), fun _ => ⟨fun _ => ⟨_, c_receiveData hn hTb h1 hS1 hM1 (by omega) hd hm he hs hr hsr k hl1 c hf1, fun κ31 q => ?_⟩, fun q => absurd k q⟩⟩⟩
      rw [if_neg (by rw [k]; decide), if_pos k]
      exact ⟨q.1, q.2.trans kp⟩
    · rw [if_neg (by rw [k]; decide)] at hlen
      refine ⟨fun q => absurd (k.symm.trans q) (by decide), fun _ => ⟨fun q => absurd (k.symm.trans q) (by decide), fun _ => ⟨fun q => absurd (k.symm.trans q) (by decide), fun _ => ⟨fun _ => ⟨_, c_receiveAck hn hTb h1 hM1 hE he hs hr hsr k ha (by omega) c hf1, fun κ41 q => ?_⟩, fun q => absurd k q⟩⟩⟩⟩
      rw [if_neg (by rw [k]; decide), if_neg (by rw [k]; decide), if_neg (show ¬ μ1.1 37 s = 2 by rw [k]; decide)]
      exact ⟨q.1, q.2.trans kp⟩
  · refine ⟨_, s_Frame_left hn h1.co hfs, fun z52 κ50 q => ?_⟩
    obtain ⟨rfl, e52⟩ := q
    rw [f0, f2] at e52
    have e52 : z52 = fLeft μ1 s := e52
    obtain ⟨v, hv, ev⟩ := left_nI hz e41
    have e8 := (h1.stat hr).2.2.2.2.2.2.2.2.2.1
    obtain ⟨x, ex, hx⟩ := (h1.stat hr).2.2.2.2.2.2.2.2.2.2.2
    rw [h1.gl.time.1, e52, e8]
    refine ⟨_, j_maxl h1.co, fun y61 κ59 q κ66 e66 => ?_⟩
    obtain ⟨rfl, e61⟩ := q
    unfold fRec
    rw [if_neg c]
    have eV : (lN T + 1) + (fLeft μ1 s).toInt64 = lN (T + 1 + v) := by rw [ev, nI_l (by omega), lN_1, lN_add]
    rw [eV, ex] at e61 ⊢
    rw [e66, e61]
    by_cases q : lN x < lN (T + 1 + v)
    · rw [if_pos q, if_neg (Int64.not_le.mpr q)]
      exact ⟨h1.silent hr (by omega), kp⟩
    · rw [if_neg q, if_pos (Int64.not_lt.mp q)]
      exact ⟨h1.silent hr hx, kp⟩
end RH
