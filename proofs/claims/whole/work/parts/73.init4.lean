/-! the reference's constructor -/
def mL0 (m : Nat) : List Op := [oI m 3 20]
theorem mp0 {m : Nat} : plen (mL0 m) = 0 := rfl
def mL1 (m : Nat) : List Op := mL0 m ++ [oP (.inr (2, 36)), oR m 4 (m + 1)]
theorem mp1 {m : Nat} : plen (mL1 m) = 1 := by unfold mL1; rw [plen_app, mp0]; rfl
def mL2 (m : Nat) : List Op := mL1 m ++ [oP (.inr (0, 301)), oR m 6 (m + 2)]
theorem mp2 {m : Nat} : plen (mL2 m) = 2 := by unfold mL2; rw [plen_app, mp1]; rfl
def mL3 (m : Nat) : List Op := mL2 m ++ [oP (.inr (0, 301)), oR m 7 (m + 3)]
theorem mp3 {m : Nat} : plen (mL3 m) = 3 := by unfold mL3; rw [plen_app, mp2]; rfl
def mL4 (m : Nat) : List Op := mL3 m ++ [oP (.inr (0, 301)), oR m 8 (m + 4)]
theorem mp4 {m : Nat} : plen (mL4 m) = 4 := by unfold mL4; rw [plen_app, mp3]; rfl
def mL5 (m : Nat) : List Op := mL4 m ++ [oP (.inr (0, 301)), oR m 9 (m + 5)]
theorem mp5 {m : Nat} : plen (mL5 m) = 5 := by unfold mL5; rw [plen_app, mp4]; rfl
def mL6 (m : Nat) : List Op := mL5 m ++ [oP (.inr (2, 301)), oR m 10 (m + 6)]
theorem mp6 {m : Nat} : plen (mL6 m) = 6 := by unfold mL6; rw [plen_app, mp5]; rfl
def mL7 (m : Nat) : List Op := mL6 m ++ [oP (.inr (2, 301)), oR m 11 (m + 7)]
theorem mp7 {m : Nat} : plen (mL7 m) = 7 := by unfold mL7; rw [plen_app, mp6]; rfl
def mL8 (m : Nat) : List Op := mL7 m ++ [oP (.inr (0, 36)), oR m 12 (m + 8)]
theorem mp8 {m : Nat} : plen (mL8 m) = 8 := by unfold mL8; rw [plen_app, mp7]; rfl
def mL9 (m : Nat) : List Op := mL8 m ++ [oP (.inr (0, 36)), oR m 13 (m + 9)]
theorem mp9 {m : Nat} : plen (mL9 m) = 9 := by unfold mL9; rw [plen_app, mp8]; rfl
def mL10 (m : Nat) : List Op := mL9 m ++ [oP (.inr (0, 400)), oR m 16 (m + 10)]
theorem mp10 {m : Nat} : plen (mL10 m) = 10 := by unfold mL10; rw [plen_app, mp9]; rfl
def mL11 (m : Nat) : List Op := mL10 m ++ [oP (.inr (0, 40)), oR m 18 (m + 11)]
theorem mp11 {m : Nat} : plen (mL11 m) = 11 := by unfold mL11; rw [plen_app, mp10]; rfl
def mL12 (m : Nat) : List Op := mL11 m ++ [oP (.inr (1, 40)), oR m 19 (m + 12)]
theorem mp12 {m : Nat} : plen (mL12 m) = 12 := by unfold mL12; rw [plen_app, mp11]; rfl
def mL13 (m : Nat) : List Op := mL12 m ++ [oP (.inr (0, 40)), oR m 20 (m + 13)]
theorem mp13 {m : Nat} : plen (mL13 m) = 13 := by unfold mL13; rw [plen_app, mp12]; rfl
def mL14 (m : Nat) : List Op := mL13 m ++ [oP (.inr (0, 700)), oR m 22 (m + 14)]
theorem mp14 {m : Nat} : plen (mL14 m) = 14 := by unfold mL14; rw [plen_app, mp13]; rfl
def mL15 (m : Nat) : List Op := mL14 m ++ [oP (.inr (0, 700)), oR m 23 (m + 15)]
theorem mp15 {m : Nat} : plen (mL15 m) = 15 := by unfold mL15; rw [plen_app, mp14]; rfl
def mL16 (m : Nat) : List Op := mL15 m ++ [oP (.inr (1, 700)), oR m 24 (m + 16)]
theorem mp16 {m : Nat} : plen (mL16 m) = 16 := by unfold mL16; rw [plen_app, mp15]; rfl
def mL17 (m : Nat) : List Op := mL16 m ++ [oP (.inr (0, 6)), oR m 25 (m + 17)]
theorem mp17 {m : Nat} : plen (mL17 m) = 17 := by unfold mL17; rw [plen_app, mp16]; rfl
def mL18 (m : Nat) : List Op := mL17 m ++ [oP (.inr (0, 6)), oR m 26 (m + 18)]
theorem mp18 {m : Nat} : plen (mL18 m) = 18 := by unfold mL18; rw [plen_app, mp17]; rfl
def mL19 (m : Nat) : List Op := mL18 m ++ [oP (.inr (0, 6)), oR m 27 (m + 19)]
theorem mp19 {m : Nat} : plen (mL19 m) = 19 := by unfold mL19; rw [plen_app, mp18]; rfl
def mL20 (m : Nat) : List Op := mL19 m ++ [oP (.inr (0, 6)), oR m 28 (m + 20)]
theorem mp20 {m : Nat} : plen (mL20 m) = 20 := by unfold mL20; rw [plen_app, mp19]; rfl
def mL21 (m : Nat) : List Op := mL20 m ++ [oP (.inr (0, 6)), oR m 29 (m + 21)]
theorem mp21 {m : Nat} : plen (mL21 m) = 21 := by unfold mL21; rw [plen_app, mp20]; rfl
def mL22 (m : Nat) : List Op := mL21 m ++ [oP (.inr (1, 6)), oR m 30 (m + 22)]
theorem mp22 {m : Nat} : plen (mL22 m) = 22 := by unfold mL22; rw [plen_app, mp21]; rfl
def mL23 (m : Nat) : List Op := mL22 m ++ [oP (.inr (1, 6)), oR m 31 (m + 23)]
theorem mp23 {m : Nat} : plen (mL23 m) = 23 := by unfold mL23; rw [plen_app, mp22]; rfl
def mL24 (m : Nat) : List Op := mL23 m ++ [oP (.inr (0, 6)), oR m 32 (m + 24)]
theorem mp24 {m : Nat} : plen (mL24 m) = 24 := by unfold mL24; rw [plen_app, mp23]; rfl
def mL25 (m : Nat) : List Op := mL24 m ++ [oP (.inr (0, 6)), oR m 33 (m + 25)]
theorem mp25 {m : Nat} : plen (mL25 m) = 25 := by unfold mL25; rw [plen_app, mp24]; rfl
def mL26 (m : Nat) : List Op := mL25 m ++ [oP (.inr (1, 6)), oR m 34 (m + 26)]
theorem mp26 {m : Nat} : plen (mL26 m) = 26 := by unfold mL26; rw [plen_app, mp25]; rfl
def mL27 (m : Nat) : List Op := mL26 m ++ [oP (.inr (0, 6)), oR m 35 (m + 27)]
theorem mp27 {m : Nat} : plen (mL27 m) = 27 := by unfold mL27; rw [plen_app, mp26]; rfl
def mL28 (m : Nat) : List Op := mL27 m ++ [oP (.inr (0, 6)), oR m 36 (m + 28)]
theorem mp28 {m : Nat} : plen (mL28 m) = 28 := by unfold mL28; rw [plen_app, mp27]; rfl
def mL29 (m : Nat) : List Op := mL28 m ++ [oP (.inr (0, 6)), oR m 37 (m + 29)]
theorem mp29 {m : Nat} : plen (mL29 m) = 29 := by unfold mL29; rw [plen_app, mp28]; rfl
def mL30 (m : Nat) : List Op := mL29 m ++ [oP (.inr (0, 6)), oR m 38 (m + 30)]
theorem mp30 {m : Nat} : plen (mL30 m) = 30 := by unfold mL30; rw [plen_app, mp29]; rfl
def mL31 (m : Nat) : List Op := mL30 m ++ [oP (.inr (2, 6)), oR m 39 (m + 31)]
theorem mp31 {m : Nat} : plen (mL31 m) = 31 := by unfold mL31; rw [plen_app, mp30]; rfl
def mL32 (m : Nat) : List Op := mL31 m ++ [oP (.inr (1, 6)), oR m 40 (m + 32)]
theorem mp32 {m : Nat} : plen (mL32 m) = 32 := by unfold mL32; rw [plen_app, mp31]; rfl
def mL33 (m : Nat) : List Op := mL32 m ++ [oP (.inr (0, 24)), oR m 41 (m + 33)]
theorem mp33 {m : Nat} : plen (mL33 m) = 33 := by unfold mL33; rw [plen_app, mp32]; rfl
def mL34 (m : Nat) : List Op := mL33 m ++ [oP (.inr (0, 24)), oR m 42 (m + 34)]
theorem mp34 {m : Nat} : plen (mL34 m) = 34 := by unfold mL34; rw [plen_app, mp33]; rfl
def mL35 (m : Nat) : List Op := mL34 m ++ [oP (.inr (0, 6)), oR m 43 (m + 35)]
theorem mp35 {m : Nat} : plen (mL35 m) = 35 := by unfold mL35; rw [plen_app, mp34]; rfl
def mL36 (m : Nat) : List Op := mL35 m ++ [oP (.inr (0, 6)), oR m 44 (m + 36)]
theorem mp36 {m : Nat} : plen (mL36 m) = 36 := by unfold mL36; rw [plen_app, mp35]; rfl
def mL37 (m : Nat) : List Op := mL36 m ++ [oP (.inr (0, 6)), oR m 45 (m + 37)]
theorem mp37 {m : Nat} : plen (mL37 m) = 37 := by unfold mL37; rw [plen_app, mp36]; rfl
def mL38 (m : Nat) : List Op := mL37 m ++ [oP (.inr (0, 6)), oR m 46 (m + 38)]
theorem mp38 {m : Nat} : plen (mL38 m) = 38 := by unfold mL38; rw [plen_app, mp37]; rfl
def mL39 (m : Nat) : List Op := mL38 m ++ [oP (.inr (1, 6)), oR m 47 (m + 39)]
theorem mp39 {m : Nat} : plen (mL39 m) = 39 := by unfold mL39; rw [plen_app, mp38]; rfl
def mL40 (m : Nat) : List Op := mL39 m ++ [oP (.inr (1, 6)), oR m 48 (m + 40)]
theorem mp40 {m : Nat} : plen (mL40 m) = 40 := by unfold mL40; rw [plen_app, mp39]; rfl
def mL41 (m : Nat) : List Op := mL40 m ++ [oP (.inr (0, 6)), oR m 49 (m + 41)]
theorem mp41 {m : Nat} : plen (mL41 m) = 41 := by unfold mL41; rw [plen_app, mp40]; rfl
def mL42 (m : Nat) : List Op := mL41 m ++ [oP (.inr (0, 6)), oR m 50 (m + 42)]
theorem mp42 {m : Nat} : plen (mL42 m) = 42 := by unfold mL42; rw [plen_app, mp41]; rfl
def mL43 (m : Nat) : List Op := mL42 m ++ [oP (.inr (1, 36)), oR m 51 (m + 43)]
theorem mp43 {m : Nat} : plen (mL43 m) = 43 := by unfold mL43; rw [plen_app, mp42]; rfl
def oLoop (m : Nat) : Nat → List Op
  | 0 => []
  | i + 1 => oLoop m i ++ [oI (m + 17) i 3, oI (m + 21) i 3, oL (m + 23) i (-1), oL (m + 26) i (-1), oL (m + 32) i (-1)]
section IQ
variable {l : Launch} {w : r_V} {B m c N n : Nat} {σ s8 : r_S}
theorem mstep {P : r_S → Prop} {L : List Op} {g f : Nat} {sh : r_Sh} (hl : s8.1.length = m) (hp : plen L + 1 = g) (h : P (rn (L ++ [oP sh, oR m f (m + g)]) s8)) : ∀ b : Nat, b = (rn L s8).1.length + 1 → ∀ σa : r_S, σa = r_push (rn L s8) sh → ∀ σb : r_S, σb = r_ur σa m f b → P σb := by
  intro b eb σa ea σb eb2
  have hb : b = m + g := by rw [eb, rn_len, hl, ← hp]; rfl
  have e : σb = rn (L ++ [oP sh, oR m f (m + g)]) s8 := by
    rw [eb2, ea, hb, rn_app]
    rfl
  rw [e]
  exact h
theorem i_loop8 {X : r_X} (C : r_C X w B 3 cX8_init RX8) (E : r_E X l tX8_init) {σ0 : r_S} : ∀ (k i : Nat) (σ : r_S), i + k = 6 → σ = rn (oLoop m i) σ0 → r_Ex s8 σ → Mo m σ → r_W X w B 3 43 4762 (r_Z X w B tX8_init (r_QN s8 (fun σ' => σ' = rn (oLoop m 6) σ0))) 391 [(0, Value.ref (B + m)), (2, Value.int (nI i))] [] σ := by
  intro k
  induction k with
  | zero =>
    intro i σ hi hσ hx hM
    have hi : i = 6 := by omega
    subst hi
    refine c_X8_init_391 C E hx ⟨fun _ => ⟨?_, ?_, hσ⟩, fun c => absurd (nI_le (a := 6) (Nat.le_refl _) (by omega)) c⟩
    · show 43 ≤ 43; omega
    · show 4762 ≤ 4762; omega
  | succ k ih =>
    intro i σ hi hσ hx hM
    have hv : vp_in (nI i) 6 := vp_in_nI (by omega) (by decide)
    have cI : (nI i).toNatClampNeg = i := nI_clampS (by omega)
    have t17 : ∀ σ : r_S, Mo m σ → r_gr σ m 25 = m + 17 ∧ r_at σ (m + 17) = some (.inr (0, 6)) := fun σ h => h.2 (25, 17, 0, 6) (by decide)
    have t21 : ∀ σ : r_S, Mo m σ → r_gr σ m 29 = m + 21 ∧ r_at σ (m + 21) = some (.inr (0, 6)) := fun σ h => h.2 (29, 21, 0, 6) (by decide)
    have t23 : ∀ σ : r_S, Mo m σ → r_gr σ m 31 = m + 23 ∧ r_at σ (m + 23) = some (.inr (1, 6)) := fun σ h => h.2 (31, 23, 1, 6) (by decide)
    have t26 : ∀ σ : r_S, Mo m σ → r_gr σ m 34 = m + 26 ∧ r_at σ (m + 26) = some (.inr (1, 6)) := fun σ h => h.2 (34, 26, 1, 6) (by decide)
    have t32 : ∀ σ : r_S, Mo m σ → r_gr σ m 40 = m + 32 ∧ r_at σ (m + 32) = some (.inr (1, 6)) := fun σ h => h.2 (40, 32, 1, 6) (by decide)
    refine c_X8_init_391 C E hx ⟨fun c => absurd c (nI_ge (b := 6) (by omega) (by omega)), fun _ => ⟨hM.1, 6, by rw [(t17 σ hM).1]; exact (t17 σ hM).2, fun b7 e7 => ⟨hv, fun σ11 e11 => ?_⟩⟩⟩
    rw [(t17 σ hM).1] at e7
    subst e7
    rw [cI] at e11
    have m11 : Mo m σ11 := by rw [e11]; exact hM.fr rfl (fun _ _ => rfl)
    refine ⟨6, by rw [(t21 σ11 m11).1]; exact (t21 σ11 m11).2, fun b18 e18 => ⟨hv, fun σ22 e22 => ?_⟩⟩
    rw [(t21 σ11 m11).1] at e18
    subst e18
    rw [cI] at e22
    have m22 : Mo m σ22 := by rw [e22]; exact m11.fr rfl (fun _ _ => rfl)
    refine ⟨6, by rw [(t23 σ22 m22).1]; exact (t23 σ22 m22).2, fun b30 e30 => ⟨hv, fun σ34 e34 => ?_⟩⟩
    rw [(t23 σ22 m22).1] at e30
    subst e30
    rw [cI] at e34
    have m34 : Mo m σ34 := by rw [e34]; exact m22.fr rfl (fun _ _ => rfl)
    refine ⟨6, by rw [(t26 σ34 m34).1]; exact (t26 σ34 m34).2, fun b43 e43 => ⟨hv, fun σ47 e47 => ?_⟩⟩
    rw [(t26 σ34 m34).1] at e43
    subst e43
    rw [cI] at e47
    have m47 : Mo m σ47 := by rw [e47]; exact m34.fr rfl (fun _ _ => rfl)
    refine ⟨6, by rw [(t32 σ47 m47).1]; exact (t32 σ47 m47).2, fun b57 e57 => ⟨hv, fun σ61 e61 z70 e70 => ?_⟩⟩
    rw [(t32 σ47 m47).1] at e57
    subst e57
    rw [cI] at e61
    have m61 : Mo m σ61 := by rw [e61]; exact m47.fr rfl (fun _ _ => rfl)
    rw [e70, nI_1]
    refine ih (i + 1) σ61 (by omega) ?_ (hx.trans ?_) m61
    · rw [e61, e47, e34, e22, e11, hσ]
      show _ = rn (oLoop m i ++ [oI (m + 17) i 3, oI (m + 21) i 3, oL (m + 23) i (-1), oL (m + 26) i (-1), oL (m + 32) i (-1)]) σ0
      rw [rn_app]
      rfl
    · rw [e61, e47, e34, e22, e11]
      exact r_Ex.of_eq rfl
theorem Mo.ui (h : Mo m σ) {a k : Nat} {x : Int32} : Mo m (r_ui σ a k x) := h.fr rfl (fun _ _ => rfl)
theorem rn_0 : rn (oLoop m 0) σ = σ := rfl
theorem i_X8 {x : Int32} (hl : s8.1.length = m) (hat : r_at s8 m = some (.inl 8)) (hMo : Mo m (rn (mL43 m) s8)) : r_M l w B tX8_init [.ref (B + m), .int x] s8 (r_QN s8 (fun σ' => σ' = rn (oLoop m 6) (rn (mL43 m ++ [oI m 1 (nI (cl x))]) s8))) := by
  obtain ⟨-, -, h26, h6, h2⟩ := cl_spec x
  refine r_enter (by decide) (Nat.le_of_ble_eq_true rfl) (fun X C E => ?_)
  have fin : ∀ σ : r_S, σ = r_ui (rn (mL43 m) s8) m 1 (nI (cl x)) → r_W X w B 3 43 4762 (r_Z X w B tX8_init (r_QN s8 (fun σ' => σ' = rn (oLoop m 6) (rn (mL43 m ++ [oI m 1 (nI (cl x))]) s8)))) 391 [(0, Value.ref (B + m)), (2, Value.int 0)] [] σ := fun σ e => by
    have hM : Mo m σ := by rw [e]; exact hMo.ui
    rw [ui_app] at e
    have h0 := i_loop8 (l := l) (w := w) (B := B) (m := m) (s8 := s8) C E (σ0 := rn (mL43 m ++ [oI m 1 (nI (cl x))]) s8) 6 0 σ (by omega) (by rw [rn_0]; exact e) (by rw [e]; exact rn_ex _ _) hM
    rw [nI_0] at h0
    exact h0
  refine c_X8_init_0 C E (r_Ex.of_eq rfl) ⟨hat, fun σ2 e2 => ?_⟩
  have e2 : σ2 = rn (mL0 m) s8 := e2
  rw [e2]
  refine mstep (L := mL0 m) (g := 1) hl (by rw [mp0]) ?_
  refine mstep (L := mL1 m) (g := 2) hl (by rw [mp1]) ?_
  refine mstep (L := mL2 m) (g := 3) hl (by rw [mp2]) ?_
  refine mstep (L := mL3 m) (g := 4) hl (by rw [mp3]) ?_
  refine mstep (L := mL4 m) (g := 5) hl (by rw [mp4]) ?_
  refine mstep (L := mL5 m) (g := 6) hl (by rw [mp5]) ?_
  refine mstep (L := mL6 m) (g := 7) hl (by rw [mp6]) ?_
  refine mstep (L := mL7 m) (g := 8) hl (by rw [mp7]) ?_
  refine mstep (L := mL8 m) (g := 9) hl (by rw [mp8]) ?_
  refine mstep (L := mL9 m) (g := 10) hl (by rw [mp9]) ?_
  refine mstep (L := mL10 m) (g := 11) hl (by rw [mp10]) ?_
  refine mstep (L := mL11 m) (g := 12) hl (by rw [mp11]) ?_
  refine mstep (L := mL12 m) (g := 13) hl (by rw [mp12]) ?_
  refine mstep (L := mL13 m) (g := 14) hl (by rw [mp13]) ?_
  refine mstep (L := mL14 m) (g := 15) hl (by rw [mp14]) ?_
  refine mstep (L := mL15 m) (g := 16) hl (by rw [mp15]) ?_
  refine mstep (L := mL16 m) (g := 17) hl (by rw [mp16]) ?_
  refine mstep (L := mL17 m) (g := 18) hl (by rw [mp17]) ?_
  refine mstep (L := mL18 m) (g := 19) hl (by rw [mp18]) ?_
  refine mstep (L := mL19 m) (g := 20) hl (by rw [mp19]) ?_
  refine mstep (L := mL20 m) (g := 21) hl (by rw [mp20]) ?_
  refine mstep (L := mL21 m) (g := 22) hl (by rw [mp21]) ?_
  refine mstep (L := mL22 m) (g := 23) hl (by rw [mp22]) ?_
  refine mstep (L := mL23 m) (g := 24) hl (by rw [mp23]) ?_
  refine mstep (L := mL24 m) (g := 25) hl (by rw [mp24]) ?_
  refine mstep (L := mL25 m) (g := 26) hl (by rw [mp25]) ?_
  refine mstep (L := mL26 m) (g := 27) hl (by rw [mp26]) ?_
  refine mstep (L := mL27 m) (g := 28) hl (by rw [mp27]) ?_
  refine mstep (L := mL28 m) (g := 29) hl (by rw [mp28]) ?_
  refine mstep (L := mL29 m) (g := 30) hl (by rw [mp29]) ?_
  refine mstep (L := mL30 m) (g := 31) hl (by rw [mp30]) ?_
  refine mstep (L := mL31 m) (g := 32) hl (by rw [mp31]) ?_
  refine mstep (L := mL32 m) (g := 33) hl (by rw [mp32]) ?_
  refine mstep (L := mL33 m) (g := 34) hl (by rw [mp33]) ?_
  refine mstep (L := mL34 m) (g := 35) hl (by rw [mp34]) ?_
  refine mstep (L := mL35 m) (g := 36) hl (by rw [mp35]) ?_
  refine mstep (L := mL36 m) (g := 37) hl (by rw [mp36]) ?_
  refine mstep (L := mL37 m) (g := 38) hl (by rw [mp37]) ?_
  refine mstep (L := mL38 m) (g := 39) hl (by rw [mp38]) ?_
  refine mstep (L := mL39 m) (g := 40) hl (by rw [mp39]) ?_
  refine mstep (L := mL40 m) (g := 41) hl (by rw [mp40]) ?_
  refine mstep (L := mL41 m) (g := 42) hl (by rw [mp41]) ?_
  refine mstep (L := mL42 m) (g := 43) hl (by rw [mp42]) ?_
  refine ⟨fun c2 => ⟨fun c6 σ481 e481 => fin σ481 ?_, fun c6 σ485 e485 => fin σ485 ?_⟩, fun c2 σ489 e489 => fin σ489 ?_⟩
  · rw [e481, ← h26 c2 c6]; rfl
  · rw [e485, ← h6 c2 c6]; rfl
  · rw [e489, ← h2 c2]; rfl
end IQ
