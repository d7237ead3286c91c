/-! the class's constructor, whole -/
section IP
variable {l : Launch} {w : r_V} {B a0 c N n : Nat} {σ : r_S}
def plen : List Op → Nat
  | [] => 0
  | .inl _ :: L => 1 + plen L
  | .inr _ :: L => plen L
theorem rn_len : ∀ (L : List Op) (σ : r_S), (rn L σ).1.length = σ.1.length + plen L
  | [], _ => rfl
  | .inl sh :: L, σ => by
    show (rn L (r_push σ sh)).1.length = σ.1.length + (1 + plen L)
    rw [rn_len L, push_len (σ := σ) (c := σ.1.length) rfl rfl]
    omega
  | .inr (a, k, x) :: L, σ => by
    have : (ap σ (.inr (a, k, x))).1 = σ.1 := by
      rcases x with x | x | x <;> rfl
    show (rn L (ap σ (.inr (a, k, x)))).1.length = σ.1.length + plen L
    rw [rn_len L, this]
theorem plen_app : ∀ {L M : List Op}, plen (L ++ M) = plen L + plen M
  | [], M => by simp [plen]
  | .inl _ :: L, M => by
    show 1 + plen (L ++ M) = 1 + plen L + plen M
    rw [plen_app]
    omega
  | .inr _ :: L, M => by
    show plen (L ++ M) = plen L + plen M
    rw [plen_app]
theorem ap_app {L : List Op} {o : Op} : ap (rn L σ) o = rn (L ++ [o]) σ := (rn_app (M := [o])).symm
theorem push_app {L : List Op} {sh : r_Sh} : r_push (rn L σ) sh = rn (L ++ [oP sh]) σ := ap_app (o := oP sh)
theorem ui_app {L : List Op} {a k : Nat} {x : Int32} : r_ui (rn L σ) a k x = rn (L ++ [oI a k x]) σ := ap_app (o := oI a k x)
theorem ul_app {L : List Op} {a k : Nat} {x : Int64} : r_ul (rn L σ) a k x = rn (L ++ [oL a k x]) σ := ap_app (o := oL a k x)
theorem ur_app {L : List Op} {a k r : Nat} : r_ur (rn L σ) a k r = rn (L ++ [oR a k r]) σ := ap_app (o := oR a k r)
def hL1 : List Op := [oP (.inl 0)]
def hL2 : List Op := hL1 ++ oCoins 2 2
def hL3 : List Op := hL2 ++ [oR 1 1 2]
def hL4 : List Op := hL3 ++ [oP (.inl 4)]
def hL5 : List Op := hL4 ++ oPay 4 4
def hL6 : List Op := hL5 ++ [oR 1 2 4]
def hL7 : List Op := hL6 ++ [oP (.inl 3)]
def hL8 : List Op := hL7 ++ oNo 11 11
def hL9 : List Op := hL8 ++ [oR 1 3 11]
def hL10 : List Op := hL9 ++ [oP (.inl 1)]
def hL11 : List Op := hL10 ++ oEv 15 15
def hL12 : List Op := hL11 ++ [oR 1 4 15]
def hL13 : List Op := hL12 ++ [oP (.inl 5)]
def hL14 : List Op := hL13 ++ oRow 19 4 19
def hL15 : List Op := hL14 ++ [oR 1 5 19]
def hL16 : List Op := hL15 ++ [oI 1 6 20]
def hL17 : List Op := hL16 ++ [oL 1 7 0]
def hL18 : List Op := hL17 ++ [oI 1 8 0]
def hL19 (n : Nat) : List Op := hL18 ++ [oP (.inr (3, n))]
def hL20 (n : Nat) : List Op := hL19 n ++ [oR 1 0 21]
theorem new_at {L : List Op} {sh : r_Sh} {a : Nat} (h : (rn L σ).1.length + 1 = a) : r_at (rn (L ++ [oP sh]) σ) a = some sh := by
  rw [← push_app, ← h]
  exact r_at_new
set_option maxHeartbeats 4000000 in
theorem i_X7 {x : Int32} {s1 : r_S} (hs1 : s1.1.length = 1) (hat : r_at s1 1 = some (.inl 7)) : r_M l w B tX7_init [.ref (B + 1), .int x] s1 (r_QN s1 (fun σ' => σ' = rn (hL20 (cl x) ++ oSts (cl x) (cl x)) s1)) := by
  obtain ⟨hok, hmx, -⟩ := cl_spec x
  have hn6 := hok.2
  have len : ∀ L : List Op, (rn L s1).1.length = 1 + plen L := fun L => by rw [rn_len, hs1]
  have at1 : ∀ L : List Op, r_at (rn L s1) 1 = some (.inl 7) := fun L => rn_at L s1 hat
  refine r_enter (by decide) (Nat.le_of_ble_eq_true rfl) (fun X C E => ?_)
  refine c_X7_init_0 C E (r_Ex.of_eq rfl) (fun b4 e4 σ1 e1 => ?_)
  have hb : b4 = 2 := by rw [e4, hs1]
  subst hb
  have e1 : σ1 = rn hL1 s1 := e1
  have l1 : σ1.1.length = 2 := by rw [e1]; exact len hL1
  have a1 : r_at σ1 2 = some (.inl 0) := by rw [e1]; exact new_at (L := []) (by rw [len]; rfl)
  refine ⟨_, i_X0 a1 l1, fun σ9 q9 => ?_⟩
  have q9 : σ9 = rn hL2 s1 := by rw [q9, e1, ← rn_app]; rfl
  refine ⟨by rw [q9]; exact at1 _, fun σ15 e15 b22 e22 σ19 e19 => ?_⟩
  have e15 : σ15 = rn hL3 s1 := by rw [e15, q9, ur_app]; rfl
  have hb : b22 = 4 := by rw [e22, e15, len]; rfl
  subst hb
  have l19 : σ19.1.length = 4 := by rw [e19, e15, push_app, len]; rfl
  have a19 : r_at σ19 4 = some (.inl 4) := by rw [e19, e15, push_app]; exact new_at (by rw [len]; rfl)
  have e19 : σ19 = rn hL4 s1 := by rw [e19, e15, push_app]; rfl
  refine ⟨_, i_X4 a19 l19, fun σ28 q28 σ34 e34 b41 e41 σ38 e38 => ?_⟩
  have q28 : σ28 = rn hL5 s1 := by rw [q28, e19, ← rn_app]; rfl
  have e34 : σ34 = rn hL6 s1 := by rw [e34, q28, ur_app]; rfl
  have hb : b41 = 11 := by rw [e41, e34, len]; rfl
  subst hb
  have l38 : σ38.1.length = 11 := by rw [e38, e34, push_app, len]; rfl
  have a38 : r_at σ38 11 = some (.inl 3) := by rw [e38, e34, push_app]; exact new_at (by rw [len]; rfl)
  have e38 : σ38 = rn hL7 s1 := by rw [e38, e34, push_app]; rfl
  refine ⟨_, i_X3 a38 l38, fun σ47 q47 σ53 e53 b60 e60 σ57 e57 => ?_⟩
  have q47 : σ47 = rn hL8 s1 := by rw [q47, e38, ← rn_app]; rfl
  have e53 : σ53 = rn hL9 s1 := by rw [e53, q47, ur_app]; rfl
  have hb : b60 = 15 := by rw [e60, e53, len]; rfl
  subst hb
  have l57 : σ57.1.length = 15 := by rw [e57, e53, push_app, len]; rfl
  have a57 : r_at σ57 15 = some (.inl 1) := by rw [e57, e53, push_app]; exact new_at (by rw [len]; rfl)
  have e57 : σ57 = rn hL10 s1 := by rw [e57, e53, push_app]; rfl
  refine ⟨_, i_X1 a57 l57, fun σ66 q66 σ72 e72 b79 e79 σ76 e76 => ?_⟩
  have q66 : σ66 = rn hL11 s1 := by rw [q66, e57, ← rn_app]; rfl
  have e72 : σ72 = rn hL12 s1 := by rw [e72, q66, ur_app]; rfl
  have hb : b79 = 19 := by rw [e79, e72, len]; rfl
  subst hb
  have l76 : σ76.1.length = 19 := by rw [e76, e72, push_app, len]; rfl
  have a76 : r_at σ76 19 = some (.inl 5) := by rw [e76, e72, push_app]; exact new_at (by rw [len]; rfl)
  have e76 : σ76 = rn hL13 s1 := by rw [e76, e72, push_app]; rfl
  refine ⟨_, i_X5 (N := 4) a76 (by omega) l76, fun σ85 q85 σ91 e91 σ95 e95 σ99 e99 σ103 e103 => ?_⟩
  have q85 : σ85 = rn hL14 s1 := by rw [q85, e76, ← rn_app]; rfl
  have e91 : σ91 = rn hL15 s1 := by rw [e91, q85, ur_app]; rfl
  have e95 : σ95 = rn hL16 s1 := by rw [e95, e91, ui_app]; rfl
  have e99 : σ99 = rn hL17 s1 := by rw [e99, e95, ul_app]; rfl
  have e103 : σ103 = rn hL18 s1 := by rw [e103, e99, ui_app]; rfl
  refine ⟨_, i_min, fun z112 σ109 q => ?_⟩
  obtain ⟨e109, e112⟩ := q
  refine ⟨_, i_max, fun z120 σ117 q => ?_⟩
  obtain ⟨e117, e120⟩ := q
  rw [e112, hmx] at e120
  refine ⟨cl x, hn6, e120, fun b129 e129 σ126 e126 σ133 e133 => ?_⟩
  generalize cl x = n at *
  have e117 : σ117 = rn hL18 s1 := by rw [e117, e109, e103]
  have hb : b129 = 21 := by rw [e129, e117, len]; rfl
  subst hb
  have a126 : r_at σ126 21 = some (.inr (3, n)) := by rw [e126, e117, push_app]; exact new_at (by rw [len]; rfl)
  have e126' : σ126 = rn (hL19 n) s1 := by rw [e126, e117, push_app]; rfl
  have g133 : r_gr σ133 1 0 = 21 := by rw [e133]; rfl
  have a133 : r_at σ133 21 = some (.inr (3, n)) := by rw [e133]; exact a126
  have e133 : σ133 = rn (hL20 n) s1 := by rw [e133, e126', ur_app]; rfl
  have p1 : σ133 = rn (hL20 n ++ oSts n 0) s1 := by
    have q : hL20 n ++ oSts n 0 = hL20 n := List.append_nil _
    rw [q]
    exact e133
  have p2 : r_Ex s1 σ133 := by rw [e133]; exact rn_ex _ _
  have p3 : σ133.1.length = 21 + 14 * 0 := by
    have h18 : plen hL18 = 19 := by decide +kernel
    unfold hL20 hL19 at e133
    rw [e133, len, plen_app, plen_app, h18]
    rfl
  have p4 : r_at σ133 1 = some (.inl 7) := by rw [e133]; exact at1 _
  have h0 := i_loop (l := l) (w := w) (B := B) C E (s1 := s1) hn6 (L := hL20 n) n 0 σ133 (by omega) p1 p2 p3 p4 g133 a133
  rw [nI_0] at h0
  exact h0
end IP
