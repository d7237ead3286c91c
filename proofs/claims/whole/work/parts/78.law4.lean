/-! the classes as the start has them -/
section LD
variable {s : State} {A : Array Value}
theorem arr_K {ty : FieldType} (h : (Cond.arrayClass ty).before A s = true) : ∃ c : ClassId, ArrOfT s c ty ∧ s.vm.findClass ("[" ++ ty.toString) = some c := by
  obtain ⟨c, k, comp, h1, h2, h3⟩ := Cond.arrayClass_spec h
  exact ⟨c, fun n z => ⟨fun k h => (by cases h), k, h2, comp, h3⟩, h1⟩
theorem start_K (hts : ∀ q ∈ lw_tbl, q.before A s = true) : ∃ w : r_V, r_K w s := by
  have hk : ∀ q ∈ kBig, q.before A s = true := fun q hq => hts q (kBig_in q hq)
  obtain ⟨c0, i0, k0⟩ := u_known (C := RX0) (T := TX0) (N := 3) (n := 3) hk kin_X0 (hk _ kt_X0)
  obtain ⟨c1, i1, k1⟩ := u_known (C := RX1) (T := TX1) (N := 4) (n := 4) hk kin_X1 (hk _ kt_X1)
  obtain ⟨c2, i2, k2⟩ := u_known (C := RX2) (T := TX2) (N := 6) (n := 6) hk kin_X2 (hk _ kt_X2)
  obtain ⟨c3, i3, k3⟩ := u_known (C := RX3) (T := TX3) (N := 4) (n := 4) hk kin_X3 (hk _ kt_X3)
  obtain ⟨c4, i4, k4⟩ := u_known (C := RX4) (T := TX4) (N := 7) (n := 7) hk kin_X4 (hk _ kt_X4)
  obtain ⟨c5, i5, k5⟩ := u_known (C := RX5) (T := TX5) (N := 2) (n := 2) hk kin_X5 (hk _ kt_X5)
  obtain ⟨c6, i6, k6⟩ := u_known (C := RX6) (T := TX6) (N := 20) (n := 20) hk kin_X6 (hk _ kt_X6)
  obtain ⟨c7, i7, k7⟩ := u_known (C := RX7) (T := TX7) (N := 9) (n := 9) hk kin_X7 (hk _ kt_X7)
  obtain ⟨c8, i8, k8⟩ := u_known (C := RX8) (T := TX8) (N := 52) (n := 52) hk kin_X8 (hk _ kt_X8)
  obtain ⟨a0, f0, g0⟩ := arr_K (hk _ ka_int)
  obtain ⟨a1, f1, g1⟩ := arr_K (hk _ ka_long)
  obtain ⟨a2, f2, g2⟩ := arr_K (hk _ ka_boolean)
  have hov : (Cond.arrayOver (.object "SlotRadio$Station")).before A s = true := hts _ (by decide +kernel)
  obtain ⟨comp, a3, kA, h1, h2, h3, h4, h5⟩ := Cond.arrayOver_spec hov
  refine ⟨((fun k => [c0, c1, c2, c3, c4, c5, c6, c7, c8].getD k c0, fun k => [i0, i1, i2, i3, i4, i5, i6, i7, i8].getD k i0), fun k => [a0, a1, a2, a3].getD k a0), ⟨fun k q hq => ?_, fun k q hq => ?_⟩, va_Nw.of rfl (hts _ (by decide +kernel)), va_Nw.of rfl (hts _ (by decide +kernel)), va_Nw.of rfl (hts _ (by decide +kernel)), va_Nw.of rfl (hts _ (by decide +kernel)), va_AO.of hov⟩
  · match k, hq with
    | 0, hq => cases hq; exact k0
    | 1, hq => cases hq; exact k1
    | 2, hq => cases hq; exact k2
    | 3, hq => cases hq; exact k3
    | 4, hq => cases hq; exact k4
    | 5, hq => cases hq; exact k5
    | 6, hq => cases hq; exact k6
    | 7, hq => cases hq; exact k7
    | 8, hq => cases hq; exact k8
    | k + 9, hq => simp [kCl] at hq
  · match k, hq with
    | 0, hq => cases hq; exact ⟨f0, g0⟩
    | 1, hq => cases hq; exact ⟨f1, g1⟩
    | 2, hq => cases hq; exact ⟨f2, g2⟩
    | 3, hq => cases hq; exact ⟨fun n z => ⟨fun k h => (by cases h), kA, h3, comp, h4⟩, kA, comp, h3, h4, h1, h5⟩
    | k + 4, hq => simp [kTys] at hq
end LD
