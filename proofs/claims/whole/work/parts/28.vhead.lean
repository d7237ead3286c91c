theorem atR {n a : Nat} {κ : Ku} {sh : r_Sh} (h : atS n a = some sh) : r_at (shp n, κ) a = some sh := h
theorem vp_lt {i : Int32} {n : Nat} (h : vp_in i n) : i.toNatClampNeg < n := Nat.not_le.mp fun q => h (Or.inr q)
theorem r_namK {X : r_X} {w : r_V} {B nL cells slots n : Nat} {Q : State → Prop} {pc : Nat} {lv : List (Nat × Value)} {st : List Value} {κ : Ku} (k : ∀ κ' : Ku, κ' = κ → r_W X w B nL cells slots Q pc lv st (shp n, κ')) : r_W X w B nL cells slots Q pc lv st (shp n, κ) := k κ rfl
