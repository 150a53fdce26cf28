def selL (w : Int32) (l : List Int64) : Int64 := if w.toInt < 0 ∨ (l.length : Int) ≤ w.toInt then -102 else l.getD w.toInt.toNat 0
theorem selL_at {w : Int32} {l : List Int64} (k : Nat) {v : Int64} (h : w.toInt = (k : Int)) (hv : l[k]? = some v) : selL w l = v := by
  have hl : k < l.length := (List.getElem?_eq_some_iff.mp hv).1
  unfold selL
  rw [h, if_neg (by omega)]
  simp [List.getD_eq_getElem?_getD, hv]
