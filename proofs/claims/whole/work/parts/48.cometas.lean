/-! PURE: cometAs -/
theorem tab_c {xs : Option (List Int32)} : jal xs 1000002 = some (5 : Int32) := by
  unfold jal
  rw [show (jok jE0 1000002 8 || jok jE0 1000002 9 || jok jE0 1000002 10) = false from by decide +kernel]
  rfl
theorem jlx_c {xs : Option (List Int32)} {M : JM} {j : Nat} (hj : j < 5) : jlx xs 1000002 (N j) M = some (([-1, 0, 1, 0, 1] : List Int32).getD j 0) := by
  unfold jlx
  rw [show jok jE0 1000002 8 = false from by decide +kernel]
  show (match (some [-1, 0, 1, 0, 1] : Option (List Int32)) with | some l => bif jin (N j) l.length then some (l.getD (N j).toNatClampNeg 0) else none | none => none) = _
  simp only
  rw [jin_N (by omega), decide_eq_true (show j < ([-1, 0, 1, 0, 1] : List Int32).length from hj), N_nat (by omega)]
  rfl
