/-! PURE: cometAs -/
theorem tab_c {xs : Option (List Int32)} : jal xs 1000002 = some (5 : Int32) := by
  unfold jal
  rw [show (jok jE0 1000002 8 || jok jE0 1000002 9 || jok jE0 1000002 10) = false from by decide +kernel]
  rfl
theorem jlx_c {xs : Option (List Int32)} {M : JM} {j : Nat} (hj : j < 5) : jlx xs 1000002 (N j) M = some (([-1, 0, 1, 0, 1] : List Int32).getD j 0) := by
  unfold jlx
  rw [show jok jE0 1000002 8 = false from by decide +kernel]
  show (match (some [-1, 0, 1, 0, 1] : Option (List Int32)) with | some l => bif jin (N j) l.length then some (l.getD (N j).toNatClampNeg 0) else none | none => none) = _
  simp only
  rw [jin_N (by omega), decide_eq_true (show j < ([-1, 0, 1, 0, 1] : List Int32).length from hj), N_nat (by omega)]
  rfl
theorem t_cometAs {xs : Option (List Int32)} {M : JM} {v w : Int32} (h : Inv M) : ∃ x, f75 xs M 0 v w = some x ∧ f166 M 198 v w = some x := by
  obtain ⟨n, k, h1, h2, h3, h4, h5, h6, h7, h8, h9⟩ := h
  have hk6 : k ≤ 6 := h1.2.2.2.1
  unfold f75 f166
  rw [xp_1, c_comet h1.2.2.1, m_comet h2.2.1 (by omega), tab_c, show (0 : Int64) = (0 : Int32).toInt64 from rfl, show (4 : Int64) = (4 : Int32).toInt64 from rfl, in_ok]
  simp only [Option.bind_some, b2_0]
  cases hv : isN k v with
  | false => exact ⟨-2, rfl, rfl⟩
  | true =>
    obtain ⟨c, hc, rfl⟩ := isN_t (by omega) hv
    have hc6 : c < 6 := by omega
    simp only [Bool.true_eq_false, if_false]
    by_cases w0 : w < 0
    · rw [if_pos w0, decide_eq_true w0]
      exact ⟨-3, rfl, rfl⟩
    · rw [if_neg w0, decide_eq_false w0]
      obtain ⟨i, hi, rfl⟩ := N_of w0
      by_cases h5w : i < 5
      · rw [if_pos (show N i < (5 : Int32) from (N_lt (b := 5) hi (by omega)).mpr h5w), decide_eq_false (show ¬ (4 : Int32) < N i from fun q => absurd ((N_lt (a := 4) (by omega) hi).mp q) (by omega)), get_in cok_4.2.2.2.2.2.1 hc6, mp_14, la_208 hc6, ← h2.2.2.2.2.2.2.2.2.1 c hc]
        obtain ⟨j, hj, ej⟩ := (h3.2.1 c hc).1
        rw [show M (4 + 12) c = N j from ej]
        simp only [Option.bind_some, Bool.not_false, Bool.and_self, Bool.true_eq_false, if_false]
        rcases (show j = 0 ∨ j = 1 ∨ j = 2 ∨ j = 3 by omega) with rfl | rfl | rfl | rfl <;> rcases (show i = 0 ∨ i = 1 ∨ i = 2 ∨ i = 3 ∨ i = 4 by omega) with rfl | rfl | rfl | rfl | rfl <;> exact ⟨_, rfl, rfl⟩
      · rw [if_neg (show ¬ N i < (5 : Int32) from fun q => h5w ((N_lt (b := 5) hi (by omega)).mp q)), decide_eq_true (show (4 : Int32) < N i from (N_lt (a := 4) (by omega) hi).mpr (by omega))]
        exact ⟨-3, rfl, rfl⟩
theorem blk_333 : Blk f217_333 := fun xs h18 i M hx hi hI => by
  obtain ⟨a, e1, e2⟩ := t_cometAs (xs := some xs) (v := xs.getD (i + 1) 0) (w := xs.getD (i + 2) 0) hI
  refine ⟨M, hI, ?_⟩
  unfold f217_333 f217_1076
  rw [show (1 : Int32) = N 1 from rfl, show (2 : Int32) = N 2 from rfl, show (5 : Int32) = N 5 from rfl]
  simp only [N_add, sc_at (show i + 1 < xs.length by omega) hx, sc_at (show i + 2 < xs.length by omega) hx, Option.bind_some, e1, e2, if_true]
