/-! PURE: the invariant at the beginning -/
theorem Inv_init {M : JM} (h : ∀ o, o < 216 → ∀ k, k < jlen jE0 o → M o k = jV0 o k) : Inv M := by
  have v : ∀ o k (x : Int32), (decide (o < 216) && decide (k < jlen jE0 o) && decide (jV0 o k = x)) = true → M o k = x := by
    intro o k x q
    rw [Bool.and_eq_true, Bool.and_eq_true] at q
    rw [h o (of_decide_eq_true q.1.1) k (of_decide_eq_true q.1.2)]
    exact of_decide_eq_true q.2
  refine ⟨0, 0, ⟨?_, by omega, ?_, by omega, fun p hp => absurd hp (Nat.not_lt_zero _), fun p hp => absurd hp (Nat.not_lt_zero _), fun p => ?_, fun c => ?_, fun c => ?_, fun c => ?_⟩, ⟨?_, ?_, ?_, fun p hp => absurd hp (Nat.not_lt_zero _), fun p hp => absurd hp (Nat.not_lt_zero _), fun p hp => absurd hp (Nat.not_lt_zero _), fun p hp => absurd hp (Nat.not_lt_zero _), fun p hp => absurd hp (Nat.not_lt_zero _), fun p hp => absurd hp (Nat.not_lt_zero _), fun p hp => absurd hp (Nat.not_lt_zero _)⟩, ⟨fun p hp => absurd hp (Nat.not_lt_zero _), fun p hp => absurd hp (Nat.not_lt_zero _), ?_⟩, ?_, ⟨⟨?_, ?_⟩, ⟨?_, ?_⟩, ⟨0, by omega, ?_, ?_, ?_, fun j hj => absurd hj (Nat.not_lt_zero _)⟩, fun p hp => absurd hp (Nat.not_lt_zero _), fun p hp => absurd hp (Nat.not_lt_zero _)⟩, ⟨0, by omega, ?_, ?_, fun p hp => absurd hp (Nat.not_lt_zero _)⟩, ⟨0, by omega, ?_, ?_, fun p hp => absurd hp (Nat.not_lt_zero _)⟩, ⟨0, 0, by omega, by omega, ?_, ?_, ?_, fun p hp => absurd hp (Nat.not_lt_zero _)⟩, fun i hi => ?_⟩
  · exact v 4 0 (N 0) (by decide +kernel)
  · exact v 4 1 (N 0) (by decide +kernel)
  · rw [v 4 10 0 (by decide +kernel), bt_zero]; rfl
  · rw [v 4 11 0 (by decide +kernel), bt_zero]; rfl
  · rw [v 4 12 0 (by decide +kernel), bt_zero]; rfl
  · rw [v 4 13 0 (by decide +kernel), bt_zero]; rfl
  · exact v 198 7 (N 0) (by decide +kernel)
  · exact v 198 13 (N 0) (by decide +kernel)
  · rw [v 198 16 2 (by decide +kernel), v 4 2 2 (by decide +kernel)]
  · exact ⟨2, by omega, v 4 2 (N 2) (by decide +kernel)⟩
  · exact v 198 22 (-1) (by decide +kernel)
  · rw [v 34 0 0 (by decide +kernel), v 199 0 0 (by decide +kernel)]
  · exact ⟨0, by omega, v 34 0 (N 0) (by decide +kernel)⟩
  · rw [v 34 1 0 (by decide +kernel), v 199 (0 + 10) 0 (by decide +kernel)]
  · rw [v 34 1 0 (by decide +kernel)]; intro j hj; rw [bt_zero] at hj; cases hj
  · exact v 34 2 (N 0) (by decide +kernel)
  · exact v 199 (0 + 20) (N 0) (by decide +kernel)
  · rw [v 34 3 0 (by decide +kernel)]; intro j hj; rw [bt_zero] at hj; cases hj
  · exact v 181 0 (N 0) (by decide +kernel)
  · exact v 198 27 (N 0) (by decide +kernel)
  · exact v 1 1 (N 0) (by decide +kernel)
  · exact v 198 4 (N 0) (by decide +kernel)
  · exact v 0 6 (N 0) (by decide +kernel)
  · exact v 198 1 (N 0) (by decide +kernel)
  · exact v 0 5 (N 0) (by decide +kernel)
  · rw [v 0 8 0 (by decide +kernel), bt_zero]
    refine ⟨?_, fun hb => by cases hb⟩
    rcases (show i = 0 ∨ i = 1 by omega) with rfl | rfl
    · exact v 200 0 0 (by decide +kernel)
    · exact v 200 1 0 (by decide +kernel)
