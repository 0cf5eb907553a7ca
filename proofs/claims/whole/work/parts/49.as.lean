/-! PURE: as -/
theorem sight_set {M : JM} {n k p : Nat} (h1 : Ctr M 4 n k) (h2 : Agr M 4 n k) (h4 : M 198 22 = -1) (hp : p < n) : itr (fun c s => s ||| (if sees k (M 208) (M 209) (thr (M 198 22)) (decide (M 203 p = 1)) c = true then B c else 0)) 0 k 0 = (if bt (M 4 10) p = true then M 4 13 else M 4 12) := by
  have hk6 : k ≤ 6 := h1.2.2.2.1
  apply bt_ext
  intro c hc
  rw [bt_orI k c (by omega), bt_zero, Bool.false_or, bt_sight h1, seer_ok h1 h2 hp]
  by_cases h : c < k
  · rw [decide_eq_true h, Bool.true_and, Bool.true_and]
    exact (sees_congr (fun c hc => h2.2.2.2.2.2.2.2.2.1 c hc) (fun c hc => h2.2.2.2.2.2.2.2.2.2 c hc) (fun c hc => by rw [h4, thr_m1 (by omega)]; rfl) h).symm
  · rw [decide_eq_false h]; rfl
theorem m_set {M : JM} {n k p : Nat} {s4 : Int32} (h1 : Ctr M 4 n k) (h2 : Agr M 4 n k) (h4 : M 198 22 = -1) (hp : p < n) : f165_80 M 1000 198 (N p) s4 (0 : Int32) (0 : Int32) = if s4 = 0 then some (-4) else some (if bt (M 4 10) p = true then M 4 13 else M 4 12) := by
  have hk6 : k ≤ 6 := h1.2.2.2.1
  have hn9 : n ≤ 9 := h1.2.1
  rw [← sight_set h1 h2 h4 hp]
  refine (loop_run (F := fun m c s => f165_80 M m 198 (N p) s4 s (N c)) (K := k) (f := fun c s => s ||| (if sees k (M 208) (M 209) (thr (M 198 22)) (decide (M 203 p = 1)) c = true then B c else 0)) (out := fun s => if s4 = 0 then some (-4) else some s) (P := fun _ _ => True) (fun m c s hc _ => ⟨?_, trivial⟩) (fun m s _ => ?_) k 0 0 1000 (by omega) (by omega) trivial).1
  · show f165_80 M (m + 1) 198 (N p) s4 s (N c) = f165_80 M m 198 (N p) s4 (s ||| (if sees k (M 208) (M 209) (thr (M 198 22)) (decide (M 203 p = 1)) c = true then B c else 0)) (N (c + 1))
    rw [f165_80, h2.2.1, if_pos ((N_lt (by omega) (by omega)).mpr hc), m_sees h2.2.1 hk6 (show c < 6 by omega) (show p < 9 by omega)]
    unfold f165_109
    simp only [Option.bind_some, N_succ, b2_0]
    cases sees k (M 208) (M 209) (thr (M 198 22)) (decide (M 203 p = 1)) c <;> rfl
  · show f165_80 M (m + 1) 198 (N p) s4 s (N k) = _
    rw [f165_80, h2.2.1, if_neg (fun q => Nat.lt_irrefl _ ((N_lt (by omega) (by omega)).mp q))]
