/-! PURE: as -/
theorem sight_set {M : JM} {n k p : Nat} (h1 : Ctr M 4 n k) (h2 : Agr M 4 n k) (h4 : M 198 22 = -1) (hp : p < n) : itr (fun c s => s ||| (if sees k (M 208) (M 209) (thr (M 198 22)) (decide (M 203 p = 1)) c = true then B c else 0)) 0 k 0 = (if bt (M 4 10) p = true then M 4 13 else M 4 12) := by
  have hk6 : k ≤ 6 := h1.2.2.2.1
  apply bt_ext
  intro c hc
  rw [bt_orI k c (by omega), bt_zero, Bool.false_or, bt_sight h1, seer_ok h1 h2 hp]
  by_cases h : c < k
  · rw [decide_eq_true h, Bool.true_and, Bool.true_and]
    exact (sees_congr (fun c hc => h2.2.2.2.2.2.2.2.2.1 c hc) (fun c hc => h2.2.2.2.2.2.2.2.2.2 c hc) (fun c hc => by rw [h4, thr_m1 (by omega)]; rfl) h).symm
  · rw [decide_eq_false h]; rfl
theorem m_set {M : JM} {n k p : Nat} {s4 : Int32} (h1 : Ctr M 4 n k) (h2 : Agr M 4 n k) (h4 : M 198 22 = -1) (hp : p < n) : f165_80 M 1000 198 (N p) s4 (0 : Int32) (0 : Int32) = if s4 = 0 then some (-4) else some (if bt (M 4 10) p = true then M 4 13 else M 4 12) := by
  have hk6 : k ≤ 6 := h1.2.2.2.1
  have hn9 : n ≤ 9 := h1.2.1
  rw [← sight_set h1 h2 h4 hp]
  refine (loop_run (F := fun m c s => f165_80 M m 198 (N p) s4 s (N c)) (K := k) (f := fun c s => s ||| (if sees k (M 208) (M 209) (thr (M 198 22)) (decide (M 203 p = 1)) c = true then B c else 0)) (out := fun s => if s4 = 0 then some (-4) else some s) (P := fun _ _ => True) (fun m c s hc _ => ⟨?_, trivial⟩) (fun m s _ => ?_) k 0 0 1000 (by omega) (by omega) trivial).1
  · show f165_80 M (m + 1) 198 (N p) s4 s (N c) = f165_80 M m 198 (N p) s4 (s ||| (if sees k (M 208) (M 209) (thr (M 198 22)) (decide (M 203 p = 1)) c = true then B c else 0)) (N (c + 1))
    rw [f165_80, h2.2.1, if_pos ((N_lt (by omega) (by omega)).mpr hc), m_sees h2.2.1 hk6 (show c < 6 by omega) (show p < 9 by omega)]
    unfold f165_109
    simp only [Option.bind_some, N_succ, b2_0]
    cases sees k (M 208) (M 209) (thr (M 198 22)) (decide (M 203 p = 1)) c <;> rfl
  · show f165_80 M (m + 1) 198 (N p) s4 s (N k) = _
    rw [f165_80, h2.2.1, if_neg (fun q => Nat.lt_irrefl _ ((N_lt (by omega) (by omega)).mp q))]
theorem tab_p {xs : Option (List Int32)} : jal xs 1000001 = some (4 : Int32) := by
  unfold jal
  rw [show (jok jE0 1000001 8 || jok jE0 1000001 9 || jok jE0 1000001 10) = false from by decide +kernel]
  rfl
theorem t_as {xs : Option (List Int32)} {M : JM} {v w : Int32} (h : Inv M) : ∃ x, f74 xs M 0 v w = some x ∧ f165 M 198 v w = some x := by
  obtain ⟨n, k, h1, h2, h3, h4, h5, h6, h7, h8, h9⟩ := h
  have hn9 : n ≤ 9 := h1.2.1
  unfold f74 f165
  rw [xp_1, c_one h1.1, m_one h2.1 (by omega), tab_p, show (0 : Int64) = (0 : Int32).toInt64 from rfl, show (3 : Int64) = (3 : Int32).toInt64 from rfl, in_ok]
  simp only [Option.bind_some, b2_0]
  cases hv : isN n v with
  | false => exact ⟨-2, rfl, rfl⟩
  | true =>
    obtain ⟨p, hp, rfl⟩ := isN_t (by omega) hv
    have hp9 : p < 9 := by omega
    simp only [Bool.true_eq_false, if_false]
    by_cases w0 : w < 0
    · rw [if_pos w0, decide_eq_true w0]
      exact ⟨-3, rfl, rfl⟩
    · rw [if_neg w0, decide_eq_false w0]
      obtain ⟨i, hi, rfl⟩ := N_of w0
      by_cases h5w : i < 4
      · rw [if_pos (show N i < (4 : Int32) from (N_lt (b := 4) hi (by omega)).mpr h5w), decide_eq_false (show ¬ (3 : Int32) < N i from fun q => absurd ((N_lt (a := 3) (by omega) hi).mp q) (by omega)), get_in cok_4.1 hp9, mp_8, la_203 hp9, ← h2.2.2.2.1 p hp, c_seen (by omega)]
        obtain ⟨j, hj, ej⟩ := (h3.1 p hp).1
        rw [show M (4 + 2) p = N j from ej]
        unfold f165_47 f165_57 f165_67 f165_71 f165_72
        simp only [Option.bind_some, Bool.not_false, Bool.and_self, Bool.true_eq_false, if_false, m_set h1 h2 h4 hp]
        rcases (show j = 0 ∨ j = 1 ∨ j = 2 by omega) with rfl | rfl | rfl <;> rcases (show i = 0 ∨ i = 1 ∨ i = 2 ∨ i = 3 by omega) with rfl | rfl | rfl | rfl <;> exact ⟨_, rfl, rfl⟩
      · rw [if_neg (show ¬ N i < (4 : Int32) from fun q => h5w ((N_lt (b := 4) hi (by omega)).mp q)), decide_eq_true (show (3 : Int32) < N i from (N_lt (a := 3) (by omega) hi).mpr (by omega))]
        exact ⟨-3, rfl, rfl⟩
theorem blk_300 : Blk f217_300 := fun xs h18 i M hx hi hI => by
  obtain ⟨a, e1, e2⟩ := t_as (xs := some xs) (v := xs.getD (i + 1) 0) (w := xs.getD (i + 2) 0) hI
  refine ⟨M, hI, ?_⟩
  unfold f217_300 f217_1076
  rw [show (1 : Int32) = N 1 from rfl, show (2 : Int32) = N 2 from rfl, show (5 : Int32) = N 5 from rfl]
  simp only [N_add, sc_at (show i + 1 < xs.length by omega) hx, sc_at (show i + 2 < xs.length by omega) hx, Option.bind_some, e1, e2, if_true]
