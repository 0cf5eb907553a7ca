/-! PURE: go, wed -/
def LifD (M : JM) (o b n : Nat) : Prop := ∃ d, d ≤ 8 ∧ M o 2 = N d ∧ M 199 (b + 20) = N d ∧ (∀ j, bt (M o 3) j = true → j < d) ∧ ∀ j, j < d → (M 199 (b + 21 + 5 * j + 4) = b2 (bt (M o 3) j) ∧ M (o + 6) j = M 199 (b + 21 + 5 * j) ∧ M (o + 8) j = M 199 (b + 21 + 5 * j + 1) ∧ M (o + 10) j = M 199 (b + 21 + 5 * j + 2) ∧ M (o + 12) j = M 199 (b + 21 + 5 * j + 3) ∧ rng n (M (o + 6) j) ∧ rng n (M (o + 8) j))
theorem lifD_eq {M Y : JM} {n : Nat} (h : LifD M 34 0 n) (e2 : Y 34 2 = M 34 2) (e3 : Y 34 3 = M 34 3) (r : ∀ a, 40 ≤ a ∧ a ≤ 46 → Y a = M a) (er : ∀ j, 20 ≤ j → j < 61 → Y 199 j = M 199 j) : LifD Y 34 0 n := by
  obtain ⟨d, hd, h3, h4, h5, h6⟩ := h
  refine ⟨d, hd, by rw [e2]; exact h3, by rw [er (0 + 20) (by omega) (by omega)]; exact h4, by rw [e3]; exact h5, fun j hj => ?_⟩
  rw [e3, r (34 + 6) (by omega), r (34 + 8) (by omega), r (34 + 10) (by omega), r (34 + 12) (by omega), er (0 + 21 + 5 * j) (by omega) (by omega), er (0 + 21 + 5 * j + 1) (by omega) (by omega), er (0 + 21 + 5 * j + 2) (by omega) (by omega), er (0 + 21 + 5 * j + 3) (by omega) (by omega), er (0 + 21 + 5 * j + 4) (by omega) (by omega)]
  exact h6 j hj
theorem lif_mk {Y : JM} {n : Nat} (a : Y 34 0 = Y 199 0 ∧ rng 100 (Y 34 0)) (b : Y 34 1 = Y 199 10 ∧ bnd n (Y 34 1)) (c : LifD Y 34 0 n) (d : ∀ p, p < n → Y 36 p = Y 199 (11 + p) ∧ Y 38 p = Y 199 (1 + p)) (e : wedP (Y 36) n) : Lif Y 34 0 n :=
  ⟨a, b, c, fun p hp => by rw [show 0 + 11 + p = 11 + p by omega, show 0 + 1 + p = 1 + p by omega]; exact d p hp, e⟩
theorem lif_w {M : JM} {n p : Nat} (h : Lif M 34 0 n) (hp : p < n) : M 36 p = M 199 (11 + p) ∧ M 38 p = M 199 (1 + p) := by
  have e := h.2.2.2.1 p hp
  rw [show 0 + 11 + p = 11 + p by omega, show 0 + 1 + p = 1 + p by omega] at e
  exact e
theorem la_0 {X : JM} : jla 199 (0 : Int32) X = some (X 199 0) := la_199 (k := 0) (by omega)
theorem la_10 {X : JM} : jla 199 (10 : Int32) X = some (X 199 10) := la_199 (k := 10) (by omega)
theorem la_20 {X : JM} : jla 199 (20 : Int32) X = some (X 199 20) := la_199 (k := 20) (by omega)
theorem sa_0 {X : JM} {v : Int32} : jsa 199 (0 : Int32) v X = some (jup X 199 0 v) := sa_199 (k := 0) (by omega)
theorem sa_10 {X : JM} {v : Int32} : jsa 199 (10 : Int32) v X = some (jup X 199 10 v) := sa_199 (k := 10) (by omega)
theorem sa_20 {X : JM} {v : Int32} : jsa 199 (20 : Int32) v X = some (jup X 199 20 v) := sa_199 (k := 20) (by omega)
theorem in_1 {v : Int32} : f125 (v.toInt64) (1 : Int64) (99 : Int64) = some (b2 (!(decide (v < 1)) && !(decide ((99 : Int32) < v)))) := by
  rw [show (1 : Int64) = (1 : Int32).toInt64 from rfl, show (99 : Int64) = (99 : Int32).toInt64 from rfl, in_ok]
theorem num_1 {v : Int32} (c1 : ¬ v < 1) (c2 : ¬ (99 : Int32) < v) : ∃ i, 1 ≤ i ∧ i ≤ 99 ∧ v = N i := by
  have h0 : ¬ v < 0 := fun q => c1 (by
    rw [Int32.lt_iff_toInt_lt] at q ⊢
    have h1 : ((1 : Int32)).toInt = 1 := rfl
    have h00 : ((0 : Int32)).toInt = 0 := rfl
    omega)
  obtain ⟨i, hi, rfl⟩ := N_of h0
  refine ⟨i, ?_, ?_, rfl⟩
  · apply Classical.byContradiction
    intro q
    exact c1 ((N_lt (b := 1) hi (by omega)).mpr (by omega))
  · apply Classical.byContradiction
    intro q
    exact c2 ((N_lt (a := 99) (by omega) hi).mpr (by omega))
theorem t_go {M : JM} {v : Int32} (h : Inv M) : Two (f78 0 v) (f171 198 v) M := by
  have hI := h
  obtain ⟨n, k, h1, h2, h3, h4, h5, h6, h7, h8, h9⟩ := h
  have hn9 : n ≤ 9 := h1.2.1
  have ey : M 34 0 = M 199 0 := h5.1.1
  obtain ⟨j, hj, ej⟩ : rng 100 (M 34 0) := h5.1.2
  unfold Two f78 f171
  simp only [in_1, xp_3, mp_0, Option.bind_some, b2_0, la_0]
  by_cases c1 : v < 1
  · rw [if_pos c1, decide_eq_true c1]
    exact ⟨-3, M, M, rfl, rfl, hI⟩
  · rw [if_neg c1, decide_eq_false c1]
    by_cases c2 : (99 : Int32) < v
    · rw [if_pos c2, decide_eq_true c2]
      exact ⟨-3, M, M, rfl, rfl, hI⟩
    · rw [if_neg c2, decide_eq_false c2]
      obtain ⟨i, hi1, hi2, rfl⟩ := num_1 c1 c2
      simp only [Bool.not_false, Bool.and_self, Bool.true_eq_false, if_false, ej, N_add]
      have ey2 : M 199 0 = N j := ey.symm.trans ej
      by_cases c3 : (99 : Int32) < N (j + i)
      · rw [if_pos c3]
        refine ⟨-5, M, M, rfl, ?_, hI⟩
        rw [ey2, N_add, if_pos c3]
      · rw [if_neg c3]
        have c3n : j + i < 100 := by
          apply Classical.byContradiction
          intro q
          exact c3 ((N_lt (a := 99) (by omega) (by omega)).mpr (by omega))
        obtain ⟨M1, d1, d2, d3⟩ := deed h1 h2 h3 h4 h5 h6 h7 h8 h9
        have m34 : M1 34 = M 34 := d2 34 (by omega) (by omega)
        have m199 : M1 199 = M 199 := d2 199 (by omega) (by omega)
        obtain ⟨X2, g1, g2, g3, g4, g5⟩ := d3 (jup M1 34 0 (N (j + i))) (fun o ho _ => jup_o (by omega))
        have x199 : ∀ q, q < 183 → X2 199 q = M 199 q := fun q hq => by rw [g4 q hq, jup_o (by omega), m199]
        refine ⟨N (j + i), jup M1 34 0 (N (j + i)), jup X2 199 0 (N (j + i)), ?_, ?_, ?_⟩
        · rw [d1]
          simp only [Option.bind_some, m34, ej, N_add, jup_same]
        · have z0 : jup M1 34 0 (N (j + i)) 199 0 = N j := by rw [jup_o (by omega), m199]; exact ey2
          rw [z0, N_add, if_neg c3, g1]
          simp only [Option.bind_some, la_0, x199 0 (by omega), ey2, N_add, sa_0, jup_same]
        · have yc : ∀ o, o ≠ 199 → o ≠ 198 → o ≠ 34 → o ≠ 0 → ¬ (49 ≤ o ∧ o ≤ 152) → jup X2 199 0 (N (j + i)) o = M o := fun o q1 q2 q3 q4 q5 => by rw [jup_o q1, g2 o q2 q1, jup_o q3, d2 o q4 q5]
          have yr : ∀ q, 0 < q → q < 183 → jup X2 199 0 (N (j + i)) 199 q = M 199 q := fun q h0 hq => by rw [jup_nk (by omega), x199 q hq]
          have y34 : ∀ q, q ≠ 0 → jup X2 199 0 (N (j + i)) 34 q = M 34 q := fun q hq => by rw [jup_o (by omega), g2 34 (by omega) (by omega), jup_nk (by omega), m34]
          refine g5 _ (fun o q1 q2 q3 => jup_o q2) (fun q hq => jup_nk (by omega)) (lif_mk ⟨?_, j + i, c3n, ?_⟩ ?_ ?_ ?_ ?_)
          · rw [jup_o (by omega), g2 34 (by omega) (by omega), jup_same, jup_same]
          · rw [jup_o (by omega), g2 34 (by omega) (by omega), jup_same]
          · rw [y34 1 (by omega), yr 10 (by omega) (by omega)]; exact h5.2.1
          · exact lifD_eq h5.2.2.1 (y34 2 (by omega)) (y34 3 (by omega)) (fun a ha => yc a (by omega) (by omega) (by omega) (by omega) (by omega)) (fun q _ hq => yr q (by omega) (by omega))
          · intro p hp
            rw [yc 36 (by omega) (by omega) (by omega) (by omega) (by omega), yc 38 (by omega) (by omega) (by omega) (by omega) (by omega), yr (11 + p) (by omega) (by omega), yr (1 + p) (by omega) (by omega)]
            exact lif_w h5 hp
          · rw [yc 36 (by omega) (by omega) (by omega) (by omega) (by omega)]
            exact h5.2.2.2.2
theorem blk_442 : Blk f217_442 := fun xs h18 i M hx hi hI => by
  obtain ⟨a, M1, M2, e1, e2, h2⟩ := t_go (v := xs.getD (i + 1) 0) hI
  refine ⟨M2, h2, ?_⟩
  unfold f217_442 f217_1076
  rw [show (1 : Int32) = N 1 from rfl, show (5 : Int32) = N 5 from rfl]
  simp only [N_add, sc_at (show i + 1 < xs.length by omega) hx, Option.bind_some, e1, e2, if_true]
