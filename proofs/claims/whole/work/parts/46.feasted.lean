/-! PURE: feasted -/
theorem row_f1 : Row (jpt 181 1) 183 8 := rowb_ok (by decide +kernel)
theorem row_f2 : Row (jpt 181 2) 185 8 := rowb_ok (by decide +kernel)
theorem row_f3 : Row (jpt 181 3) 187 8 := rowb_ok (by decide +kernel)
theorem row_f4 : Row (jpt 181 4) 189 8 := rowb_ok (by decide +kernel)
theorem N_mul {a b : Nat} : N a * N b = N (a * b) := (Int32.ofNat_mul a b).symm
theorem two_t {n : Nat} {v w : Int32} (hn : n ≤ 1000) (h : (isN n v && (isN n w && !(decide (v = w)))) = true) : ∃ a b, a < n ∧ b < n ∧ a ≠ b ∧ v = N a ∧ w = N b := by
  rw [Bool.and_eq_true, Bool.and_eq_true, Bool.not_eq_true', decide_eq_false_iff_not] at h
  obtain ⟨a, ha, rfl⟩ := isN_t hn h.1
  obtain ⟨b, hb, rfl⟩ := isN_t hn h.2.1
  exact ⟨a, b, ha, hb, fun e => h.2.2 (by rw [e]), rfl, rfl⟩
theorem inv_fst2 {M M2 : JM} {n k : Nat} (h1 : Ctr M 4 n k) (h2 : Agr M 4 n k) (h3 : Rng M n k) (h4 : M 198 22 = -1) (h5 : Lif M 34 0 n) (h7 : Txt M) (h8 : Und M n) (h9 : Kep M n) (r : ∀ o, ¬ (181 ≤ o ∧ o ≤ 189) → o ≠ 198 → o ≠ 213 → M2 o = M o) (f : ∀ j, j ≠ 27 → M2 198 j = M 198 j) (ht : Fst M2 n) : Inv M2 :=
  ⟨n, k, ctr_fr (fun o ho => r o (by omega) (by omega) (by omega)) h1, agr_fr (fun o ho => r o (by omega) (by omega) (by omega)) (fun j hj => f j (by omega)) h2, rng_fr (fun o ho => r o (by omega) (by omega) (by omega)) h3, by rw [f 22 (by omega)]; exact h4, lif_fr (fun o ho => r o (by omega) (by omega) (by omega)) h5, ht, txt_fr (fun o ho => r o (by omega) (by omega) (by omega)) (f 4 (by omega)) (by rw [r 1 (by omega) (by omega) (by omega)]) h7, und_fr (fun o ho => r o (by omega) (by omega) (by omega)) (f 1 (by omega)) (by rw [r 0 (by omega) (by omega) (by omega)]) (by rw [r 0 (by omega) (by omega) (by omega)]) h8, kep_fr (fun o ho => r o (by omega) (by omega) (by omega)) (by rw [r 0 (by omega) (by omega) (by omega)]) h9⟩
theorem t_feasted {M : JM} {v w y z : Int32} (h : Inv M) : Two (f93 0 v w y z) (f195 198 v w y z) M := by
  have hI := h
  obtain ⟨n, k, h1, h2, h3, h4, h5, ⟨m, m1, m2, m3, m4⟩, h7, h8, h9⟩ := h
  have hn9 : n ≤ 9 := h1.2.1
  unfold Two f93 f195
  rw [xp_1, xp_9, c_two h1.1, c_year, show (0 : Int64) = (0 : Int32).toInt64 from rfl, show (1 : Int64) = (1 : Int32).toInt64 from rfl]
  simp only [m_two (n := n) (x := v) (y := w), m_year, in_ok, Option.bind_some, b2_0]
  cases hv : (isN n v && (isN n w && !(decide (v = w)))) with
  | false =>
    refine ⟨-2, M, M, rfl, ?_, hI⟩
    rw [m_two h2.1 (by omega), hv]; rfl
  | true =>
    cases hy : isN 100 y with
    | false =>
      refine ⟨-3, M, M, rfl, ?_, hI⟩
      rw [m_two h2.1 (by omega), hv]; rfl
    | true =>
      simp only [Bool.true_eq_false, if_false]
      by_cases z0 : z < 0
      · rw [if_pos z0]
        refine ⟨-3, M, M, rfl, ?_, hI⟩
        rw [m_two h2.1 (by omega), hv, decide_eq_true z0]; rfl
      · rw [if_neg z0]
        by_cases z1 : (1 : Int32) < z
        · rw [if_pos z1]
          refine ⟨-3, M, M, rfl, ?_, hI⟩
          rw [m_two h2.1 (by omega), hv, decide_eq_false z0, decide_eq_true z1]; rfl
        · rw [if_neg z1]
          have hz : rng 2 z := by
            obtain ⟨j, hj, rfl⟩ := N_of z0
            refine ⟨j, ?_, rfl⟩
            apply Classical.byContradiction
            intro q
            exact z1 ((N_lt (a := 1) (by omega) hj).mpr (by omega))
          unfold f25
          rw [m2]
          by_cases c3 : m < 8
          · rw [if_pos (show N m < (8 : Int32) from (N_lt (b := 8) (by omega) (by omega)).mpr c3), set_in row_f1 c3]
            have g1 : jup M 183 m v 181 0 = N m := by rw [jup_nk (by omega)]; exact m2
            have g2 : jup (jup M 183 m v) 185 m w 181 0 = N m := by rw [jup_nk (by omega)]; exact g1
            have g3 : jup (jup (jup M 183 m v) 185 m w) 187 m y 181 0 = N m := by rw [jup_nk (by omega)]; exact g2
            have g4 : jup (jup (jup (jup M 183 m v) 185 m w) 187 m y) 189 m z 181 0 = N m := by rw [jup_nk (by omega)]; exact g3
            simp only [Option.bind_some, g1, set_in row_f2 c3, g2, set_in row_f3 c3, g3, set_in row_f4 c3, g4, N_succ, jup_same]
            generalize hX : jup (jup (jup (jup (jup M 183 m v) 185 m w) 187 m y) 189 m z) 181 0 (N (m + 1)) = X
            have x27 : X 198 27 = N m := by rw [← hX, jup_nk (by omega), jup_nk (by omega), jup_nk (by omega), jup_nk (by omega), jup_nk (by omega)]; exact m3
            have x7 : X 198 7 = N n := by rw [← hX, jup_nk (by omega), jup_nk (by omega), jup_nk (by omega), jup_nk (by omega), jup_nk (by omega)]; exact h2.1
            have y1 : jup X 213 (4 * m) v 198 27 = N m := by rw [jup_nk (by omega)]; exact x27
            have y2 : jup (jup X 213 (4 * m) v) 213 (4 * m + 1) w 198 27 = N m := by rw [jup_nk (by omega)]; exact y1
            have y3 : jup (jup (jup X 213 (4 * m) v) 213 (4 * m + 1) w) 213 (4 * m + 2) y 198 27 = N m := by rw [jup_nk (by omega)]; exact y2
            have y4 : jup (jup (jup (jup X 213 (4 * m) v) 213 (4 * m + 1) w) 213 (4 * m + 2) y) 213 (4 * m + 3) z 198 27 = N m := by rw [jup_nk (by omega)]; exact y3
            refine ⟨N (m + 1), X, jup (jup (jup (jup (jup X 213 (4 * m) v) 213 (4 * m + 1) w) 213 (4 * m + 2) y) 213 (4 * m + 3) z) 198 27 (N (m + 1)), ?_, ?_, ?_⟩
            · rw [if_neg (by decide), ← hX]
            · rw [m_two x7 (by omega), hv, decide_eq_false z0, decide_eq_false z1]
              simp only [Option.bind_some, b2_0, Bool.true_eq_false, if_false, Bool.not_false, Bool.and_self, mp_26, x27]
              rw [if_neg (show ¬ N m = (8 : Int32) from fun q => absurd ((N_eq (a := m) (b := 8) (by omega) (by omega)).mp q) (by omega)), show (4 : Int32) = N 4 from rfl, show (1 : Int32) = N 1 from rfl, show (2 : Int32) = N 2 from rfl, show (3 : Int32) = N 3 from rfl]
              simp only [N_mul, N_add, sa_213 (show 4 * m < 32 by omega), sa_213 (show 4 * m + 1 < 32 by omega), sa_213 (show 4 * m + 2 < 32 by omega), sa_213 (show 4 * m + 3 < 32 by omega), Option.bind_some, y1, y2, y3, y4, jup_same]
            · have hold : ∀ o j, ¬ (o = 183 ∧ j = m) → ¬ (o = 185 ∧ j = m) → ¬ (o = 187 ∧ j = m) → ¬ (o = 189 ∧ j = m) → ¬ (o = 181 ∧ j = 0) → X o j = M o j := fun o j q1 q2 q3 q4 q5 => by rw [← hX, jup_nk q5, jup_nk q4, jup_nk q3, jup_nk q2, jup_nk q1]
              have hm2 : ∀ o j, o ≠ 213 → ¬ (o = 198 ∧ j = 27) → jup (jup (jup (jup (jup X 213 (4 * m) v) 213 (4 * m + 1) w) 213 (4 * m + 2) y) 213 (4 * m + 3) z) 198 27 (N (m + 1)) o j = X o j := fun o j q1 q2 => by rw [jup_nk q2, jup_nk (by omega), jup_nk (by omega), jup_nk (by omega), jup_nk (by omega)]
              refine inv_fst2 h1 h2 h3 h4 h5 h7 h8 h9 (fun o a1 a2 a3 => funext (fun j => by rw [hm2 o j a3 (by omega), hold o j (by omega) (by omega) (by omega) (by omega) (by omega)])) (fun j hj => by rw [hm2 198 j (by omega) (by omega), hold 198 j (by omega) (by omega) (by omega) (by omega) (by omega)]) ?_
              generalize hY : jup (jup (jup (jup (jup X 213 (4 * m) v) 213 (4 * m + 1) w) 213 (4 * m + 2) y) 213 (4 * m + 3) z) 198 27 (N (m + 1)) = Y at hm2 ⊢
              have v213 : ∀ j, Y 213 j = if j = 4 * m + 3 then z else if j = 4 * m + 2 then y else if j = 4 * m + 1 then w else if j = 4 * m then v else M 213 j := fun j => by
                rw [← hY, jup_nk (by omega), jup_at, jup_at, jup_at, jup_at, hold 213 j (by omega) (by omega) (by omega) (by omega) (by omega)]
                simp only [true_and]
              have r183 : ∀ j, Y 183 j = if j = m then v else M 183 j := fun j => by
                rw [hm2 183 j (by omega) (by omega), ← hX, jup_nk (by omega), jup_nk (by omega), jup_nk (by omega), jup_nk (by omega), jup_at]
                simp only [true_and]
              have r185 : ∀ j, Y 185 j = if j = m then w else M 185 j := fun j => by
                rw [hm2 185 j (by omega) (by omega), ← hX, jup_nk (by omega), jup_nk (by omega), jup_nk (by omega), jup_at, jup_nk (by omega)]
                simp only [true_and]
              have r187 : ∀ j, Y 187 j = if j = m then y else M 187 j := fun j => by
                rw [hm2 187 j (by omega) (by omega), ← hX, jup_nk (by omega), jup_nk (by omega), jup_at, jup_nk (by omega), jup_nk (by omega)]
                simp only [true_and]
              have r189 : ∀ j, Y 189 j = if j = m then z else M 189 j := fun j => by
                rw [hm2 189 j (by omega) (by omega), ← hX, jup_nk (by omega), jup_at, jup_nk (by omega), jup_nk (by omega), jup_nk (by omega)]
                simp only [true_and]
              refine ⟨m + 1, by omega, ?_, ?_, fun i hi => ?_⟩
              · rw [hm2 181 0 (by omega) (by omega), ← hX, jup_same]
              · rw [← hY, jup_same]
              · rw [r183, r185, r187, r189, v213, v213, v213, v213]
                by_cases e : i = m
                · subst e
                  rw [if_pos rfl, if_pos rfl, if_pos rfl, if_pos rfl, if_neg (by omega), if_neg (by omega), if_neg (by omega), if_pos rfl, if_neg (by omega), if_neg (by omega), if_pos rfl, if_neg (by omega), if_pos rfl, if_pos rfl]
                  obtain ⟨a, b, ha, hb, hab, e1, e2⟩ := two_t (by omega) hv
                  exact ⟨rfl, rfl, rfl, rfl, ⟨a, b, ha, hb, hab, e1, e2⟩, isN_t (by omega) hy, hz⟩
                · rw [if_neg e, if_neg e, if_neg e, if_neg e, if_neg (by omega), if_neg (by omega), if_neg (by omega), if_neg (by omega), if_neg (by omega), if_neg (by omega), if_neg (by omega), if_neg (by omega), if_neg (by omega), if_neg (by omega), if_neg (by omega), if_neg (by omega), if_neg (by omega), if_neg (by omega), if_neg (by omega), if_neg (by omega)]
                  exact m4 i (by omega)
          · have e : m = 8 := by omega
            subst e
            refine ⟨-5, M, M, ?_, ?_, hI⟩
            · rw [if_neg (by decide)]; rfl
            · rw [m_two h2.1 (by omega), hv, decide_eq_false z0, decide_eq_false z1, m3]; rfl
theorem blk_887 : Blk f217_887 := fun xs h18 i M hx hi hI => by
  obtain ⟨a, M1, M2, e1, e2, h2⟩ := t_feasted (v := xs.getD (i + 1) 0) (w := xs.getD (i + 2) 0) (y := xs.getD (i + 3) 0) (z := xs.getD (i + 4) 0) hI
  refine ⟨M2, h2, ?_⟩
  unfold f217_887 f217_1076
  rw [show (1 : Int32) = N 1 from rfl, show (2 : Int32) = N 2 from rfl, show (3 : Int32) = N 3 from rfl, show (4 : Int32) = N 4 from rfl, show (5 : Int32) = N 5 from rfl]
  simp only [N_add, sc_at (show i + 1 < xs.length by omega) hx, sc_at (show i + 2 < xs.length by omega) hx, sc_at (show i + 3 < xs.length by omega) hx, sc_at (show i + 4 < xs.length by omega) hx, Option.bind_some, e1, e2, if_true]
