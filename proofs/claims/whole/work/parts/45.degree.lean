/-! PURE: degree, forget -/
theorem same_210 {M : JM} {k : Nat} {s : Nat → Int32} : Same M (jrw M 210 k s) := fun o j q => by
  have : o ≠ 210 := fun e => q (by unfold sck; omega)
  rw [jrw_o this]
theorem t_degree {M : JM} {v w y : Int32} (h : Inv M) : ∃ x M2, f76 M 0 v w y = some x ∧ f167 198 v w y M = some (x, M2) ∧ Inv M2 := by
  have hI := h
  obtain ⟨n, k, h1, h2, h3, h4, h5, h6, h7, h8, h9⟩ := h
  have hn9 : n ≤ 9 := h1.2.1
  unfold f76 f167
  rw [xp_1, c_one h1.1, m_one h2.1 (by omega), c_one h1.1, m_one h2.1 (by omega), c_year, m_year]
  simp only [Option.bind_some, b2_0]
  cases hv : isN n v with
  | false => exact ⟨-2, M, rfl, rfl, hI⟩
  | true =>
    cases hw : isN n w with
    | false => exact ⟨-2, M, rfl, rfl, hI⟩
    | true =>
      cases hy : isN 100 y with
      | false => exact ⟨-3, M, rfl, rfl, hI⟩
      | true =>
        obtain ⟨a, ha, rfl⟩ := isN_t (by omega) hv
        obtain ⟨b, hb, rfl⟩ := isN_t (by omega) hw
        simp only [Bool.true_eq_false, if_false]
        obtain ⟨s, e⟩ := m_dg (y := y) h1 h2 h4 ha hb
        rw [c_dg cok_4 h1 ha hb, e]
        exact ⟨_, _, rfl, rfl, Inv_same hI same_210⟩
theorem blk_366 : Blk f217_366 := fun xs h18 i M hx hi hI => by
  obtain ⟨a, M2, e1, e2, h2⟩ := t_degree (v := xs.getD (i + 1) 0) (w := xs.getD (i + 2) 0) (y := xs.getD (i + 3) 0) hI
  refine ⟨M2, h2, ?_⟩
  unfold f217_366 f217_1076
  rw [show (1 : Int32) = N 1 from rfl, show (2 : Int32) = N 2 from rfl, show (3 : Int32) = N 3 from rfl, show (5 : Int32) = N 5 from rfl]
  simp only [N_add, sc_at (show i + 1 < xs.length by omega) hx, sc_at (show i + 2 < xs.length by omega) hx, sc_at (show i + 3 < xs.length by omega) hx, Option.bind_some, e1, e2, if_true]
theorem inv_fst {M M2 : JM} (h : Inv M) (r : ∀ o, ¬ (181 ≤ o ∧ o ≤ 189) → o ≠ 198 → o ≠ 213 → M2 o = M o) (f : ∀ j, j ≠ 27 → M2 198 j = M 198 j) (ht : ∀ n, Fst M n → Fst M2 n) : Inv M2 := by
  obtain ⟨n, k, h1, h2, h3, h4, h5, h6, h7, h8, h9⟩ := h
  exact ⟨n, k, ctr_fr (fun o ho => r o (by omega) (by omega) (by omega)) h1, agr_fr (fun o ho => r o (by omega) (by omega) (by omega)) (fun j hj => f j (by omega)) h2, rng_fr (fun o ho => r o (by omega) (by omega) (by omega)) h3, by rw [f 22 (by omega)]; exact h4, lif_fr (fun o ho => r o (by omega) (by omega) (by omega)) h5, ht n h6, txt_fr (fun o ho => r o (by omega) (by omega) (by omega)) (f 4 (by omega)) (by rw [r 1 (by omega) (by omega) (by omega)]) h7, und_fr (fun o ho => r o (by omega) (by omega) (by omega)) (f 1 (by omega)) (by rw [r 0 (by omega) (by omega) (by omega)]) (by rw [r 0 (by omega) (by omega) (by omega)]) h8, kep_fr (fun o ho => r o (by omega) (by omega) (by omega)) (by rw [r 0 (by omega) (by omega) (by omega)]) h9⟩
theorem t_forget {M : JM} (h : Inv M) : Two (f94 0) (f196 198) M := by
  have hI := h
  obtain ⟨n, k, h1, h2, h3, h4, h5, ⟨m, m1, m2, m3, m4⟩, h7, h8, h9⟩ := h
  unfold Two f94 f196
  rw [xp_9]
  unfold f26
  simp only [Option.bind_some]
  refine ⟨N m, jup M 181 0 0, jup (jup M 181 0 0) 198 27 0, by rw [m2], ?_, ?_⟩
  · rw [jup_nk (by omega), m3]
  · refine inv_fst hI (fun o a1 a2 a3 => by rw [jup_o a2, jup_o (by omega)]) (fun j hj => by rw [jup_nk (by omega), jup_nk (by omega)]) (fun n2 _ => ⟨0, by omega, ?_, jup_same, fun i hi => absurd hi (Nat.not_lt_zero _)⟩)
    rw [jup_nk (by omega)]
    exact jup_same
theorem blk_940 : Blk f217_940 := fun xs h18 i M hx hi hI => by
  obtain ⟨a, M1, M2, e1, e2, h2⟩ := t_forget hI
  refine ⟨M2, h2, ?_⟩
  unfold f217_940 f217_1076
  rw [show (5 : Int32) = N 5 from rfl]
  simp only [Option.bind_some, e1, e2, if_true, N_add]
