/-! PURE: keep, back, undo -/
theorem und_fr2 {M M2 : JM} {n : Nat} (hn : n ≤ 9) (r : ∀ o, 49 ≤ o ∧ o ≤ 152 → M2 o = M o) (r2 : ∀ j, 183 ≤ j → M2 199 j = M 199 j) (f : M2 198 1 = M 198 1) (g5 : M2 0 5 = M 0 5) (g6 : M2 0 6 = M 0 6) (h : Und M n) : Und M2 n := by
  obtain ⟨u, q, a1, a2, a3, a4, a5, a6⟩ := h
  exact ⟨u, q, a1, a2, by rw [g6]; exact a3, by rw [f]; exact a4, by rw [g5]; exact a5, fun i hi => lif_mv hn (a6 i hi) (Cpy.self (fun a ha => r a (by omega))) (fun j _ => r2 _ (by omega))⟩
theorem kep_fr2 {M M2 : JM} {n : Nat} (hn : n ≤ 9) (r : ∀ o, 155 ≤ o ∧ o ≤ 180 → M2 o = M o) (r2 : ∀ j, 61 ≤ j → j < 183 → M2 199 j = M 199 j) (f : M2 200 = M 200) (g : M2 0 8 = M 0 8) (h : Kep M n) : Kep M2 n := fun i hi => by
  rw [f, g]
  exact ⟨(h i hi).1, fun hb => lif_mv hn ((h i hi).2 hb) (Cpy.self (fun a ha => r a (by omega))) (fun j _ => r2 _ (by omega) (by omega))⟩
theorem in_k {v : Int32} : f125 (v.toInt64) (0 : Int64) (1 : Int64) = some (b2 (!(decide (v < 0)) && !(decide ((1 : Int32) < v)))) := by
  rw [show (0 : Int64) = (0 : Int32).toInt64 from rfl, show (1 : Int64) = (1 : Int32).toInt64 from rfl, in_ok]
theorem row_k {q : Nat} (hq : q < 2) : (61 : Int32) * ((1 : Int32) + N q) = N (61 + 61 * q) := by
  rw [show (61 : Int32) = N 61 from rfl, show (1 : Int32) = N 1 from rfl, N_add, N_mul, show 61 * (1 + q) = 61 + 61 * q by omega]
theorem or_bit {s : Int32} {q i : Nat} (hq : q < 31) : bt (s ||| B q) i = (bt s i || decide (i = q)) := by
  rw [bt_or, bt_B hq]
theorem m_cpf {M : JM} {t : Nat} (ht : t + 61 ≤ 671) (h : 61 ≤ t) : f169 198 (0 : Int32) (N t) M = some (jmv M t 0 61) := m_copy (f := 0) ht (by omega) (Or.inr (by omega))
theorem m_cpt {M : JM} {f : Nat} (hf : f + 61 ≤ 671) : f169 198 (N f) (0 : Int32) M = some (jmv M 0 f 61) := m_copy (t := 0) (by omega) hf (Or.inl (by omega))
theorem t_keep {M : JM} {v : Int32} (h : Inv M) : Two (f86 0 v) (f186 198 v) M := by
  have hI := h
  obtain ⟨n, k, h1, h2, h3, h4, h5, h6, h7, h8, h9⟩ := h
  have hn9 : n ≤ 9 := h1.2.1
  unfold Two f86 f186
  simp only [in_k, xp_3, xp_7, mp_0, mp_2, Option.bind_some, b2_0]
  by_cases c1 : v < 0
  · rw [if_pos c1, decide_eq_true c1]
    exact ⟨-2, M, M, rfl, rfl, hI⟩
  · obtain ⟨q, hq0, rfl⟩ := N_of c1
    rw [if_neg c1, decide_eq_false c1]
    by_cases c2 : q < 2
    · rw [if_pos (show N q < (2 : Int32) from (N_lt (b := 2) hq0 (by omega)).mpr c2), decide_eq_false (show ¬ (1 : Int32) < N q from fun z => absurd ((N_lt (a := 1) (by omega) hq0).mp z) (by omega)), row_k c2]
      obtain ⟨X, e, r, c⟩ := c_cpy (M := M) (lok_k c2) lok_34 (Or.inl (by omega))
      have x0 : X 0 = M 0 := r 0 (by omega)
      have em := m_cpf (M := jup X 0 8 (M 0 8 ||| B q)) (t := 61 + 61 * q) (by omega) (by omega)
      have eY : M 34 0 = M 199 0 := h5.1.1
      have rX : ∀ o, ¬ (155 + 13 * q ≤ o ∧ o ≤ 155 + 13 * q + 12) → o ≠ 0 → o ≠ 199 → o ≠ 200 → jup (jmv (jup X 0 8 (M 0 8 ||| B q)) (61 + 61 * q) 0 61) 200 q 1 o = M o := fun o q1 q2 q3 q4 => by rw [jup_o q4, jmv_o q3, jup_o q2, r o q1]
      have r199 : ∀ j, ¬ (61 + 61 * q ≤ j ∧ j < 61 + 61 * q + 61) → jup (jmv (jup X 0 8 (M 0 8 ||| B q)) (61 + 61 * q) 0 61) 200 q 1 199 j = M 199 j := fun j hj => by rw [jup_o (by decide), jmv_out hj, jup_o (by decide), r 199 (by omega)]
      have y0 : ∀ j, j ≠ 8 → jup (jmv (jup X 0 8 (M 0 8 ||| B q)) (61 + 61 * q) 0 61) 200 q 1 0 j = M 0 j := fun j hj => by rw [jup_o (by decide), jmv_o (by decide), jup_nk (by omega), x0]
      have y8 : jup (jmv (jup X 0 8 (M 0 8 ||| B q)) (61 + 61 * q) 0 61) 200 q 1 0 8 = M 0 8 ||| B q := by rw [jup_o (by decide), jmv_o (by decide), jup_same]
      refine ⟨M 34 0, jup X 0 8 (M 0 8 ||| B q), jup (jmv (jup X 0 8 (M 0 8 ||| B q)) (61 + 61 * q) 0 61) 200 q 1, ?_, ?_, ?_⟩
      · unfold f49
        rw [sh2 c2]
        simp only [Option.bind_some, e, bit_N (show q < 31 by omega), x0]
        rw [jup_o (by decide), r 34 (by omega)]
      · simp only [Bool.not_false, Bool.and_self, Bool.true_eq_false, if_false]
        rw [em, show ((1 : Int32) &&& 1) = 1 by decide]
        simp only [Option.bind_some, sa_200 c2, la_0]
        rw [r199 0 (by omega), eY]
      · refine ⟨n, k, ctr_fr (fun o ho => rX o (by omega) (by omega) (by omega) (by omega)) h1, agr_fr (fun o ho => rX o (by omega) (by omega) (by omega) (by omega)) (fun j hj => by rw [rX 198 (by omega) (by omega) (by omega) (by omega)]) h2, rng_fr (fun o ho => rX o (by omega) (by omega) (by omega) (by omega)) h3, by rw [rX 198 (by omega) (by omega) (by omega) (by omega)]; exact h4, lif_mv hn9 h5 (Cpy.self (fun a ha => rX a (by omega) (by omega) (by omega) (by omega))) (fun j hj => r199 _ (by omega)), fst_fr (fun o ho => rX o (by omega) (by omega) (by omega) (by omega)) (by rw [rX 198 (by omega) (by omega) (by omega) (by omega)]) (by rw [rX 181 (by omega) (by omega) (by omega) (by omega)]) h6, txt_fr (fun o ho => rX o (by omega) (by omega) (by omega) (by omega)) (by rw [rX 198 (by omega) (by omega) (by omega) (by omega)]) (by rw [rX 1 (by omega) (by omega) (by omega) (by omega)]) h7, und_fr2 hn9 (fun o ho => rX o (by omega) (by omega) (by omega) (by omega)) (fun j hj => r199 j (by omega)) (by rw [rX 198 (by omega) (by omega) (by omega) (by omega)]) (y0 5 (by omega)) (y0 6 (by omega)) h8, fun i hi => ?_⟩
        rw [y8, or_bit (show q < 31 by omega)]
        by_cases eq : i = q
        · subst eq
          rw [decide_eq_true rfl, Bool.or_true, jup_same]
          refine ⟨rfl, fun _ => lif_mv hn9 h5 (c.to (fun a ha => ?_)) (fun j hj => ?_)⟩
          · rw [jup_o (by omega), jmv_o (by omega), jup_o (by omega)]
          · rw [jup_o (by decide), jmv_in hj, jup_o (by decide), r 199 (by omega)]
        · rw [decide_eq_false eq, Bool.or_false, jup_nk (by omega), jmv_o (by decide), jup_o (by decide), r 200 (by omega)]
          refine ⟨(h9 i hi).1, fun hb => lif_mv hn9 ((h9 i hi).2 hb) (Cpy.self (fun a ha => rX a (by omega) (by omega) (by omega) (by omega))) (fun j hj => r199 _ (by omega))⟩
    · rw [if_neg (show ¬ N q < (2 : Int32) from fun z => c2 ((N_lt (b := 2) hq0 (by omega)).mp z)), decide_eq_true (show (1 : Int32) < N q from (N_lt (a := 1) (by omega) hq0).mpr (by omega))]
      exact ⟨-2, M, M, rfl, rfl, hI⟩
theorem t_back {M : JM} {v : Int32} (h : Inv M) : Two (f87 0 v) (f187 198 v) M := by
  have hI := h
  obtain ⟨n, k, h1, h2, h3, h4, h5, h6, h7, h8, h9⟩ := h
  have hn9 : n ≤ 9 := h1.2.1
  unfold Two f87 f187
  simp only [in_k, xp_3, xp_7, mp_0, mp_2, Option.bind_some, b2_0]
  by_cases c1 : v < 0
  · rw [if_pos c1, decide_eq_true c1]
    exact ⟨-2, M, M, rfl, rfl, hI⟩
  · obtain ⟨q, hq0, rfl⟩ := N_of c1
    rw [if_neg c1, decide_eq_false c1]
    by_cases c2 : q < 2
    · rw [if_pos (show N q < (2 : Int32) from (N_lt (b := 2) hq0 (by omega)).mpr c2), decide_eq_false (show ¬ (1 : Int32) < N q from fun z => absurd ((N_lt (a := 1) (by omega) hq0).mp z) (by omega)), row_k c2, has_N (by omega)]
      simp only [Option.bind_some, b2_0, Bool.not_false, Bool.and_self, Bool.true_eq_false, if_false, la_200 c2]
      obtain ⟨ek, hk⟩ := h9 q c2
      cases hb : bt (M 0 8) q with
      | false =>
        refine ⟨-4, M, M, rfl, ?_, hI⟩
        rw [ek, hb]; rfl
      | true =>
        obtain ⟨X, e, r, c⟩ := c_cpy (M := M) lok_34 (lok_k c2) (Or.inr (by omega))
        have hl := hk hb
        have em := m_cpt (M := jup X 0 6 0) (f := 61 + 61 * q) (by omega)
        have rX : ∀ o, ¬ (34 ≤ o ∧ o ≤ 46) → o ≠ 0 → o ≠ 199 → o ≠ 198 → jup (jmv (jup X 0 6 0) 0 (61 + 61 * q) 61) 198 1 0 o = M o := fun o q1 q2 q3 q4 => by rw [jup_o q4, jmv_o q3, jup_o q2, r o (by omega)]
        have r199 : ∀ j, 61 ≤ j → jup (jmv (jup X 0 6 0) 0 (61 + 61 * q) 61) 198 1 0 199 j = M 199 j := fun j hj => by rw [jup_o (by decide), jmv_out (by omega), jup_o (by decide), r 199 (by omega)]
        have rlow : ∀ j, j < 61 → jup (jmv (jup X 0 6 0) 0 (61 + 61 * q) 61) 198 1 0 199 (0 + j) = M 199 (61 + 61 * q + j) := fun j hj => by rw [jup_o (by decide), jmv_in hj, jup_o (by decide), r 199 (by omega)]
        have y0 : ∀ j, j ≠ 6 → jup (jmv (jup X 0 6 0) 0 (61 + 61 * q) 61) 198 1 0 0 j = M 0 j := fun j hj => by rw [jup_o (by decide), jmv_o (by decide), jup_nk (by omega), r 0 (by omega)]
        have y198 : ∀ j, j ≠ 1 → jup (jmv (jup X 0 6 0) 0 (61 + 61 * q) 61) 198 1 0 198 j = M 198 j := fun j hj => by rw [jup_nk (by omega), jmv_o (by decide), jup_o (by decide), r 198 (by omega)]
        have eX : X 34 0 = M (155 + 13 * q) 0 := c.1 0 (by omega)
        refine ⟨M (155 + 13 * q) 0, jup X 0 6 0, jup (jmv (jup X 0 6 0) 0 (61 + 61 * q) 61) 198 1 0, ?_, ?_, ?_⟩
        · unfold f50
          rw [sh2 c2, if_neg (by decide)]
          simp only [Option.bind_some, e]
          rw [jup_o (by decide), eX]
        · rw [jup_o (by decide), r 200 (by omega), ek, hb, if_neg (by decide), em]
          have r0 : jup (jmv (jup X 0 6 0) 0 (61 + 61 * q) 61) 198 1 0 199 0 = M 199 (61 + 61 * q) := rlow 0 (by omega)
          simp only [Option.bind_some, la_0]
          rw [r0, ← hl.1.1]
        · refine ⟨n, k, ctr_fr (fun o ho => rX o (by omega) (by omega) (by omega) (by omega)) h1, agr_fr (fun o ho => rX o (by omega) (by omega) (by omega) (by omega)) (fun j hj => y198 j (by omega)) h2, rng_fr (fun o ho => rX o (by omega) (by omega) (by omega) (by omega)) h3, by rw [y198 22 (by omega)]; exact h4, lif_mv hn9 hl (c.to (fun a ha => by rw [jup_o (by omega), jmv_o (by omega), jup_o (by omega)])) (fun j hj => rlow j hj), fst_fr (fun o ho => rX o (by omega) (by omega) (by omega) (by omega)) (y198 27 (by omega)) (by rw [rX 181 (by omega) (by omega) (by omega) (by omega)]) h6, txt_fr (fun o ho => rX o (by omega) (by omega) (by omega) (by omega)) (y198 4 (by omega)) (by rw [rX 1 (by omega) (by omega) (by omega) (by omega)]) h7, ?_, kep_fr2 hn9 (fun o ho => rX o (by omega) (by omega) (by omega) (by omega)) (fun j hj _ => r199 j hj) (rX 200 (by omega) (by omega) (by omega) (by omega)) (y0 8 (by omega)) h9⟩
          obtain ⟨u, w, a1, a2, a3, a4, a5, a6⟩ := h8
          refine ⟨0, w, by omega, a2, ?_, jup_same, by rw [y0 5 (by omega)]; exact a5, fun i hi => absurd hi (Nat.not_lt_zero _)⟩
          rw [jup_o (by decide), jmv_o (by decide)]
          exact jup_same
    · rw [if_neg (show ¬ N q < (2 : Int32) from fun z => c2 ((N_lt (b := 2) hq0 (by omega)).mp z)), decide_eq_true (show (1 : Int32) < N q from (N_lt (a := 1) (by omega) hq0).mpr (by omega))]
      exact ⟨-2, M, M, rfl, rfl, hI⟩
theorem t_undo {M : JM} (h : Inv M) : Two (f85 0) (f185 198) M := by
  have hI := h
  obtain ⟨n, k, h1, h2, h3, h4, h5, h6, h7, h8, h9⟩ := h
  have hn9 : n ≤ 9 := h1.2.1
  obtain ⟨u, q, a1, a2, a3, a4, a5, a6⟩ := h8
  unfold Two f85 f185
  rw [xp_3, xp_4, a3, a5]
  by_cases c0 : u = 0
  · subst c0
    refine ⟨-4, M, M, if_pos rfl, ?_, hI⟩
    rw [a4]; exact if_pos rfl
  · rw [if_neg (show ¬ N u = (0 : Int32) from fun z => c0 ((N_eq (b := 0) (by omega) (by omega)).mp z)), ring_dn a2]
    obtain ⟨p, hp⟩ : ∃ p, p = (q + 7) % 8 := ⟨_, rfl⟩
    have hp8 : p < 8 := by omega
    obtain ⟨v, hv⟩ : ∃ v, u = v + 1 := ⟨u - 1, by omega⟩
    have hl := a6 v (by omega)
    rw [show (q + 8 - u + v) % 8 = p by omega] at hl
    obtain ⟨X, e, r, c⟩ := c_cpy (M := jup M 0 5 (N p)) lok_34 (lok_p hp8) (Or.inr (by omega))
    have ev : N u - (1 : Int32) = N v := by
      rw [hv]
      exact (Int32.ofNat_sub (v + 1) 1 (by omega)).symm
    have x0 : X 0 = jup M 0 5 (N p) 0 := r 0 (by omega)
    have x06 : X 0 6 = N u := by rw [x0, jup_nk (by omega)]; exact a3
    have xM : ∀ o, ¬ (34 ≤ o ∧ o ≤ 46) → o ≠ 0 → X o = M o := fun o q1 q2 => by rw [r o (by omega), jup_o q2]
    have em := m_cpt (M := jup (jup X 0 6 (N v)) 198 1 (N v)) (f := 183 + 61 * v) (by omega)
    generalize hY : jmv (jup (jup X 0 6 (N v)) 198 1 (N v)) 0 (183 + 61 * v) 61 = Y at em
    have rX : ∀ o, ¬ (34 ≤ o ∧ o ≤ 46) → o ≠ 0 → o ≠ 199 → o ≠ 198 → Y o = M o := fun o q1 q2 q3 q4 => by rw [← hY, jmv_o q3, jup_o q4, jup_o q2, xM o q1 q2]
    have r199 : ∀ j, 61 ≤ j → Y 199 j = M 199 j := fun j hj => by rw [← hY, jmv_out (by omega), jup_o (by decide), jup_o (by decide), xM 199 (by omega) (by omega)]
    have rlow : ∀ j, j < 61 → Y 199 (0 + j) = M 199 (183 + 61 * v + j) := fun j hj => by rw [← hY, jmv_in hj, jup_o (by decide), jup_o (by decide), xM 199 (by omega) (by omega)]
    have y0 : ∀ j, j ≠ 6 → Y 0 j = jup M 0 5 (N p) 0 j := fun j hj => by rw [← hY, jmv_o (by decide), jup_o (by decide), jup_nk (by omega), x0]
    have y198 : ∀ j, j ≠ 1 → Y 198 j = M 198 j := fun j hj => by rw [← hY, jmv_o (by decide), jup_nk (by omega), jup_o (by decide), xM 198 (by omega) (by omega)]
    have y1981 : Y 198 1 = N v := by rw [← hY, jmv_o (by decide), jup_same]
    refine ⟨N v, jup X 0 6 (N v), Y, ?_, ?_, ?_⟩
    · unfold f50
      simp only [Option.bind_some, jup_same, ← hp, sh8 hp8, e, x06, ev]
    · have z1 : jup X 0 6 (N v) 198 1 = N u := by rw [jup_o (by decide), xM 198 (by omega) (by omega)]; exact a4
      rw [z1, if_neg (show ¬ N u = (0 : Int32) from fun z => c0 ((N_eq (b := 0) (by omega) (by omega)).mp z)), ev]
      simp only [Option.bind_some, jup_same]
      rw [show (183 : Int32) = N 183 from rfl, show (61 : Int32) = N 61 from rfl, N_mul, N_add, em]
      simp only [Option.bind_some, y1981]
    · refine ⟨n, k, ctr_fr (fun o ho => rX o (by omega) (by omega) (by omega) (by omega)) h1, agr_fr (fun o ho => rX o (by omega) (by omega) (by omega) (by omega)) (fun j hj => y198 j (by omega)) h2, rng_fr (fun o ho => rX o (by omega) (by omega) (by omega) (by omega)) h3, by rw [y198 22 (by omega)]; exact h4, ?_, fst_fr (fun o ho => rX o (by omega) (by omega) (by omega) (by omega)) (y198 27 (by omega)) (by rw [rX 181 (by omega) (by omega) (by omega) (by omega)]) h6, txt_fr (fun o ho => rX o (by omega) (by omega) (by omega) (by omega)) (y198 4 (by omega)) (by rw [rX 1 (by omega) (by omega) (by omega) (by omega)]) h7, ?_, kep_fr2 hn9 (fun o ho => rX o (by omega) (by omega) (by omega) (by omega)) (fun j hj _ => r199 j hj) (rX 200 (by omega) (by omega) (by omega) (by omega)) (by rw [y0 8 (by omega), jup_nk (by omega)]) h9⟩
      · have hl2 : Lif (jup M 0 5 (N p)) (49 + 13 * p) (183 + 61 * v) n := lif_fr (fun a ha => jup_o (by omega)) hl
        refine lif_mv hn9 hl2 (c.to (fun a ha => by rw [← hY, jmv_o (by omega), jup_o (by omega), jup_o (by omega)])) (fun j hj => ?_)
        rw [rlow j hj, jup_o (by decide)]
      · refine ⟨v, p, by omega, hp8, ?_, y1981, ?_, fun i hi => ?_⟩
        · rw [← hY, jmv_o (by decide), jup_o (by decide), jup_same]
        · rw [y0 5 (by omega), jup_same]
        · have hi2 := a6 i (by omega)
          rw [show (q + 8 - u + i) % 8 = (p + 8 - v + i) % 8 by omega] at hi2
          have hm : (p + 8 - v + i) % 8 < 8 := Nat.mod_lt _ (by omega)
          exact lif_mv hn9 hi2 (Cpy.self (fun a ha => rX a (by omega) (by omega) (by omega) (by omega))) (fun j hj => r199 _ (by omega))
theorem blk_666 : Blk f217_666 := fun xs h18 i M hx hi hI => by
  obtain ⟨a, M1, M2, e1, e2, h2⟩ := t_keep (v := xs.getD (i + 1) 0) hI
  refine ⟨M2, h2, ?_⟩
  unfold f217_666 f217_1076
  rw [show (1 : Int32) = N 1 from rfl, show (5 : Int32) = N 5 from rfl]
  simp only [N_add, sc_at (show i + 1 < xs.length by omega) hx, Option.bind_some, e1, e2, if_true]
theorem blk_689 : Blk f217_689 := fun xs h18 i M hx hi hI => by
  obtain ⟨a, M1, M2, e1, e2, h2⟩ := t_back (v := xs.getD (i + 1) 0) hI
  refine ⟨M2, h2, ?_⟩
  unfold f217_689 f217_1076
  rw [show (1 : Int32) = N 1 from rfl, show (5 : Int32) = N 5 from rfl]
  simp only [N_add, sc_at (show i + 1 < xs.length by omega) hx, Option.bind_some, e1, e2, if_true]
theorem blk_653 : Blk f217_653 := fun xs h18 i M hx hi hI => by
  obtain ⟨a, M1, M2, e1, e2, h2⟩ := t_undo hI
  refine ⟨M2, h2, ?_⟩
  unfold f217_653 f217_1076
  rw [show (5 : Int32) = N 5 from rfl]
  simp only [N_add, Option.bind_some, e1, e2, if_true]
