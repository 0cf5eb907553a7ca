/-! PURE: one -/
theorem t_one {M : JM} {v w : Int32} (h : Inv M) : ∃ x, f72 M 0 v w = some x ∧ f163 M 198 v w = some x := by
  obtain ⟨n, k, h1, h2, h3, h4, h5, h6, h7, h8, h9⟩ := h
  have hn9 : n ≤ 9 := h1.2.1
  unfold f72 f163
  rw [xp_1, xp_3, c_one h1.1, m_one h2.1 (by omega)]
  simp only [Option.bind_some, b2_0]
  cases hv : isN n v with
  | false => exact ⟨-2, rfl, rfl⟩
  | true =>
    obtain ⟨p, hp, rfl⟩ := isN_t (by omega) hv
    have hp9 : p < 9 := by omega
    simp only [Bool.true_eq_false, if_false]
    by_cases w0 : w = 0
    · rw [if_pos w0, if_pos w0, get_in cok_4.1 hp9, mp_8, la_203 hp9]
      exact ⟨_, rfl, by rw [← h2.2.2.2.1 p hp]; rfl⟩
    · rw [if_neg w0, if_neg w0]
      by_cases w1 : w = 1
      · rw [if_pos w1, if_pos w1, get_in cok_4.2.1 hp9, mp_9, la_204 hp9]
        exact ⟨_, rfl, by rw [← h2.2.2.2.2.1 p hp]; rfl⟩
      · rw [if_neg w1, if_neg w1]
        by_cases w2 : w = 2
        · rw [if_pos w2, if_pos w2, get_in cok_4.2.2.1 hp9, mp_10, la_205 hp9]
          exact ⟨_, rfl, by rw [← h2.2.2.2.2.2.1 p hp]; rfl⟩
        · rw [if_neg w2, if_neg w2]
          by_cases w3 : w = 3
          · rw [if_pos w3, if_pos w3, get_in cok_4.2.2.2.1 hp9, mp_11, la_206 hp9]
            exact ⟨_, rfl, by rw [← h2.2.2.2.2.2.2.1 p hp]; rfl⟩
          · rw [if_neg w3, if_neg w3]
            by_cases w4 : w = 4
            · rw [if_pos w4, if_pos w4, get_in lok_34.2.1 hp9, mp_0, show (1 : Int32) + N p = N (1 + p) from N_add, la_199 (by omega)]
              exact ⟨_, rfl, by rw [(h5.2.2.2.1 p hp).2]; rfl⟩
            · rw [if_neg w4, if_neg w4]
              by_cases w5 : w = 5
              · rw [if_pos w5, if_pos w5, mp_0, show (10 : Int32) = N 10 from rfl, la_199 (by omega), has_N (by omega)]
                simp only [Option.bind_some, has_eq (show p < 31 by omega), b2_0]
                refine ⟨b2 (bt (M 34 1) p), ?_, by rw [h5.2.1.1]⟩
                cases bt (M 34 1) p <;> rfl
              · rw [if_neg w5, if_neg w5]
                by_cases w6 : w = 6
                · rw [if_pos w6, if_pos w6, get_in lok_34.1 hp9, mp_0, show (11 : Int32) + N p = N (11 + p) from N_add, la_199 (by omega)]
                  refine ⟨_, rfl, ?_⟩
                  have e := (h5.2.2.2.1 p hp).1
                  rw [show 0 + 11 + p = 11 + p by omega] at e
                  rw [e]; rfl
                · rw [if_neg w6, if_neg w6]
                  exact ⟨-3, rfl, rfl⟩
theorem blk_234 : Blk f217_234 := fun xs h18 i M hx hi hI => by
  obtain ⟨a, e1, e2⟩ := t_one (v := xs.getD (i + 1) 0) (w := xs.getD (i + 2) 0) hI
  refine ⟨M, hI, ?_⟩
  unfold f217_234 f217_1076
  rw [show (1 : Int32) = N 1 from rfl, show (2 : Int32) = N 2 from rfl, show (5 : Int32) = N 5 from rfl]
  simp only [N_add, sc_at (show i + 1 < xs.length by omega) hx, sc_at (show i + 2 < xs.length by omega) hx, Option.bind_some, e1, e2, if_true]
