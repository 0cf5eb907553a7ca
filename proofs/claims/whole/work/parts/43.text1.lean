/-! PURE: write, erase -/
theorem inv_txt {M M2 : JM} (h : Inv M) (r : ∀ o, o ≠ 1 → o ≠ 3 → o ≠ 198 → o ≠ 201 → M2 o = M o) (f : ∀ j, j ≠ 4 → M2 198 j = M 198 j) (ht : Txt M2) : Inv M2 := by
  obtain ⟨n, k, h1, h2, h3, h4, h5, h6, h7, h8, h9⟩ := h
  exact ⟨n, k, ctr_fr (fun o ho => r o (by omega) (by omega) (by omega) (by omega)) h1, agr_fr (fun o ho => r o (by omega) (by omega) (by omega) (by omega)) (fun j hj => f j (by omega)) h2, rng_fr (fun o ho => r o (by omega) (by omega) (by omega) (by omega)) h3, by rw [f 22 (by omega)]; exact h4, lif_fr (fun o ho => r o (by omega) (by omega) (by omega) (by omega)) h5, fst_fr (fun o ho => r o (by omega) (by omega) (by omega) (by omega)) (f 27 (by omega)) (by rw [r 181 (by omega) (by omega) (by omega) (by omega)]) h6, ht, und_fr (fun o ho => r o (by omega) (by omega) (by omega) (by omega)) (f 1 (by omega)) (by rw [r 0 (by omega) (by omega) (by omega) (by omega)]) (by rw [r 0 (by omega) (by omega) (by omega) (by omega)]) h8, kep_fr (fun o ho => r o (by omega) (by omega) (by omega) (by omega)) (by rw [r 0 (by omega) (by omega) (by omega) (by omega)]) h9⟩
/-- one call: the class, then the reference -/
def Two (fc fm : JM → Option (Int32 × JM)) (M : JM) : Prop := ∃ a M1 M2, fc M = some (a, M1) ∧ fm M1 = some (a, M2) ∧ Inv M2
theorem t_write {M : JM} {v : Int32} (h : Inv M) : Two (f68 0 v) (f128 198 v) M := by
  have hI := h
  obtain ⟨n, k, h1, h2, h3, h4, h5, h6, ⟨t, t1, t2, t3, t4⟩, h8, h9⟩ := h
  have em : ∀ X : JM, f125 (v.toInt64) (0 : Int64) (255 : Int64) = some (b2 (!(decide (v < 0)) && !(decide ((255 : Int32) < v)))) := fun X => by
    rw [show (0 : Int64) = (0 : Int32).toInt64 from rfl, show (255 : Int64) = (255 : Int32).toInt64 from rfl, in_ok]
  unfold Two f68 f128
  by_cases c1 : v < 0
  · refine ⟨-3, M, M, by rw [if_pos c1], ?_, hI⟩
    rw [em M, decide_eq_true c1]; rfl
  · by_cases c2 : (255 : Int32) < v
    · refine ⟨-3, M, M, by rw [if_neg c1, if_pos c2], ?_, hI⟩
      rw [em M, decide_eq_false c1, decide_eq_true c2]; rfl
    · rw [if_neg c1, if_neg c2, xp_0]
      unfold f52
      rw [t2]
      by_cases c3 : t < 160
      · have hv : rng 256 v := by
          obtain ⟨j, hj, rfl⟩ := N_of c1
          refine ⟨j, ?_, rfl⟩
          apply Classical.byContradiction
          intro q
          exact c2 ((N_lt (a := 255) (by omega) hj).mpr (by omega))
        rw [if_pos (show N t < (160 : Int32) from (N_lt (b := 160) (by omega) (by omega)).mpr c3), set_in row_txt c3]
        have e11 : jup M 3 t v 1 1 = N t := by rw [jup_nk (by omega)]; exact t2
        simp only [Option.bind_some, e11, N_succ]
        have e11b : jup (jup M 3 t v) 1 1 (N (t + 1)) 1 1 = N (t + 1) := jup_same
        refine ⟨N (t + 1), jup (jup M 3 t v) 1 1 (N (t + 1)), jup (jup (jup (jup M 3 t v) 1 1 (N (t + 1))) 201 t v) 198 4 (N (t + 1)), ?_, ?_, ?_⟩
        · rw [if_neg (by decide), e11b]
        · have e4 : jup (jup M 3 t v) 1 1 (N (t + 1)) 198 4 = N t := by rw [jup_nk (by omega), jup_nk (by omega)]; exact t3
          have e4b : jup (jup (jup M 3 t v) 1 1 (N (t + 1))) 201 t v 198 4 = N t := by rw [jup_nk (by omega)]; exact e4
          rw [em M, decide_eq_false c1, decide_eq_false c2]
          simp only [Option.bind_some, e4, mp_3]
          rw [if_neg (by decide), if_neg (show ¬ N t = (160 : Int32) from fun q => absurd ((N_eq (a := t) (b := 160) (by omega) (by omega)).mp q) (by omega)), sa_201 c3]
          simp only [Option.bind_some, e4b, N_succ, jup_same]
        · refine inv_txt hI (fun o a1 a2 a3 a4 => by rw [jup_o a3, jup_o a4, jup_o a1, jup_o a2]) (fun j hj => by rw [jup_nk (by omega), jup_nk (by omega), jup_nk (by omega), jup_nk (by omega)]) ⟨t + 1, by omega, ?_, jup_same, fun i hi => ?_⟩
          · rw [jup_nk (by omega), jup_nk (by omega), jup_same]
          · by_cases e : i = t
            · subst e
              have g3 : jup (jup (jup (jup M 3 i v) 1 1 (N (i + 1))) 201 i v) 198 4 (N (i + 1)) 3 i = v := by rw [jup_nk (by omega), jup_nk (by omega), jup_nk (by omega), jup_same]
              have g4 : jup (jup (jup (jup M 3 i v) 1 1 (N (i + 1))) 201 i v) 198 4 (N (i + 1)) 201 i = v := by rw [jup_nk (by omega), jup_same]
              rw [g3, g4]
              exact ⟨rfl, hv⟩
            · have g3 : jup (jup (jup (jup M 3 t v) 1 1 (N (t + 1))) 201 t v) 198 4 (N (t + 1)) 3 i = M 3 i := by rw [jup_nk (by omega), jup_nk (by omega), jup_nk (by omega), jup_nk (by omega)]
              have g4 : jup (jup (jup (jup M 3 t v) 1 1 (N (t + 1))) 201 t v) 198 4 (N (t + 1)) 201 i = M 201 i := by rw [jup_nk (by omega), jup_nk (by omega), jup_nk (by omega), jup_nk (by omega)]
              rw [g3, g4]
              exact t4 i (by omega)
      · have e : t = 160 := by omega
        subst e
        refine ⟨-5, M, M, ?_, ?_, hI⟩
        · rw [if_neg (by decide)]; rfl
        · rw [em M, decide_eq_false c1, decide_eq_false c2, t3]; rfl
theorem t_erase {M : JM} (h : Inv M) : Two (f69 0) (f129 198) M := by
  have hI := h
  obtain ⟨n, k, h1, h2, h3, h4, h5, h6, ⟨t, t1, t2, t3, t4⟩, h8, h9⟩ := h
  unfold Two f69 f129
  rw [xp_0]
  unfold f53
  simp only [Option.bind_some]
  refine ⟨N t, jup M 1 1 0, jup (jup M 1 1 0) 198 4 0, by rw [t2], ?_, ?_⟩
  · rw [jup_nk (by omega), t3]
  · refine inv_txt hI (fun o a1 a2 a3 a4 => by rw [jup_o a3, jup_o a1]) (fun j hj => by rw [jup_nk (by omega), jup_nk (by omega)]) ⟨0, by omega, ?_, jup_same, fun i hi => absurd hi (Nat.not_lt_zero _)⟩
    rw [jup_nk (by omega)]
    exact jup_same
theorem blk_172 : Blk f217_172 := fun xs h18 i M hx hi hI => by
  obtain ⟨a, M1, M2, e1, e2, h2⟩ := t_write (v := xs.getD (i + 1) 0) hI
  refine ⟨M2, h2, ?_⟩
  unfold f217_172 f217_1076
  rw [show (1 : Int32) = N 1 from rfl, show (5 : Int32) = N 5 from rfl]
  simp only [N_add, sc_at (show i + 1 < xs.length by omega) hx, Option.bind_some, e1, e2, if_true]
theorem blk_195 : Blk f217_195 := fun xs h18 i M hx hi hI => by
  obtain ⟨a, M1, M2, e1, e2, h2⟩ := t_erase hI
  refine ⟨M2, h2, ?_⟩
  unfold f217_195 f217_1076
  rw [show (5 : Int32) = N 5 from rfl]
  simp only [Option.bind_some, e1, e2, if_true, N_add]
