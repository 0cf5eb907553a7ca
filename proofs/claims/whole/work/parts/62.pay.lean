/-! PURE: pay -/
theorem c_addg {X : JM} {p : Nat} {v : Int32} (hp : p < 9) : f38 34 (N p) v X = some (jup X 38 p (X 38 p + v)) := by
  unfold f38 f44
  rw [get_38 hp]
  simp only [Option.bind_some, set_38 hp]
def payR (M : JM) (d a b : Nat) (due : Int32) : Bool := bt (M 34 3) d || (decide (due = -1) || (decide (M 34 0 < due) || (!(bt (M 34 1) a && bt (M 34 1) b) || decide (M 38 a < M 44 d))))
theorem c_payc {M : JM} {n k a b d : Nat} (h1 : Ctr M 4 n k) (h2 : Agr M 4 n k) (h3 : Rng M n k) (h4 : M 198 22 = -1) (hd : d < 8) (ea : M 40 d = N a) (eb : M 42 d = N b) (ha : a < n) (hb : b < n) : f114 M 0 (N d) = some (b2 (!(payR M d a b (rdue M k a b (M 46 d))))) := by
  have hn9 := h1.2.1
  unfold f114 payR
  rw [c_due h1 h2 h3 h4 hd ea eb ha hb, xp_3, get_40 hd, get_42 hd, get_44 hd, ea, eb, has_N (by omega)]
  generalize rdue M k a b (M 46 d) = due
  simp only [Option.bind_some, b2_0]
  cases bt (M 34 3) d with
  | true => rfl
  | false =>
    rw [if_pos rfl, Bool.false_or]
    by_cases e1 : due = -1
    · rw [if_pos e1, decide_eq_true e1]; rfl
    · rw [if_neg e1, decide_eq_false e1, Bool.false_or]
      by_cases e2 : M 34 0 < due
      · rw [if_pos e2, decide_eq_true e2]; rfl
      · rw [if_neg e2, decide_eq_false e2, Bool.false_or, c_live (by omega) (by omega), get_38 (by omega)]
        simp only [Option.bind_some, b2_0]
        cases (bt (M 34 1) a && bt (M 34 1) b) with
        | false => rfl
        | true =>
          rw [if_neg (by decide)]
          by_cases e3 : M 38 a < M 44 d
          · rw [if_pos e3, decide_eq_true e3]; rfl
          · rw [if_neg e3, decide_eq_false e3]; rfl
def payT (a b base : Nat) (v : Int32) (X : JM) : Option (Int32 × JM) := (f170 198 X).bind fun M17 => (jsa 199 (N (base + 4)) (1 : Int32) M17).bind fun M18 => (jsa 199 (N (1 + a)) (M18 199 (1 + a) - v) M18).bind fun M20 => (jla 199 (N (1 + b)) M20).bind fun v21 => (jsa 199 (N (1 + b)) (v21 + v) M20).bind fun M22 => some (M22 199 (1 + a), M22)
theorem m_payc {M W : JM} {n k a b d D : Nat} (s : Rc M W) (h1 : Ctr M 4 n k) (h2 : Agr M 4 n k) (h5 : Lif M 34 0 n) (hD : M 199 20 = N D) (hD8 : D ≤ 8) (hd : d < D) (r0 : M 40 d = M 199 (21 + 5 * d)) (r1 : M 42 d = M 199 (21 + 5 * d + 1)) (r2 : M 44 d = M 199 (21 + 5 * d + 2)) (r3 : M 46 d = M 199 (21 + 5 * d + 3)) (r4 : M 199 (21 + 5 * d + 4) = b2 (bt (M 34 3) d)) (ea : M 40 d = N a) (eb : M 42 d = N b) (ha : a < n) (hb : b < n) : ∃ X, Sm W X ∧ f184 198 (N d) W = if payR M d a b (rdue M k a b (M 46 d)) = true then some (-4, X) else payT a b (21 + 5 * d) (M 44 d) X := by
  have hn9 := h1.2.1
  have hk6 := h1.2.2.2.1
  have w198 : W 198 = M 198 := s 198 (by decide) (by decide)
  have w199 : W 199 = M 199 := s 199 (by decide) (by decide)
  obtain ⟨X, e, sX⟩ := m_due (M := W) (k := k) (a := a) (b := b) (base := 21 + 5 * d) (by rw [w198]; exact h2.2.1) hk6 (by omega) (by rw [w199]; exact r0.symm.trans ea) (by rw [w199]; exact r1.symm.trans eb) (by omega) (by omega)
  have x199 : X 199 = M 199 := by rw [sX 199 (by decide), w199]
  refine ⟨X, sX, ?_⟩
  unfold f184 payR
  rw [m_isD (M := W) (d := D) (by rw [w199]; exact hD) (by omega), isN_N (by omega) hd, base_ok, e, rc_due s, w199, ← r3, mp_0]
  generalize rdue M k a b (M 46 d) = due
  simp only [Option.bind_some, b2_0, Bool.true_eq_false, if_false, show N (21 + 5 * d) + (1 : Int32) = N (21 + 5 * d + 1) from N_add, show N (21 + 5 * d) + (2 : Int32) = N (21 + 5 * d + 2) from N_add, show N (21 + 5 * d) + (4 : Int32) = N (21 + 5 * d + 4) from N_add, la_199 (show 21 + 5 * d < 671 by omega), la_199 (show 21 + 5 * d + 1 < 671 by omega), la_199 (show 21 + 5 * d + 2 < 671 by omega), la_199 (show 21 + 5 * d + 4 < 671 by omega), la_0, x199, r4, ← r0, ← r1, ← r2, ea, eb, b2_1, m_live (M := X) (show a < 9 by omega) (show b < 9 by omega), show M 199 0 = M 34 0 from h5.1.1.symm, show M 199 10 = M 34 1 from h5.2.1.1.symm, show (1 : Int32) + N a = N (1 + a) from N_add, show (1 : Int32) + N b = N (1 + b) from N_add, la_199 (show 1 + a < 671 by omega), ← (lif_w h5 ha).2]
  cases bt (M 34 3) d with
  | true => rfl
  | false =>
    rw [if_neg (by decide), Bool.false_or]
    by_cases e1 : due = -1
    · rw [if_pos e1, decide_eq_true e1]; rfl
    · rw [if_neg e1, decide_eq_false e1, Bool.false_or]
      by_cases e2 : M 34 0 < due
      · rw [if_pos e2, decide_eq_true e2]; rfl
      · rw [if_neg e2, decide_eq_false e2, Bool.false_or]
        cases (bt (M 34 1) a && bt (M 34 1) b) with
        | false => rfl
        | true =>
          rw [if_neg (by decide)]
          by_cases e3 : M 38 a < M 44 d
          · rw [if_pos e3, decide_eq_true e3]; rfl
          · rw [if_neg e3, decide_eq_false e3]; rfl
theorem t_pay {M : JM} {v : Int32} (h : Inv M) : Two (f84 0 v) (f184 198 v) M := by
  have hI := h
  obtain ⟨n, k, h1, h2, h3, h4, h5, h6, h7, h8, h9⟩ := h
  have hn9 : n ≤ 9 := h1.2.1
  obtain ⟨D, hD8, dd1, dd2, dd3, dd4⟩ : LifD M 34 0 n := h5.2.2.1
  unfold Two f84
  rw [xp_3, c_isD dd1]
  simp only [Option.bind_some, b2_0]
  cases hv : isN D v with
  | false =>
    refine ⟨-2, M, M, rfl, ?_, hI⟩
    unfold f184
    rw [m_isD dd2 (by omega), hv]; rfl
  | true =>
    obtain ⟨d, hd, rfl⟩ := isN_t (by omega) hv
    have hd8 : d < 8 := by omega
    obtain ⟨q4, q0, q1, q2, q3, ⟨a, ha, ea⟩, ⟨b, hb, eb⟩⟩ := dd4 d hd
    rw [Nat.zero_add] at q4 q0 q1 q2 q3
    have hpay := fun (W : JM) (s : Rc M W) => m_payc s h1 h2 h5 dd2 hD8 hd q0 q1 q2 q3 q4 ea eb ha hb
    rw [c_payc h1 h2 h3 h4 hd8 ea eb ha hb]
    simp only [Bool.true_eq_false, if_false, Option.bind_some, b2_0]
    cases hR : payR M d a b (rdue M k a b (M 46 d)) with
    | true =>
      obtain ⟨X, s, e⟩ := hpay M (fun _ _ _ => rfl)
      rw [hR, if_pos rfl] at e
      exact ⟨-4, M, X, rfl, e, Inv_same hI s.same⟩
    | false =>
      obtain ⟨M1, d1, d2, d3⟩ := deed h1 h2 h3 h4 h5 h6 h7 h8 h9
      have m34 : M1 34 = M 34 := d2 34 (by omega) (by omega)
      have m38 : M1 38 = M 38 := d2 38 (by omega) (by omega)
      have m40 : M1 40 = M 40 := d2 40 (by omega) (by omega)
      have m42 : M1 42 = M 42 := d2 42 (by omega) (by omega)
      have m44 : M1 44 = M 44 := d2 44 (by omega) (by omega)
      obtain ⟨P, hP⟩ : ∃ P, P = jup M1 34 3 (M 34 3 ||| B d) := ⟨_, rfl⟩
      obtain ⟨Q, hQ⟩ : ∃ Q, Q = jup P 38 a (M 38 a + -(M 44 d)) := ⟨_, rfl⟩
      obtain ⟨Z, hZ⟩ : ∃ Z, Z = jup Q 38 b (Q 38 b + M 44 d) := ⟨_, rfl⟩
      have pM : ∀ o, o ≠ 34 → P o = M1 o := fun o q => by rw [hP, jup_o q]
      have qM : ∀ o, o ≠ 34 → o ≠ 38 → Q o = M1 o := fun o q1 q2 => by rw [hQ, jup_o q2, pM o q1]
      have zM1 : ∀ o, o ≠ 34 → o ≠ 38 → Z o = M1 o := fun o q1 q2 => by rw [hZ, jup_o q2, qM o q1 q2]
      have zM : ∀ o, o ≠ 34 → o ≠ 38 → o ≠ 0 → ¬ (49 ≤ o ∧ o ≤ 152) → Z o = M o := fun o q1 q2 q3 q4 => by rw [zM1 o q1 q2, d2 o q3 q4]
      have z34 : ∀ j, j ≠ 3 → Z 34 j = M 34 j := fun j hj => by rw [hZ, jup_o (by omega), hQ, jup_o (by omega), hP, jup_nk (by omega), m34]
      have z343 : Z 34 3 = M 34 3 ||| B d := by rw [hZ, jup_o (by omega), hQ, jup_o (by omega), hP, jup_same]
      have q38 : ∀ p, Q 38 p = if p = a then M 38 a - M 44 d else M 38 p := fun p => by
        rw [hQ, jup_at, pM 38 (by omega), m38]
        simp only [true_and, Int32.sub_eq_add_neg]
      have z38 : ∀ p, Z 38 p = if p = b then Q 38 b + M 44 d else Q 38 p := fun p => by
        rw [hZ, jup_at]
        simp only [true_and]
      obtain ⟨X1, s, e⟩ := hpay Z (fun o q1 q2 => zM o (by omega) (by omega) (by omega) (by omega))
      rw [hR, if_neg (by decide)] at e
      obtain ⟨X2, g1, g2, g3, g4, g5⟩ := d3 X1 (fun o q1 q2 => by rw [s o q2, zM1 o (by omega) (by omega)])
      have x199 : ∀ j, j < 183 → X2 199 j = M 199 j := fun j hj => by rw [g4 j hj, s 199 (by decide), zM 199 (by omega) (by omega) (by omega) (by omega)]
      obtain ⟨R, hRR⟩ : ∃ R, R = jup (jup X2 199 (21 + 5 * d + 4) 1) 199 (1 + a) (M 38 a - M 44 d) := ⟨_, rfl⟩
      obtain ⟨Y, hY⟩ : ∃ Y, Y = jup R 199 (1 + b) (R 199 (1 + b) + M 44 d) := ⟨_, rfl⟩
      have r1 : ∀ p, p < n → R 199 (1 + p) = Q 38 p := fun p hp => by
        rw [hRR, jup_at, jup_nk (by omega), x199 _ (by omega), ← (lif_w h5 hp).2, q38]
        by_cases ep : p = a
        · rw [if_pos ⟨rfl, by omega⟩, if_pos ep]
        · rw [if_neg (by omega), if_neg ep]
      have y1 : ∀ p, p < n → Y 199 (1 + p) = Z 38 p := fun p hp => by
        rw [hY, jup_at, r1 p hp, r1 b hb, z38]
        by_cases ep : p = b
        · rw [if_pos ⟨rfl, by omega⟩, if_pos ep]
        · rw [if_neg (by omega), if_neg ep]
      have yo : ∀ o, o ≠ 199 → Y o = X2 o := fun o q => by rw [hY, jup_o q, hRR, jup_o q, jup_o q]
      have yZ : ∀ o, o ≠ 199 → o ≠ 198 → o ≠ 210 → Y o = Z o := fun o q1 q2 q3 => by rw [yo o q1, g2 o q2 q1, s o q3]
      have y199 : ∀ j, j ≠ 21 + 5 * d + 4 → (j = 0 ∨ 10 ≤ j) → Y 199 j = X2 199 j := fun j q1 q2 => by rw [hY, jup_nk (by omega), hRR, jup_nk (by omega), jup_nk (by omega)]
      refine ⟨Z 38 a, Z, Y, ?_, ?_, ?_⟩
      · rw [d1]
        simp only [Option.bind_some, get_40 hd8, get_42 hd8, get_44 hd8, bit_N (show d < 31 by omega), m40, m34, ea]
        rw [if_neg (by decide)]
        rw [← hP, pM 44 (by omega), m44, c_addg (show a < 9 by omega), pM 38 (by omega), m38, ← hQ]
        simp only [Option.bind_some]
        rw [qM 42 (by omega) (by omega), m42, eb, qM 44 (by omega) (by omega), m44, c_addg (show b < 9 by omega), ← hZ]
        simp only [Option.bind_some]
        rw [get_38 (show a < 9 by omega)]
        rfl
      · rw [e]
        unfold payT
        rw [g1]
        simp only [Option.bind_some, sa_199 (show 21 + 5 * d + 4 < 671 by omega), la_199 (show 1 + a < 671 by omega), sa_199 (show 1 + a < 671 by omega), la_199 (show 1 + b < 671 by omega), sa_199 (show 1 + b < 671 by omega)]
        rw [show jup X2 199 (21 + 5 * d + 4) 1 199 (1 + a) = M 38 a by rw [jup_nk (by omega), x199 _ (by omega), (lif_w h5 ha).2], ← hRR, ← hY, y1 a ha]
      · have yM : ∀ o, o ≠ 34 → o ≠ 38 → o ≠ 0 → ¬ (49 ≤ o ∧ o ≤ 152) → o ≠ 199 → o ≠ 198 → o ≠ 210 → Y o = M o := fun o q1 q2 q3 q4 q5 q6 q7 => by rw [yZ o q5 q6 q7, zM o q1 q2 q3 q4]
        have y34 : ∀ j, j ≠ 3 → Y 34 j = M 34 j := fun j hj => by rw [yZ 34 (by omega) (by omega) (by omega), z34 j hj]
        have y343 : Y 34 3 = M 34 3 ||| B d := by rw [yZ 34 (by omega) (by omega) (by omega), z343]
        refine g5 Y (fun o q1 q2 q3 => yo o q2) (fun j hj => y199 j (by omega) (by omega)) (lif_mk ?_ ?_ ?_ ?_ ?_)
        · rw [y34 0 (by omega), y199 0 (by omega) (by omega), x199 0 (by omega)]; exact h5.1
        · rw [y34 1 (by omega), y199 10 (by omega) (by omega), x199 10 (by omega)]; exact h5.2.1
        · refine ⟨D, hD8, by rw [y34 2 (by omega)]; exact dd1, by rw [y199 (0 + 20) (by omega) (by omega), x199 (0 + 20) (by omega)]; exact dd2, fun j hj => ?_, fun j hj => ?_⟩
          · rw [y343, or_bit (by omega), Bool.or_eq_true, decide_eq_true_iff] at hj
            rcases hj with hj | hj
            · exact dd3 j hj
            · omega
          · have q := dd4 j hj
            rw [Nat.zero_add] at q ⊢
            rw [y343, or_bit (by omega), yM (34 + 6) (by omega) (by omega) (by omega) (by omega) (by omega) (by omega) (by omega), yM (34 + 8) (by omega) (by omega) (by omega) (by omega) (by omega) (by omega) (by omega), yM (34 + 10) (by omega) (by omega) (by omega) (by omega) (by omega) (by omega) (by omega), yM (34 + 12) (by omega) (by omega) (by omega) (by omega) (by omega) (by omega) (by omega), y199 (21 + 5 * j) (by omega) (by omega), y199 (21 + 5 * j + 1) (by omega) (by omega), y199 (21 + 5 * j + 2) (by omega) (by omega), y199 (21 + 5 * j + 3) (by omega) (by omega), x199 (21 + 5 * j) (by omega), x199 (21 + 5 * j + 1) (by omega), x199 (21 + 5 * j + 2) (by omega), x199 (21 + 5 * j + 3) (by omega)]
            refine ⟨?_, q.2⟩
            by_cases ej : j = d
            · subst ej
              rw [decide_eq_true rfl, Bool.or_true, hY, jup_nk (by omega), hRR, jup_nk (by omega), jup_same]; rfl
            · rw [decide_eq_false ej, Bool.or_false, y199 (21 + 5 * j + 4) (by omega) (by omega), x199 (21 + 5 * j + 4) (by omega)]; exact q.1
        · intro p hp
          rw [yM 36 (by omega) (by omega) (by omega) (by omega) (by omega) (by omega) (by omega), yZ 38 (by omega) (by omega) (by omega), y1 p hp, y199 (11 + p) (by omega) (by omega), x199 (11 + p) (by omega)]
          exact ⟨(lif_w h5 hp).1, rfl⟩
        · rw [yM 36 (by omega) (by omega) (by omega) (by omega) (by omega) (by omega) (by omega)]
          exact h5.2.2.2.2
theorem blk_630 : Blk f217_630 := fun xs h18 i M hx hi hI => by
  obtain ⟨a, M1, M2, e1, e2, h2⟩ := t_pay (v := xs.getD (i + 1) 0) hI
  refine ⟨M2, h2, ?_⟩
  unfold f217_630 f217_1076
  rw [show (1 : Int32) = N 1 from rfl, show (5 : Int32) = N 5 from rfl]
  simp only [N_add, sc_at (show i + 1 < xs.length by omega) hx, Option.bind_some, e1, e2, if_true]
