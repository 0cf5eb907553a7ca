/-! PURE: truths, truth -/
theorem inv_208 {M Y : JM} {n k : Nat} (h1 : Ctr M 4 n k) (h2 : Agr M 4 n k) (h3 : Rng M n k) (h4 : M 198 22 = -1) (h5 : Lif M 34 0 n) (h6 : Fst M n) (h7 : Txt M) (h8 : Und M n) (h9 : Kep M n) (r : ∀ o j, ¬ sck o j → o ≠ 208 → Y o j = M o j) (r2 : ∀ c, c < k → Y 208 c = M 208 c) : Inv Y := by
  have w : ∀ o, (∀ j, ¬ sck o j) → o ≠ 208 → Y o = M o := fun o a b => funext (fun j => r o j (a j) b)
  have w4 : ∀ o, 4 ≤ o ∧ o ≤ 18 → Y o = M o := fun o ho => w o (fun j => by unfold sck; omega) (by omega)
  have f : ∀ j, j ≤ 5 ∨ (7 ≤ j ∧ j ≤ 16) ∨ (22 ≤ j ∧ j ≤ 29) → Y 198 j = M 198 j := fun j hj => r 198 j (by unfold sck; omega) (by omega)
  refine ⟨n, k, ctr_fr (fun o ho => w4 o ho) h1, ?_, rng_fr (fun o ho => w4 o ho) h3, by rw [f 22 (by omega)]; exact h4, lif_fr (fun o ho => w o (fun j => by unfold sck; omega) (by omega)) h5, fst_fr (fun o ho => by
    by_cases e : o = 182
    · subst e; exact w 182 (fun j => by unfold sck; omega) (by omega)
    · exact w o (fun j => by unfold sck; omega) (by omega)) (f 27 (by omega)) (r 181 0 (by unfold sck; omega) (by omega)) h6, txt_fr (fun o ho => w o (fun j => by unfold sck; omega) (by omega)) (f 4 (by omega)) (r 1 1 (by unfold sck; omega) (by omega)) h7, und_fr (fun o ho => w o (fun j => by unfold sck; omega) (by omega)) (f 1 (by omega)) (r 0 5 (by unfold sck; omega) (by omega)) (r 0 6 (by unfold sck; omega) (by omega)) h8, kep_fr (fun o ho => w o (fun j => by unfold sck; omega) (by omega)) (r 0 8 (by unfold sck; omega) (by omega)) h9⟩
  obtain ⟨g1, g2, g3, g4, g5, g6, g7, g8, g9, g10⟩ := h2
  have w2 : ∀ o, (203 ≤ o ∧ o ≤ 207) ∨ o = 209 → Y o = M o := fun o ho => w o (fun j => by unfold sck; omega) (by omega)
  refine ⟨by rw [f 7 (by omega)]; exact g1, by rw [f 13 (by omega)]; exact g2, by rw [f 16 (by omega), w4 4 (by omega)]; exact g3, fun p hp => ?_, fun p hp => ?_, fun p hp => ?_, fun p hp => ?_, fun p hp => ?_, fun c hc => ?_, fun c hc => ?_⟩
  · rw [w4 (4 + 2) (by omega), w2 203 (by omega)]; exact g4 p hp
  · rw [w4 (4 + 4) (by omega), w2 204 (by omega)]; exact g5 p hp
  · rw [w4 (4 + 6) (by omega), w2 205 (by omega)]; exact g6 p hp
  · rw [w4 (4 + 8) (by omega), w2 206 (by omega)]; exact g7 p hp
  · rw [w4 (4 + 10) (by omega), w2 207 (by omega)]; exact g8 p hp
  · rw [w4 (4 + 12) (by omega), r2 c hc]; exact g9 c hc
  · rw [w4 (4 + 14) (by omega), w2 209 (by omega)]; exact g10 c hc
theorem both_truths {M : JM} (h : Inv M) : ∃ n k ok kw all X Z, Ctr M 4 n k ∧ Agr M 4 n k ∧ k ≤ 6 ∧ all < 730 ∧ f120 0 M = some X ∧ Same M X ∧ X 181 6 = N (tcn ok all).1 ∧ ((tcn ok all).1 ≠ 0 → ∀ c, c < k → X 193 c = kw (tcn ok all).2 c) ∧ (∃ S, f32 X 181 = some S ∧ ∀ c, bt S c = (decide (c < k) && tsm ok kw c all)) ∧ f199 198 X = some Z ∧ Inv Z ∧ Z 198 30 = N (tcn ok all).1 ∧ (∀ c, bt (Z 198 31) c = (decide (c < k) && tsm ok kw c all)) ∧ ((tcn ok all).1 ≠ 0 → ∀ c, c < k → Z 215 c = kw (tcn ok all).2 c) := by
  obtain ⟨n, k, h1, h2, h3, h4, h5, h6, h7, h8, h9⟩ := h
  have hk6 := h1.2.2.2.1
  have h6' := h6
  obtain ⟨q, q8, q1, q2, q3⟩ := h6'
  have hfe : ∀ i, i < q → (∃ a b, a < n ∧ b < n ∧ a ≠ b ∧ M 183 i = N a ∧ M 185 i = N b) ∧ rng 2 (M 189 i) := fun i hi => ⟨(q3 i hi).2.2.2.2.1, (q3 i hi).2.2.2.2.2.2⟩
  obtain ⟨E, X, e1, sX, xM, hCb, hX⟩ := c_weigh h1 h2 hfe q8 q1
  have xr : ∀ o, 198 ≤ o → X o = M o := fun o a => xM o (by omega) (by omega) (by omega) (by omega) (by omega)
  have hRX : Rfk X n k := rfk_eq (fun o ho => xr o (by omega)) (by rw [xr 198 (by omega)]) (by rw [xr 198 (by omega)]) (rfk_of h1 h2)
  have hF : Fea X n q (fA M) (fB M) (M 187) (M 189) := by
    refine ⟨by rw [xr 198 (by omega)]; exact q2, q8, fun f hf => ?_⟩
    obtain ⟨g1, g2, g3, g4, ⟨a, b, ha, hb, _, ea, eb⟩, _⟩ := q3 f hf
    have eA : fA M f = a := by unfold fA; rw [ea, N_nat (by have := h1.2.1; omega)]
    have eB : fB M f = b := by unfold fB; rw [eb, N_nat (by have := h1.2.1; omega)]
    rw [xr 213 (by omega), eA, eB, ← g1, ← g2, ← g3, ← g4]
    exact ⟨ea, eb, rfl, rfl, ha, hb⟩
  obtain ⟨Z, m1, m2, m3, m4, m5, m6, m7⟩ := m_truths (M := X) (A := fA M) (F := fB M) (Y := M 187) (I := M 189) hRX (by rw [xr 198 (by omega)]; exact h4) hF
  have ekw : kwM X k = kwM M k := by
    unfold kwM
    rw [xr 208 (by omega)]
  have eok : okV X n k q (fA M) (fB M) (M 187) (M 189) = okV M n k q (fA M) (fB M) (M 187) (M 189) := by
    unfold okV kinV
    rw [ekw, xr 203 (by omega), xr 204 (by omega), xr 205 (by omega), xr 206 (by omega), xr 209 (by omega)]
  rw [eok, xr 208 (by omega)] at m4
  rw [eok, ekw, xr 208 (by omega)] at m5
  rw [eok, ekw, xr 208 (by omega)] at m6
  obtain ⟨S, s1, s2⟩ := c_always (M := M) (k := k) (ok := okV M n k q (fA M) (fB M) (M 187) (M 189)) (X := X) (all := wys (fun c => decide (M 208 c = 3)) k) hk6 (by rw [hX.2.2.1 9 (by omega)]; exact hCb.2.2.2.2.2.1) hX.2.2.2.2.2.1
  refine ⟨n, k, okV M n k q (fA M) (fB M) (M 187) (M 189), kwM M k, wys (fun c => decide (M 208 c = 3)) k, X, Z, h1, h2, hk6, wys_729 hk6, e1, sX, hX.2.2.2.1, hX.2.2.2.2.1, ⟨S, s1, s2⟩, m1, ?_, m4, m5, m6⟩
  refine inv_208 h1 h2 h3 h4 h5 h6 h7 h8 h9 (fun o j a b => ?_) (fun c hc => by rw [m7 c hc, xr 208 (by omega)])
  by_cases e198 : o = 198
  · subst e198
    rw [m3 j (fun z => a (by unfold sck; omega)) (fun z => a (by unfold sck; omega)), xr 198 (by omega)]
  · rw [m2 o e198 b (fun z => a (by unfold sck; omega)) (fun z => a (by unfold sck; omega)) (fun z => a (by unfold sck; omega))]
    exact sX o j a
theorem t_truths {M : JM} {w : Int32} (h : Inv M) : Two (f95 0 w) (f200 198 w) M := by
  obtain ⟨n, k, ok, kw, all, X, Z, h1, h2, hk6, hall, e1, sX, x6, x193, ⟨S, s1, s2⟩, m1, m2, m3, m4, m5⟩ := both_truths h
  unfold Two f95 f200
  rw [in_k, xp_9]
  simp only [Option.bind_some, b2_0]
  by_cases w0 : w < 0
  · rw [if_pos w0, decide_eq_true w0]; exact ⟨-3, M, M, rfl, rfl, h⟩
  · rw [if_neg w0, decide_eq_false w0]
    by_cases w1 : (1 : Int32) < w
    · rw [if_pos w1, decide_eq_true w1]; exact ⟨-3, M, M, rfl, rfl, h⟩
    · rw [if_neg w1, decide_eq_false w1]
      simp only [Bool.not_false, Bool.and_self, Bool.true_eq_false, if_false]
      have eS : S = Z 198 31 := bt_ext (fun c _ => by rw [s2, m4])
      refine ⟨if w = 0 then N (tcn ok all).1 else S, X, Z, ?_, ?_, m2⟩
      · rw [e1, Option.bind_some]
        by_cases hw : w = 0
        · rw [if_pos hw, if_pos hw, x6]
        · rw [if_neg hw, if_neg hw, s1]; rfl
      · rw [m1, Option.bind_some, m3, ← eS]
        by_cases hw : w = 0
        · rw [if_pos hw, if_pos hw]
        · rw [if_neg hw, if_neg hw]
theorem t_truth {M : JM} {v : Int32} (h : Inv M) : Two (f96 0 v) (f201 198 v) M := by
  obtain ⟨n, k, ok, kw, all, X, Z, h1, h2, hk6, hall, e1, sX, x6, x193, _, m1, m2, m3, m4, m5⟩ := both_truths h
  have k1 : X 198 13 = N k := by rw [sX 198 13 (by unfold sck; omega)]; exact h2.2.1
  unfold Two f96 f201
  rw [xp_1, xp_9, c_comet h1.2.2.1]
  simp only [Option.bind_some, b2_0]
  cases hv : isN k v with
  | false =>
    refine ⟨-2, M, M, rfl, ?_, h⟩
    rw [m_comet h2.2.1 (by omega), hv]; rfl
  | true =>
    obtain ⟨c, hc, rfl⟩ := isN_t (by omega) hv
    have hle := tcn_le (ok := ok) all
    simp only [Bool.true_eq_false, if_false]
    refine ⟨if (tcn ok all).1 = 0 then -1 else kw (tcn ok all).2 c, X, Z, ?_, ?_, m2⟩
    · rw [e1, Option.bind_some, x6]
      by_cases h0 : (tcn ok all).1 = 0
      · rw [if_pos (show N (tcn ok all).1 = 0 by rw [h0]; rfl), if_pos h0]
      · rw [if_neg (show ¬ N (tcn ok all).1 = (0 : Int32) from fun z => h0 ((N_eq (b := 0) (by omega) (by omega)).mp z)), if_neg h0, get_in row_ft (show c < 6 by omega), Option.bind_some, x193 h0 c hc]
    · rw [m_comet k1 (by omega), hv, m1, mp_29]
      simp only [Option.bind_some, b2_0, Bool.true_eq_false, if_false]
      rw [m3]
      by_cases h0 : (tcn ok all).1 = 0
      · rw [if_pos (show N (tcn ok all).1 = 0 by rw [h0]; rfl), if_pos h0]
      · rw [if_neg (show ¬ N (tcn ok all).1 = (0 : Int32) from fun z => h0 ((N_eq (b := 0) (by omega) (by omega)).mp z)), if_neg h0, la_215 (show c < 6 by omega), Option.bind_some, m5 h0 c hc]
theorem blk_953 : Blk f217_953 := fun xs h18 i M hx hi hI => by
  obtain ⟨a, M1, M2, e1, e2, h2⟩ := t_truths (w := xs.getD (i + 1) 0) hI
  refine ⟨M2, h2, ?_⟩
  unfold f217_953 f217_1076
  rw [show (1 : Int32) = N 1 from rfl, show (5 : Int32) = N 5 from rfl]
  simp only [N_add, sc_at (show i + 1 < xs.length by omega) hx, Option.bind_some, e1, e2, if_true]
theorem blk_976 : Blk f217_976 := fun xs h18 i M hx hi hI => by
  obtain ⟨a, M1, M2, e1, e2, h2⟩ := t_truth (v := xs.getD (i + 1) 0) hI
  refine ⟨M2, h2, ?_⟩
  unfold f217_976 f217_1076
  rw [show (1 : Int32) = N 1 from rfl, show (5 : Int32) = N 5 from rfl]
  simp only [N_add, sc_at (show i + 1 < xs.length by omega) hx, Option.bind_some, e1, e2, if_true]
