/-! PURE: die -/
def bwd (W : Nat → Int32) (a p : Nat) : Int32 := if p = a then -1 else if W a = N p then -1 else W p
theorem bwd_wed {W : Nat → Int32} {n a : Nat} (hn : n ≤ 9) (ha : a < n) (h : wedP W n) : wedP (bwd W a) n := by
  intro p hp
  unfold bwd
  by_cases e1 : p = a
  · exact Or.inl (if_pos e1)
  · by_cases e2 : W a = N p
    · exact Or.inl (by rw [if_neg e1, if_pos e2])
    · rcases h p hp with q | ⟨q, hq, hqp, q1, q2⟩
      · exact Or.inl (by rw [if_neg e1, if_neg e2]; exact q)
      · have n1 : q ≠ a := fun z => e2 (by rw [← z]; exact q2)
        have n2 : ¬ W a = N q := fun z => by
          rcases h a ha with r | ⟨r, hr, _, r1, r2⟩
          · exact N_m1 (k := q) (by omega) (z.symm.trans r)
          · have : r = q := (N_eq (by omega) (by omega)).mp (r1.symm.trans z)
            rw [this] at r2
            exact e1 ((N_eq (by omega) (by omega)).mp (q2.symm.trans r2))
        exact Or.inr ⟨q, hq, hqp, by rw [if_neg e1, if_neg e2]; exact q1, by rw [if_neg n1, if_neg n2]; exact q2⟩
def hdie (M : JM) (a : Nat) : Int32 := if M 36 a = -1 then 0 else if M 6 (M 36 a).toNatClampNeg = 2 then M 38 a / 2 else 0
def gdie (M : JM) (a p : Nat) : Int32 := if p = a then 0 else if M 36 a = N p then M 38 p + hdie M a else M 38 p
theorem jdv_2 {x : Int32} : jdv x (2 : Int32) = some (x / 2) := rfl
theorem c_die1 {M X : JM} {a : Nat} (ha : a < 9) (hs : M 36 a = -1 ∨ ∃ q, q < 9 ∧ q ≠ a ∧ M 36 a = N q) (x6 : X 6 = M 6) (x34 : X 34 = M 34) (x36 : X 36 = M 36) (x38 : X 38 = M 38) : ∃ K, ((f42 X (jpt 34 5) (N a)).bind fun v8 => ((f42 X (jpt 34 4) (N a)).bind fun v9 => ((f40 34 (N a) X).bind fun M10 => ((f42 M10 (jpt 4 3) v9).bind fun v11 => (if v11 = (2 : Int32) then ((jdv v8 (2 : Int32)).bind fun v13 => ((f38 34 v9 v13 M10).bind fun M14 => ((jdv v8 (2 : Int32)).bind fun v15 => (f81_120 0 (N a) (v8 - v15) M14)))) else (f81_120 0 (N a) v8 M10)))))) = f81_120 0 (N a) (M 38 a - hdie M a) K ∧ (∀ o, o ≠ 34 → o ≠ 36 → o ≠ 38 → K o = X o) ∧ (∀ j, j ≠ 1 → K 34 j = M 34 j) ∧ K 34 1 = M 34 1 &&& (B a ^^^ (-1 : Int32)) ∧ (∀ p, p < 9 → K 36 p = bwd (M 36) a p) ∧ (∀ p, p < 9 → K 38 p = gdie M a p) := by
  rw [get_38 ha, get_36 ha]
  unfold f40
  rw [bit_N (by omega)]
  simp only [Option.bind_some, x34]
  obtain ⟨P, hP⟩ : ∃ P, P = jup X 34 1 (M 34 1 &&& (B a ^^^ (-1 : Int32))) := ⟨_, rfl⟩
  rw [← hP, get_36 ha]
  have p36 : P 36 = M 36 := by rw [hP, jup_o (by decide), x36]
  have p38 : P 38 = M 38 := by rw [hP, jup_o (by decide), x38]
  have p34 : ∀ j, j ≠ 1 → P 34 j = M 34 j := fun j hj => by rw [hP, jup_nk (by omega), x34]
  have p341 : P 34 1 = M 34 1 &&& (B a ^^^ (-1 : Int32)) := by rw [hP, jup_same]
  have po : ∀ o, o ≠ 34 → P o = X o := fun o ho => by rw [hP, jup_o ho]
  simp only [Option.bind_some, p36, x36, x38]
  rcases hs with hs | ⟨q, hq, hqa, hs⟩
  · have e1 : hdie M a = 0 := by unfold hdie; rw [if_pos hs]
    have e2 : ∀ p, p < 9 → ¬ M 36 a = N p := fun p hp q => N_m1 (k := p) (by omega) (q.symm.trans hs)
    rw [hs, set_neg (show (-1 : Int32) < 0 by decide)]
    simp only [Option.bind_some, set_36 ha, set_38 ha]
    rw [get_neg (show (-1 : Int32) < 0 by decide), e1, Int32.sub_zero]
    refine ⟨jup (jup P 36 a (-1)) 38 a 0, rfl, fun o q1 q2 q3 => by rw [jup_o q3, jup_o q2, po o q1], fun j hj => by rw [jup_o (by decide), jup_o (by decide), p34 j hj], by rw [jup_o (by decide), jup_o (by decide), p341], fun p hp => ?_, fun p hp => ?_⟩
    · rw [jup_o (by decide), jup_at, p36]
      unfold bwd
      by_cases ep : p = a
      · rw [if_pos ⟨rfl, ep⟩, if_pos ep]
      · rw [if_neg (fun z => ep z.2), if_neg ep, if_neg (e2 p hp)]
    · rw [jup_at, jup_o (by decide), p38]
      unfold gdie
      by_cases ep : p = a
      · rw [if_pos ⟨rfl, ep⟩, if_pos ep]
      · rw [if_neg (fun z => ep z.2), if_neg ep, if_neg (e2 p hp)]
  · have e2 : ∀ p, p < 9 → (M 36 a = N p ↔ p = q) := fun p hp => by
      rw [hs, N_eq (by omega) (by omega)]
      exact ⟨Eq.symm, Eq.symm⟩
    have e1 : hdie M a = if M 6 q = 2 then M 38 a / 2 else 0 := by
      unfold hdie
      rw [hs, if_neg (N_m1 (by omega)), N_nat (by omega)]
    rw [hs]
    simp only [Option.bind_some, set_36 hq, set_36 ha, set_38 ha]
    obtain ⟨K, hK⟩ : ∃ K, K = jup (jup (jup P 36 q (-1)) 36 a (-1)) 38 a 0 := ⟨_, rfl⟩
    rw [← hK, get_in cok_4.1 hq]
    have ko : ∀ o, o ≠ 34 → o ≠ 36 → o ≠ 38 → K o = X o := fun o q1 q2 q3 => by rw [hK, jup_o q3, jup_o q2, jup_o q2, po o q1]
    have k34 : ∀ j, K 34 j = P 34 j := fun j => by rw [hK, jup_o (by decide), jup_o (by decide), jup_o (by decide)]
    have k36 : ∀ p, p < 9 → K 36 p = bwd (M 36) a p := fun p hp => by
      rw [hK, jup_o (by decide), jup_at, jup_at, p36]
      unfold bwd
      by_cases ep : p = a
      · rw [if_pos ⟨rfl, ep⟩, if_pos ep]
      · rw [if_neg (fun z => ep z.2), if_neg ep]
        by_cases eq : p = q
        · rw [if_pos ⟨rfl, eq⟩, if_pos ((e2 p hp).mpr eq)]
        · rw [if_neg (fun z => eq z.2), if_neg (fun z => eq ((e2 p hp).mp z))]
    have k38 : ∀ p, K 38 p = if p = a then 0 else M 38 p := fun p => by
      rw [hK, jup_at, jup_o (by decide), jup_o (by decide), p38]
      simp only [true_and]
    rw [show K (4 + 2) = M 6 by rw [show 4 + 2 = 6 from rfl, ko 6 (by decide) (by decide) (by decide), x6]]
    simp only [Option.bind_some, jdv_2]
    by_cases ew : M 6 q = 2
    · rw [if_pos ew] at e1
      rw [if_pos ew, c_addg hq, e1]
      refine ⟨jup K 38 q (K 38 q + M 38 a / 2), rfl, fun o q1 q2 q3 => by rw [jup_o q3, ko o q1 q2 q3], fun j hj => by rw [jup_o (by decide), k34, p34 j hj], by rw [jup_o (by decide), k34, p341], fun p hp => by rw [jup_o (by decide), k36 p hp], fun p hp => ?_⟩
      rw [jup_at, k38, k38]
      unfold gdie
      by_cases eq : p = q
      · rw [if_pos ⟨rfl, eq⟩, if_neg hqa, if_neg (show ¬ p = a by rw [eq]; exact hqa), if_pos ((e2 p hp).mpr eq), e1, eq]
      · rw [if_neg (fun z => eq z.2), if_neg (fun z => eq ((e2 p hp).mp z))]
    · rw [if_neg ew] at e1
      rw [if_neg ew, e1, Int32.sub_zero]
      refine ⟨K, rfl, ko, fun j hj => by rw [k34, p34 j hj], by rw [k34, p341], k36, fun p hp => ?_⟩
      rw [k38]
      unfold gdie
      by_cases ep : p = a
      · rw [if_pos ep, if_pos ep]
      · rw [if_neg ep, if_neg ep, e1]
        by_cases eq : p = q
        · rw [if_pos ((e2 p hp).mpr eq), Int32.add_zero]
        · rw [if_neg (fun z => eq ((e2 p hp).mp z))]
theorem m_die1 {M X : JM} {a n : Nat} (hn : n ≤ 9) (ha : a < n) (hs : M 36 a = -1 ∨ ∃ q, q < n ∧ q ≠ a ∧ M 36 a = N q) (hk : ∀ q, q < n → M 6 q = X 203 q) (x10 : X 199 10 = M 34 1) (xw : ∀ p, p < n → X 199 (11 + p) = M 36 p) (xg : ∀ p, p < n → X 199 (1 + p) = M 38 p) : ∃ A, ((jla 199 (N (11 + a)) X).bind fun v10 => ((jla 199 (N (1 + a)) X).bind fun v11 => ((jla 199 (10 : Int32) X).bind fun v12 => ((jsa 199 (10 : Int32) (v12 &&& (((1 : Int32) <<< (N a &&& (31 : Int32))) ^^^ (-1 : Int32))) X).bind fun M13 => ((jsa 199 (N (1 + a)) (0 : Int32) M13).bind fun M14 => (if v10 = (-1 : Int32) then (f178_152 198 (N a) v11 M14) else ((jsa 199 (N (11 + a)) (-1 : Int32) M14).bind fun M26 => ((jsa 199 ((11 : Int32) + v10) (-1 : Int32) M26).bind fun M27 => ((jla 203 v10 M27).bind fun v28 => (if v28 = (2 : Int32) then ((jdv v11 (2 : Int32)).bind fun v30 => (f178_132 198 (N a) v10 v11 v30 M27)) else (f178_132 198 (N a) v10 v11 (0 : Int32) M27))))))))))) = f178_152 198 (N a) (M 38 a - hdie M a) A ∧ (∀ o, o ≠ 199 → A o = X o) ∧ (∀ j, j = 0 ∨ 20 ≤ j → A 199 j = X 199 j) ∧ A 199 10 = M 34 1 &&& (B a ^^^ (-1 : Int32)) ∧ (∀ p, p < n → A 199 (11 + p) = bwd (M 36) a p) ∧ (∀ p, p < n → A 199 (1 + p) = gdie M a p) := by
  simp only [la_199 (show 11 + a < 671 by omega), la_199 (show 1 + a < 671 by omega), la_10, sa_10, sa_199 (show 1 + a < 671 by omega), sa_199 (show 11 + a < 671 by omega), Option.bind_some, x10, xw a ha, xg a ha]
  rw [show ((1 : Int32) <<< (N a &&& (31 : Int32))) = B a from rfl]
  obtain ⟨P, hP⟩ : ∃ P, P = jup (jup X 199 10 (M 34 1 &&& (B a ^^^ (-1 : Int32)))) 199 (1 + a) 0 := ⟨_, rfl⟩
  rw [← hP]
  have po : ∀ o, o ≠ 199 → P o = X o := fun o ho => by rw [hP, jup_o ho, jup_o ho]
  have pj : ∀ j, j = 0 ∨ 20 ≤ j → P 199 j = X 199 j := fun j hj => by rw [hP, jup_nk (by omega), jup_nk (by omega)]
  have p10 : P 199 10 = M 34 1 &&& (B a ^^^ (-1 : Int32)) := by rw [hP, jup_nk (by omega), jup_same]
  have pw : ∀ p, p < n → P 199 (11 + p) = M 36 p := fun p hp => by rw [hP, jup_nk (by omega), jup_nk (by omega), xw p hp]
  have pg : ∀ p, p < n → P 199 (1 + p) = if p = a then 0 else M 38 p := fun p hp => by
    rw [hP, jup_at, jup_nk (by omega), xg p hp]
    by_cases ep : p = a
    · rw [if_pos ⟨rfl, by omega⟩, if_pos ep]
    · rw [if_neg (fun z => ep (by omega)), if_neg ep]
  rcases hs with hs | ⟨q, hq, hqa, hs⟩
  · have e1 : hdie M a = 0 := by unfold hdie; rw [if_pos hs]
    have e2 : ∀ p, p < n → ¬ M 36 a = N p := fun p hp q => N_m1 (k := p) (by omega) (q.symm.trans hs)
    rw [hs, if_pos rfl, e1, Int32.sub_zero]
    refine ⟨P, rfl, po, pj, p10, fun p hp => ?_, fun p hp => ?_⟩
    · rw [pw p hp]
      unfold bwd
      by_cases ep : p = a
      · rw [if_pos ep, ep]; exact hs
      · rw [if_neg ep, if_neg (e2 p hp)]
    · rw [pg p hp]
      unfold gdie
      rw [if_neg (e2 p hp)]
  · have e2 : ∀ p, p < n → (M 36 a = N p ↔ p = q) := fun p hp => by
      rw [hs, N_eq (by omega) (by omega)]
      exact ⟨Eq.symm, Eq.symm⟩
    have e1 : hdie M a = if M 6 q = 2 then M 38 a / 2 else 0 := by
      unfold hdie
      rw [hs, if_neg (N_m1 (by omega)), N_nat (by omega)]
    rw [hs, if_neg (N_m1 (by omega)), show (11 : Int32) + N q = N (11 + q) from N_add, sa_199 (show 11 + q < 671 by omega)]
    simp only [Option.bind_some, jdv_2]
    obtain ⟨Q, hQ⟩ : ∃ Q, Q = jup (jup P 199 (11 + a) (-1)) 199 (11 + q) (-1) := ⟨_, rfl⟩
    rw [← hQ, la_203 (show q < 9 by omega)]
    have qo : ∀ o, o ≠ 199 → Q o = X o := fun o ho => by rw [hQ, jup_o ho, jup_o ho, po o ho]
    have qj : ∀ j, j = 0 ∨ 20 ≤ j → Q 199 j = X 199 j := fun j hj => by rw [hQ, jup_nk (by omega), jup_nk (by omega), pj j hj]
    have q10 : Q 199 10 = M 34 1 &&& (B a ^^^ (-1 : Int32)) := by rw [hQ, jup_nk (by omega), jup_nk (by omega), p10]
    have qw : ∀ p, p < n → Q 199 (11 + p) = bwd (M 36) a p := fun p hp => by
      rw [hQ, jup_at, jup_at, pw p hp]
      unfold bwd
      by_cases eq : p = q
      · rw [if_pos ⟨rfl, by omega⟩, if_neg (show ¬ p = a by rw [eq]; exact hqa), if_pos ((e2 p hp).mpr eq)]
      · rw [if_neg (fun z => eq (by omega))]
        by_cases ep : p = a
        · rw [if_pos ⟨rfl, by omega⟩, if_pos ep]
        · rw [if_neg (fun z => ep (by omega)), if_neg ep, if_neg (fun z => eq ((e2 p hp).mp z))]
    have qg : ∀ p, p < n → Q 199 (1 + p) = if p = a then 0 else M 38 p := fun p hp => by rw [hQ, jup_nk (by omega), jup_nk (by omega), pg p hp]
    have key : ∀ hf : Int32, hdie M a = hf → ∃ A, f178_132 198 (N a) (N q) (M 38 a) hf Q = f178_152 198 (N a) (M 38 a - hdie M a) A ∧ (∀ o, o ≠ 199 → A o = X o) ∧ (∀ j, j = 0 ∨ 20 ≤ j → A 199 j = X 199 j) ∧ A 199 10 = M 34 1 &&& (B a ^^^ (-1 : Int32)) ∧ (∀ p, p < n → A 199 (11 + p) = bwd (M 36) a p) ∧ (∀ p, p < n → A 199 (1 + p) = gdie M a p) := by
      intro hf ehf
      unfold f178_132
      rw [mp_0, show (1 : Int32) + N q = N (1 + q) from N_add, la_199 (show 1 + q < 671 by omega)]
      simp only [Option.bind_some, sa_199 (show 1 + q < 671 by omega)]
      refine ⟨jup Q 199 (1 + q) (Q 199 (1 + q) + hf), by rw [ehf], fun o ho => by rw [jup_o ho, qo o ho], fun j hj => by rw [jup_nk (by omega), qj j hj], by rw [jup_nk (by omega), q10], fun p hp => by rw [jup_nk (by omega), qw p hp], fun p hp => ?_⟩
      rw [jup_at, qg p hp, qg q hq, if_neg hqa]
      unfold gdie
      by_cases eq : p = q
      · rw [if_pos ⟨rfl, by omega⟩, if_neg (show ¬ p = a by rw [eq]; exact hqa), if_pos ((e2 p hp).mpr eq), ehf, eq]
      · rw [if_neg (fun z => eq (by omega)), if_neg (fun z => eq ((e2 p hp).mp z))]
    rw [show Q 203 q = M 6 q by rw [qo 203 (by decide), hk q hq]]
    simp only [Option.bind_some]
    by_cases ew : M 6 q = 2
    · rw [if_pos ew]
      rw [if_pos ew] at e1
      exact key _ e1
    · rw [if_neg ew]
      rw [if_neg ew] at e1
      exact key _ e1
theorem dg_eq {M X : JM} {n k a b : Nat} {y : Int32} (r : ∀ o, 4 ≤ o ∧ o ≤ 18 → X o = M o) : dg X 4 n k a b y = dg M 4 n k a b y := by
  unfold dg lts
  rw [r 4 (by omega), r (4 + 4) (by omega), r (4 + 6) (by omega), r (4 + 8) (by omega), r (4 + 14) (by omega)]
theorem md_eq {M X : JM} {n k a b : Nat} {y : Int32} (r : ∀ o, 203 ≤ o ∧ o ≤ 209 → X o = M o) (f : X 198 22 = M 198 22) : md X n k a b y = md M n k a b y := by
  unfold md ltm
  rw [r 203 (by omega), r 204 (by omega), r 205 (by omega), r 206 (by omega), r 208 (by omega), r 209 (by omega), f]
theorem rfk_eq {M X : JM} {n k : Nat} (r : ∀ o, 203 ≤ o ∧ o ≤ 209 → X o = M o) (f : X 198 7 = M 198 7) (f2 : X 198 13 = M 198 13) (h : Rfk M n k) : Rfk X n k := by
  unfold Rfk at h ⊢
  rw [r 204 (by omega), r 205 (by omega), r 206 (by omega), f, f2]
  exact h
theorem bt_off {s : Int32} {a j : Nat} (ha : a < 31) (hj : j < 32) : bt (s &&& (B a ^^^ (-1 : Int32))) j = (bt s j && !(decide (j = a))) := by
  rw [bt_and, bt_not hj, bt_B ha]
theorem t_die {M : JM} {v : Int32} (h : Inv M) : Two (f81 0 v) (f178 198 v) M := by
  have hI := h
  obtain ⟨n, k, h1, h2, h3, h4, h5, h6, h7, h8, h9⟩ := h
  have hn9 : n ≤ 9 := h1.2.1
  have ey : M 199 0 = M 34 0 := h5.1.1.symm
  have el : M 199 10 = M 34 1 := h5.2.1.1.symm
  unfold Two f81 f178
  rw [xp_1, xp_3, mp_0, mp_8, mp_9, c_one h1.1]
  simp only [Option.bind_some, b2_0]
  cases hv : isN n v with
  | false =>
    refine ⟨-2, M, M, rfl, ?_, hI⟩
    rw [m_one h2.1 (by omega), hv]; rfl
  | true =>
    obtain ⟨a, ha, rfl⟩ := isN_t (by omega) hv
    have ha9 : a < 9 := by omega
    have hmo : ∀ X : JM, X 198 7 = N n → f159 X 198 (N a) = some (b2 true) := fun X hX => by rw [m_one hX (by omega), hv]
    rw [has_N (by omega), get_in cok_4.2.1 ha9]
    simp only [Option.bind_some, b2_0, Bool.true_eq_false, if_false]
    have eb : M 204 a = M 8 a := (h2.2.2.2.2.1 a ha).symm
    cases hl : bt (M 34 1) a with
    | false =>
      refine ⟨-4, M, M, rfl, ?_, hI⟩
      rw [hmo M h2.1, la_10, el]
      simp only [Option.bind_some, b2_0, Bool.true_eq_false, if_false, m_has (show a < 31 by omega), hl, if_true]
    | true =>
      simp only [Bool.true_eq_false, if_false]
      rw [show M (4 + 4) a = M 8 a from rfl]
      by_cases hy : M 34 0 < M 8 a
      · rw [if_pos hy]
        refine ⟨-4, M, M, rfl, ?_, hI⟩
        rw [hmo M h2.1, la_10, el, la_0, ey, la_204 ha9, eb]
        simp only [Option.bind_some, b2_0, Bool.true_eq_false, if_false, m_has (show a < 31 by omega), hl, hy, if_true]
      · rw [if_neg hy]
        obtain ⟨M1, d1, d2, d3⟩ := deed h1 h2 h3 h4 h5 h6 h7 h8 h9
        have hw : wedP (M 36) n := h5.2.2.2.2
        have hs9 : M 36 a = -1 ∨ ∃ q, q < 9 ∧ q ≠ a ∧ M 36 a = N q := by
          rcases hw a ha with q | ⟨q, hq, hqa, q1, _⟩
          · exact Or.inl q
          · exact Or.inr ⟨q, by omega, hqa, q1⟩
        have hsn : M 36 a = -1 ∨ ∃ q, q < n ∧ q ≠ a ∧ M 36 a = N q := by
          rcases hw a ha with q | ⟨q, hq, hqa, q1, _⟩
          · exact Or.inl q
          · exact Or.inr ⟨q, hq, hqa, q1⟩
        obtain ⟨K, k0, k1, k2, k3, k4, k5⟩ := c_die1 (M := M) (X := M1) ha9 hs9 (d2 6 (by omega) (by omega)) (d2 34 (by omega) (by omega)) (d2 36 (by omega) (by omega)) (d2 38 (by omega) (by omega))
        have kM : ∀ o, o ≠ 34 → o ≠ 36 → o ≠ 38 → o ≠ 0 → ¬ (49 ≤ o ∧ o ≤ 152) → K o = M o := fun o q1 q2 q3 q4 q5 => by rw [k1 o q1 q2 q3, d2 o q4 q5]
        have hCK : Ctr K 4 n k := ctr_fr (fun o ho => kM o (by omega) (by omega) (by omega) (by omega) (by omega)) h1
        obtain ⟨s, hsd⟩ : ∃ s, s = (hrs n (fun o => if bt (K 34 1) o = true then dg K 4 n k a o (K 34 0) else none)).2 := ⟨_, rfl⟩
        obtain ⟨Z, hZ⟩ : ∃ Z, Z = jad K 38 0 n (shr s (M 38 a - hdie M a)) := ⟨_, rfl⟩
        have zo : ∀ o, o ≠ 38 → Z o = K o := fun o ho => by rw [hZ, jad_o ho]
        have zM : ∀ o, o ≠ 34 → o ≠ 36 → o ≠ 38 → o ≠ 0 → ¬ (49 ≤ o ∧ o ≤ 152) → Z o = M o := fun o q1 q2 q3 q4 q5 => by rw [zo o q3, kM o q1 q2 q3 q4 q5]
        obtain ⟨X2, g1, g2, g3, g4, g5⟩ := d3 Z (fun o q1 q2 => by rw [zo o (by omega), k1 o (by omega) (by omega) (by omega)])
        have x199 : ∀ j, j < 183 → X2 199 j = M 199 j := fun j hj => by rw [g4 j hj, zM 199 (by omega) (by omega) (by omega) (by omega) (by omega)]
        have x20 : ∀ o, 203 ≤ o ∧ o ≤ 209 → X2 o = M o := fun o ho => by rw [g2 o (by omega) (by omega), zM o (by omega) (by omega) (by omega) (by omega) (by omega)]
        have x198 : ∀ j, j ≠ 1 → X2 198 j = M 198 j := fun j hj => by rw [g3 j hj, zM 198 (by omega) (by omega) (by omega) (by omega) (by omega)]
        obtain ⟨A, a0, a1, a2, a3, a4, a5⟩ := m_die1 (M := M) (X := X2) (a := a) hn9 ha hsn (fun q hq => by rw [x20 203 (by omega)]; exact h2.2.2.2.1 q hq) (by rw [x199 10 (by omega)]; exact el) (fun p hp => by rw [x199 _ (by omega), (lif_w h5 hp).1]) (fun p hp => by rw [x199 _ (by omega), (lif_w h5 hp).2])
        have a20 : ∀ o, 203 ≤ o ∧ o ≤ 209 → A o = M o := fun o ho => by rw [a1 o (by omega), x20 o ho]
        have a198 : ∀ j, j ≠ 1 → A 198 j = M 198 j := fun j hj => by rw [a1 198 (by omega), x198 j hj]
        have hRA : Rfk A n k := rfk_eq a20 (a198 7 (by omega)) (a198 13 (by omega)) (rfk_of h1 h2)
        have hna : bt (A 199 10) a = false := by rw [a3, bt_off (by omega) (by omega), decide_eq_true rfl]; simp
        have hsA : s = (hrs n (fun o => if bt (A 199 10) o = true then md A n k a o (A 199 0) else none)).2 := by
          rw [hsd]
          refine congrArg Prod.snd (hrs_congr (fun o ho => ?_))
          rw [k3, a3, k2 0 (by omega), a2 0 (by omega), x199 0 (by omega), ey, dg_eq (fun o ho => kM o (by omega) (by omega) (by omega) (by omega) (by omega)), md_eq a20 (a198 22 (by omega)), md_dg h1 h2 h4 ha ho]
        obtain ⟨X3, b0, b1⟩ := m_share (est := M 38 a - hdie M a) hRA ha hna hsA
        have cs := c_share (est := M 38 a - hdie M a) hCK ha hsd
        obtain ⟨Y, hY⟩ : ∃ Y, Y = jad X3 199 1 n (shr s (M 38 a - hdie M a)) := ⟨_, rfl⟩
        refine ⟨N (crd s 9), Z, Y, ?_, ?_, ?_⟩
        · rw [d1]
          simp only [Option.bind_some]
          rw [k0, cs, hZ]
        · rw [hmo Z (by rw [zM 198 (by omega) (by omega) (by omega) (by omega) (by omega)]; exact h2.1), la_10, zM 199 (by omega) (by omega) (by omega) (by omega) (by omega), el, la_0, zM 199 (by omega) (by omega) (by omega) (by omega) (by omega), ey, la_204 ha9, zM 204 (by omega) (by omega) (by omega) (by omega) (by omega), eb]
          simp only [Option.bind_some, b2_0, Bool.true_eq_false, if_false, m_has (show a < 31 by omega), hl, hy]
          rw [g1]
          simp only [Option.bind_some]
          rw [show (11 : Int32) + N a = N (11 + a) from N_add, show (1 : Int32) + N a = N (1 + a) from N_add, a0, b0, hY]
        · have yo : ∀ o, o ≠ 199 → o ≠ 210 → Y o = X2 o := fun o q1 q2 => by rw [hY, jad_o q1, b1 o q2, a1 o q1]
          have yZ : ∀ o, o ≠ 199 → o ≠ 198 → o ≠ 210 → Y o = Z o := fun o q1 q2 q3 => by rw [yo o q1 q3, g2 o q2 q1]
          have yM : ∀ o, o ≠ 34 → o ≠ 36 → o ≠ 38 → o ≠ 0 → ¬ (49 ≤ o ∧ o ≤ 152) → o ≠ 199 → o ≠ 198 → o ≠ 210 → Y o = M o := fun o q1 q2 q3 q4 q5 q6 q7 q8 => by rw [yZ o q6 q7 q8, zM o q1 q2 q3 q4 q5]
          have yA : ∀ j, ¬ (1 ≤ j ∧ j < 1 + n) → Y 199 j = A 199 j := fun j hj => by rw [hY, jad_out hj, b1 199 (by omega)]
          have yj : ∀ j, j = 0 ∨ 20 ≤ j → Y 199 j = X2 199 j := fun j hj => by rw [yA j (by omega), a2 j hj]
          have y34 : ∀ j, j ≠ 1 → Y 34 j = M 34 j := fun j hj => by rw [yZ 34 (by omega) (by omega) (by omega), zo 34 (by omega), k2 j hj]
          have y341 : Y 34 1 = M 34 1 &&& (B a ^^^ (-1 : Int32)) := by rw [yZ 34 (by omega) (by omega) (by omega), zo 34 (by omega), k3]
          have y36 : ∀ p, p < n → Y 36 p = bwd (M 36) a p := fun p hp => by rw [yZ 36 (by omega) (by omega) (by omega), zo 36 (by omega), k4 p (by omega)]
          have y38 : ∀ p, p < n → Y 38 p = gdie M a p + shr s (M 38 a - hdie M a) p := fun p hp => by
            have e := jad_in (M := K) (a := 38) (t := 0) (K := n) (g := shr s (M 38 a - hdie M a)) hp
            rw [Nat.zero_add] at e
            rw [yZ 38 (by omega) (by omega) (by omega), hZ, e, k5 p (by omega)]
          refine g5 Y (fun o q1 q2 q3 => yo o q2 q3) (fun j hj => yj j (by omega)) (lif_mk ?_ ?_ ?_ ?_ ?_)
          · rw [y34 0 (by omega), yj 0 (by omega), x199 0 (by omega)]; exact h5.1
          · rw [y341, yA 10 (by omega), a3]
            refine ⟨rfl, fun j hj => ?_⟩
            rw [bt_and, Bool.and_eq_true] at hj
            exact h5.2.1.2 j hj.1
          · exact lifD_eq h5.2.2.1 (y34 2 (by omega)) (y34 3 (by omega)) (fun q hq => yM q (by omega) (by omega) (by omega) (by omega) (by omega) (by omega) (by omega) (by omega)) (fun j q1 q2 => by rw [yj j (by omega), x199 j (by omega)])
          · intro p hp
            rw [y36 p hp, y38 p hp, yA (11 + p) (by omega), a4 p hp, hY, jad_in hp, b1 199 (by omega), a5 p hp]
            exact ⟨rfl, rfl⟩
          · intro p hp
            have e := bwd_wed hn9 ha hw p hp
            rw [y36 p hp]
            rcases e with e | ⟨q, hq, hqp, e1, e2⟩
            · exact Or.inl e
            · exact Or.inr ⟨q, hq, hqp, e1, by rw [y36 q hq]; exact e2⟩
theorem blk_531 : Blk f217_531 := fun xs h18 i M hx hi hI => by
  obtain ⟨a, M1, M2, e1, e2, h2⟩ := t_die (v := xs.getD (i + 1) 0) hI
  refine ⟨M2, h2, ?_⟩
  unfold f217_531 f217_1076
  rw [show (1 : Int32) = N 1 from rfl, show (5 : Int32) = N 5 from rfl]
  simp only [N_add, sc_at (show i + 1 < xs.length by omega) hx, Option.bind_some, e1, e2, if_true]
