/-! PURE: the reference: its cells, comets, counts, steps -/
theorem mp_0 : jpt 198 0 = 199 := by decide +kernel
theorem mp_2 : jpt 198 2 = 200 := by decide +kernel
theorem mp_3 : jpt 198 3 = 201 := by decide +kernel
theorem mp_5 : jpt 198 5 = 202 := by decide +kernel
theorem mp_8 : jpt 198 8 = 203 := by decide +kernel
theorem mp_9 : jpt 198 9 = 204 := by decide +kernel
theorem mp_10 : jpt 198 10 = 205 := by decide +kernel
theorem mp_11 : jpt 198 11 = 206 := by decide +kernel
theorem mp_12 : jpt 198 12 = 207 := by decide +kernel
theorem mp_14 : jpt 198 14 = 208 := by decide +kernel
theorem mp_15 : jpt 198 15 = 209 := by decide +kernel
theorem mp_23 : jpt 198 23 = 210 := by decide +kernel
theorem mp_24 : jpt 198 24 = 211 := by decide +kernel
theorem mp_25 : jpt 198 25 = 212 := by decide +kernel
theorem mp_26 : jpt 198 26 = 213 := by decide +kernel
theorem mp_28 : jpt 198 28 = 214 := by decide +kernel
theorem mp_29 : jpt 198 29 = 215 := by decide +kernel
theorem ml_199 : jlen jE0 199 = 671 := by decide +kernel
theorem ml_200 : jlen jE0 200 = 2 := by decide +kernel
theorem ml_201 : jlen jE0 201 = 160 := by decide +kernel
theorem ml_202 : jlen jE0 202 = 56 := by decide +kernel
theorem ml_203 : jlen jE0 203 = 9 := by decide +kernel
theorem ml_204 : jlen jE0 204 = 9 := by decide +kernel
theorem ml_205 : jlen jE0 205 = 9 := by decide +kernel
theorem ml_206 : jlen jE0 206 = 9 := by decide +kernel
theorem ml_207 : jlen jE0 207 = 9 := by decide +kernel
theorem ml_208 : jlen jE0 208 = 6 := by decide +kernel
theorem ml_209 : jlen jE0 209 = 6 := by decide +kernel
theorem ml_210 : jlen jE0 210 = 6 := by decide +kernel
theorem ml_211 : jlen jE0 211 = 512 := by decide +kernel
theorem ml_212 : jlen jE0 212 = 9 := by decide +kernel
theorem ml_213 : jlen jE0 213 = 32 := by decide +kernel
theorem ml_214 : jlen jE0 214 = 6 := by decide +kernel
theorem ml_215 : jlen jE0 215 = 6 := by decide +kernel
theorem la_199 {k : Nat} {M : JM} (h : k < 671) : jla 199 (N k) M = some (M 199 k) := jla_ok (by rw [ml_199]; exact h) (by omega)
theorem sa_199 {k : Nat} {v : Int32} {M : JM} (h : k < 671) : jsa 199 (N k) v M = some (jup M 199 k v) := jsa_ok (by rw [ml_199]; exact h) (by omega)
theorem la_200 {k : Nat} {M : JM} (h : k < 2) : jla 200 (N k) M = some (M 200 k) := jla_ok (by rw [ml_200]; exact h) (by omega)
theorem sa_200 {k : Nat} {v : Int32} {M : JM} (h : k < 2) : jsa 200 (N k) v M = some (jup M 200 k v) := jsa_ok (by rw [ml_200]; exact h) (by omega)
theorem la_201 {k : Nat} {M : JM} (h : k < 160) : jla 201 (N k) M = some (M 201 k) := jla_ok (by rw [ml_201]; exact h) (by omega)
theorem sa_201 {k : Nat} {v : Int32} {M : JM} (h : k < 160) : jsa 201 (N k) v M = some (jup M 201 k v) := jsa_ok (by rw [ml_201]; exact h) (by omega)
theorem la_202 {k : Nat} {M : JM} (h : k < 56) : jla 202 (N k) M = some (M 202 k) := jla_ok (by rw [ml_202]; exact h) (by omega)
theorem sa_202 {k : Nat} {v : Int32} {M : JM} (h : k < 56) : jsa 202 (N k) v M = some (jup M 202 k v) := jsa_ok (by rw [ml_202]; exact h) (by omega)
theorem la_203 {k : Nat} {M : JM} (h : k < 9) : jla 203 (N k) M = some (M 203 k) := jla_ok (by rw [ml_203]; exact h) (by omega)
theorem sa_203 {k : Nat} {v : Int32} {M : JM} (h : k < 9) : jsa 203 (N k) v M = some (jup M 203 k v) := jsa_ok (by rw [ml_203]; exact h) (by omega)
theorem la_204 {k : Nat} {M : JM} (h : k < 9) : jla 204 (N k) M = some (M 204 k) := jla_ok (by rw [ml_204]; exact h) (by omega)
theorem sa_204 {k : Nat} {v : Int32} {M : JM} (h : k < 9) : jsa 204 (N k) v M = some (jup M 204 k v) := jsa_ok (by rw [ml_204]; exact h) (by omega)
theorem la_205 {k : Nat} {M : JM} (h : k < 9) : jla 205 (N k) M = some (M 205 k) := jla_ok (by rw [ml_205]; exact h) (by omega)
theorem sa_205 {k : Nat} {v : Int32} {M : JM} (h : k < 9) : jsa 205 (N k) v M = some (jup M 205 k v) := jsa_ok (by rw [ml_205]; exact h) (by omega)
theorem la_206 {k : Nat} {M : JM} (h : k < 9) : jla 206 (N k) M = some (M 206 k) := jla_ok (by rw [ml_206]; exact h) (by omega)
theorem sa_206 {k : Nat} {v : Int32} {M : JM} (h : k < 9) : jsa 206 (N k) v M = some (jup M 206 k v) := jsa_ok (by rw [ml_206]; exact h) (by omega)
theorem la_207 {k : Nat} {M : JM} (h : k < 9) : jla 207 (N k) M = some (M 207 k) := jla_ok (by rw [ml_207]; exact h) (by omega)
theorem sa_207 {k : Nat} {v : Int32} {M : JM} (h : k < 9) : jsa 207 (N k) v M = some (jup M 207 k v) := jsa_ok (by rw [ml_207]; exact h) (by omega)
theorem la_208 {k : Nat} {M : JM} (h : k < 6) : jla 208 (N k) M = some (M 208 k) := jla_ok (by rw [ml_208]; exact h) (by omega)
theorem sa_208 {k : Nat} {v : Int32} {M : JM} (h : k < 6) : jsa 208 (N k) v M = some (jup M 208 k v) := jsa_ok (by rw [ml_208]; exact h) (by omega)
theorem la_209 {k : Nat} {M : JM} (h : k < 6) : jla 209 (N k) M = some (M 209 k) := jla_ok (by rw [ml_209]; exact h) (by omega)
theorem sa_209 {k : Nat} {v : Int32} {M : JM} (h : k < 6) : jsa 209 (N k) v M = some (jup M 209 k v) := jsa_ok (by rw [ml_209]; exact h) (by omega)
theorem la_210 {k : Nat} {M : JM} (h : k < 6) : jla 210 (N k) M = some (M 210 k) := jla_ok (by rw [ml_210]; exact h) (by omega)
theorem sa_210 {k : Nat} {v : Int32} {M : JM} (h : k < 6) : jsa 210 (N k) v M = some (jup M 210 k v) := jsa_ok (by rw [ml_210]; exact h) (by omega)
theorem la_211 {k : Nat} {M : JM} (h : k < 512) : jla 211 (N k) M = some (M 211 k) := jla_ok (by rw [ml_211]; exact h) (by omega)
theorem sa_211 {k : Nat} {v : Int32} {M : JM} (h : k < 512) : jsa 211 (N k) v M = some (jup M 211 k v) := jsa_ok (by rw [ml_211]; exact h) (by omega)
theorem la_212 {k : Nat} {M : JM} (h : k < 9) : jla 212 (N k) M = some (M 212 k) := jla_ok (by rw [ml_212]; exact h) (by omega)
theorem sa_212 {k : Nat} {v : Int32} {M : JM} (h : k < 9) : jsa 212 (N k) v M = some (jup M 212 k v) := jsa_ok (by rw [ml_212]; exact h) (by omega)
theorem la_213 {k : Nat} {M : JM} (h : k < 32) : jla 213 (N k) M = some (M 213 k) := jla_ok (by rw [ml_213]; exact h) (by omega)
theorem sa_213 {k : Nat} {v : Int32} {M : JM} (h : k < 32) : jsa 213 (N k) v M = some (jup M 213 k v) := jsa_ok (by rw [ml_213]; exact h) (by omega)
theorem la_214 {k : Nat} {M : JM} (h : k < 6) : jla 214 (N k) M = some (M 214 k) := jla_ok (by rw [ml_214]; exact h) (by omega)
theorem sa_214 {k : Nat} {v : Int32} {M : JM} (h : k < 6) : jsa 214 (N k) v M = some (jup M 214 k v) := jsa_ok (by rw [ml_214]; exact h) (by omega)
theorem la_215 {k : Nat} {M : JM} (h : k < 6) : jla 215 (N k) M = some (M 215 k) := jla_ok (by rw [ml_215]; exact h) (by omega)
theorem sa_215 {k : Nat} {v : Int32} {M : JM} (h : k < 6) : jsa 215 (N k) v M = some (jup M 215 k v) := jsa_ok (by rw [ml_215]; exact h) (by omega)
theorem lg_cs {x y : Int64} : (y < x ∧ lg_cmp x y = 1 ∧ ¬ x < y) ∨ (lg_cmp x y = 0 ∧ ¬ x < y ∧ ¬ y < x) ∨ (x < y ∧ lg_cmp x y = -1 ∧ ¬ y < x) := by
  unfold lg_cmp
  by_cases h : y < x
  · exact Or.inl ⟨h, if_pos h, fun q => by rw [Int64.lt_iff_toInt_lt] at h q; omega⟩
  · by_cases h2 : x = y
    · exact Or.inr (Or.inl ⟨by rw [if_neg h, if_pos h2], by rw [h2] at h ⊢; exact h, h⟩)
    · refine Or.inr (Or.inr ⟨?_, by rw [if_neg h, if_neg h2], h⟩)
      rw [Int64.lt_iff_toInt_lt] at h ⊢
      have h3 : x.toInt ≠ y.toInt := fun q => h2 (Int64.toInt_inj.mp q)
      omega
theorem lg_lt {x y : Int64} : lg_cmp x y < 0 ↔ x < y := by
  rcases lg_cs (x := x) (y := y) with ⟨_, e, h⟩ | ⟨e, h, _⟩ | ⟨h, e, _⟩
  · rw [e]; exact ⟨fun q => absurd q (by decide), fun q => absurd q h⟩
  · rw [e]; exact ⟨fun q => absurd q (by decide), fun q => absurd q h⟩
  · rw [e]; exact ⟨fun _ => h, fun _ => by decide⟩
theorem lg_gt {x y : Int64} : 0 < lg_cmp x y ↔ y < x := by
  rcases lg_cs (x := x) (y := y) with ⟨h, e, _⟩ | ⟨e, _, h⟩ | ⟨_, e, h⟩
  · rw [e]; exact ⟨fun _ => h, fun _ => by decide⟩
  · rw [e]; exact ⟨fun q => absurd q (by decide), fun q => absurd q h⟩
  · rw [e]; exact ⟨fun q => absurd q (by decide), fun q => absurd q h⟩
theorem i64_lt {x y : Int32} : x.toInt64 < y.toInt64 ↔ x < y := by
  rw [Int64.lt_iff_toInt_lt, Int32.lt_iff_toInt_lt, Int32.toInt_toInt64, Int32.toInt_toInt64]
theorem in_ok {x a b : Int32} : f125 x.toInt64 a.toInt64 b.toInt64 = some (b2 (!(decide (x < a)) && !(decide (b < x)))) := by
  unfold f125
  by_cases h1 : x < a
  · rw [if_pos (lg_lt.mpr (i64_lt.mpr h1)), decide_eq_true h1]; rfl
  · rw [if_neg (fun q => h1 (i64_lt.mp (lg_lt.mp q))), decide_eq_false h1]
    by_cases h2 : b < x
    · rw [if_pos (lg_gt.mpr (i64_lt.mpr h2)), decide_eq_true h2]; rfl
    · rw [if_neg (fun q => h2 (i64_lt.mp (lg_gt.mp q))), decide_eq_false h2]; rfl
theorem m_has {s : Int32} {k : Nat} (hk : k < 31) : f126 s (N k) = some (b2 (bt s k)) := by
  unfold f126
  rw [has_eq hk]
  cases bt s k <;> rfl
theorem m_ahead {a b : Nat} {M : JM} (ha : a < 6) (hb : b < 6) : f147 M 198 (N a) (N b) = some (b2 (ahd (M 209) a b)) := by
  unfold f147
  rw [mp_15, la_209 ha, la_209 hb]
  simp only [Option.bind_some]
  unfold ahd
  by_cases h1 : M 209 a < M 209 b
  · rw [if_pos h1, decide_eq_true h1]; rfl
  · rw [if_neg h1, decide_eq_false h1]
    by_cases h2 : M 209 a = M 209 b
    · rw [if_pos h2, decide_eq_true h2]
      by_cases h3 : a < b
      · rw [if_pos ((N_lt (by omega) (by omega)).mpr h3), decide_eq_true h3]; rfl
      · rw [if_neg (fun z => h3 ((N_lt (by omega) (by omega)).mp z)), decide_eq_false h3]; rfl
    · rw [if_neg h2, decide_eq_false h2]; rfl
def thr (x : Int32) (c : Nat) : Bool := !(decide (N c = x))
theorem m_there {c : Nat} {M : JM} : f148 M 198 (N c) = some (b2 (thr (M 198 22) c)) := by
  unfold f148 thr
  by_cases h : N c = M 198 22
  · rw [if_pos h, decide_eq_true h]; rfl
  · rw [if_neg h, decide_eq_false h]; rfl
theorem m_lat {k e : Nat} {M : JM} (hk : M 198 13 = N k) (hk6 : k ≤ 6) (he : e < 6) : f149 M 198 (N e) = some (oi (lat k (M 208) (M 209) (thr (M 198 22)) e)) := by
  unfold f149
  refine (loop_run (F := fun n c l => f149_4 M n 198 (N e) (oi l) (N c)) (K := k) (f := latF (M 208) (M 209) (thr (M 198 22)) e) (out := fun l => some (oi l)) (P := fun c l => ∀ j, l = some j → j < c) (fun n c l hc hl => ⟨?_, latF_lt hl⟩) (fun n l hl => ?_) k 0 none 1000 (by omega) (by omega) (fun j hj => by cases hj)).1
  · show f149_4 M (n + 1) 198 (N e) (oi l) (N c) = f149_4 M n 198 (N e) (oi (latF (M 208) (M 209) (thr (M 198 22)) e c l)) (N (c + 1))
    rw [f149_4, hk, if_pos ((N_lt (by omega) (by omega)).mpr hc), m_there, mp_14, la_208 (show c < 6 by omega), m_ahead (show c < 6 by omega) he]
    unfold latF f149_43 f149_44 f149_69 f149_65 f149_70
    simp only [Option.bind_some, N_succ, b2_0]
    cases h0 : thr (M 198 22) c with
    | false => rfl
    | true =>
      simp only [Bool.true_and]
      by_cases h1 : M 208 c = 3
      · rw [if_pos h1, decide_eq_true h1]; rfl
      · rw [if_neg h1, decide_eq_false h1]
        cases h2 : ahd (M 209) c e with
        | false => rfl
        | true =>
          cases l with
          | none => rfl
          | some j =>
            have hj := hl j rfl
            show (if true = false then _ else if true = false then _ else if (1 : Int32) = 0 then _ else if N j = -1 then _ else (f147 M 198 (N j) (N c)).bind _) = _
            rw [if_neg (by decide), if_neg (by decide), if_neg (by decide), if_neg (N_m1 (by omega)), m_ahead (by omega) (by omega)]
            simp only [Option.bind_some, b2_0, Bool.not_false, Bool.true_and]
            cases h3 : ahd (M 209) j c <;> rfl
  · show f149_4 M (n + 1) 198 (N e) (oi l) (N k) = some (oi l)
    rw [f149_4, hk, if_neg (fun q => Nat.lt_irrefl _ ((N_lt (by omega) (by omega)).mp q))]
theorem oi_eq {l : Option Nat} {c : Nat} (hl : ∀ j, l = some j → j < 100) (hc : c < 100) : oi l = N c ↔ l = some c := by
  cases l with
  | none => exact ⟨fun q => absurd q.symm (N_m1 (by omega)), fun q => by cases q⟩
  | some j =>
    show N j = N c ↔ _
    rw [N_eq (by have := hl j rfl; omega) (by omega)]
    exact ⟨fun q => by rw [q], fun q => by cases q; rfl⟩
theorem jbo_150 {b : Bool} : jbo 150 (b2 b) = some (b2 b) := by cases b <;> rfl
theorem m_canc {k c : Nat} {M : JM} (hk : M 198 13 = N k) (hk6 : k ≤ 6) (hc6 : c < 6) : f150 M 198 (N c) = some (b2 (canc k (M 208) (M 209) (thr (M 198 22)) c)) := by
  unfold f150
  refine (loop_run (F := fun n e b => f150_4 M n 198 (N c) (b2 b) (N e)) (K := k) (f := cancF k (M 208) (M 209) (thr (M 198 22)) c) (out := fun b => some (b2 b)) (P := fun _ _ => True) (fun n e b he _ => ⟨?_, trivial⟩) (fun n b _ => ?_) k 0 false 1000 (by omega) (by omega) trivial).1
  · show f150_4 M (n + 1) 198 (N c) (b2 b) (N e) = f150_4 M n 198 (N c) (b2 (cancF k (M 208) (M 209) (thr (M 198 22)) c e b)) (N (e + 1))
    rw [f150_4, hk, if_pos ((N_lt (by omega) (by omega)).mpr he), m_there, mp_14, la_208 (show e < 6 by omega), m_lat hk hk6 (show e < 6 by omega)]
    unfold cancF f150_43 f150_47 f150_48
    simp only [Option.bind_some, N_succ, b2_0]
    cases b with
    | true => rfl
    | false =>
      simp only [Bool.false_or, if_true]
      cases h0 : thr (M 198 22) e with
      | false => rfl
      | true =>
        simp only [Bool.true_and]
        by_cases h1 : M 208 e = 3
        · rw [if_pos h1, decide_eq_true h1]
          have ho := oi_eq (l := lat k (M 208) (M 209) (thr (M 198 22)) e) (c := c) (fun j hj => by have := lat_lt hj; omega) (by omega)
          by_cases h2 : lat k (M 208) (M 209) (thr (M 198 22)) e = some c
          · rw [if_pos (ho.mpr h2), decide_eq_true h2]; rfl
          · rw [if_neg (fun q => h2 (ho.mp q)), decide_eq_false h2]; rfl
        · rw [if_neg h1, decide_eq_false h1]; rfl
  · show f150_4 M (n + 1) 198 (N c) (b2 b) (N k) = some (b2 b)
    rw [f150_4, hk, if_neg (fun q => Nat.lt_irrefl _ ((N_lt (by omega) (by omega)).mp q)), jbo_150]
theorem m_see {v : Int32} {b : Bool} : f151 v (b2 b) = some (b2 (see v b)) := by
  unfold f151 f151_13 see
  by_cases h0 : v = 0
  · subst h0; cases b <;> rfl
  · by_cases h1 : v = 1
    · subst h1; cases b <;> rfl
    · by_cases h2 : v = 2
      · subst h2; cases b <;> rfl
      · rw [if_neg h0, if_neg h1, if_neg h2, decide_eq_false h0, decide_eq_false h1, decide_eq_false h2]; rfl
theorem m_sees {k p c : Nat} {M : JM} (hk : M 198 13 = N k) (hk6 : k ≤ 6) (hc6 : c < 6) (hp : p < 9) : f152 M 198 (N p) (N c) = some (b2 (sees k (M 208) (M 209) (thr (M 198 22)) (decide (M 203 p = 1)) c)) := by
  unfold f152
  rw [m_there, mp_14, mp_8, la_208 hc6, la_203 hp]
  unfold sees f152_29
  simp only [Option.bind_some, b2_0, m_canc hk hk6 hc6]
  cases h0 : thr (M 198 22) c with
  | false => rfl
  | true =>
    simp only [Bool.true_and]
    have fin : ∀ b : Bool, (f151 (M 208 c) (b2 b)).bind (fun v6 => if v6 = 0 then some (0 : Int32) else if canc k (M 208) (M 209) (thr (M 198 22)) c = false then some 1 else some 0) = some (b2 (see (M 208 c) b && !(canc k (M 208) (M 209) (thr (M 198 22)) c))) := by
      intro b
      rw [m_see]
      simp only [Option.bind_some, b2_0]
      cases see (M 208 c) b with
      | false => rfl
      | true => cases canc k (M 208) (M 209) (thr (M 198 22)) c <;> rfl
    by_cases h1 : M 203 p = 1
    · rw [if_neg (by decide), if_pos h1, decide_eq_true h1]; exact fin true
    · rw [if_neg (by decide), if_neg h1, decide_eq_false h1]; exact fin false
