/-! PURE: drafts of a country -/
def CCp (M X : JM) (s d : Nat) : Prop := (∀ k, k < 3 ∨ (10 ≤ k ∧ k < 14) → X d k = M s k) ∧ (∀ p, p < 9 → X (d + 2) p = M (s + 2) p ∧ X (d + 4) p = M (s + 4) p ∧ X (d + 6) p = M (s + 6) p ∧ X (d + 8) p = M (s + 8) p ∧ X (d + 10) p = M (s + 10) p) ∧ (∀ c, c < 6 → X (d + 12) c = M (s + 12) c ∧ X (d + 14) c = M (s + 14) c)
theorem c_ccpy {M : JM} {s d : Nat} (hd : Cok d) (hs : Cok s) (h : s + 15 ≤ d ∨ d + 15 ≤ s) : ∃ X, f1 d s M = some X ∧ (∀ o, ¬ (d ≤ o ∧ o ≤ d + 14) → X o = M o) ∧ CCp M X s d := by
  obtain ⟨d1, d2, d3, d4, d5, d6, d7⟩ := hd
  obtain ⟨s1, s2, s3, s4, s5, s6, s7⟩ := hs
  have r0 : jup M d 0 (M s 0) s = M s := jup_o (by omega)
  have r1 : jup (jup M d 0 (M s 0)) d 1 (M s 1) s = M s := by rw [jup_o (by omega), r0]
  obtain ⟨A, hA⟩ : ∃ A, A = jup (jup (jup M d 0 (M s 0)) d 1 (M s 1)) d 2 (M s 2) := ⟨_, rfl⟩
  have aO : ∀ o, o ≠ d → A o = M o := fun o ho => by rw [hA, jup_o ho, jup_o ho, jup_o ho]
  obtain ⟨C, hC⟩ : ∃ C, C = jcp (jcp (jcp (jcp (jcp (jcp (jcp A (d + 2) (s + 2) 9) (d + 4) (s + 4) 9) (d + 6) (s + 6) 9) (d + 8) (s + 8) 9) (d + 10) (s + 10) 9) (d + 12) (s + 12) 6) (d + 14) (s + 14) 6 := ⟨_, rfl⟩
  have cO : ∀ o, o ≠ d + 2 → o ≠ d + 4 → o ≠ d + 6 → o ≠ d + 8 → o ≠ d + 10 → o ≠ d + 12 → o ≠ d + 14 → C o = A o := fun o q1 q2 q3 q4 q5 q6 q7 => by rw [hC, jcp_o q7, jcp_o q6, jcp_o q5, jcp_o q4, jcp_o q3, jcp_o q2, jcp_o q1]
  have cs : C s = M s := by rw [cO s (by omega) (by omega) (by omega) (by omega) (by omega) (by omega) (by omega), aO s (by omega)]
  have cd : C d = A d := cO d (by omega) (by omega) (by omega) (by omega) (by omega) (by omega) (by omega)
  have t0 : jup C d 10 (M s 10) s = M s := by rw [jup_o (by omega), cs]
  have t1 : jup (jup C d 10 (M s 10)) d 11 (M s 11) s = M s := by rw [jup_o (by omega), t0]
  have t2 : jup (jup (jup C d 10 (M s 10)) d 11 (M s 11)) d 12 (M s 12) s = M s := by rw [jup_o (by omega), t1]
  obtain ⟨X, hX⟩ : ∃ X, X = jup (jup (jup (jup C d 10 (M s 10)) d 11 (M s 11)) d 12 (M s 12)) d 13 (M s 13) := ⟨_, rfl⟩
  have xO : ∀ o, o ≠ d → X o = C o := fun o ho => by rw [hX, jup_o ho, jup_o ho, jup_o ho, jup_o ho]
  refine ⟨X, ?_, fun o ho => ?_, ?_, ?_, ?_⟩
  · unfold f1
    simp only [Option.bind_some, r0, r1, ← hA, copy_ok d1 s1 (show d + 2 ≠ s + 2 by omega), copy_ok d2 s2 (show d + 4 ≠ s + 4 by omega), copy_ok d3 s3 (show d + 6 ≠ s + 6 by omega), copy_ok d4 s4 (show d + 8 ≠ s + 8 by omega), copy_ok d5 s5 (show d + 10 ≠ s + 10 by omega), copy_ok d6 s6 (show d + 12 ≠ s + 12 by omega), copy_ok d7 s7 (show d + 14 ≠ s + 14 by omega), ← hC, cs, t0, t1, t2, ← hX]
  · rw [xO o (by omega), cO o (by omega) (by omega) (by omega) (by omega) (by omega) (by omega) (by omega), aO o (by omega)]
  · intro k hk
    rw [hX]
    by_cases h3 : k < 3
    · rw [jup_nk (by omega), jup_nk (by omega), jup_nk (by omega), jup_nk (by omega), cd, hA]
      rcases (show k = 0 ∨ k = 1 ∨ k = 2 by omega) with rfl | rfl | rfl
      · rw [jup_nk (by omega), jup_nk (by omega), jup_same]
      · rw [jup_nk (by omega), jup_same]
      · rw [jup_same]
    · rcases (show k = 10 ∨ k = 11 ∨ k = 12 ∨ k = 13 by omega) with rfl | rfl | rfl | rfl
      · rw [jup_nk (by omega), jup_nk (by omega), jup_nk (by omega), jup_same]
      · rw [jup_nk (by omega), jup_nk (by omega), jup_same]
      · rw [jup_nk (by omega), jup_same]
      · rw [jup_same]
  · intro p hp
    refine ⟨?_, ?_, ?_, ?_, ?_⟩
    · rw [xO _ (by omega), hC, jcp_o (by omega), jcp_o (by omega), jcp_o (by omega), jcp_o (by omega), jcp_o (by omega), jcp_o (by omega), jcp_in hp, aO _ (by omega)]
    · rw [xO _ (by omega), hC, jcp_o (by omega), jcp_o (by omega), jcp_o (by omega), jcp_o (by omega), jcp_o (by omega), jcp_in hp, jcp_o (by omega), aO _ (by omega)]
    · rw [xO _ (by omega), hC, jcp_o (by omega), jcp_o (by omega), jcp_o (by omega), jcp_o (by omega), jcp_in hp, jcp_o (by omega), jcp_o (by omega), aO _ (by omega)]
    · rw [xO _ (by omega), hC, jcp_o (by omega), jcp_o (by omega), jcp_o (by omega), jcp_in hp, jcp_o (by omega), jcp_o (by omega), jcp_o (by omega), aO _ (by omega)]
    · rw [xO _ (by omega), hC, jcp_o (by omega), jcp_o (by omega), jcp_in hp, jcp_o (by omega), jcp_o (by omega), jcp_o (by omega), jcp_o (by omega), aO _ (by omega)]
  · intro c hc
    refine ⟨?_, ?_⟩
    · rw [xO _ (by omega), hC, jcp_o (by omega), jcp_in hc, jcp_o (by omega), jcp_o (by omega), jcp_o (by omega), jcp_o (by omega), jcp_o (by omega), aO _ (by omega)]
    · rw [xO _ (by omega), hC, jcp_in hc, jcp_o (by omega), jcp_o (by omega), jcp_o (by omega), jcp_o (by omega), jcp_o (by omega), jcp_o (by omega), aO _ (by omega)]
/-- what of a country speaks of its comets -/
def Cmt (M : JM) (o k : Nat) : Prop := (∀ c, bt (M o 11) c = canc k (M (o + 12)) (M (o + 14)) tt c) ∧ (∀ c, bt (M o 12) c = (decide (c < k) && sees k (M (o + 12)) (M (o + 14)) tt false c)) ∧ (∀ c, bt (M o 13) c = (decide (c < k) && sees k (M (o + 12)) (M (o + 14)) tt true c))
theorem cmt_mv {M X : JM} {s d k : Nat} (e11 : X d 11 = M s 11) (e12 : X d 12 = M s 12) (e13 : X d 13 = M s 13) (r : ∀ c, c < k → X (d + 12) c = M (s + 12) c ∧ X (d + 14) c = M (s + 14) c) (h : Cmt M s k) : Cmt X d k := by
  have h1 : ∀ c, c < k → M (s + 12) c = X (d + 12) c := fun c hc => (r c hc).1.symm
  have h2 : ∀ c, c < k → M (s + 14) c = X (d + 14) c := fun c hc => (r c hc).2.symm
  have hs : ∀ b c, (decide (c < k) && sees k (M (s + 12)) (M (s + 14)) tt b c) = (decide (c < k) && sees k (X (d + 12)) (X (d + 14)) tt b c) := fun b c => by
    by_cases hc : c < k
    · rw [sees_congr h1 h2 (fun _ _ => rfl) hc]
    · rw [decide_eq_false hc]; rfl
  exact ⟨fun c => by rw [e11, h.1 c, canc_congr h1 h2 (fun _ _ => rfl)], fun c => by rw [e12, h.2.1 c, hs], fun c => by rw [e13, h.2.2 c, hs]⟩
theorem ctr_cmt {M : JM} {o n k : Nat} (h : Ctr M o n k) : Cmt M o k := ⟨h.2.2.2.2.2.2.2.1, h.2.2.2.2.2.2.2.2.1, h.2.2.2.2.2.2.2.2.2⟩
theorem ctr_mk {M : JM} {o n k : Nat} (a1 : M o 0 = N n) (a2 : n ≤ 9) (a3 : M o 1 = N k) (a4 : k ≤ 6) (a5 : ∀ p, p < n → okn n (M (o + 6) p) ∧ okn n (M (o + 8) p)) (a6 : ∀ p, p < n → ¬ M (o + 4) p < 0) (a7 : ∀ p, bt (M o 10) p = (decide (p < n) && decide (M (o + 2) p = 1))) (a8 : Cmt M o k) : Ctr M o n k := ⟨a1, a2, a3, a4, a5, a6, a7, a8.1, a8.2.1, a8.2.2⟩
/-- one more -/
theorem c_addone {X : JM} {n : Nat} {kd y : Int32} (h0 : X 19 0 = N n) (hn : n < 9) : ∃ Z, f6 19 kd y X = some (N n, Z) ∧ Z 19 0 = N (n + 1) ∧ (∀ p, Z 21 p = if p = n then kd else X 21 p) ∧ (∀ p, Z 23 p = if p = n then y else X 23 p) ∧ (∀ p, Z 25 p = if p = n then -1 else X 25 p) ∧ (∀ p, Z 27 p = if p = n then -1 else X 27 p) ∧ (∀ p, Z 29 p = if p = n then 0 else X 29 p) ∧ Z 19 10 = (if kd = 1 then X 19 10 ||| B n else X 19 10) ∧ (∀ k, k ≠ 0 → k ≠ 10 → Z 19 k = X 19 k) ∧ (∀ o, o ≠ 19 → o ≠ 21 → o ≠ 23 → o ≠ 25 → o ≠ 27 → o ≠ 29 → Z o = X o) := by
  obtain ⟨A, hA⟩ : ∃ A, A = jup (jup (jup (jup (jup (jup X 19 0 (N (n + 1))) 21 n kd) 23 n y) 29 n 0) 25 n (-1)) 27 n (-1) := ⟨_, rfl⟩
  have a10 : A 19 10 = X 19 10 := by rw [hA, jup_o (by decide), jup_o (by decide), jup_o (by decide), jup_o (by decide), jup_o (by decide), jup_nk (by omega)]
  refine ⟨jup A 19 10 (if kd = 1 then X 19 10 ||| B n else X 19 10), ?_, ?_, ?_, ?_, ?_, ?_, ?_, jup_same, ?_, ?_⟩
  · unfold f6 f7 f6_71
    have g1 : ∀ Y, f43 (jpt 19 3) (N n) kd Y = some (jup Y 21 n kd) := fun Y => set_in cok_19.1 hn
    have g2 : ∀ Y, f43 (jpt 19 4) (N n) y Y = some (jup Y 23 n y) := fun Y => set_in cok_19.2.1 hn
    have g3 : ∀ Y v, f43 (jpt 19 5) (N n) v Y = some (jup Y 25 n v) := fun Y v => set_in cok_19.2.2.1 hn
    have g4 : ∀ Y v, f43 (jpt 19 6) (N n) v Y = some (jup Y 27 n v) := fun Y v => set_in cok_19.2.2.2.1 hn
    have g5 : ∀ Y v, f43 (jpt 19 7) (N n) v Y = some (jup Y 29 n v) := fun Y v => set_in cok_19.2.2.2.2.1 hn
    rw [h0]
    simp only [Option.bind_some, N_succ, g1, g2, g3, g4, g5, bit_N (show n < 31 by omega), ← hA, a10]
    by_cases e : kd = 1
    · rw [if_pos e, if_pos e]
    · rw [if_neg e, if_neg e]
  · rw [jup_nk (by omega), hA, jup_o (by decide), jup_o (by decide), jup_o (by decide), jup_o (by decide), jup_o (by decide), jup_same]
  · intro p; rw [jup_o (by decide), hA, jup_o (by decide), jup_o (by decide), jup_o (by decide), jup_o (by decide), jup_at, jup_o (by decide)]; simp only [true_and]
  · intro p; rw [jup_o (by decide), hA, jup_o (by decide), jup_o (by decide), jup_o (by decide), jup_at, jup_o (by decide), jup_o (by decide)]; simp only [true_and]
  · intro p; rw [jup_o (by decide), hA, jup_o (by decide), jup_at, jup_o (by decide), jup_o (by decide), jup_o (by decide), jup_o (by decide)]; simp only [true_and]
  · intro p; rw [jup_o (by decide), hA, jup_at, jup_o (by decide), jup_o (by decide), jup_o (by decide), jup_o (by decide), jup_o (by decide)]; simp only [true_and]
  · intro p; rw [jup_o (by decide), hA, jup_o (by decide), jup_o (by decide), jup_at, jup_o (by decide), jup_o (by decide), jup_o (by decide)]; simp only [true_and]
  · intro k k0 k10; rw [jup_nk (by omega), hA, jup_o (by decide), jup_o (by decide), jup_o (by decide), jup_o (by decide), jup_o (by decide), jup_nk (by omega)]
  · intro o q1 q2 q3 q4 q5 q6; rw [jup_o q1, hA, jup_o q5, jup_o q4, jup_o q6, jup_o q3, jup_o q2, jup_o q1]
theorem c_setpar {X : JM} {p : Nat} {u w : Int32} (hp : p < 9) : f7 19 (N p) u w X = some (jup (jup X 25 p u) 27 p w) := by
  unfold f7
  rw [set_in cok_19.2.2.1 hp]
  simp only [Option.bind_some]
  rw [set_in cok_19.2.2.2.1 hp]
  rfl
/-- the reference: one more -/
theorem m_addone {X : JM} {n : Nat} {kd y : Int32} (h0 : X 198 7 = N n) (hn : n < 9) : ∃ Z, f142 198 kd y X = some Z ∧ Z 198 7 = N (n + 1) ∧ (∀ p, Z 203 p = if p = n then kd else X 203 p) ∧ (∀ p, Z 204 p = if p = n then y else X 204 p) ∧ (∀ p, Z 205 p = if p = n then -1 else X 205 p) ∧ (∀ p, Z 206 p = if p = n then -1 else X 206 p) ∧ (∀ p, Z 207 p = if p = n then 0 else X 207 p) ∧ (∀ k, k ≠ 7 → Z 198 k = X 198 k) ∧ (∀ o, o ≠ 198 → o ≠ 203 → o ≠ 204 → o ≠ 205 → o ≠ 206 → o ≠ 207 → Z o = X o) := by
  have e1 : jup X 203 n kd 198 7 = N n := by rw [jup_o (by decide)]; exact h0
  have e2 : jup (jup X 203 n kd) 204 n y 198 7 = N n := by rw [jup_o (by decide)]; exact e1
  have e3 : jup (jup (jup X 203 n kd) 204 n y) 205 n (-1) 198 7 = N n := by rw [jup_o (by decide)]; exact e2
  have e4 : jup (jup (jup (jup X 203 n kd) 204 n y) 205 n (-1)) 206 n (-1) 198 7 = N n := by rw [jup_o (by decide)]; exact e3
  have e5 : jup (jup (jup (jup (jup X 203 n kd) 204 n y) 205 n (-1)) 206 n (-1)) 207 n 0 198 7 = N n := by rw [jup_o (by decide)]; exact e4
  refine ⟨jup (jup (jup (jup (jup (jup X 203 n kd) 204 n y) 205 n (-1)) 206 n (-1)) 207 n 0) 198 7 (N (n + 1)), ?_, jup_same, ?_, ?_, ?_, ?_, ?_, ?_, ?_⟩
  · unfold f142
    rw [mp_8, mp_9, mp_10, mp_11, mp_12, h0, sa_203 hn]
    simp only [Option.bind_some, e1, sa_204 hn, e2, sa_205 hn, e3, sa_206 hn, e4, sa_207 hn, e5, N_succ]
  · intro p; rw [jup_o (by decide), jup_o (by decide), jup_o (by decide), jup_o (by decide), jup_o (by decide), jup_at]; simp only [true_and]
  · intro p; rw [jup_o (by decide), jup_o (by decide), jup_o (by decide), jup_o (by decide), jup_at, jup_o (by decide)]; simp only [true_and]
  · intro p; rw [jup_o (by decide), jup_o (by decide), jup_o (by decide), jup_at, jup_o (by decide), jup_o (by decide)]; simp only [true_and]
  · intro p; rw [jup_o (by decide), jup_o (by decide), jup_at, jup_o (by decide), jup_o (by decide), jup_o (by decide)]; simp only [true_and]
  · intro p; rw [jup_o (by decide), jup_at, jup_o (by decide), jup_o (by decide), jup_o (by decide), jup_o (by decide)]; simp only [true_and]
  · intro k hk; rw [jup_nk (by omega), jup_o (by decide), jup_o (by decide), jup_o (by decide), jup_o (by decide), jup_o (by decide)]
  · intro o q1 q2 q3 q4 q5 q6; rw [jup_o q1, jup_o q6, jup_o q5, jup_o q4, jup_o q3, jup_o q2]
