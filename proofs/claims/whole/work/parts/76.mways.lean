/-! PURE: truths, all ways of the reference -/
theorem kw_at {M : JM} {k v c : Nat} {X : Nat → Int32} (hc : c < k) (he : M 208 c = 3 → X c = 3) : lyr (fun c => decide (M 208 c = 3)) k v X c = kwM M k v c := by
  unfold lyr kwM
  rw [if_pos hc]
  by_cases h : M 208 c = 3
  · rw [if_pos (decide_eq_true h), if_pos h, he h]
  · rw [if_neg (fun z => h (of_decide_eq_true z)), if_neg h]
section MW
variable {M W0 : JM} {n k q : Nat} {A F : Nat → Nat} {Y I : Nat → Int32}
def Fea (M : JM) (n q : Nat) (A F : Nat → Nat) (Y I : Nat → Int32) : Prop := M 198 27 = N q ∧ q ≤ 8 ∧ ∀ f, f < q → M 213 (4 * f) = N (A f) ∧ M 213 (4 * f + 1) = N (F f) ∧ M 213 (4 * f + 2) = Y f ∧ M 213 (4 * f + 3) = I f ∧ A f < n ∧ F f < n
def Pre (M W0 : JM) (k : Nat) : Prop := (∀ o, o ≠ 198 → o ≠ 214 → W0 o = M o) ∧ (∀ j, j ≠ 30 → j ≠ 31 → W0 198 j = M 198 j) ∧ ∀ c, c < k → W0 214 c = M 208 c
theorem m_way {h60 : Nat → Int32 → Int32 → JM → Option JM} (h : Rfk M n k) (hl : M 198 22 = -1) (hf : Fea M n q A F Y I) (hp : Pre M W0 k) {all v : Nat} (hv : v < 730) {X : JM} (hX : RWt W0 k (okV M n k q A F Y I) (kwM M k) v X) : ∃ X2, ((f198 198 (N v) X).bind fun M9 => ((f197 198 M9).bind fun z24 => (if z24.1 = (0 : Int32) then (f199_185 h60 198 (N all) (N v) z24.2) else (f199_79 h60 1000 198 (N all) (N v) (0 : Int32) z24.2)))) = h60 198 (N all) (N v + 1) X2 ∧ RWt W0 k (okV M n k q A F Y I) (kwM M k) (v + 1) X2 := by
  have hk6 := h.2.2.2.1
  obtain ⟨p1, p2, p3⟩ := hp
  obtain ⟨x1, x2, x3, x4, x5, x6⟩ := hX
  obtain ⟨g1, g2, g3⟩ := hf
  obtain ⟨X1, hX1⟩ : ∃ X1, X1 = jrset X 208 (lyr (fun c => decide (M 208 c = 3)) k v (X 208)) := ⟨_, rfl⟩
  have xo : ∀ o, o ≠ 208 → X1 o = X o := fun o ho => by rw [hX1, jrset_o ho]
  have x208 : ∀ c, c < k → X1 208 c = kwM M k v c := fun c hc => by
    rw [hX1, jrset_s]
    exact kw_at hc (fun e => x6 c hc (by rw [p3 c hc]; exact e))
  have xM : ∀ o, (203 ≤ o ∧ o ≤ 207) ∨ o = 209 ∨ o = 213 → X1 o = M o := fun o ho => by rw [xo o (by omega), x1 o (by omega) (by omega) (by omega) (by omega), p1 o (by omega) (by omega)]
  have x198 : ∀ j, j ≠ 30 → j ≠ 31 → X1 198 j = M 198 j := fun j a b => by rw [xo 198 (by decide), x2 j a b, p2 j a b]
  have hR1 : Rfk X1 n k := by
    obtain ⟨q1, q2, q3, q4, q5, q6⟩ := h
    exact ⟨by rw [x198 7 (by omega) (by omega)]; exact q1, q2, by rw [x198 13 (by omega) (by omega)]; exact q3, q4, fun p hp => by rw [xM 204 (by omega)]; exact q5 p hp, fun p hp => by rw [xM 205 (by omega), xM 206 (by omega)]; exact q6 p hp⟩
  have e1 : f198 198 (N v) X = some X1 := by
    unfold f198
    rw [x2 13 (by omega) (by omega), p2 13 (by omega) (by omega), h.2.2.1, hX1]
    exact m_layw (e := fun c => decide (M 208 c = 3)) k v 1000 _ X hk6 hv (by omega) rfl (fun i hi => by rw [x1 214 (by decide) (by decide) (by decide) (by decide), p3 i hi])
  obtain ⟨X2, e2, s2⟩ := m_isall (M := X1) (A := A) (F := F) (Y := Y) (I := I) hR1 (by rw [x198 27 (by omega) (by omega)]; exact g1) g2 (fun f hf => by rw [xM 213 (by omega)]; exact g3 f hf) q 0 1000 X1 true (by omega) (by omega) Sm.refl
  have eok : fits (fun f => (md X1 n k (A f) (F f) (Y f)).isSome == decide (I f = 1)) q 0 = okV M n k q A F Y I v := by
    unfold okV
    exact fits_congr q 0 (fun j _ _ => by rw [md_kw (M := M) (kd := kwM M k v) hk6 (fun o ho => xM o (by omega)) (by rw [x198 22 (by omega) (by omega)]; exact hl) x208])
  rw [eok, Bool.true_and] at e2
  have e197 : f197 198 X1 = some (b2 (okV M n k q A F Y I v), X2) := e2
  rw [e1, Option.bind_some, e197, Option.bind_some]
  have y1 : ∀ o, o ≠ 198 → o ≠ 208 → o ≠ 210 → o ≠ 215 → X2 o = W0 o := fun o a b c d => by rw [s2 o c, xo o b, x1 o a b c d]
  have y198 : X2 198 = X 198 := by rw [s2 198 (by decide), xo 198 (by decide)]
  have y215 : X2 215 = X 215 := by rw [s2 215 (by decide), xo 215 (by decide)]
  have y208 : ∀ c, c < k → X2 208 c = kwM M k v c := fun c hc => by rw [s2 208 (by decide)]; exact x208 c hc
  have y6 : ∀ c, c < k → W0 214 c = 3 → X2 208 c = 3 := fun c hc e => by
    rw [y208 c hc]
    unfold kwM
    rw [if_pos (by rw [← p3 c hc]; exact e)]
  cases hok : okV M n k q A F Y I v with
  | false =>
    rw [if_pos (show b2 false = 0 from rfl)]
    unfold f199_185
    have t1 : tcn (okV M n k q A F Y I) (v + 1) = tcn (okV M n k q A F Y I) v := by
      show (if okV M n k q A F Y I v = true then _ else _) = _
      rw [if_neg (by rw [hok]; decide)]
    have t2 : ∀ c, tsm (okV M n k q A F Y I) (kwM M k) c (v + 1) = tsm (okV M n k q A F Y I) (kwM M k) c v := fun c => by
      show (if okV M n k q A F Y I v = true then _ else _) = _
      rw [if_neg (by rw [hok]; decide)]
    refine ⟨X2, rfl, y1, fun j a b => by rw [y198]; exact x2 j a b, by rw [y198, t1]; exact x3, fun c => by rw [y198, t2]; exact x4 c, by rw [y215, t1]; exact x5, y6⟩
  | true =>
    rw [if_neg (show ¬ b2 true = 0 by decide)]
    obtain ⟨Z, e3, z1, z2, z3, z4, z5⟩ := m_take (h60 := h60) (X2 := X2) (all := all) (v := v) (k := k) (ok := okV M n k q A F Y I) (kw := kwM M k) (by omega) (by rw [y198, x2 13 (by omega) (by omega), p2 13 (by omega) (by omega)]; exact h.2.2.1) hk6 hok (by rw [y198]; exact x3) (fun c => by rw [y198]; exact x4 c) (by rw [y215]; exact x5) y208 k 0 1000 X2 (by omega) (by omega) (fun _ _ _ => rfl) (fun _ _ => rfl) (fun i hi => absurd hi (Nat.not_lt_zero _)) (fun _ _ => rfl) (fun i => by rw [y198, x4 i, if_neg (Nat.not_lt_zero _)])
    have t1 : (tcn (okV M n k q A F Y I) (v + 1)).1 = (tcn (okV M n k q A F Y I) v).1 + 1 := by
      show (if okV M n k q A F Y I v = true then ((tcn (okV M n k q A F Y I) v).1 + 1, _) else _).1 = _
      rw [if_pos hok]
    exact ⟨Z, e3, fun o a b c d => by rw [z1 o a d, y1 o a b c d], fun j a b => by rw [z2 j a b, y198]; exact x2 j a b, by rw [z3, t1], z5, fun _ c hc => z4 c hc, fun c hc e => by rw [z1 208 (by decide) (by decide)]; exact y6 c hc e⟩
theorem m_ways (h : Rfk M n k) (hl : M 198 22 = -1) (hf : Fea M n q A F Y I) (hp : Pre M W0 k) {all : Nat} (hall : all < 730) : ∀ (d v f : Nat) (X : JM), v + d = all → d < f → RWt W0 k (okV M n k q A F Y I) (kwM M k) v X → ∃ X2, f199_60 f 198 (N all) (N v) X = f199_193 1000 198 (0 : Int32) X2 ∧ RWt W0 k (okV M n k q A F Y I) (kwM M k) all X2
  | _, _, 0, _, _, hf, _ => absurd hf (Nat.not_lt_zero _)
  | 0, v, f + 1, X, hv, _, hX => by
    have e : v = all := hv
    subst e
    rw [f199_60, if_neg (fun q => Nat.lt_irrefl _ ((N_lt (by omega) (by omega)).mp q))]
    exact ⟨X, rfl, hX⟩
  | d + 1, v, f + 1, X, hv, hff, hX => by
    obtain ⟨X1, e1, h1⟩ := m_way (h60 := f199_60 f) (all := all) h hl hf hp (show v < 730 by omega) hX
    obtain ⟨X2, e2, h2⟩ := m_ways h hl hf hp hall d (v + 1) f X1 (by omega) (by omega) h1
    rw [f199_60, if_pos ((N_lt (by omega) (by omega)).mpr (by omega)), e1, N_succ]
    exact ⟨X2, e2, h2⟩
theorem m_back : ∀ (d c f : Nat) (X : JM), X 198 13 = N k → k ≤ 6 → c + d = k → d < f → ∃ Z, f199_193 f 198 (N c) X = some Z ∧ (∀ o, o ≠ 208 → Z o = X o) ∧ (∀ i, c ≤ i → i < k → Z 208 i = X 214 i) ∧ ∀ i, i < c → Z 208 i = X 208 i
  | _, _, 0, _, _, _, _, hf => absurd hf (Nat.not_lt_zero _)
  | 0, c, f + 1, X, hk, hk6, hc, _ => by
    have e : c = k := hc
    subst e
    rw [f199_193, hk, if_neg (fun q => Nat.lt_irrefl _ ((N_lt (by omega) (by omega)).mp q))]
    exact ⟨X, rfl, fun _ _ => rfl, fun i a b => absurd a (by omega), fun _ _ => rfl⟩
  | d + 1, c, f + 1, X, hk, hk6, hc, hf => by
    obtain ⟨Z, e, z1, z2, z3⟩ := m_back d (c + 1) f (jup X 208 c (X 214 c)) (by rw [jup_o (by decide)]; exact hk) hk6 (by omega) (by omega)
    rw [f199_193, hk, if_pos ((N_lt (by omega) (by omega)).mpr (by omega)), mp_28, mp_14, la_214 (show c < 6 by omega), Option.bind_some, sa_208 (show c < 6 by omega), Option.bind_some, N_succ]
    refine ⟨Z, e, fun o ho => by rw [z1 o ho, jup_o ho], fun i a b => ?_, fun i a => by rw [z3 i (by omega), jup_nk (by omega)]⟩
    by_cases ei : i = c
    · rw [ei, z3 c (by omega), jup_same]
    · rw [z2 i (by omega) b, jup_o (by decide)]
theorem m_pre {P : JM} (hk : P 198 13 = N k) (hk6 : k ≤ 6) : ∀ (d c f : Nat) (X : JM), c + d = k → d < f → (∀ o, o ≠ 214 → X o = P o) → (∀ i, i < c → X 214 i = P 208 i) → ∃ Z, f199_14 f 198 (N (wys (fun c => decide (P 208 c = 3)) c)) (N c) X = f199_60 1000 198 (N (wys (fun c => decide (P 208 c = 3)) k)) (0 : Int32) Z ∧ (∀ o, o ≠ 214 → Z o = P o) ∧ ∀ i, i < k → Z 214 i = P 208 i
  | _, _, 0, _, _, hf, _, _ => absurd hf (Nat.not_lt_zero _)
  | 0, c, f + 1, X, hc, _, x1, x2 => by
    have e : c = k := hc
    subst e
    rw [f199_14, x1 198 (by decide), hk, if_neg (fun q => Nat.lt_irrefl _ ((N_lt (by omega) (by omega)).mp q))]
    exact ⟨X, rfl, x1, x2⟩
  | d + 1, c, f + 1, X, hc, hf, x1, x2 => by
    obtain ⟨Z, e, z1, z2⟩ := m_pre hk hk6 d (c + 1) f (jup X 214 c (P 208 c)) (by omega) (by omega) (fun o ho => by rw [jup_o ho, x1 o ho]) (fun i hi => by
      by_cases ei : i = c
      · rw [ei, jup_same]
      · rw [jup_nk (by omega)]; exact x2 i (by omega))
    rw [f199_14, x1 198 (by decide), hk, if_pos ((N_lt (by omega) (by omega)).mpr (by omega)), mp_28, mp_14, la_208 (show c < 6 by omega), Option.bind_some, x1 208 (by decide), sa_214 (show c < 6 by omega), Option.bind_some, la_208 (show c < 6 by omega), Option.bind_some, jup_o (show (208 : Nat) ≠ 214 by decide), x1 208 (by decide)]
    unfold f199_50
    rw [N_succ]
    refine ⟨Z, ?_, z1, z2⟩
    rw [← e]
    have ew : wys (fun c => decide (P 208 c = 3)) (c + 1) = wys (fun c => decide (P 208 c = 3)) c * (if decide (P 208 c = 3) = true then 1 else 3) := rfl
    rw [ew]
    by_cases h3 : P 208 c = 3
    · rw [if_pos h3, if_pos (decide_eq_true h3), show (1 : Int32) = N 1 from rfl, N_mul]
    · rw [if_neg h3, if_neg (by rw [decide_eq_false h3]; decide), show (3 : Int32) = N 3 from rfl, N_mul]
theorem m_truths (h : Rfk M n k) (hl : M 198 22 = -1) (hf : Fea M n q A F Y I) : ∃ Z, f199 198 M = some Z ∧ (∀ o, o ≠ 198 → o ≠ 208 → o ≠ 210 → o ≠ 214 → o ≠ 215 → Z o = M o) ∧ (∀ j, j ≠ 30 → j ≠ 31 → Z 198 j = M 198 j) ∧ Z 198 30 = N (tcn (okV M n k q A F Y I) (wys (fun c => decide (M 208 c = 3)) k)).1 ∧ (∀ c, bt (Z 198 31) c = (decide (c < k) && tsm (okV M n k q A F Y I) (kwM M k) c (wys (fun c => decide (M 208 c = 3)) k))) ∧ ((tcn (okV M n k q A F Y I) (wys (fun c => decide (M 208 c = 3)) k)).1 ≠ 0 → ∀ c, c < k → Z 215 c = kwM M k (tcn (okV M n k q A F Y I) (wys (fun c => decide (M 208 c = 3)) k)).2 c) ∧ ∀ c, c < k → Z 208 c = M 208 c := by
  have hk6 := h.2.2.2.1
  obtain ⟨P, hP⟩ : ∃ P, P = jup (jup M 198 30 0) 198 31 0 := ⟨_, rfl⟩
  have po : ∀ o, o ≠ 198 → P o = M o := fun o ho => by rw [hP, jup_o ho, jup_o ho]
  have p198 : ∀ j, j ≠ 30 → j ≠ 31 → P 198 j = M 198 j := fun j a b => by rw [hP, jup_nk (by omega), jup_nk (by omega)]
  obtain ⟨W0, e1, w1, w2⟩ := m_pre (P := P) (k := k) (by rw [p198 13 (by omega) (by omega)]; exact h.2.2.1) hk6 k 0 1000 P (by omega) (by omega) (fun _ _ => rfl) (fun i hi => absurd hi (Nat.not_lt_zero _))
  rw [po 208 (by decide)] at e1 w2
  have hpre : Pre M W0 k := ⟨fun o a b => by rw [w1 o b, po o a], fun j a b => by rw [w1 198 (by decide), p198 j a b], w2⟩
  have hstart : RWt W0 k (okV M n k q A F Y I) (kwM M k) 0 W0 := by
    refine ⟨fun _ _ _ _ _ => rfl, fun _ _ _ => rfl, ?_, fun c => ?_, fun hne => absurd rfl hne, fun c hc e => ?_⟩
    · rw [w1 198 (by decide), hP, jup_nk (by omega), jup_same]; rfl
    · rw [w1 198 (by decide), hP, jup_same, bt_zero]
      show false = (decide (c < k) && false)
      rw [Bool.and_false]
    · rw [w1 208 (by decide), po 208 (by decide), ← w2 c hc]; exact e
  obtain ⟨X, e2, x1, x2, x3, x4, x5, x6⟩ := m_ways h hl hf hpre (wys_729 (e := fun c => decide (M 208 c = 3)) hk6) (wys (fun c => decide (M 208 c = 3)) k) 0 1000 W0 (by omega) (by have := wys_729 (e := fun c => decide (M 208 c = 3)) hk6; omega) hstart
  obtain ⟨Z, e3, z1, z2, _⟩ := m_back (k := k) k 0 1000 X (by rw [x2 13 (by omega) (by omega), hpre.2.1 13 (by omega) (by omega)]; exact h.2.2.1) hk6 (by omega) (by omega)
  refine ⟨Z, ?_, fun o a b c d e => by rw [z1 o b, x1 o a b c e, hpre.1 o a d], fun j a b => by rw [z1 198 (by decide), x2 j a b, hpre.2.1 j a b], by rw [z1 198 (by decide)]; exact x3, by rw [z1 198 (by decide)]; exact x4, by rw [z1 215 (by decide)]; exact x5, fun c hc => by rw [z2 c (Nat.zero_le _) hc, x1 214 (by decide) (by decide) (by decide) (by decide), w2 c hc]⟩
  unfold f199
  rw [Option.bind_some, Option.bind_some, ← hP]
  exact e1.trans (e2.trans e3)
end MW
