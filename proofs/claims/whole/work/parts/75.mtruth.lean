/-! PURE: truths, by the reference -/
def fits (g : Nat → Bool) : Nat → Nat → Bool
  | 0, _ => true
  | d + 1, i => g i && fits g d (i + 1)
def kwM (M : JM) (k v c : Nat) : Int32 := if M 208 c = 3 then 3 else N (kvl (fun c => decide (M 208 c = 3)) k v c)
def kinV (M : JM) (n k : Nat) (kd : Nat → Int32) (a b : Nat) (y : Int32) : Bool := (deg n (M 204) (M 205) (M 206) (laty k (snB k kd (M 209) tt (decide (M 203 a = 1)) (decide (M 203 b = 1))) (M 209) y) a b).isSome
def okV (M : JM) (n k q : Nat) (A F : Nat → Nat) (Y I : Nat → Int32) (v : Nat) : Bool := fits (fun f => kinV M n k (kwM M k v) (A f) (F f) (Y f) == decide (I f = 1)) q 0
theorem fits_congr {g g2 : Nat → Bool} : ∀ d i, (∀ j, i ≤ j → j < i + d → g j = g2 j) → fits g d i = fits g2 d i
  | 0, _, _ => rfl
  | d + 1, i, h => by
    show (g i && fits g d (i + 1)) = (g2 i && fits g2 d (i + 1))
    rw [h i (by omega) (by omega), fits_congr d (i + 1) (fun j a b => h j (by omega) (by omega))]
theorem md_kw {M X : JM} {n k a b : Nat} {y : Int32} {kd : Nat → Int32} (hk6 : k ≤ 6) (r : ∀ o, (203 ≤ o ∧ o ≤ 206) ∨ o = 209 → X o = M o) (hl : X 198 22 = -1) (hd : ∀ c, c < k → X 208 c = kd c) : (md X n k a b y).isSome = kinV M n k kd a b y := by
  unfold md kinV ltm
  rw [r 203 (by omega), r 204 (by omega), r 205 (by omega), r 206 (by omega), r 209 (by omega)]
  rw [laty_congr (S := snB k (X 208) (M 209) (thr (X 198 22)) (decide (M 203 a = 1)) (decide (M 203 b = 1))) (T := snB k kd (M 209) tt (decide (M 203 a = 1)) (decide (M 203 b = 1))) (fun c hc => by
    unfold snB
    rw [sees_congr (th2 := tt) hd (fun _ _ => rfl) (fun c hc => by rw [hl, thr_m1 (by omega)]; rfl) hc, sees_congr (th2 := tt) (s := decide (M 203 b = 1)) hd (fun _ _ => rfl) (fun c hc => by rw [hl, thr_m1 (by omega)]; rfl) hc])]
theorem jbo_197 {b : Bool} : jbo 197 (b2 b) = some (b2 b) := by cases b <;> rfl
theorem four_ok {i : Nat} : (4 : Int32) * N i = N (4 * i) := by rw [show (4 : Int32) = N 4 from rfl, N_mul]
theorem m_isall {M : JM} {n k q : Nat} {A F : Nat → Nat} {Y I : Nat → Int32} (h : Rfk M n k) (hq : M 198 27 = N q) (hq8 : q ≤ 8) (hf : ∀ f, f < q → M 213 (4 * f) = N (A f) ∧ M 213 (4 * f + 1) = N (F f) ∧ M 213 (4 * f + 2) = Y f ∧ M 213 (4 * f + 3) = I f ∧ A f < n ∧ F f < n) : ∀ (d i f : Nat) (X : JM) (b : Bool), i + d = q → d < f → Sm M X → ∃ X2, f197_4 f 198 (b2 b) (N i) X = some (b2 (b && fits (fun f => (md M n k (A f) (F f) (Y f)).isSome == decide (I f = 1)) d i), X2) ∧ Sm M X2
  | _, _, 0, _, _, _, hf, _ => absurd hf (Nat.not_lt_zero _)
  | d, i, f + 1, X, false, hi, hf, s => by
    rw [f197_4, if_pos (show b2 false = 0 from rfl), jbo_197]
    exact ⟨X, rfl, s⟩
  | 0, i, f + 1, X, true, hi, _, s => by
    have e : i = q := hi
    subst e
    rw [f197_4, if_neg (show ¬ b2 true = 0 by decide), s 198 (by decide), hq, if_neg (fun q => Nat.lt_irrefl _ ((N_lt (by omega) (by omega)).mp q)), jbo_197]
    exact ⟨X, rfl, s⟩
  | d + 1, i, f + 1, X, true, hi, hff, s => by
    have hn9 := h.2.1
    obtain ⟨f1, f2, f3, f4, f5, f6⟩ := hf i (by omega)
    obtain ⟨X1, e1, s1⟩ := m_degs (y := Y i) s h f5 f6
    obtain ⟨X2, e2, s2⟩ := m_isall h hq hq8 hf d (i + 1) f X1 ((md M n k (A i) (F i) (Y i)).isSome == decide (I i = 1)) (by omega) (by omega) s1
    refine ⟨X2, ?_, s2⟩
    rw [f197_4, if_neg (show ¬ b2 true = 0 by decide), s 198 (by decide), hq, if_pos ((N_lt (by omega) (by omega)).mpr (by omega)), mp_26, four_ok, show N (4 * i) + (1 : Int32) = N (4 * i + 1) from N_add, show N (4 * i) + (2 : Int32) = N (4 * i + 2) from N_add, la_213 (by omega), Option.bind_some, la_213 (by omega), Option.bind_some, la_213 (by omega), Option.bind_some, s 213 (by decide), f1, f2, f3, e1, Option.bind_some]
    unfold f197_59 f197_78 f197_86
    rw [mp_26, four_ok, show N (4 * i) + (3 : Int32) = N (4 * i + 3) from N_add, la_213 (by omega), Option.bind_some, N_succ]
    have e9 : X1 213 (4 * i + 3) = I i := by rw [s1 213 (by decide), f4]
    simp only [Option.bind_some, e9]
    show _ = some (b2 (true && (_ && fits _ d (i + 1))), X2)
    rw [Bool.true_and, ← e2]
    cases hd : md M n k (A i) (F i) (Y i) with
    | none =>
      rw [if_pos (show oi none = -1 from rfl)]
      by_cases hI : I i = 1
      · rw [if_pos hI, if_neg (by decide), decide_eq_true hI]; rfl
      · rw [if_neg hI, if_pos trivial, decide_eq_false hI]; rfl
    | some j =>
      rw [if_neg (fun z => by rw [oi_none (fun i hi => md_lt hn9 i (hd.trans hi))] at z; cases z)]
      by_cases hI : I i = 1
      · rw [if_pos hI, if_pos trivial, decide_eq_true hI]; rfl
      · rw [if_neg hI, if_neg (by decide), decide_eq_false hI]; rfl
section MT
variable {W0 : JM} {n k q : Nat} {ok : Nat → Bool} {kw : Nat → Nat → Int32}
def RWt (W0 : JM) (k : Nat) (ok : Nat → Bool) (kw : Nat → Nat → Int32) (v : Nat) (X : JM) : Prop := (∀ o, o ≠ 198 → o ≠ 208 → o ≠ 210 → o ≠ 215 → X o = W0 o) ∧ (∀ j, j ≠ 30 → j ≠ 31 → X 198 j = W0 198 j) ∧ X 198 30 = N (tcn ok v).1 ∧ (∀ c, bt (X 198 31) c = (decide (c < k) && tsm ok kw c v)) ∧ ((tcn ok v).1 ≠ 0 → ∀ c, c < k → X 215 c = kw (tcn ok v).2 c) ∧ (∀ c, c < k → W0 214 c = 3 → X 208 c = 3)
theorem bt_orB {s : Int32} {c i : Nat} (hc : c < 31) : bt (s ||| B c) i = (bt s i || decide (i = c)) := by rw [bt_or, bt_B hc]
theorem m_take {h60 : Nat → Int32 → Int32 → JM → Option JM} {X2 : JM} {all v : Nat} (hv : v < 1000) (hk : X2 198 13 = N k) (hk6 : k ≤ 6) (hok : ok v = true) (h30 : X2 198 30 = N (tcn ok v).1) (h31 : ∀ c, bt (X2 198 31) c = (decide (c < k) && tsm ok kw c v)) (h215 : (tcn ok v).1 ≠ 0 → ∀ c, c < k → X2 215 c = kw (tcn ok v).2 c) (h208 : ∀ c, c < k → X2 208 c = kw v c) : ∀ (d c f : Nat) (Y : JM), c + d = k → d < f → (∀ o, o ≠ 198 → o ≠ 215 → Y o = X2 o) → (∀ j, j ≠ 31 → Y 198 j = X2 198 j) → (∀ i, i < c → Y 215 i = kw (tcn ok (v + 1)).2 i) → (∀ i, c ≤ i → Y 215 i = X2 215 i) → (∀ i, bt (Y 198 31) i = (decide (i < k) && (if i < c then tsm ok kw i (v + 1) else tsm ok kw i v))) → ∃ Z, f199_79 h60 f 198 (N all) (N v) (N c) Y = h60 198 (N all) (N v + 1) Z ∧ (∀ o, o ≠ 198 → o ≠ 215 → Z o = X2 o) ∧ (∀ j, j ≠ 30 → j ≠ 31 → Z 198 j = X2 198 j) ∧ Z 198 30 = N ((tcn ok v).1 + 1) ∧ (∀ i, i < k → Z 215 i = kw (tcn ok (v + 1)).2 i) ∧ ∀ i, bt (Z 198 31) i = (decide (i < k) && tsm ok kw i (v + 1))
  | _, _, 0, _, _, hf, _, _, _, _, _ => absurd hf (Nat.not_lt_zero _)
  | 0, c, f + 1, Y, hc, _, y1, y2, y3, y4, y5 => by
    have e : c = k := hc
    subst e
    rw [f199_79, y2 13 (by omega), hk, if_neg (fun q => Nat.lt_irrefl _ ((N_lt (by omega) (by omega)).mp q)), y2 30 (by omega), h30, N_succ, Option.bind_some]
    unfold f199_185
    refine ⟨_, rfl, fun o q1 q2 => by rw [jup_o q1, y1 o q1 q2], fun j q1 q2 => by rw [jup_nk (by omega), y2 j q2], jup_same, fun i hi => by rw [jup_o (by decide)]; exact y3 i hi, fun i => ?_⟩
    rw [jup_nk (by omega), y5 i]
    by_cases hi : i < c
    · rw [if_pos hi]
    · rw [decide_eq_false hi]; rfl
  | d + 1, c, f + 1, Y, hc, hf, y1, y2, y3, y4, y5 => by
    have ck : c < k := by omega
    have hle := tcn_le (ok := ok) v
    have e2 : (tcn ok (v + 1)).2 = if (tcn ok v).1 = 0 then v else (tcn ok v).2 := by
      show (if ok v = true then ((tcn ok v).1 + 1, if (tcn ok v).1 = 0 then v else (tcn ok v).2) else tcn ok v).2 = _
      rw [if_pos hok]
    have e3 : tsm ok kw c (v + 1) = (if (tcn ok v).1 = 0 then true else tsm ok kw c v && decide (kw v c = kw (tcn ok v).2 c)) := by
      show (if ok v = true then _ else _) = _
      rw [if_pos hok]
    have y208 : Y 208 c = kw v c := by rw [y1 208 (by decide) (by decide)]; exact h208 c ck
    have y30 : Y 198 30 = N (tcn ok v).1 := by rw [y2 30 (by omega)]; exact h30
    have z0 : (N (tcn ok v).1 = 0) ↔ (tcn ok v).1 = 0 := N_eq (b := 0) (by omega) (by omega)
    -- what goes on
    have go : ∀ (S : Int32), (∀ i, bt S i = (decide (i < k) && (if i < c + 1 then tsm ok kw i (v + 1) else tsm ok kw i v))) → ∃ Z, f199_79 h60 f 198 (N all) (N v) (N c + 1) (jup (jup Y 215 c (kw (tcn ok (v + 1)).2 c)) 198 31 S) = h60 198 (N all) (N v + 1) Z ∧ (∀ o, o ≠ 198 → o ≠ 215 → Z o = X2 o) ∧ (∀ j, j ≠ 30 → j ≠ 31 → Z 198 j = X2 198 j) ∧ Z 198 30 = N ((tcn ok v).1 + 1) ∧ (∀ i, i < k → Z 215 i = kw (tcn ok (v + 1)).2 i) ∧ ∀ i, bt (Z 198 31) i = (decide (i < k) && tsm ok kw i (v + 1)) := by
      intro S hS
      rw [N_succ]
      refine m_take hv hk hk6 hok h30 h31 h215 h208 d (c + 1) f _ (by omega) (by omega) (fun o q1 q2 => by rw [jup_o q1, jup_o q2, y1 o q1 q2]) (fun j hj => by rw [jup_nk (by omega), jup_o (by decide), y2 j hj]) (fun i hi => ?_) (fun i hi => by rw [jup_o (by decide), jup_nk (by omega)]; exact y4 i (by omega)) (fun i => by rw [jup_same]; exact hS i)
      rw [jup_o (by decide), jup_at]
      by_cases ei : i = c
      · rw [if_pos ⟨rfl, ei⟩, ei]
      · rw [if_neg (fun z => ei z.2)]; exact y3 i (by omega)
    have keep : ∀ (S : Int32) (t : Bool), tsm ok kw c (v + 1) = t → (∀ i, i ≠ c → bt S i = bt (Y 198 31) i) → bt S c = t → ∀ i, bt S i = (decide (i < k) && (if i < c + 1 then tsm ok kw i (v + 1) else tsm ok kw i v)) := by
      intro S t ht hs1 hs2 i
      by_cases ei : i = c
      · rw [ei, hs2, decide_eq_true ck, if_pos (by omega), ht, Bool.true_and]
      · rw [hs1 i ei, y5 i]
        by_cases hi : i < c
        · rw [if_pos hi, if_pos (by omega)]
        · rw [if_neg hi, if_neg (by omega)]
    have y5c : bt (Y 198 31) c = tsm ok kw c v := by rw [y5 c, decide_eq_true ck, if_neg (Nat.lt_irrefl _), Bool.true_and]
    rw [f199_79, y2 13 (by omega), hk, if_pos ((N_lt (by omega) (by omega)).mpr ck), y30, mp_14, mp_29, la_208 (show c < 6 by omega), la_215 (show c < 6 by omega), y208]
    unfold f199_114 f199_166
    by_cases h0 : (tcn ok v).1 = 0
    · rw [if_pos (z0.mpr h0), Option.bind_some, sa_215 (show c < 6 by omega), Option.bind_some, jup_o (show (198 : Nat) ≠ 215 by decide), y30, if_pos (z0.mpr h0), Option.bind_some]
      have ev : kw (tcn ok (v + 1)).2 c = kw v c := by rw [e2, if_pos h0]
      rw [← ev]
      refine go _ (keep _ true (by rw [e3, if_pos h0]) (fun i hi => ?_) ?_)
      · rw [show (1 : Int32) <<< (N c &&& (31 : Int32)) = B c from rfl, bt_orB (by omega), decide_eq_false hi, Bool.or_false]
      · rw [show (1 : Int32) <<< (N c &&& (31 : Int32)) = B c from rfl, bt_orB (by omega), decide_eq_true rfl, Bool.or_true]
    · have ev : Y 215 c = kw (tcn ok (v + 1)).2 c := by rw [y4 c (Nat.le_refl _), e2, if_neg h0]; exact h215 h0 c ck
      have ev2 : kw (tcn ok (v + 1)).2 c = kw (tcn ok v).2 c := by rw [e2, if_neg h0]
      rw [if_neg (fun z => h0 (z0.mp z)), Option.bind_some, sa_215 (show c < 6 by omega), Option.bind_some, jup_o (show (198 : Nat) ≠ 215 by decide), y30, if_neg (fun z => h0 (z0.mp z)), mp_14, mp_29, la_208 (show c < 6 by omega), Option.bind_some, la_215 (show c < 6 by omega), Option.bind_some, jup_o (show (208 : Nat) ≠ 215 by decide), jup_same, y208, ev]
      by_cases hq : kw v c = kw (tcn ok (v + 1)).2 c
      · rw [if_pos hq, Option.bind_some]
        exact go _ (keep _ (tsm ok kw c v) (by rw [e3, if_neg h0, ← ev2, decide_eq_true hq, Bool.and_true]) (fun i _ => rfl) y5c)
      · rw [if_neg hq, Option.bind_some]
        refine go _ (keep _ false (by rw [e3, if_neg h0, ← ev2, decide_eq_false hq, Bool.and_false]) (fun i hi => ?_) ?_)
        · rw [show (Y 198 31 &&& (((1 : Int32) <<< (N c &&& (31 : Int32))) ^^^ (-1 : Int32))) = off (Y 198 31) c from rfl, off_bt (by omega), decide_eq_false hi, Bool.not_false, Bool.and_true]
        · rw [show (Y 198 31 &&& (((1 : Int32) <<< (N c &&& (31 : Int32))) ^^^ (-1 : Int32))) = off (Y 198 31) c from rfl, off_bt (by omega), decide_eq_true rfl]; simp
end MT
