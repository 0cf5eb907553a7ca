/-! PURE: makes -/
theorem dg_drop {M D : JM} {n k c a b : Nat} {y : Int32} (h1 : Ctr M 4 n k) (h2 : Agr M 4 n k) (hc : c < k) (hD : Ctr D 19 n (k - 1)) (e10 : D 19 10 = M 4 10) (r : ∀ p, p < 9 → D 23 p = M 8 p ∧ D 25 p = M 10 p ∧ D 27 p = M 12 p) (rc : ∀ i, i < k - 1 → D 31 i = M 16 (skp c i) ∧ D 33 i = M 18 (skp c i)) (ha : a < n) (hb : b < n) : dg D 19 n (k - 1) a b y = md (jup M 198 22 (N c)) n k a b y := by
  have hn9 := h1.2.1
  have hk6 := h1.2.2.2.1
  unfold dg md
  rw [jup_o (show (203 : Nat) ≠ 198 by decide), jup_o (show (204 : Nat) ≠ 198 by decide), jup_o (show (205 : Nat) ≠ 198 by decide), jup_o (show (206 : Nat) ≠ 198 by decide), jup_same, e10, seer_ok h1 h2 ha, seer_ok h1 h2 hb]
  have hl : lts D 19 (k - 1) (decide (M 203 a = 1)) (decide (M 203 b = 1)) y = ltm (jup M 198 22 (N c)) k (thr (N c)) (decide (M 203 a = 1)) (decide (M 203 b = 1)) y := by
    unfold lts ltm
    rw [jup_o (show (208 : Nat) ≠ 198 by decide), jup_o (show (209 : Nat) ≠ 198 by decide), laty_s hc hk6]
    have g1 : ∀ i, i < k - 1 → D (19 + 12) i = M 208 (skp c i) := fun i hi => (rc i hi).1.trans (h2.2.2.2.2.2.2.2.2.1 _ (skp_up hi))
    have g2 : ∀ i, i < k - 1 → D (19 + 14) i = M 209 (skp c i) := fun i hi => (rc i hi).2.trans (h2.2.2.2.2.2.2.2.2.2 _ (skp_up hi))
    refine laty_congr2 g2 (fun i hi => ?_)
    have e : ∀ s, bt (if s = true then D 19 13 else D 19 12) i = sees (k - 1) (fun i => M 208 (skp c i)) (fun i => M 209 (skp c i)) tt s i := fun s => by
      rw [bt_sight hD, decide_eq_true hi, Bool.true_and]
      exact sees_congr g1 g2 (fun _ _ => rfl) hi
    rw [bt_and, e, e]
    rfl
  rw [hl]
  exact deg_congr (fun p hp => (r p (by omega)).1.trans (h2.2.2.2.2.1 p hp)) (fun p hp => (r p (by omega)).2.1.trans (h2.2.2.2.2.2.1 p hp)) (fun p hp => (r p (by omega)).2.2.trans (h2.2.2.2.2.2.2.1 p hp))
def mkq (M : JM) (n k c : Nat) : Nat := prs n (fun a b => (md (jup M 198 22 (N c)) n k a b (M 34 0)).isSome)
def mkF (fw : Nat → Int32) (c : Nat) (s : Option (Nat × Int32)) : Option (Nat × Int32) := if 0 < fw c then (match s with | none => some (c, fw c) | some (b, m) => if m < fw c then some (c, fw c) else some (b, m)) else s
def mbb (s : Option (Nat × Int32)) : Int32 := match s with
  | none => -1
  | some (b, _) => N b
def mmc (s : Option (Nat × Int32)) : Int32 := match s with
  | none => -1
  | some (_, m) => m
def mmr (s : Option (Nat × Int32)) : Int32 := match s with
  | none => 0
  | some (_, m) => m
def mok (c : Nat) (s : Option (Nat × Int32)) : Prop := ∀ b m, s = some (b, m) → b < c ∧ 0 < m
theorem mkF_ok {fw : Nat → Int32} {c : Nat} {s : Option (Nat × Int32)} (h : mok c s) : mok (c + 1) (mkF fw c s) := by
  have h0 : mok (c + 1) s := fun b m e => ⟨by have := (h b m e).1; omega, (h b m e).2⟩
  unfold mkF
  by_cases hp : 0 < fw c
  · rw [if_pos hp]
    cases s with
    | none => intro b m e; cases e; exact ⟨by omega, hp⟩
    | some q =>
      obtain ⟨b0, m0⟩ := q
      show mok (c + 1) (if m0 < fw c then some (c, fw c) else some (b0, m0))
      by_cases h2 : m0 < fw c
      · rw [if_pos h2]; intro b m e; cases e; exact ⟨by omega, hp⟩
      · rw [if_neg h2]; exact h0
  · rw [if_neg hp]; exact h0
theorem lt_tr {x y z : Int32} (h : x < y) (h2 : y < z) : x < z := by
  rw [Int32.lt_iff_toInt_lt] at h h2 ⊢; omega
theorem c_mk {M : JM} {n k : Nat} {w P : Int32} (h1 : Ctr M 4 n k) (h2 : Agr M 4 n k) : ∀ (d c f : Nat) (s : Option (Nat × Int32)) (X : JM), c + d = k → d < f → mok c s → (∀ o, ¬ (19 ≤ o ∧ o ≤ 33) → X o = M o) → ∃ X2, f92_35 f 0 w (mbb s) (mmc s) P (N c) X = some (if w = 0 then mbb (itr (mkF (fun c => P - N (mkq M n k c))) c d s) else mmc (itr (mkF (fun c => P - N (mkq M n k c))) c d s), X2) ∧ (∀ o, ¬ (19 ≤ o ∧ o ≤ 33) → X2 o = M o)
  | _, _, 0, _, _, _, hf, _, _ => absurd hf (Nat.not_lt_zero _)
  | 0, c, f + 1, s, X, hc, _, _, hX => by
    have e : c = k := hc
    subst e
    have hk6 := h1.2.2.2.1
    rw [f92_35, xp_1, hX 4 (by omega), h1.2.2.1, if_neg (fun q => Nat.lt_irrefl _ ((N_lt (by omega) (by omega)).mp q))]
    refine ⟨X, ?_, hX⟩
    show _ = some (if w = 0 then mbb s else mmc s, X)
    by_cases hw : w = 0
    · rw [if_pos hw, if_pos hw]
    · rw [if_neg hw, if_neg hw]
  | d + 1, c, f + 1, s, X, hc, hf, hs, hX => by
    have hk6 := h1.2.2.2.1
    have hn9 := h1.2.1
    have hck : c < k := by omega
    obtain ⟨Z, d1, d2, d3, d4, d5⟩ := c_ccpy (M := X) cok_19 cok_4 (Or.inl (by omega))
    obtain ⟨D, g1, g2, g3, g4, g5, g6⟩ := c_drop (Z := Z) (k := k) (c := c) (by rw [d3 1 (by omega), hX 4 (by omega)]; exact h1.2.2.1) hk6 hck
    have x4 : ∀ o, 4 ≤ o ∧ o ≤ 18 → X o = M o := fun o ho => hX o (by omega)
    have hD0 : D 19 0 = N n := by rw [g4 0 (by omega) (by omega) (by omega) (by omega), d3 0 (by omega), x4 4 (by omega)]; exact h1.1
    have hD10 : D 19 10 = M 4 10 := by rw [g4 10 (by omega) (by omega) (by omega) (by omega), d3 10 (by omega), x4 4 (by omega)]
    have r : ∀ p, p < 9 → D 21 p = M 6 p ∧ D 23 p = M 8 p ∧ D 25 p = M 10 p ∧ D 27 p = M 12 p := fun p hp => by
      rw [g5 21 (by omega) (by omega) (by omega), g5 23 (by omega) (by omega) (by omega), g5 25 (by omega) (by omega) (by omega), g5 27 (by omega) (by omega) (by omega)]
      have q := d4 p hp
      rw [x4 (4 + 2) (by omega), x4 (4 + 4) (by omega), x4 (4 + 6) (by omega), x4 (4 + 8) (by omega)] at q
      exact ⟨q.1, q.2.1, q.2.2.1, q.2.2.2.1⟩
    have rc : ∀ i, i < k - 1 → D 31 i = M 16 (skp c i) ∧ D 33 i = M 18 (skp c i) := fun i hi => by
      have hs6 : skp c i < 6 := by have := skp_up (c := c) hi; omega
      have q := d5 (skp c i) hs6
      rw [x4 (4 + 12) (by omega), x4 (4 + 14) (by omega)] at q
      rw [(g6 i hi).1, (g6 i hi).2]
      exact q
    have hCD : Ctr D 19 n (k - 1) := by
      refine ctr_mk hD0 hn9 g2 (by omega) (fun p hp => ?_) (fun p hp => ?_) (fun p => ?_) g3
      · rw [show D (19 + 6) p = M 10 p from (r p (by omega)).2.2.1, show D (19 + 8) p = M 12 p from (r p (by omega)).2.2.2]
        exact h1.2.2.2.2.1 p hp
      · rw [show D (19 + 4) p = M 8 p from (r p (by omega)).2.1]
        exact h1.2.2.2.2.2.1 p hp
      · rw [hD10, h1.2.2.2.2.2.2.1 p]
        by_cases hp : p < n
        · rw [show D (19 + 2) p = M 6 p from (r p (by omega)).1]
        · rw [decide_eq_false hp, Bool.false_and, Bool.false_and]
    have eq : prs n (fun a b => (dg D 19 n (k - 1) a b (M 34 0)).isSome) = mkq M n k c := prs_congr (fun a b ha hb => by rw [dg_drop h1 h2 hck hCD hD10 (fun p hp => (r p hp).2) rc ha hb])
    have dM : ∀ o, ¬ (19 ≤ o ∧ o ≤ 33) → D o = M o := fun o ho => by rw [g5 o (by omega) (by omega) (by omega), d2 o (by omega), hX o ho]
    obtain ⟨X2, e2, hX2⟩ := c_mk (w := w) (P := P) h1 h2 d (c + 1) f (mkF (fun c => P - N (mkq M n k c)) c s) D (by omega) (by omega) (mkF_ok hs) dM
    refine ⟨X2, ?_, hX2⟩
    refine Eq.trans ?_ e2
    rw [f92_35, xp_1, xp_2, xp_3, hX 4 (by omega), h1.2.2.1, if_pos ((N_lt (by omega) (by omega)).mpr hck), d1, Option.bind_some, g1, Option.bind_some, dM 34 (by omega), c_pairs cok_19 hCD, eq, Option.bind_some]
    unfold f92_103 mkF
    rw [N_succ]
    by_cases hp : 0 < P - N (mkq M n k c)
    · rw [if_pos hp, if_pos hp]
      cases s with
      | none =>
        have hm : (-1 : Int32) < P - N (mkq M n k c) := lt_tr (by decide) hp
        show (if (-1 : Int32) < P - N (mkq M n k c) then _ else _) = _
        rw [if_pos hm]; rfl
      | some q =>
        obtain ⟨b, m⟩ := q
        show (if m < P - N (mkq M n k c) then f92_35 f 0 w (N c) (P - N (mkq M n k c)) P (N (c + 1)) D else f92_35 f 0 w (N b) m P (N (c + 1)) D) = f92_35 f 0 w (mbb (if m < P - N (mkq M n k c) then some (c, P - N (mkq M n k c)) else some (b, m))) (mmc (if m < P - N (mkq M n k c) then some (c, P - N (mkq M n k c)) else some (b, m))) P (N (c + 1)) D
        by_cases hm : m < P - N (mkq M n k c)
        · rw [if_pos hm, if_pos hm]; rfl
        · rw [if_neg hm, if_neg hm]; rfl
    · rw [if_neg hp, if_neg hp]
def Rlo (M X : JM) : Prop := (∀ o, o ≠ 198 → o ≠ 210 → X o = M o) ∧ ∀ j, j ≠ 22 → X 198 j = M 198 j
theorem rlo_sm {M X : JM} {c : Int32} (h : Rlo M X) : Sm (jup M 198 22 c) (jup X 198 22 c) := fun o ho => by
  by_cases e : o = 198
  · subst e
    funext j
    rw [jup_at, jup_at]
    by_cases ej : j = 22
    · rw [if_pos ⟨rfl, ej⟩, if_pos ⟨rfl, ej⟩]
    · rw [if_neg (fun q => ej q.2), if_neg (fun q => ej q.2), h.2 j ej]
  · rw [jup_o e, jup_o e, h.1 o e ho]
theorem rlo_of {M X : JM} {c : Int32} (h : Sm (jup M 198 22 c) X) : Rlo M X := ⟨fun o q1 q2 => by rw [h o q2, jup_o q1], fun j hj => by rw [h 198 (by decide), jup_nk (by omega)]⟩
theorem m_mk {M : JM} {n k : Nat} {w P : Int32} (h : Rfk M n k) (hy : M 199 0 = M 34 0) : ∀ (d c f : Nat) (s : Option (Nat × Int32)) (X : JM), c + d = k → d < f → mok c s → Rlo M X → ∃ X2, f194_26 f 198 w P (mbb s) (mmr s) (N c) X = some (if w = 0 then mbb (itr (mkF (fun c => P - N (mkq M n k c))) c d s) else mmc (itr (mkF (fun c => P - N (mkq M n k c))) c d s), X2) ∧ Rlo M X2 ∧ X2 198 22 = -1
  | _, _, 0, _, _, _, hf, _, _ => absurd hf (Nat.not_lt_zero _)
  | 0, c, f + 1, s, X, hc, _, hs, hX => by
    have e : c = k := hc
    subst e
    have hk6 := h.2.2.2.1
    rw [f194_26, hX.2 13 (by omega), h.2.2.1, if_neg (fun q => Nat.lt_irrefl _ ((N_lt (by omega) (by omega)).mp q)), Option.bind_some]
    refine ⟨jup X 198 22 (-1), ?_, rlo_of (rlo_sm hX), jup_same⟩
    show _ = some (if w = 0 then mbb s else mmc s, jup X 198 22 (-1))
    cases s with
    | none =>
      show (if (-1 : Int32) = -1 then _ else _) = some (if w = 0 then -1 else -1, _)
      rw [if_pos rfl, ite_self]
    | some q =>
      obtain ⟨b, m⟩ := q
      have hb := (hs b m rfl).1
      show (if N b = -1 then _ else if w = 0 then some (N b, _) else some (m, _)) = some (if w = 0 then N b else m, _)
      rw [if_neg (N_m1 (by omega))]
      by_cases hw : w = 0
      · rw [if_pos hw, if_pos hw]
      · rw [if_neg hw, if_neg hw]
  | d + 1, c, f + 1, s, X, hc, hf, hs, hX => by
    have hk6 := h.2.2.2.1
    have hck : c < k := by omega
    have hR : Rfk (jup M 198 22 (N c)) n k := by
      obtain ⟨q1, q2, q3, q4, q5, q6⟩ := h
      exact ⟨by rw [jup_nk (by omega)]; exact q1, q2, by rw [jup_nk (by omega)]; exact q3, q4, fun p hp => by rw [jup_o (by decide)]; exact q5 p hp, fun p hp => by rw [jup_o (by decide), jup_o (by decide)]; exact q6 p hp⟩
    obtain ⟨X1, e1, s1⟩ := m_pairs hR (rlo_sm (c := N c) hX)
    have ey : jup M 198 22 (N c) 199 0 = M 34 0 := by rw [jup_o (by decide)]; exact hy
    rw [ey] at e1
    obtain ⟨X2, e2, hX2⟩ := m_mk (w := w) (P := P) h hy d (c + 1) f (mkF (fun c => P - N (mkq M n k c)) c s) X1 (by omega) (by omega) (mkF_ok hs) (rlo_of s1)
    refine ⟨X2, ?_, hX2⟩
    refine Eq.trans ?_ e2
    rw [f194_26, hX.2 13 (by omega), h.2.2.1, if_pos ((N_lt (by omega) (by omega)).mpr hck), Option.bind_some, e1, Option.bind_some]
    dsimp only
    rw [show prs n (fun a b => (md (jup M 198 22 (N c)) n k a b (M 34 0)).isSome) = mkq M n k c from rfl]
    unfold f194_62 f194_77 mkF
    rw [N_succ]
    cases s with
    | none =>
      show (if (0 : Int32) < P - N (mkq M n k c) then _ else _) = _
      by_cases hp : 0 < P - N (mkq M n k c)
      · rw [if_pos hp, if_pos hp, show mmr none = 0 from rfl, if_pos hp]; rfl
      · rw [if_neg hp, if_neg hp, show mmr none = 0 from rfl, if_neg hp]
    | some q =>
      obtain ⟨b, m⟩ := q
      have hm0 := (hs b m rfl).2
      show (if m < P - N (mkq M n k c) then _ else _) = _
      by_cases hp : m < P - N (mkq M n k c)
      · have h0 : 0 < P - N (mkq M n k c) := lt_tr hm0 hp
        rw [if_pos hp, if_pos h0]
        show (if m < P - N (mkq M n k c) then f194_26 f 198 w P (N c) (P - N (mkq M n k c)) (N (c + 1)) X1 else f194_26 f 198 w P (N c) m (N (c + 1)) X1) = f194_26 f 198 w P (mbb (if m < P - N (mkq M n k c) then some (c, P - N (mkq M n k c)) else some (b, m))) (mmr (if m < P - N (mkq M n k c) then some (c, P - N (mkq M n k c)) else some (b, m))) (N (c + 1)) X1
        rw [if_pos hp, if_pos hp]; rfl
      · rw [if_neg hp]
        show (if m < P - N (mkq M n k c) then f194_26 f 198 w P (N b) (P - N (mkq M n k c)) (N (c + 1)) X1 else f194_26 f 198 w P (N b) m (N (c + 1)) X1) = f194_26 f 198 w P (mbb (if 0 < P - N (mkq M n k c) then (if m < P - N (mkq M n k c) then some (c, P - N (mkq M n k c)) else some (b, m)) else some (b, m))) (mmr (if 0 < P - N (mkq M n k c) then (if m < P - N (mkq M n k c) then some (c, P - N (mkq M n k c)) else some (b, m)) else some (b, m))) (N (c + 1)) X1
        rw [if_neg hp, if_neg hp, ite_self]; rfl
theorem t_makes {M : JM} {w : Int32} (h : Inv M) : Two (f92 0 w) (f194 198 w) M := by
  have hI := h
  obtain ⟨n, k, h1, h2, h3, h4, h5, h6, h7, h8, h9⟩ := h
  have hk6 := h1.2.2.2.1
  unfold Two f92 f194
  rw [in_k]
  simp only [Option.bind_some, b2_0]
  by_cases w0 : w < 0
  · rw [if_pos w0, decide_eq_true w0]; exact ⟨-3, M, M, rfl, rfl, hI⟩
  · rw [if_neg w0, decide_eq_false w0]
    by_cases w1 : (1 : Int32) < w
    · rw [if_pos w1, decide_eq_true w1]; exact ⟨-3, M, M, rfl, rfl, hI⟩
    · rw [if_neg w1, decide_eq_false w1, xp_1, xp_3, c_pairs cok_4 h1]
      simp only [Bool.not_false, Bool.and_self, Bool.true_eq_false, if_false]
      rw [Option.bind_some]
      obtain ⟨P, hP⟩ : ∃ P, P = N (prs n (fun a b => (dg M 4 n k a b (M 34 0)).isSome)) := ⟨_, rfl⟩
      rw [← hP]
      obtain ⟨C, c1, c2⟩ := c_mk (w := w) (P := P) h1 h2 k 0 1000 none M (by omega) (by omega) (fun b m e => by cases e) (fun _ _ => rfl)
      have hCM : Same M C := fun o j q => by rw [c2 o (fun z => q (by unfold sck; omega))]
      have hRC : Rfk C n k := rfk_eq (fun o ho => c2 o (by omega)) (by rw [c2 198 (by omega)]) (by rw [c2 198 (by omega)]) (rfk_of h1 h2)
      have eyC : C 199 0 = C 34 0 := by rw [c2 199 (by omega), c2 34 (by omega)]; exact h5.1.1.symm
      obtain ⟨X, p1, p2⟩ := m_pairs hRC (Sm.refl (M := C))
      have eP : N (prs n (fun a b => (md C n k a b (C 199 0)).isSome)) = P := by
        rw [hP]
        refine congrArg N (prs_congr (fun a b ha hb => ?_))
        rw [md_eq (M := M) (fun o ho => c2 o (by omega)) (by rw [c2 198 (by omega)]), eyC, c2 34 (by omega), md_dg h1 h2 h4 ha hb]
      rw [eP] at p1
      obtain ⟨Y, m1, m2, m3⟩ := m_mk (w := w) (P := P) hRC eyC k 0 1000 none X (by omega) (by omega) (fun b m e => by cases e) ⟨fun o _ q => p2 o q, fun j _ => by rw [p2 198 (by decide)]⟩
      have eq : ∀ c, mkq C n k c = mkq M n k c := fun c => by
        unfold mkq
        rw [c2 34 (by omega)]
        refine prs_congr (fun a b ha hb => ?_)
        rw [md_eq (X := jup C 198 22 (N c)) (M := jup M 198 22 (N c)) (fun o ho => by rw [jup_o (by omega), jup_o (by omega), c2 o (by omega)]) (by rw [jup_same, jup_same])]
      have ef : (fun c => P - N (mkq C n k c)) = (fun c => P - N (mkq M n k c)) := funext (fun c => by rw [eq c])
      rw [ef] at m1
      refine ⟨_, C, Y, c1, ?_, ?_⟩
      · rw [p1, Option.bind_some]
        exact m1
      · refine Inv_same hI (fun o j q => ?_)
        by_cases e : o = 198
        · subst e
          by_cases ej : j = 22
          · subst ej; rw [m3, h4]
          · rw [m2.2 j ej, c2 198 (by omega)]
        · rw [m2.1 o e (fun z => q (by unfold sck; omega)), c2 o (fun z => q (by unfold sck; omega))]
theorem blk_864 : Blk f217_864 := fun xs h18 i M hx hi hI => by
  obtain ⟨a, M1, M2, e1, e2, h2⟩ := t_makes (w := xs.getD (i + 1) 0) hI
  refine ⟨M2, h2, ?_⟩
  unfold f217_864 f217_1076
  rw [show (1 : Int32) = N 1 from rfl, show (5 : Int32) = N 5 from rfl]
  simp only [N_add, sc_at (show i + 1 < xs.length by omega) hx, Option.bind_some, e1, e2, if_true]
