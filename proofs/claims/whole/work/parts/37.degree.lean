/-! PURE: degree and kin, of the class and of the reference -/
section DG
variable {n a b k : Nat} {bo mo fa : Nat → Int32} {lt : Int32}
/-- the class -/
theorem c_deg0 {o c0 : Nat} {M : JM} (ho : Cok o) (hn : M o 0 = N n) (hn9 : n ≤ 9) (hp : ∀ p, p < n → okn n (M (o + 6) p) ∧ okn n (M (o + 8) p)) (hb : b < 31) : ∀ (c i f : Nat), i + c = n → c < f → f20_27 M f o (N b) lt (rch n (M (o + 4)) (M (o + 6)) (M (o + 8)) lt a i) (N i) = some (oi (dgr (rch n (M (o + 4)) (M (o + 6)) (M (o + 8)) lt a) b c i))
  | _, _, 0, _, hf => absurd hf (Nat.not_lt_zero _)
  | 0, i, f + 1, hi, _ => by
    have e : i = n := hi
    subst e
    rw [f20_27, hn, if_neg (fun q => Nat.lt_irrefl _ ((N_lt (by omega) (by omega)).mp q))]
    rfl
  | c + 1, i, f + 1, hi, hf => by
    rw [f20_27, hn, if_pos ((N_lt (by omega) (by omega)).mpr (by omega)), has_N hb]
    simp only [Option.bind_some, b2_0]
    unfold dgr
    cases hbt : bt (rch n (M (o + 4)) (M (o + 6)) (M (o + 8)) lt a i) b with
    | true => rfl
    | false =>
      rw [if_pos rfl, if_neg (by decide), c_step ho hn hn9 (fun p hpn => ⟨okn_p (hp p hpn).1 hn9, okn_p (hp p hpn).2 hn9⟩)]
      show (if rch n (M (o + 4)) (M (o + 6)) (M (o + 8)) lt a (i + 1) = _ then some (-1) else f20_27 M f o (N b) lt (rch n (M (o + 4)) (M (o + 6)) (M (o + 8)) lt a (i + 1)) (N i + 1)) = _
      by_cases hs : rch n (M (o + 4)) (M (o + 6)) (M (o + 8)) lt a (i + 1) = rch n (M (o + 4)) (M (o + 6)) (M (o + 8)) lt a i
      · rw [if_pos hs, dgr_none]
        · rfl
        · intro j h1 _
          have := rch_stay hs (j - i)
          rw [show i + (j - i) = j by omega] at this
          rw [this]; exact hbt
      · rw [if_neg hs, N_succ]
        exact c_deg0 (c0 := c0) ho hn hn9 hp hb c (i + 1) f (by omega) (by omega)
def lts (M : JM) (o k : Nat) (sa sb : Bool) (y : Int32) : Int32 := laty k (bt ((if sa = true then M o 13 else M o 12) &&& (if sb = true then M o 13 else M o 12))) (M (o + 14)) y
theorem c_deg {o : Nat} {y : Int32} {M : JM} (ho : Cok o) (hn : M o 0 = N n) (hn9 : n ≤ 9) (hk : M o 1 = N k) (hk6 : k ≤ 6) (hp : ∀ p, p < n → okn n (M (o + 6) p) ∧ okn n (M (o + 8) p)) (ha : a < n) (hb : b < n) : f20 M o (N a) (N b) y = some (oi (deg n (M (o + 4)) (M (o + 6)) (M (o + 8)) (lts M o k (bt (M o 10) a) (bt (M o 10) b) y) a b)) := by
  unfold f20
  rw [c_seen (by omega), c_seen (by omega)]
  simp only [Option.bind_some, c_laty ho hk hk6, bit_N (show a < 31 by omega)]
  exact c_deg0 (c0 := 0) ho hn hn9 hp (by omega) n 0 1000 (by omega) (by omega)
theorem c_all0 {o : Nat} {M : JM} (ho : Cok o) (hn : M o 0 = N n) (hn9 : n ≤ 9) (hp : ∀ p, p < n → okn n (M (o + 6) p) ∧ okn n (M (o + 8) p)) : ∀ (c i f : Nat), i + c = n → c < f → f19_8 M f o lt (rch n (M (o + 4)) (M (o + 6)) (M (o + 8)) lt a i) (N i) = some (rch n (M (o + 4)) (M (o + 6)) (M (o + 8)) lt a n)
  | _, _, 0, _, hf => absurd hf (Nat.not_lt_zero _)
  | 0, i, f + 1, hi, _ => by
    have e : i = n := hi
    subst e
    rw [f19_8, hn, if_neg (fun q => Nat.lt_irrefl _ ((N_lt (by omega) (by omega)).mp q))]
  | c + 1, i, f + 1, hi, hf => by
    rw [f19_8, hn, if_pos ((N_lt (by omega) (by omega)).mpr (by omega)), c_step ho hn hn9 (fun p hpn => ⟨okn_p (hp p hpn).1 hn9, okn_p (hp p hpn).2 hn9⟩)]
    show (if rch n (M (o + 4)) (M (o + 6)) (M (o + 8)) lt a (i + 1) = _ then some (rch n (M (o + 4)) (M (o + 6)) (M (o + 8)) lt a i) else f19_8 M f o lt (rch n (M (o + 4)) (M (o + 6)) (M (o + 8)) lt a (i + 1)) (N i + 1)) = _
    by_cases hs : rch n (M (o + 4)) (M (o + 6)) (M (o + 8)) lt a (i + 1) = rch n (M (o + 4)) (M (o + 6)) (M (o + 8)) lt a i
    · rw [if_pos hs]
      have := rch_stay hs (n - i)
      rw [show i + (n - i) = n by omega] at this
      rw [this]
    · rw [if_neg hs, N_succ]
      exact c_all0 ho hn hn9 hp c (i + 1) f (by omega) (by omega)
theorem c_all {o : Nat} {M : JM} (ho : Cok o) (hn : M o 0 = N n) (hn9 : n ≤ 9) (hp : ∀ p, p < n → okn n (M (o + 6) p) ∧ okn n (M (o + 8) p)) (ha : a < 31) : f19 M o (N a) lt = some (rch n (M (o + 4)) (M (o + 6)) (M (o + 8)) lt a n) := by
  unfold f19
  rw [bit_N ha]
  exact c_all0 ho hn hn9 hp n 0 1000 (by omega) (by omega)
/-- the reference -/
def ltm (M : JM) (k : Nat) (th : Nat → Bool) (sa sb : Bool) (y : Int32) : Int32 := laty k (snB k (M 208) (M 209) th sa sb) (M 209) y
theorem laty_congr {S T : Nat → Bool} {cy : Nat → Int32} {y : Int32} (h : ∀ c, c < k → S c = T c) : laty k S cy y = laty k T cy y := by
  unfold laty
  exact itr_congr k 0 (-1) (fun c l _ hc => by unfold latyF; rw [h c (by omega)])
theorem m_deg0 {y : Int32} {M : JM} (hn : M 198 7 = N n) (hn9 : n ≤ 9) (hk : M 198 13 = N k) (hk6 : k ≤ 6) (hz : ∀ p, p < n → ¬ M 204 p < 0) (hp : ∀ p, p < n → okn n (M 205 p) ∧ okn n (M 206 p)) (ha : a < n) (hb : b < 31) (hl : laty k (fun c => !(decide (M 210 c = 0))) (M 209) y = lt) : ∀ (c i f : Nat) (had : Int32), i + c = n → c + 1 < f → (∀ j, j < i → bt (rch n (M 204) (M 205) (M 206) lt a j) b = false) → (i = 0 ∧ had = 0 ∨ ∃ j, i = j + 1 ∧ had = rch n (M 204) (M 205) (M 206) lt a j) → f156_17 f 198 (N b) y (rch n (M 204) (M 205) (M 206) lt a i) had (N i) M = some (oi (dgr (rch n (M 204) (M 205) (M 206) lt a) b c i), M)
  | _, _, 0, _, _, hf, _, _ => absurd hf (Nat.not_lt_zero _)
  | 0, i, f + 1, had, hi, hf, hno, hh => by
    have e : i = n := hi
    subst e
    obtain ⟨j, hj, hd⟩ : ∃ j, i = j + 1 ∧ had = rch i (M 204) (M 205) (M 206) lt a j := by
      rcases hh with ⟨h0, _⟩ | h
      · omega
      · exact h
    have hl2 := rch_last (lt := lt) (bo := M 204) hn9 ha hp (i := j) (by omega)
    have hbf : bt (rch i (M 204) (M 205) (M 206) lt a i) b = false := by rw [← hl2]; exact hno j (by omega)
    rw [f156_17, m_has hb, hbf, hd, hl2]
    simp only [Option.bind_some, b2_0, if_true]
    unfold f156_52
    rw [m_has hb, hbf]
    rfl
  | c + 1, i, f + 1, had, hi, hf, hno, hh => by
    rw [f156_17, m_has hb]
    simp only [Option.bind_some, b2_0]
    unfold f156_52
    rw [m_has hb]
    simp only [Option.bind_some, b2_0]
    unfold dgr
    cases hbt : bt (rch n (M 204) (M 205) (M 206) lt a i) b with
    | true => rfl
    | false =>
      simp only [if_true, Bool.false_eq_true, if_false]
      by_cases hs : rch n (M 204) (M 205) (M 206) lt a i = had
      · rw [if_pos hs, dgr_none]
        · rfl
        · intro j h1 _
          rcases hh with ⟨h0, h2⟩ | ⟨q, hq, hd⟩
          · rw [h0, h2] at hs
            have hs2 : B a = 0 := hs
            have := bt_B (k := a) (j := a) (by omega)
            rw [hs2, bt_zero, decide_eq_true rfl] at this
            cases this
          · rw [hd, hq] at hs
            have := rch_stay hs (j - q)
            rw [show q + (j - q) = j by omega] at this
            rw [this, ← hs, ← hq]; exact hbt
      · rw [if_neg hs, m_step hn hn9 hk hk6 hz, hl]
        simp only [Option.bind_some, N_succ]
        refine m_deg0 hn hn9 hk hk6 hz hp ha hb hl c (i + 1) f _ (by omega) (by omega) (fun j hj => ?_) (Or.inr ⟨i, rfl, rfl⟩)
        by_cases e : j = i
        · rw [e]; exact hbt
        · exact hno j (by omega)
theorem m_deg {y : Int32} {M : JM} (hn : M 198 7 = N n) (hn9 : n ≤ 9) (hk : M 198 13 = N k) (hk6 : k ≤ 6) (hz : ∀ p, p < n → ¬ M 204 p < 0) (hp : ∀ p, p < n → okn n (M 205 p) ∧ okn n (M 206 p)) (ha : a < n) (hb : b < n) : f156 198 (N a) (N b) y M = some (oi (deg n (M 204) (M 205) (M 206) (ltm M k (thr (M 198 22)) (decide (M 203 a = 1)) (decide (M 203 b = 1)) y) a b), jrw M 210 k (fun c => b2 (snB k (M 208) (M 209) (thr (M 198 22)) (decide (M 203 a = 1)) (decide (M 203 b = 1)) c))) := by
  unfold f156
  rw [m_lay hk hk6 (by omega) (by omega)]
  simp only [Option.bind_some]
  generalize hX : jrw M 210 k (fun c => b2 (snB k (M 208) (M 209) (thr (M 198 22)) (decide (M 203 a = 1)) (decide (M 203 b = 1)) c)) = X
  have h198 : X 198 = M 198 := by rw [← hX]; exact jrw_o (by decide)
  have h204 : X 204 = M 204 := by rw [← hX]; exact jrw_o (by decide)
  have h205 : X 205 = M 205 := by rw [← hX]; exact jrw_o (by decide)
  have h206 : X 206 = M 206 := by rw [← hX]; exact jrw_o (by decide)
  have h209 : X 209 = M 209 := by rw [← hX]; exact jrw_o (by decide)
  have hl : laty k (fun c => !(decide (X 210 c = 0))) (X 209) y = ltm M k (thr (M 198 22)) (decide (M 203 a = 1)) (decide (M 203 b = 1)) y := by
    unfold ltm
    rw [h209]
    refine laty_congr (fun c hc => ?_)
    rw [← hX, jrw_in hc]
    cases snB k (M 208) (M 209) (thr (M 198 22)) (decide (M 203 a = 1)) (decide (M 203 b = 1)) c <;> rfl
  have q := m_deg0 (M := X) (y := y) (n := n) (a := a) (b := b) (by rw [h198]; exact hn) hn9 (by rw [h198]; exact hk) hk6 (by rw [h204]; exact hz) (by rw [h205, h206]; exact hp) ha (by omega) hl n 0 1000 0 (by omega) (by omega) (fun j hj => absurd hj (Nat.not_lt_zero _)) (Or.inl ⟨rfl, rfl⟩)
  rw [h204, h205, h206] at q
  exact q
end DG
