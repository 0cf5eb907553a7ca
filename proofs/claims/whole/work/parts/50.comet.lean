/-! PURE: comet -/
theorem low_all : (List.range 10).all (fun n => (List.range 32).all (fun j => bt (B n - 1) j == decide (j < n))) = true := by decide +kernel
theorem bt_low {n j : Nat} (hn : n ≤ 9) : bt (B n - 1) j = decide (j < n) := by
  by_cases hj : j < 32
  · exact eq_of_beq (List.all_eq_true.mp (List.all_eq_true.mp low_all n (List.mem_range.mpr (by omega))) j (List.mem_range.mpr hj))
  · rw [bt_ge (by omega)]; exact (decide_eq_false (by omega)).symm
theorem low_N {n : Nat} (hn : n < 31) : f102 (N n) = some (B n - 1) := by
  unfold f102
  rw [bit_N hn]; rfl
/-- who sees a comet -/
def whoB (M : JM) (n k c : Nat) : Int32 := itr (fun p s => s ||| (if sees k (M 208) (M 209) (thr (M 198 22)) (decide (M 203 p = 1)) c = true then B p else 0)) 0 n 0
theorem c_who {M : JM} {n k c : Nat} (h1 : Ctr M 4 n k) (h2 : Agr M 4 n k) (h4 : M 198 22 = -1) (hc : c < k) : f15 M 4 (N c) = some (whoB M n k c) := by
  have hn9 : n ≤ 9 := h1.2.1
  have hk6 : k ≤ 6 := h1.2.2.2.1
  have e : ∀ s : Bool, bt (if s = true then M 4 13 else M 4 12) c = sees k (M 208) (M 209) (thr (M 198 22)) s c := by
    intro s
    rw [bt_sight h1, decide_eq_true hc, Bool.true_and]
    exact sees_congr (fun c hc => h2.2.2.2.2.2.2.2.2.1 c hc) (fun c hc => h2.2.2.2.2.2.2.2.2.2 c hc) (fun c hc => by rw [h4, thr_m1 (by omega)]; rfl) hc
  have e1 : bt (M 4 13) c = sees k (M 208) (M 209) (thr (M 198 22)) true c := e true
  have e0 : bt (M 4 12) c = sees k (M 208) (M 209) (thr (M 198 22)) false c := e false
  have key : ∀ x y : Bool, x = sees k (M 208) (M 209) (thr (M 198 22)) true c → y = sees k (M 208) (M 209) (thr (M 198 22)) false c → ((if x = true then M 4 10 else 0) ||| (if y = true then ((B n - 1) &&& (M 4 10 ^^^ (-1 : Int32))) else 0)) = whoB M n k c := by
    intro x y hx hy
    apply bt_ext
    intro j hj
    unfold whoB
    rw [bt_orI n j (by omega), bt_zero, Bool.false_or, bt_or]
    have ex : bt (if x = true then M 4 10 else 0) j = (x && (decide (j < n) && decide (M 203 j = 1))) := by
      cases x
      · exact bt_zero
      · show bt (M 4 10) j = _
        by_cases hjn : j < n
        · rw [seer_ok h1 h2 hjn, decide_eq_true hjn]; rfl
        · rw [h1.2.2.2.2.2.2.1 j, decide_eq_false hjn]; rfl
    have ey : bt (if y = true then ((B n - 1) &&& (M 4 10 ^^^ (-1 : Int32))) else 0) j = (y && (decide (j < n) && !(decide (M 203 j = 1)))) := by
      cases y
      · exact bt_zero
      · show bt ((B n - 1) &&& (M 4 10 ^^^ (-1 : Int32))) j = _
        rw [bt_and, bt_low hn9, bt_not hj]
        by_cases hjn : j < n
        · rw [seer_ok h1 h2 hjn]; rfl
        · rw [decide_eq_false hjn]; rfl
    rw [ex, ey, hx, hy]
    by_cases hs : M 203 j = 1
    · rw [decide_eq_true hs]
      cases decide (j < n) <;> cases sees k (M 208) (M 209) (thr (M 198 22)) true c <;> simp
    · rw [decide_eq_false hs]
      cases decide (j < n) <;> cases sees k (M 208) (M 209) (thr (M 198 22)) false c <;> simp
  have k1 := key _ _ e1 e0
  unfold f15 f15_34
  rw [h1.1, low_N (by omega), has_N (by omega), has_N (by omega)]
  simp only [Option.bind_some, b2_0]
  cases hb1 : bt (M 4 13) c <;> cases hb0 : bt (M 4 12) c <;> rw [hb1, hb0] at k1 <;> exact congrArg some k1
theorem m_cm {M : JM} {n k c : Nat} {w : Int32} (h1 : Ctr M 4 n k) (h2 : Agr M 4 n k) (hc : c < k) : f164_16 M 1000 198 (N c) w (0 : Int32) (0 : Int32) = if w = 0 then some (M 208 c) else if w = 1 then some (M 209 c) else if w = 2 then some (b2 (canc k (M 208) (M 209) (thr (M 198 22)) c)) else if w = 3 then some (whoB M n k c) else some (-3) := by
  have hk6 : k ≤ 6 := h1.2.2.2.1
  have hn9 : n ≤ 9 := h1.2.1
  have hc6 : c < 6 := by omega
  unfold whoB
  refine (loop_run (F := fun m p s => f164_16 M m 198 (N c) w s (N p)) (K := n) (f := fun p s => s ||| (if sees k (M 208) (M 209) (thr (M 198 22)) (decide (M 203 p = 1)) c = true then B p else 0)) (out := fun s => if w = 0 then some (M 208 c) else if w = 1 then some (M 209 c) else if w = 2 then some (b2 (canc k (M 208) (M 209) (thr (M 198 22)) c)) else if w = 3 then some s else some (-3)) (P := fun _ _ => True) (fun m p s hp _ => ⟨?_, trivial⟩) (fun m s _ => ?_) n 0 0 1000 (by omega) (by omega) trivial).1
  · show f164_16 M (m + 1) 198 (N c) w s (N p) = f164_16 M m 198 (N c) w (s ||| (if sees k (M 208) (M 209) (thr (M 198 22)) (decide (M 203 p = 1)) c = true then B p else 0)) (N (p + 1))
    rw [f164_16, h2.1, if_pos ((N_lt (by omega) (by omega)).mpr hp), m_sees h2.2.1 hk6 hc6 (show p < 9 by omega)]
    unfold f164_44
    simp only [Option.bind_some, N_succ, b2_0]
    cases sees k (M 208) (M 209) (thr (M 198 22)) (decide (M 203 p = 1)) c <;> rfl
  · show f164_16 M (m + 1) 198 (N c) w s (N n) = _
    rw [f164_16, h2.1, if_neg (fun q => Nat.lt_irrefl _ ((N_lt (by omega) (by omega)).mp q)), mp_14, mp_15, la_208 hc6, la_209 hc6, m_canc h2.2.1 hk6 hc6]
    simp only [Option.bind_some, b2_0]
    cases canc k (M 208) (M 209) (thr (M 198 22)) c <;> rfl
theorem t_comet {M : JM} {v w : Int32} (h : Inv M) : ∃ x, f73 M 0 v w = some x ∧ f164 M 198 v w = some x := by
  obtain ⟨n, k, h1, h2, h3, h4, h5, h6, h7, h8, h9⟩ := h
  have hk6 : k ≤ 6 := h1.2.2.2.1
  unfold f73 f164
  rw [xp_1, c_comet h1.2.2.1, m_comet h2.2.1 (by omega)]
  simp only [Option.bind_some, b2_0]
  cases hv : isN k v with
  | false => exact ⟨-2, rfl, rfl⟩
  | true =>
    obtain ⟨c, hc, rfl⟩ := isN_t (by omega) hv
    have hc6 : c < 6 := by omega
    simp only [Bool.true_eq_false, if_false]
    have ec : bt (M 4 11) c = canc k (M 208) (M 209) (thr (M 198 22)) c := by
      rw [h1.2.2.2.2.2.2.2.1 c]
      exact canc_congr (fun c hc => h2.2.2.2.2.2.2.2.2.1 c hc) (fun c hc => h2.2.2.2.2.2.2.2.2.2 c hc) (fun c hc => by rw [h4, thr_m1 (by omega)]; rfl)
    rw [m_cm h1 h2 hc, get_in cok_4.2.2.2.2.2.1 hc6, get_in cok_4.2.2.2.2.2.2 hc6, has_N (by omega), c_who h1 h2 h4 hc, ec]
    simp only [Option.bind_some, b2_0]
    by_cases w0 : w = 0
    · rw [if_pos w0, if_pos w0]; exact ⟨_, congrArg some (h2.2.2.2.2.2.2.2.2.1 c hc), rfl⟩
    · rw [if_neg w0, if_neg w0]
      by_cases w1 : w = 1
      · rw [if_pos w1, if_pos w1]; exact ⟨_, congrArg some (h2.2.2.2.2.2.2.2.2.2 c hc), rfl⟩
      · rw [if_neg w1, if_neg w1]
        by_cases w2 : w = 2
        · rw [if_pos w2, if_pos w2]
          cases canc k (M 208) (M 209) (thr (M 198 22)) c <;> exact ⟨_, rfl, rfl⟩
        · rw [if_neg w2, if_neg w2]
          by_cases w3 : w = 3
          · rw [if_pos w3]; exact ⟨_, rfl, rfl⟩
          · rw [if_neg w3]; exact ⟨_, rfl, rfl⟩
theorem blk_267 : Blk f217_267 := fun xs h18 i M hx hi hI => by
  obtain ⟨a, e1, e2⟩ := t_comet (v := xs.getD (i + 1) 0) (w := xs.getD (i + 2) 0) hI
  refine ⟨M, hI, ?_⟩
  unfold f217_267 f217_1076
  rw [show (1 : Int32) = N 1 from rfl, show (2 : Int32) = N 2 from rfl, show (5 : Int32) = N 5 from rfl]
  simp only [N_add, sc_at (show i + 1 < xs.length by omega) hx, sc_at (show i + 2 < xs.length by omega) hx, Option.bind_some, e1, e2, if_true]
