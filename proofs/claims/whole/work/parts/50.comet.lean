/-! PURE: comet -/
theorem low_all : (List.range 10).all (fun n => (List.range 32).all (fun j => bt (B n - 1) j == decide (j < n))) = true := by decide +kernel
theorem bt_low {n j : Nat} (hn : n ≤ 9) : bt (B n - 1) j = decide (j < n) := by
  by_cases hj : j < 32
  · exact eq_of_beq (List.all_eq_true.mp (List.all_eq_true.mp low_all n (List.mem_range.mpr (by omega))) j (List.mem_range.mpr hj))
  · rw [bt_ge (by omega)]; exact (decide_eq_false (by omega)).symm
theorem low_N {n : Nat} (hn : n < 31) : f102 (N n) = some (B n - 1) := by
  unfold f102
  rw [bit_N hn]; rfl
/-- who sees a comet -/
def whoB (M : JM) (n k c : Nat) : Int32 := itr (fun p s => s ||| (if sees k (M 208) (M 209) (thr (M 198 22)) (decide (M 203 p = 1)) c = true then B p else 0)) 0 n 0
theorem c_who {M : JM} {n k c : Nat} (h1 : Ctr M 4 n k) (h2 : Agr M 4 n k) (h4 : M 198 22 = -1) (hc : c < k) : f15 M 4 (N c) = some (whoB M n k c) := by
  have hn9 : n ≤ 9 := h1.2.1
  have hk6 : k ≤ 6 := h1.2.2.2.1
  have e : ∀ s : Bool, bt (if s = true then M 4 13 else M 4 12) c = sees k (M 208) (M 209) (thr (M 198 22)) s c := by
    intro s
    rw [bt_sight h1, decide_eq_true hc, Bool.true_and]
    exact sees_congr (fun c hc => h2.2.2.2.2.2.2.2.2.1 c hc) (fun c hc => h2.2.2.2.2.2.2.2.2.2 c hc) (fun c hc => by rw [h4, thr_m1 (by omega)]; rfl) hc
  have e1 : bt (M 4 13) c = sees k (M 208) (M 209) (thr (M 198 22)) true c := e true
  have e0 : bt (M 4 12) c = sees k (M 208) (M 209) (thr (M 198 22)) false c := e false
  have key : ∀ x y : Bool, x = sees k (M 208) (M 209) (thr (M 198 22)) true c → y = sees k (M 208) (M 209) (thr (M 198 22)) false c → ((if x = true then M 4 10 else 0) ||| (if y = true then ((B n - 1) &&& (M 4 10 ^^^ (-1 : Int32))) else 0)) = whoB M n k c := by
    intro x y hx hy
    apply bt_ext
    intro j hj
    unfold whoB
    rw [bt_orI n j (by omega), bt_zero, Bool.false_or, bt_or]
    have ex : bt (if x = true then M 4 10 else 0) j = (x && (decide (j < n) && decide (M 203 j = 1))) := by
      cases x
      · exact bt_zero
      · show bt (M 4 10) j = _
        by_cases hjn : j < n
        · rw [seer_ok h1 h2 hjn, decide_eq_true hjn]; rfl
        · rw [h1.2.2.2.2.2.2.1 j, decide_eq_false hjn]; rfl
    have ey : bt (if y = true then ((B n - 1) &&& (M 4 10 ^^^ (-1 : Int32))) else 0) j = (y && (decide (j < n) && !(decide (M 203 j = 1)))) := by
      cases y
      · exact bt_zero
      · show bt ((B n - 1) &&& (M 4 10 ^^^ (-1 : Int32))) j = _
        rw [bt_and, bt_low hn9, bt_not hj]
        by_cases hjn : j < n
        · rw [seer_ok h1 h2 hjn]; rfl
        · rw [decide_eq_false hjn]; rfl
    rw [ex, ey, hx, hy]
    by_cases hs : M 203 j = 1
    · rw [decide_eq_true hs]
      cases decide (j < n) <;> cases sees k (M 208) (M 209) (thr (M 198 22)) true c <;> simp
    · rw [decide_eq_false hs]
      cases decide (j < n) <;> cases sees k (M 208) (M 209) (thr (M 198 22)) false c <;> simp
  have k1 := key _ _ e1 e0
  unfold f15 f15_34
  rw [h1.1, low_N (by omega), has_N (by omega), has_N (by omega)]
  simp only [Option.bind_some, b2_0]
  cases hb1 : bt (M 4 13) c <;> cases hb0 : bt (M 4 12) c <;> rw [hb1, hb0] at k1 <;> exact congrArg some k1
