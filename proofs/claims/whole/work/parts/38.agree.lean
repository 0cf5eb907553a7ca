/-! PURE: rows that agree below their ends give the same kin -/
section CG
variable {n k a b : Nat} {ck ck2 cy cy2 : Nat → Int32} {th th2 : Nat → Bool} {bo bo2 mo mo2 fa fa2 : Nat → Int32} {lt : Int32}
theorem ahd_congr (h : ∀ c, c < k → cy c = cy2 c) (ha : a < k) (hb : b < k) : ahd cy a b = ahd cy2 a b := by
  unfold ahd; rw [h a ha, h b hb]
theorem lat_congr (h1 : ∀ c, c < k → ck c = ck2 c) (h2 : ∀ c, c < k → cy c = cy2 c) (h3 : ∀ c, c < k → th c = th2 c) {e : Nat} (he : e < k) : lat k ck cy th e = lat k ck2 cy2 th2 e := by
  have q : ∀ m, m ≤ k → itr (latF ck cy th e) 0 m none = itr (latF ck2 cy2 th2 e) 0 m none ∧ ∀ j, itr (latF ck cy th e) 0 m none = some j → j < m := by
    intro m
    induction m with
    | zero => exact fun _ => ⟨rfl, fun j hj => by cases hj⟩
    | succ m ih =>
      intro hm
      obtain ⟨i1, i2⟩ := ih (by omega)
      rw [itr_succ, itr_succ, ← i1, Nat.zero_add]
      refine ⟨?_, latF_lt i2⟩
      generalize itr (latF ck cy th e) 0 m none = l at i2 ⊢
      unfold latF
      rw [h1 m (by omega), h3 m (by omega), ahd_congr h2 (show m < k by omega) he]
      cases l with
      | none => rfl
      | some j =>
        have hj := i2 j rfl
        simp only
        simp only [ahd_congr h2 (show j < k by omega) (show m < k by omega)]
  exact (q k (Nat.le_refl _)).1
theorem canc_congr (h1 : ∀ c, c < k → ck c = ck2 c) (h2 : ∀ c, c < k → cy c = cy2 c) (h3 : ∀ c, c < k → th c = th2 c) {c : Nat} : canc k ck cy th c = canc k ck2 cy2 th2 c := by
  unfold canc
  refine itr_congr k 0 false (fun e x _ he => ?_)
  unfold cancF
  rw [h1 e (by omega), h3 e (by omega), lat_congr h1 h2 h3 (show e < k by omega)]
theorem sees_congr (h1 : ∀ c, c < k → ck c = ck2 c) (h2 : ∀ c, c < k → cy c = cy2 c) (h3 : ∀ c, c < k → th c = th2 c) {s : Bool} {c : Nat} (hc : c < k) : sees k ck cy th s c = sees k ck2 cy2 th2 s c := by
  unfold sees
  rw [h1 c hc, h3 c hc, canc_congr h1 h2 h3]
theorem laty_congr2 {S T : Nat → Bool} {y : Int32} (h2 : ∀ c, c < k → cy c = cy2 c) (h : ∀ c, c < k → S c = T c) : laty k S cy y = laty k T cy2 y := by
  unfold laty
  exact itr_congr k 0 (-1) (fun c l _ hc => by unfold latyF; rw [h c (by omega), h2 c (by omega)])
theorem stp_congr (h1 : ∀ p, p < n → bo p = bo2 p) (h2 : ∀ p, p < n → mo p = mo2 p) (h3 : ∀ p, p < n → fa p = fa2 p) {s : Int32} : stp n bo mo fa lt s = stp n bo2 mo2 fa2 lt s := by
  unfold stp
  exact itr_congr n 0 s (fun p r _ hp => by unfold stF; rw [h1 p (by omega), h2 p (by omega), h3 p (by omega)])
theorem rch_congr (h1 : ∀ p, p < n → bo p = bo2 p) (h2 : ∀ p, p < n → mo p = mo2 p) (h3 : ∀ p, p < n → fa p = fa2 p) : ∀ i, rch n bo mo fa lt a i = rch n bo2 mo2 fa2 lt a i
  | 0 => rfl
  | i + 1 => by
    show stp n bo mo fa lt _ = stp n bo2 mo2 fa2 lt _
    rw [rch_congr h1 h2 h3 i, stp_congr h1 h2 h3]
theorem deg_congr (h1 : ∀ p, p < n → bo p = bo2 p) (h2 : ∀ p, p < n → mo p = mo2 p) (h3 : ∀ p, p < n → fa p = fa2 p) : deg n bo mo fa lt a b = deg n bo2 mo2 fa2 lt a b := by
  unfold deg
  rw [show rch n bo mo fa lt a = rch n bo2 mo2 fa2 lt a from funext (rch_congr h1 h2 h3)]
end CG
/-- a country of the class, in order: people, comets, parents, births, seers, and what is found of comets -/
def Ctr (M : JM) (o n k : Nat) : Prop := M o 0 = N n ∧ n ≤ 9 ∧ M o 1 = N k ∧ k ≤ 6 ∧ (∀ p, p < n → okn n (M (o + 6) p) ∧ okn n (M (o + 8) p)) ∧ (∀ p, p < n → ¬ M (o + 4) p < 0) ∧ (∀ p, bt (M o 10) p = (decide (p < n) && decide (M (o + 2) p = 1))) ∧ (∀ c, bt (M o 11) c = canc k (M (o + 12)) (M (o + 14)) tt c) ∧ (∀ c, bt (M o 12) c = (decide (c < k) && sees k (M (o + 12)) (M (o + 14)) tt false c)) ∧ (∀ c, bt (M o 13) c = (decide (c < k) && sees k (M (o + 12)) (M (o + 14)) tt true c))
/-- the reference's country holds the same -/
def Agr (M : JM) (o n k : Nat) : Prop := M 198 7 = N n ∧ M 198 13 = N k ∧ M 198 16 = M o 2 ∧ (∀ p, p < n → M (o + 2) p = M 203 p) ∧ (∀ p, p < n → M (o + 4) p = M 204 p) ∧ (∀ p, p < n → M (o + 6) p = M 205 p) ∧ (∀ p, p < n → M (o + 8) p = M 206 p) ∧ (∀ p, p < n → M (o + 10) p = M 207 p) ∧ (∀ c, c < k → M (o + 12) c = M 208 c) ∧ (∀ c, c < k → M (o + 14) c = M 209 c)
theorem thr_m1 {c : Nat} (hc : c < 1000) : thr (-1) c = true := by
  unfold thr
  rw [decide_eq_false (N_m1 (by omega))]; rfl
section AG
variable {M : JM} {o n k a b : Nat} {y : Int32}
theorem seer_ok (h : Ctr M o n k) (g : Agr M o n k) (ha : a < n) : bt (M o 10) a = decide (M 203 a = 1) := by
  rw [h.2.2.2.2.2.2.1 a, decide_eq_true ha, Bool.true_and, g.2.2.2.1 a ha]
theorem bt_sight (h : Ctr M o n k) {s : Bool} {c : Nat} : bt (if s = true then M o 13 else M o 12) c = (decide (c < k) && sees k (M (o + 12)) (M (o + 14)) tt s c) := by
  cases s
  · exact h.2.2.2.2.2.2.2.2.1 c
  · exact h.2.2.2.2.2.2.2.2.2 c
theorem lts_ltm (h : Ctr M o n k) (g : Agr M o n k) (hl : M 198 22 = -1) {sa sb : Bool} : lts M o k sa sb y = ltm M k (thr (M 198 22)) sa sb y := by
  have hk6 : k ≤ 6 := h.2.2.2.1
  unfold lts ltm
  refine laty_congr2 (fun c hc => g.2.2.2.2.2.2.2.2.2 c hc) (fun c hc => ?_)
  have e : ∀ s, bt (if s = true then M o 13 else M o 12) c = sees k (M 208) (M 209) (thr (M 198 22)) s c := by
    intro s
    rw [bt_sight h, decide_eq_true hc, Bool.true_and]
    exact sees_congr (fun c hc => g.2.2.2.2.2.2.2.2.1 c hc) (fun c hc => g.2.2.2.2.2.2.2.2.2 c hc) (fun c hc => by rw [hl, thr_m1 (by omega)]; rfl) hc
  rw [bt_and, e, e]
  rfl
/-- the degree that both answer -/
def dg (M : JM) (o n k a b : Nat) (y : Int32) : Option Nat := deg n (M (o + 4)) (M (o + 6)) (M (o + 8)) (lts M o k (bt (M o 10) a) (bt (M o 10) b) y) a b
theorem c_dg (ho : Cok o) (h : Ctr M o n k) (ha : a < n) (hb : b < n) : f20 M o (N a) (N b) y = some (oi (dg M o n k a b y)) := c_deg ho h.1 h.2.1 h.2.2.1 h.2.2.2.1 h.2.2.2.2.1 ha hb
theorem m_dg (h : Ctr M o n k) (g : Agr M o n k) (hl : M 198 22 = -1) (ha : a < n) (hb : b < n) : ∃ s, f156 198 (N a) (N b) y M = some (oi (dg M o n k a b y), jrw M 210 k s) := by
  have hz : ∀ p, p < n → ¬ M 204 p < 0 := fun p hp => by rw [← g.2.2.2.2.1 p hp]; exact h.2.2.2.2.2.1 p hp
  have hp : ∀ p, p < n → okn n (M 205 p) ∧ okn n (M 206 p) := fun p hp => by rw [← g.2.2.2.2.2.1 p hp, ← g.2.2.2.2.2.2.1 p hp]; exact h.2.2.2.2.1 p hp
  refine ⟨_, (m_deg g.1 h.2.1 g.2.1 h.2.2.2.1 hz hp ha hb).trans (congrArg (fun d => some (oi d, jrw M 210 k (fun c => b2 (snB k (M 208) (M 209) (thr (M 198 22)) (decide (M 203 a = 1)) (decide (M 203 b = 1)) c)))) ?_)⟩
  unfold dg
  rw [seer_ok h g ha, seer_ok h g hb, lts_ltm h g hl]
  rw [deg_congr (fun p hp => g.2.2.2.2.1 p hp) (fun p hp => g.2.2.2.2.2.1 p hp) (fun p hp => g.2.2.2.2.2.2.1 p hp)]
end AG
