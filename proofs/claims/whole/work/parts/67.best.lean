/-! PURE: bestBorn -/
section BM
variable {n a : Nat} {bo bo2 mo fa : Nat → Int32} {lt : Int32}
theorem stp_mono {s t : Int32} (hn : n ≤ 9) (hp : ∀ p, p < n → okn n (mo p) ∧ okn n (fa p)) (hb : ∀ p, p < n → ¬ lt < bo2 p → ¬ lt < bo p) (h : sb s t) : sb (stp n bo2 mo fa lt s) (stp n bo mo fa lt t) := by
  intro j hj
  have h1 := (bt_stp (bo := bo2) (lt := lt) (s := s) (j := j) hn hp n (Nat.le_refl _)).mp hj
  refine (bt_stp (bo := bo) (lt := lt) (s := t) (j := j) hn hp n (Nat.le_refl _)).mpr ?_
  rcases h1 with h1 | ⟨p, h1, h2, h3⟩
  · exact Or.inl (h j h1)
  · refine Or.inr ⟨p, h1, hb p h1 h2, ?_⟩
    rcases h3 with ⟨h3, h4⟩ | ⟨h3, i, h4, h5, h6⟩
    · exact Or.inl ⟨h p h3, h4⟩
    · exact Or.inr ⟨h3, i, h4, h i h5, h6⟩
theorem rch_mbo (hn : n ≤ 9) (hp : ∀ p, p < n → okn n (mo p) ∧ okn n (fa p)) (hb : ∀ p, p < n → ¬ lt < bo2 p → ¬ lt < bo p) : ∀ i, sb (rch n bo2 mo fa lt a i) (rch n bo mo fa lt a i)
  | 0 => fun _ h => h
  | i + 1 => stp_mono hn hp hb (rch_mbo hn hp hb i)
end BM
theorem mx_N {a b : Nat} (ha : a < 1000) (hb : b < 1000) : f208 (N a) (N b) = some (N (max a b)) := by
  unfold f208
  by_cases h : a < b
  · rw [if_pos ((N_lt (by omega) (by omega)).mpr h), Nat.max_eq_right (by omega)]
  · rw [if_neg (fun q => h ((N_lt (by omega) (by omega)).mp q)), Nat.max_eq_left (by omega)]
theorem md_dgo {M : JM} {o n k a b : Nat} {y : Int32} (h : Ctr M o n k) (g : Agr M o n k) (hl : M 198 22 = -1) (ha : a < n) (hb : b < n) : md M n k a b y = dg M o n k a b y := by
  unfold md dg
  rw [seer_ok h g ha, seer_ok h g hb, lts_ltm h g hl]
  rw [deg_congr (fun p hp => g.2.2.2.2.1 p hp) (fun p hp => g.2.2.2.2.2.1 p hp) (fun p hp => g.2.2.2.2.2.2.1 p hp)]
def Qb (X : JM) (n : Nat) (Xc : JM) : Prop := (∀ o, o ≠ 210 → o ≠ 204 → Xc o = X o) ∧ ∀ p, p ≠ n → Xc 204 p = X 204 p
def bcnt (X : JM) (n k : Nat) (y v : Int32) : Nat := crd (kinS (n + 1) n (fun j => (md (jup X 204 n v) (n + 1) k n j y).isSome) &&& X 199 10) 9
theorem qb_sm {X Xc : JM} {n : Nat} {v : Int32} (h : Qb X n Xc) : Sm (jup X 204 n v) (jup Xc 204 n v) := fun o ho => by
  by_cases e : o = 204
  · subst e
    funext p
    rw [jup_at, jup_at]
    by_cases ep : p = n
    · rw [if_pos ⟨rfl, ep⟩, if_pos ⟨rfl, ep⟩]
    · rw [if_neg (fun q => ep q.2), if_neg (fun q => ep q.2), h.2 p ep]
  · rw [jup_o e, jup_o e, h.1 o ho e]
theorem qb_of {X X2 : JM} {n : Nat} {v : Int32} (h : Sm (jup X 204 n v) X2) : Qb X n X2 := ⟨fun o q1 q2 => by rw [h o q1, jup_o q2], fun p hp => by rw [h 204 (by decide), jup_nk (by omega)]⟩
theorem bcnt_le {X : JM} {n k i i2 : Nat} {y : Int32} (hn : n + 1 ≤ 9) (hp : ∀ p, p < n + 1 → okn (n + 1) (X 205 p) ∧ okn (n + 1) (X 206 p)) (hi : i ≤ i2) (hi2 : i2 < 1000) : bcnt X n k y (N i2) ≤ bcnt X n k y (N i) := by
  unfold bcnt
  refine crd_sub (fun j hj => ?_) 9
  rw [bt_and, Bool.and_eq_true, bt_kinS hn, Bool.and_eq_true, Bool.and_eq_true] at hj ⊢
  refine ⟨⟨hj.1.1, hj.1.2.1, ?_⟩, hj.2⟩
  have h2 := hj.1.2.2
  unfold md at h2 ⊢
  rw [jup_o (show (205 : Nat) ≠ 204 by decide), jup_o (show (206 : Nat) ≠ 204 by decide)] at h2 ⊢
  rw [deg_isSome hn (by omega) hp] at h2 ⊢
  have e : ∀ v, ltm (jup X 204 n v) k (thr (jup X 204 n v 198 22)) (decide (jup X 204 n v 203 n = 1)) (decide (jup X 204 n v 203 j = 1)) y = ltm X k (thr (X 198 22)) (decide (X 203 n = 1)) (decide (X 203 j = 1)) y := fun v => by
    unfold ltm
    rw [jup_o (by decide), jup_o (by decide), jup_o (by decide), jup_o (by decide)]
  rw [e] at h2 ⊢
  refine rch_mbo hn hp (fun p _ q => ?_) (n + 1) j h2
  rw [jup_at] at q ⊢
  by_cases ep : p = n
  · rw [if_pos ⟨rfl, ep⟩] at q ⊢
    intro z
    apply q
    rw [Int32.lt_iff_toInt_lt] at z ⊢
    rw [N_int (by omega)] at z ⊢
    omega
  · rw [if_neg (fun z => ep z.2)] at q ⊢
    exact q
section BB
variable {X : JM} {n k a c A C y : Nat} {w : Int32}
/-- what the reference's country with one more must be -/
def Bst (X : JM) (n k a c A C : Nat) : Prop := X 198 7 = N (n + 1) ∧ n + 1 ≤ 9 ∧ X 198 13 = N k ∧ k ≤ 6 ∧ (∀ p, p < n → ¬ X 204 p < 0) ∧ (∀ p, p < n + 1 → okn (n + 1) (X 205 p) ∧ okn (n + 1) (X 206 p)) ∧ a < n ∧ c < n ∧ X 204 a = N A ∧ X 204 c = N C ∧ A < 1000 ∧ C < 1000 ∧ bnd n (X 199 10)
theorem bst_rfk (h : Bst X n k a c A C) {i : Nat} (hi : i < 1000) : Rfk (jup X 204 n (N i)) (n + 1) k := by
  obtain ⟨h1, h2, h3, h4, h5, h6, _⟩ := h
  refine ⟨by rw [jup_o (by decide)]; exact h1, h2, by rw [jup_o (by decide)]; exact h3, h4, fun p hp => ?_, fun p hp => ?_⟩
  · rw [jup_at]
    by_cases ep : p = n
    · rw [if_pos ⟨rfl, ep⟩]; exact N_neg (by omega)
    · rw [if_neg (fun q => ep q.2)]; exact h5 p (by omega)
  · rw [jup_o (by decide), jup_o (by decide)]; exact h6 p hp
theorem bst_end (h : Bst X n k a c A C) {Xc : JM} {i : Nat} {best most : Int32} {f : Nat} (q : Qb X n Xc) (hy : y < 100) (hi : y < i) (hi2 : i < 1000) : f190_89 (f + 1) 198 (N a) (N c) (N y) w (N n) best most (N i) Xc = some (if w = 0 then best else most, jup Xc 198 7 (N n)) := by
  have e : N (n + 1) - (1 : Int32) = N n := (Int32.ofNat_sub (n + 1) 1 (by omega)).symm
  have e7 : Xc 198 7 = N (n + 1) := by rw [q.1 198 (by decide) (by decide)]; exact h.1
  rw [f190_89, if_pos ((N_lt (by omega) (by omega)).mpr hi), e7, e]
  simp only [Option.bind_some]
  by_cases hw : w = 0
  · rw [if_pos hw, if_pos hw]
  · rw [if_neg hw, if_neg hw]
theorem bst_fit (h : Bst X n k a c A C) {Xc : JM} {i : Nat} {best most : Int32} {f : Nat} (q : Qb X n Xc) (hy : y < 100) (hi : i ≤ y) (hA : A ≤ i) (hC : C ≤ i) : ∃ X2, Qb X n X2 ∧ f190_89 (f + 1) 198 (N a) (N c) (N y) w (N n) best most (N i) Xc = f190_89 f 198 (N a) (N c) (N y) w (N n) (if most < N (bcnt X n k (N y) (N i)) then N i else best) (if most < N (bcnt X n k (N y) (N i)) then N (bcnt X n k (N y) (N i)) else most) (N (i + 1)) X2 := by
  obtain ⟨X2, e, s⟩ := m_kin (y := N y) (bst_rfk h (show i < 1000 by omega)) (qb_sm q) (show n < n + 1 by omega)
  obtain ⟨h1, h2, h3, h4, h5, h6, ha, hc, hA2, hC2, hA3, hC3, hl⟩ := h
  refine ⟨X2, qb_of s, ?_⟩
  have x199 : X2 199 10 = X 199 10 := by rw [s 199 (by decide), jup_o (by decide)]
  have hb : bnd (n + 1) (kinS (n + 1) n (fun j => (md (jup X 204 n (N i)) (n + 1) k n j (N y)).isSome) &&& X 199 10) := fun j hj => by
    rw [bt_and, Bool.and_eq_true] at hj
    exact kinS_bnd h2 j hj.1
  rw [f190_89, if_neg (fun z => absurd ((N_lt (by omega) (by omega)).mp z) (by omega)), mp_9, la_204 (show a < 9 by omega), la_204 (show c < 9 by omega), q.2 a (by omega), q.2 c (by omega), hA2, hC2, Option.bind_some, if_neg (fun z => absurd ((N_lt (by omega) (by omega)).mp z) (by omega)), Option.bind_some, if_neg (fun z => absurd ((N_lt (by omega) (by omega)).mp z) (by omega)), sa_204 (show n < 9 by omega), Option.bind_some, e, Option.bind_some, mp_0, la_10, Option.bind_some]
  dsimp only
  rw [x199, bc_m h2 hb, Option.bind_some, show crd (kinS (n + 1) n (fun j => (md (jup X 204 n (N i)) (n + 1) k n j (N y)).isSome) &&& X 199 10) 9 = bcnt X n k (N y) (N i) from rfl]
  unfold f190_160 f190_176 f190_178
  rw [N_succ]
  by_cases hm : most < N (bcnt X n k (N y) (N i))
  · rw [if_pos hm, if_pos hm, if_pos hm, if_pos hm]
  · rw [if_neg hm, if_neg hm, if_neg hm, if_neg hm]
theorem bst_3 (h : Bst X n k a c A C) {b : Nat} (hy : y < 100) (hA : A ≤ b) (hC : C ≤ b) : ∀ (d i f : Nat) (Xc : JM), i + d = y + 1 → d < f → b ≤ i → Qb X n Xc → ∃ X2, Qb X n X2 ∧ f190_89 f 198 (N a) (N c) (N y) w (N n) (N b) (N (bcnt X n k (N y) (N b))) (N i) Xc = some (if w = 0 then N b else N (bcnt X n k (N y) (N b)), jup X2 198 7 (N n))
  | _, _, 0, _, _, hf, _, _ => absurd hf (Nat.not_lt_zero _)
  | 0, i, f + 1, Xc, hi, _, _, q => ⟨Xc, q, bst_end h q hy (by omega) (by omega)⟩
  | d + 1, i, f + 1, Xc, hi, hf, hb, q => by
    obtain ⟨X2, q2, e⟩ := bst_fit (w := w) (best := N b) (most := N (bcnt X n k (N y) (N b))) (f := f) h q hy (show i ≤ y by omega) (by omega) (by omega)
    have hle := bcnt_le (k := k) (y := N y) (i := b) (i2 := i) h.2.1 h.2.2.2.2.2.1 hb (by omega)
    have h9 : bcnt X n k (N y) (N b) ≤ 9 := crd_le 9
    have hn : ¬ N (bcnt X n k (N y) (N b)) < N (bcnt X n k (N y) (N i)) := fun z => absurd ((N_lt (by omega) (by omega)).mp z) (by omega)
    rw [if_neg hn, if_neg hn] at e
    obtain ⟨X3, q3, e3⟩ := bst_3 h hy hA hC d (i + 1) f X2 (by omega) (by omega) (by omega) q2
    exact ⟨X3, q3, e.trans e3⟩
theorem bst_1 (h : Bst X n k a c A C) (hy : y < 100) : ∀ (d i f : Nat) (Xc : JM), i + d = y + 1 → d + 1 < f → Qb X n Xc → ∃ X2, Qb X n X2 ∧ f190_89 f 198 (N a) (N c) (N y) w (N n) (-1 : Int32) (-1 : Int32) (N i) Xc = some (if y < max i (max A C) then -1 else if w = 0 then N (max i (max A C)) else N (bcnt X n k (N y) (N (max i (max A C)))), jup X2 198 7 (N n))
  | _, _, 0, _, _, hf, _ => absurd hf (Nat.not_lt_zero _)
  | 0, i, f + 1, Xc, hi, _, q => by
    refine ⟨Xc, q, ?_⟩
    rw [bst_end h q hy (by omega) (by omega), if_pos (show y < max i (max A C) by omega), ite_self]
  | d + 1, i, f + 1, Xc, hi, hf, q => by
    by_cases hfit : A ≤ i ∧ C ≤ i
    · obtain ⟨X2, q2, e⟩ := bst_fit (w := w) (best := (-1 : Int32)) (most := (-1 : Int32)) (f := f) h q hy (show i ≤ y by omega) hfit.1 hfit.2
      have h9 : bcnt X n k (N y) (N i) ≤ 9 := crd_le 9
      have hm : (-1 : Int32) < N (bcnt X n k (N y) (N i)) := by
        rw [Int32.lt_iff_toInt_lt, N_int (by omega)]
        have : ((-1 : Int32)).toInt = -1 := rfl
        omega
      rw [if_pos hm, if_pos hm] at e
      obtain ⟨X3, q3, e3⟩ := bst_3 (w := w) h hy hfit.1 hfit.2 d (i + 1) f X2 (by omega) (by omega) (by omega) q2
      refine ⟨X3, q3, ?_⟩
      rw [show max i (max A C) = i by omega, if_neg (by omega)]
      exact e.trans e3
    · obtain ⟨X3, q3, e3⟩ := bst_1 h hy d (i + 1) f Xc (by omega) (by omega) q
      refine ⟨X3, q3, ?_⟩
      obtain ⟨h1, h2, h3, h4, h5, h6, ha, hc, hA2, hC2, hA3, hC3, hl⟩ := h
      rw [show max (i + 1) (max A C) = max i (max A C) by omega] at e3
      rw [← e3, f190_89, if_neg (fun z => absurd ((N_lt (by omega) (by omega)).mp z) (by omega)), mp_9, la_204 (show a < 9 by omega), la_204 (show c < 9 by omega), q.2 a (by omega), q.2 c (by omega), hA2, hC2]
      unfold f190_178
      simp only [Option.bind_some, N_succ]
      by_cases hAi : i < A
      · rw [if_pos ((N_lt (by omega) (by omega)).mpr hAi)]
      · rw [if_neg (fun z => hAi ((N_lt (by omega) (by omega)).mp z)), if_pos ((N_lt (by omega) (by omega)).mpr (by omega))]
end BB
