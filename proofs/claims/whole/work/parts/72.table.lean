/-! PURE: who may marry whom; the table of most pairs -/
def wV (M : JM) (n k i o : Nat) : Bool := decide (i < o) && (decide (o < n) && mayB M n k i o)
theorem wV_lt {M : JM} {n k i o : Nat} (h : wV M n k i o = true) : i < o := by
  unfold wV at h
  rw [Bool.and_eq_true] at h
  exact of_decide_eq_true h.1
def PR (M : JM) (n k a b : Nat) (X : JM) : Prop := (∀ o, o ≠ 197 → X o = M o) ∧ ∀ i, i < 9 → ∀ j, bt (X 197 i) j = (decide (i < j) && (decide ((i < a ∧ j < n) ∨ (i = a ∧ j < b)) && mayB M n k i j))
theorem pr_same {M X : JM} {n k a b : Nat} (h : PR M n k a b X) : Same M X := fun o j q => by rw [h.1 o (fun e => q (by unfold sck; omega))]
theorem pr_eq {M X : JM} {n k a b a2 b2 : Nat} (h : PR M n k a b X) (e : ∀ i j, i < j → (((i < a ∧ j < n) ∨ (i = a ∧ j < b)) ↔ ((i < a2 ∧ j < n) ∨ (i = a2 ∧ j < b2)))) : PR M n k a2 b2 X := by
  refine ⟨h.1, fun i hi j => ?_⟩
  rw [h.2 i hi j]
  by_cases hij : i < j
  · have q := e i j hij
    by_cases h1 : (i < a ∧ j < n) ∨ (i = a ∧ j < b)
    · rw [decide_eq_true h1, decide_eq_true (q.mp h1)]
    · rw [decide_eq_false h1, decide_eq_false (fun z => h1 (q.mpr z))]
  · rw [decide_eq_false hij]; rfl
theorem c_match1 {M : JM} {n k a : Nat} {h10 : Nat → Int32 → JM → Option JM} (h1 : Ctr M 4 n k) (ha : a < n) : ∀ (d b f : Nat) (X : JM), b + d = n → d < f → a < b → PR M n k a b X → ∃ X2, f116_25 h10 f 0 (N a) (N b) X = h10 0 (N a + 1) X2 ∧ PR M n k a n X2
  | _, _, 0, _, _, hf, _, _ => absurd hf (Nat.not_lt_zero _)
  | 0, b, f + 1, X, hb, _, _, h => by
    have e : b = n := hb
    subst e
    have hn9 := h1.2.1
    rw [f116_25, xp_1, h.1 4 (by decide), h1.1, if_neg (fun q => Nat.lt_irrefl _ ((N_lt (by omega) (by omega)).mp q))]
    exact ⟨X, rfl, h⟩
  | d + 1, b, f + 1, X, hb, hf, hab, h => by
    have hn9 := h1.2.1
    have s := pr_same h
    rw [f116_25, xp_1, xp_10, h.1 4 (by decide), h1.1, if_pos ((N_lt (by omega) (by omega)).mpr (by omega)), c_may (same_ctr s h1) ha (show b < n by omega), same_mayB s, Option.bind_some]
    unfold f116_66
    rw [N_succ]
    simp only [b2_0]
    cases hm : mayB M n k a b with
    | false =>
      obtain ⟨X2, e, h2⟩ := c_match1 (h10 := h10) h1 ha d (b + 1) f X (by omega) (by omega) (by omega) ⟨h.1, fun i hi j => by
        rw [h.2 i hi j]
        by_cases ej : i = a ∧ j = b
        · rw [ej.1, ej.2, hm]; simp
        · by_cases q : (i < a ∧ j < n) ∨ (i = a ∧ j < b)
          · rw [decide_eq_true q, decide_eq_true (show (i < a ∧ j < n) ∨ (i = a ∧ j < b + 1) by omega)]
          · rw [decide_eq_false q, decide_eq_false (show ¬ ((i < a ∧ j < n) ∨ (i = a ∧ j < b + 1)) by omega)]⟩
      exact ⟨X2, by rw [if_pos rfl]; exact e, h2⟩
    | true =>
      have g1 : ∀ i, jup X 197 a (X 197 a ||| B b) 197 i = if i = a then X 197 a ||| B b else X 197 i := fun i => by
        rw [jup_at]; simp only [true_and]
      obtain ⟨X2, e, h2⟩ := c_match1 (h10 := h10) h1 ha d (b + 1) f (jup X 197 a (X 197 a ||| B b)) (by omega) (by omega) (by omega) ⟨fun o ho => by rw [jup_o ho, h.1 o ho], fun i hi j => by
        rw [g1]
        by_cases ei : i = a
        · rw [if_pos ei, bt_or, bt_B (by omega), h.2 a (by omega) j, ei]
          by_cases ej : j = b
          · rw [ej, hm, decide_eq_true hab, decide_eq_true (rfl : b = b), decide_eq_true (show (a < a ∧ b < n) ∨ (a = a ∧ b < b + 1) by omega)]; simp
          · rw [decide_eq_false ej, Bool.or_false]
            by_cases q : (a < a ∧ j < n) ∨ (a = a ∧ j < b)
            · rw [decide_eq_true q, decide_eq_true (show (a < a ∧ j < n) ∨ (a = a ∧ j < b + 1) by omega)]
            · rw [decide_eq_false q, decide_eq_false (show ¬ ((a < a ∧ j < n) ∨ (a = a ∧ j < b + 1)) by omega)]
        · rw [if_neg ei, h.2 i hi j]
          by_cases q : (i < a ∧ j < n) ∨ (i = a ∧ j < b)
          · rw [decide_eq_true q, decide_eq_true (show (i < a ∧ j < n) ∨ (i = a ∧ j < b + 1) by omega)]
          · rw [decide_eq_false q, decide_eq_false (show ¬ ((i < a ∧ j < n) ∨ (i = a ∧ j < b + 1)) by omega)]⟩
      refine ⟨X2, ?_, h2⟩
      rw [if_neg (by decide), get_in row_m (show a < 9 by omega), Option.bind_some, bit_N (by omega), Option.bind_some, set_in row_m (show a < 9 by omega), Option.bind_some]
      exact e
theorem c_match0 {M : JM} {n k : Nat} (h1 : Ctr M 4 n k) : ∀ (d a f : Nat) (X : JM), a + d = n → d < f → PR M n k a 0 X → ∃ X2, f116_10 f 0 (N a) X = some X2 ∧ PR M n k n 0 X2
  | _, _, 0, _, _, hf, _ => absurd hf (Nat.not_lt_zero _)
  | 0, a, f + 1, X, hb, _, h => by
    have e : a = n := hb
    subst e
    have hn9 := h1.2.1
    rw [f116_10, xp_1, h.1 4 (by decide), h1.1, if_neg (fun q => Nat.lt_irrefl _ ((N_lt (by omega) (by omega)).mp q))]
    exact ⟨X, rfl, h⟩
  | d + 1, a, f + 1, X, hb, hf, h => by
    have hn9 := h1.2.1
    obtain ⟨X1, e1, h2⟩ := c_match1 (h10 := f116_10 f) h1 (show a < n by omega) (n - (a + 1)) (a + 1) 1000 X (by omega) (by omega) (by omega) (pr_eq h (fun i j hij => by omega))
    obtain ⟨X2, e2, h3⟩ := c_match0 h1 d (a + 1) f X1 (by omega) (by omega) (pr_eq h2 (fun i j hij => by omega))
    rw [f116_10, xp_1, h.1 4 (by decide), h1.1, if_pos ((N_lt (by omega) (by omega)).mpr (by omega)), N_succ, e1, N_succ]
    exact ⟨X2, e2, h3⟩
theorem c_match {M : JM} {n k : Nat} (h1 : Ctr M 4 n k) : ∃ X, f116 0 M = some X ∧ (∀ o, o ≠ 197 → X o = M o) ∧ ∀ i o, i < 9 → o < 9 → i < o → bt (X 197 i) o = wV M n k i o := by
  have hn9 := h1.2.1
  unfold f116
  rw [xp_10, fill_ok row_m, Option.bind_some]
  obtain ⟨X, e, h⟩ := c_match0 h1 n 0 1000 (jfl M 197 9 0) (by omega) (by omega) ⟨fun o ho => by
    funext j
    show (if o = 197 ∧ j < 9 then _ else _) = _
    rw [if_neg (fun q => ho q.1)], fun i hi j => by
    rw [show jfl M 197 9 0 197 i = 0 from if_pos ⟨rfl, hi⟩, bt_zero, decide_eq_false (show ¬ ((i < 0 ∧ j < n) ∨ (i = 0 ∧ j < 0)) by omega)]; simp⟩
  refine ⟨X, e, h.1, fun i o hi ho hio => ?_⟩
  rw [h.2 i hi o]
  unfold wV
  by_cases hon : o < n
  · rw [decide_eq_true hon, decide_eq_true (show (i < n ∧ o < n) ∨ (i = n ∧ o < 0) by omega)]
  · rw [decide_eq_false hon, decide_eq_false (show ¬ ((i < n ∧ o < n) ∨ (i = n ∧ o < 0)) by omega)]
/-- the reference's mates -/
theorem rmay_eq2 {M X : JM} {n k a b : Nat} (r : ∀ o, (198 ≤ o ∧ o ≤ 209) → X o = M o) : rmay X n k a b = rmay M n k a b := by
  unfold rmay rfree
  rw [md_eq (M := M) (fun o ho => r o (by omega)) (by rw [r 198 (by omega)]), r 199 (by omega), r 198 (by omega), r 204 (by omega)]
def Rm (M X : JM) : Prop := ∀ o, o ≠ 210 → o ≠ 212 → X o = M o
theorem m_mate1 {M : JM} {n k p : Nat} {h2 : Nat → Int32 → JM → Option JM} (h : Rfk M n k) (hp : p < n) : ∀ (d o f : Nat) (X : JM), o + d = n → d < f → Rm M X → X 212 p = itr (fun j s => s ||| (if (!(decide (j = p)) && rmay M n k p j) = true then B j else 0)) 0 o 0 → ∃ X2, f191_19 h2 f 198 (N p) (N o) X = h2 198 (N p + 1) X2 ∧ Rm M X2 ∧ X2 212 p = kinS n p (rmay M n k p) ∧ ∀ i, i ≠ p → X2 212 i = X 212 i
  | _, _, 0, _, _, hf, _, _ => absurd hf (Nat.not_lt_zero _)
  | 0, o, f + 1, X, ho, _, hX, hv => by
    have e : o = n := ho
    subst e
    have hn9 := h.2.1
    rw [f191_19, hX 198 (by decide) (by decide), h.1, if_neg (fun q => Nat.lt_irrefl _ ((N_lt (by omega) (by omega)).mp q))]
    exact ⟨X, rfl, hX, hv, fun _ _ => rfl⟩
  | d + 1, o, f + 1, X, ho, hf, hX, hv => by
    have hn9 := h.2.1
    have st : itr (fun j s => s ||| (if (!(decide (j = p)) && rmay M n k p j) = true then B j else 0)) 0 (o + 1) 0 = X 212 p ||| (if (!(decide (o = p)) && rmay M n k p o) = true then B o else 0) := by
      rw [itr_succ, Nat.zero_add, hv]
    have go : ∀ (X1 : JM) (b : Bool), Rm M X1 → (∀ i, X1 212 i = X 212 i) → (!(decide (o = p)) && rmay M n k p o) = b → ∃ X2, f191_19 h2 f 198 (N p) (N o + 1) (jup X1 212 p (X 212 p ||| (if b = true then B o else 0))) = h2 198 (N p + 1) X2 ∧ Rm M X2 ∧ X2 212 p = kinS n p (rmay M n k p) ∧ ∀ i, i ≠ p → X2 212 i = X 212 i := by
      intro X1 b r1 r2 hb
      rw [hb] at st
      obtain ⟨X2, e, g1, g2, g3⟩ := m_mate1 (h2 := h2) h hp d (o + 1) f (jup X1 212 p (X 212 p ||| (if b = true then B o else 0))) (by omega) (by omega) (fun o q1 q2 => by rw [jup_o q2, r1 o q1 q2]) (by rw [jup_same, st])
      rw [N_succ]
      exact ⟨X2, e, g1, g2, fun i hi => by rw [g3 i hi, jup_nk (by omega), r2 i]⟩
    rw [f191_19, hX 198 (by decide) (by decide), h.1, if_pos ((N_lt (by omega) (by omega)).mpr (by omega)), mp_25, la_212 (show p < 9 by omega), Option.bind_some]
    unfold f191_54 f191_55
    by_cases hop : o = p
    · rw [if_pos (show N o = N p by rw [hop]), sa_212 (show p < 9 by omega), Option.bind_some]
      exact go X false hX (fun _ => rfl) (by rw [decide_eq_true hop]; rfl)
    · rw [if_neg (fun q => hop ((N_eq (by omega) (by omega)).mp q))]
      have hRX : Rfk X n k := rfk_eq (fun o ho => hX o (by omega) (by omega)) (by rw [hX 198 (by decide) (by decide)]) (by rw [hX 198 (by decide) (by decide)]) h
      obtain ⟨X1, e1, s1⟩ := m_rmay (Sm.refl (M := X)) hRX hp (show o < n by omega)
      rw [rmay_eq2 (fun o ho => hX o (by omega) (by omega))] at e1
      have r1 : Rm M X1 := fun o q1 q2 => by rw [s1 o q1, hX o q1 q2]
      have r2 : ∀ i, X1 212 i = X 212 i := fun i => by rw [s1 212 (by decide)]
      rw [e1, Option.bind_some]
      simp only [b2_0]
      cases hm : rmay M n k p o with
      | false =>
        rw [if_pos rfl, sa_212 (show p < 9 by omega), Option.bind_some]
        exact go X1 false r1 r2 (by rw [hm, Bool.and_false])
      | true =>
        rw [if_neg (by decide), sa_212 (show p < 9 by omega), Option.bind_some]
        exact go X1 true r1 r2 (by rw [hm, decide_eq_false hop]; rfl)
theorem m_mate0 {M : JM} {n k : Nat} (h : Rfk M n k) : ∀ (d p f : Nat) (X : JM), p + d = n → d < f → Rm M X → (∀ i, i < p → X 212 i = kinS n i (rmay M n k i)) → ∃ Z, f191_2 f 198 (N p) X = f191_71 1000 198 (0 : Int32) Z ∧ Rm M Z ∧ ∀ i, i < n → Z 212 i = kinS n i (rmay M n k i)
  | _, _, 0, _, _, hf, _, _ => absurd hf (Nat.not_lt_zero _)
  | 0, p, f + 1, X, hb, _, hX, hv => by
    have e : p = n := hb
    subst e
    have hn9 := h.2.1
    rw [f191_2, hX 198 (by decide) (by decide), h.1, if_neg (fun q => Nat.lt_irrefl _ ((N_lt (by omega) (by omega)).mp q))]
    exact ⟨X, rfl, hX, hv⟩
  | d + 1, p, f + 1, X, hb, hf, hX, hv => by
    have hn9 := h.2.1
    obtain ⟨X1, e1, g1, g2, g3⟩ := m_mate1 (h2 := f191_2 f) h (show p < n by omega) n 0 1000 (jup X 212 p 0) (by omega) (by omega) (fun o q1 q2 => by rw [jup_o q2, hX o q1 q2]) jup_same
    obtain ⟨Z, e2, g4, g5⟩ := m_mate0 h d (p + 1) f X1 (by omega) (by omega) g1 (fun i hi => by
      by_cases e : i = p
      · rw [e]; exact g2
      · rw [g3 i e, jup_nk (by omega)]; exact hv i (by omega))
    rw [f191_2, hX 198 (by decide) (by decide), h.1, if_pos ((N_lt (by omega) (by omega)).mpr (by omega)), mp_25, sa_212 (show p < 9 by omega), Option.bind_some]
    rw [show (0 : Int32) = N 0 from rfl] at e1 ⊢
    rw [e1, N_succ]
    exact ⟨Z, e2, g4, g5⟩
/-- numbers as sets -/
theorem pow_all : (List.range 10).all (fun n => (B n == N (2 ^ n)) && ((B n - 1 == N (2 ^ n - 1)) && (List.range (2 ^ n)).all (fun m => (List.range 32).all (fun j => !(bt (N m) j) || decide (j < n))))) = true := by decide +kernel
theorem off_all : (List.range 512).all (fun m => (List.range 9).all (fun i => !(bt (N m) i) || (off (N m) i == N (m - 2 ^ i) && Nat.ble (2 ^ i) m))) = true := by decide +kernel
theorem pow_B {n : Nat} (h : n < 10) : B n = N (2 ^ n) := by
  have q := List.all_eq_true.mp pow_all n (List.mem_range.mpr h)
  rw [Bool.and_eq_true] at q
  exact eq_of_beq q.1
theorem pow_L {n : Nat} (h : n < 10) : B n - 1 = N (2 ^ n - 1) := by
  have q := List.all_eq_true.mp pow_all n (List.mem_range.mpr h)
  rw [Bool.and_eq_true, Bool.and_eq_true] at q
  exact eq_of_beq q.2.1
theorem num_bnd {n m : Nat} (h : n < 10) (hm : m < 2 ^ n) : bnd n (N m) := fun j hj => by
  by_cases hj2 : j < 32
  · have q := List.all_eq_true.mp pow_all n (List.mem_range.mpr h)
    rw [Bool.and_eq_true, Bool.and_eq_true] at q
    have q2 := List.all_eq_true.mp (List.all_eq_true.mp q.2.2 m (List.mem_range.mpr hm)) j (List.mem_range.mpr hj2)
    rw [hj] at q2
    exact of_decide_eq_true q2
  · rw [bt_ge (by omega)] at hj; cases hj
theorem off_num {m i : Nat} (hm : m < 512) (hi : i < 9) (h : bt (N m) i = true) : ∃ m2, m2 < m ∧ off (N m) i = N m2 := by
  have q := List.all_eq_true.mp (List.all_eq_true.mp off_all m (List.mem_range.mpr hm)) i (List.mem_range.mpr hi)
  rw [h] at q
  have q3 : (off (N m) i == N (m - 2 ^ i) && Nat.ble (2 ^ i) m) = true := q
  rw [Bool.and_eq_true] at q3
  have h2 : 0 < 2 ^ i := Nat.pow_pos (by decide)
  have h3 := Nat.le_of_ble_eq_true q3.2
  exact ⟨m - 2 ^ i, by omega, eq_of_beq q3.1⟩
theorem pow_le {n : Nat} (h : n ≤ 9) : 2 ^ n ≤ 512 := by
  have := Nat.pow_le_pow_right (show 0 < 2 by decide) h
  exact this
section TB
variable {Z : JM} {n : Nat} {V : Nat → Nat → Bool} {h71 : Nat → Int32 → JM → Option JM}
def Tb (V : Nat → Nat → Bool) (Z : JM) (m : Nat) (X : JM) : Prop := (∀ o, o ≠ 211 → X o = Z o) ∧ ∀ i, i < m → X 211 i = N (gmx V 9 0 (N i))
theorem m_ent (hZ : Z 198 7 = N n) (hn : n ≤ 9) {l m : Nat} {X : JM} (hX : Tb V Z m X) (hm : m < 2 ^ n) (hl : l < n) (h1 : bt (N m) l = true) (h0 : ∀ j, j < l → bt (N m) j = false) (hV : ∀ i o, V i o = true → i < o) (hW : ∀ o, l < o → o < n → bt (Z 212 l) o = V l o) (hWl : bt (Z 212 l) l = false) : ∀ (d o f : Nat), o + d = n → d < f → f191_129 h71 f 198 (N m) (N l) (N (max (gmx V 9 0 (off (N m) l)) (itr (gms V (gmx V 9 0) l (N m)) 0 o 0))) (N o) X = f191_208 h71 198 (N m) (N (gmx V 9 0 (N m))) X
  | _, _, 0, _, hf => absurd hf (Nat.not_lt_zero _)
  | 0, o, f + 1, ho, _ => by
    have e : o = n := ho
    subst e
    rw [f191_129, hX.1 198 (by decide), hZ, if_neg (fun q => Nat.lt_irrefl _ ((N_lt (by omega) (by omega)).mp q))]
    have hb := num_bnd (show o < 10 by omega) hm
    have e9 : itr (gms V (gmx V 9 0) l (N m)) 0 o 0 = itr (gms V (gmx V 9 0) l (N m)) 0 9 0 := by
      have : ∀ c, itr (gms V (gmx V 9 0) l (N m)) 0 (o + c) 0 = itr (gms V (gmx V 9 0) l (N m)) 0 o 0 := by
        intro c
        induction c with
        | zero => rfl
        | succ c ih =>
          rw [show o + (c + 1) = o + c + 1 by omega, itr_succ, Nat.zero_add, ih]
          unfold gms
          have : bt (N m) (o + c) = false := by
            cases hbb : bt (N m) (o + c) with
            | false => rfl
            | true => exact absurd (hb _ hbb) (by omega)
          rw [this]; rfl
      have q := this (9 - o)
      rw [show o + (9 - o) = 9 by omega] at q
      exact q.symm
    rw [e9, ← gmx_low (show l < 9 by omega) h0 h1 hV]
  | d + 1, o, f + 1, ho, hf => by
    have hp := pow_le hn
    have hb9 : bnd 9 (N m) := fun j hj => by have := num_bnd (show n < 10 by omega) hm j hj; omega
    have ih := m_ent hZ hn hX hm hl h1 h0 hV hW hWl d (o + 1) f (by omega) (by omega)
    rw [itr_succ, Nat.zero_add] at ih
    have c1 := off_crd (n := 9) (show l < 31 by omega) (by omega) h1
    have t0 : max (gmx V 9 0 (off (N m) l)) (itr (gms V (gmx V 9 0) l (N m)) 0 o 0) ≤ 9 := by
      have a1 := gmx_le hV 9 0 (off (N m) l) rfl (off_bnd hb9)
      have a2 := crd_le (s := off (N m) l) 9
      have a3 := gmx_le hV 9 0 (N m) rfl hb9
      have a4 := crd_le (s := N m) 9
      rw [gmx_low (show l < 9 by omega) h0 h1 hV] at a3
      have q : ∀ c, itr (gms V (gmx V 9 0) l (N m)) o c (itr (gms V (gmx V 9 0) l (N m)) 0 o 0) = itr (gms V (gmx V 9 0) l (N m)) 0 (o + c) 0 := by
        intro c
        induction c with
        | zero => rfl
        | succ c ih => rw [itr_succ, ih, show o + (c + 1) = o + c + 1 by omega, itr_succ, Nat.zero_add]
      have e2 := q (9 - o)
      rw [show o + (9 - o) = 9 by omega] at e2
      have a5 := gms_le (V := V) (G := gmx V 9 0) (i := l) (s := N m) (c := 0) (9 - o) o (itr (gms V (gmx V 9 0) l (N m)) 0 o 0)
      rw [e2] at a5
      have a6 : itr (gms V (gmx V 9 0) l (N m)) 0 9 0 ≤ max (gmx V 9 0 (off (N m) l)) (itr (gms V (gmx V 9 0) l (N m)) 0 9 0) := Nat.le_max_right _ _
      exact Nat.max_le.mpr ⟨by omega, by omega⟩
    rw [f191_129, hX.1 198 (by decide), hZ, if_pos ((N_lt (by omega) (by omega)).mpr (by omega)), if_pos ((N_lt (by omega) (by omega)).mpr hl), mp_25, la_212 (show l < 9 by omega), hX.1 212 (by decide), Option.bind_some, m_has (show o < 31 by omega), Option.bind_some, bt_and]
    unfold f191_187 f191_201
    rw [N_succ]
    simp only [b2_0]
    have hc : (bt (N m) o && bt (Z 212 l) o) = (bt (N m) o && V l o) := by
      by_cases q1 : o < l
      · rw [h0 o q1]; rfl
      · by_cases q2 : o = l
        · rw [q2, hWl]
          cases hv : V l l with
          | false => rfl
          | true => exact absurd (hV l l hv) (Nat.lt_irrefl _)
        · rw [hW o (by omega) (by omega)]
    rw [hc]
    cases hcc : (bt (N m) o && V l o) with
    | false =>
      have es : gms V (gmx V 9 0) l (N m) o (itr (gms V (gmx V 9 0) l (N m)) 0 o 0) = itr (gms V (gmx V 9 0) l (N m)) 0 o 0 := by
        unfold gms
        rw [hcc]; rfl
      rw [es] at ih
      rw [if_pos rfl, if_neg (N_neg (by omega))]
      exact ih
    | true =>
      have hbo : bt (N m) o = true := by rw [Bool.and_eq_true] at hcc; exact hcc.1
      have hlo : l < o := by rw [Bool.and_eq_true] at hcc; exact hV l o hcc.2
      obtain ⟨m2, q1, q2⟩ := off_num (show m < 512 by omega) (show l < 9 by omega) h1
      have hbo2 : bt (N m2) o = true := by
        rw [← q2, off_bt (by omega), hbo, decide_eq_false (show ¬ o = l by omega)]; rfl
      obtain ⟨m3, q3, q4⟩ := off_num (show m2 < 512 by omega) (show o < 9 by omega) hbo2
      have es : gms V (gmx V 9 0) l (N m) o (itr (gms V (gmx V 9 0) l (N m)) 0 o 0) = max (itr (gms V (gmx V 9 0) l (N m)) 0 o 0) (1 + gmx V 9 0 (off (off (N m) l) o)) := by
        unfold gms
        rw [hcc]; rfl
      rw [es] at ih
      have eo : off (off (N m) l) o = N m3 := by rw [q2, q4]
      have g9 : gmx V 9 0 (N m3) ≤ 9 := by
        have a1 := gmx_le hV 9 0 (off (off (N m) l) o) rfl (off_bnd (off_bnd hb9))
        have a2 := crd_le (s := off (off (N m) l) o) 9
        rw [eo] at a1 a2
        omega
      rw [if_neg (by decide), show (N m &&& (((1 : Int32) <<< (N l &&& (31 : Int32))) ^^^ (-1 : Int32))) &&& (((1 : Int32) <<< (N o &&& (31 : Int32))) ^^^ (-1 : Int32)) = off (off (N m) l) o from rfl, eo, mp_24, la_211 (show m3 < 512 by omega), Option.bind_some, hX.2 m3 (by omega), show (1 : Int32) + N (gmx V 9 0 (N m3)) = N (1 + gmx V 9 0 (N m3)) from N_add]
      rw [eo, ← Nat.max_assoc] at ih
      generalize max (gmx V 9 0 (off (N m) l)) (itr (gms V (gmx V 9 0) l (N m)) 0 o 0) = t at t0 ih ⊢
      by_cases ht : t < 1 + gmx V 9 0 (N m3)
      · rw [if_pos ((N_lt (by omega) (by omega)).mpr ht)]
        rw [Nat.max_eq_right (by omega)] at ih
        exact ih
      · rw [if_neg (fun q => ht ((N_lt (by omega) (by omega)).mp q))]
        rw [Nat.max_eq_left (by omega)] at ih
        exact ih
end TB
