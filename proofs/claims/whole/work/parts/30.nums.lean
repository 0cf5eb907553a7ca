/-! PURE: counters as Int32.ofNat -/
abbrev N (k : Nat) : Int32 := Int32.ofNat k
theorem N_int {k : Nat} (h : k < 2147483648) : (N k).toInt = k := Int32.toInt_ofNat_of_lt h
theorem N_lt {a b : Nat} (ha : a < 2147483648) (hb : b < 2147483648) : N a < N b ↔ a < b := by
  rw [Int32.lt_iff_toInt_lt, N_int ha, N_int hb]; omega
theorem N_eq {a b : Nat} (ha : a < 2147483648) (hb : b < 2147483648) : N a = N b ↔ a = b := by
  constructor
  · intro h
    have h2 := congrArg Int32.toInt h
    rw [N_int ha, N_int hb] at h2; omega
  · intro h; rw [h]
theorem N_add {a b : Nat} : N a + N b = N (a + b) := (Int32.ofNat_add a b).symm
theorem N_succ {a : Nat} : N a + 1 = N (a + 1) := (Int32.ofNat_add a 1).symm
theorem N_nat {k : Nat} (h : k < 2147483648) : (N k).toNatClampNeg = k := by
  show (N k).toInt.toNat = k
  rw [N_int h]; rfl
theorem N_neg {k : Nat} (h : k < 2147483648) : ¬ (N k < 0) := by
  rw [Int32.lt_iff_toInt_lt, N_int h]
  show ¬ ((k : Int) < 0)
  omega
theorem N_of {x : Int32} (h : ¬ x < 0) : ∃ k, k < 2147483648 ∧ x = N k := by
  rw [Int32.lt_iff_toInt_lt] at h
  have h0 : ¬ x.toInt < 0 := h
  have h1 := Int32.toInt_lt x
  refine ⟨x.toInt.toNat, by omega, ?_⟩
  apply Int32.toInt_inj.mp
  rw [N_int (by omega)]; omega
theorem N_lt_of {x : Int32} {b : Nat} (hb : b < 2147483648) (h : ¬ x < 0) (h2 : x < N b) : ∃ k, k < b ∧ x = N k := by
  obtain ⟨k, hk, rfl⟩ := N_of h
  exact ⟨k, (N_lt hk hb).mp h2, rfl⟩
theorem N_m1 {k : Nat} (h : k < 2147483648) : ¬ (N k = -1) := by
  intro e
  have h2 := congrArg Int32.toInt e
  rw [N_int h] at h2
  have : ((-1 : Int32)).toInt = -1 := rfl
  omega
theorem N_ne_neg {k : Nat} {x : Int32} (h : k < 2147483648) (hx : x < 0) : ¬ (x = N k) := fun e => N_neg h (e ▸ hx)
theorem jin_N {k n : Nat} (h : k < 2147483648) : jin (N k) n = decide (k < n) := by
  unfold jin
  rw [N_nat h]
  have : decide (0 ≤ N k) = true := decide_eq_true (Int32.not_lt.mp (N_neg h))
  rw [this, Bool.true_and]
theorem jla_N {a k : Nat} {M : JM} (h : k < 2147483648) : jla a (N k) M = if k < jlen jE0 a then some (M a k) else none := by
  unfold jla
  rw [jin_N h, N_nat h]
  by_cases q : k < jlen jE0 a
  · rw [if_pos q, decide_eq_true q]; rfl
  · rw [if_neg q, decide_eq_false q]; rfl
theorem jsa_N {a k : Nat} {v : Int32} {M : JM} (h : k < 2147483648) : jsa a (N k) v M = if k < jlen jE0 a then some (jup M a k v) else none := by
  unfold jsa
  rw [jin_N h, N_nat h]
  by_cases q : k < jlen jE0 a
  · rw [if_pos q, decide_eq_true q]; rfl
  · rw [if_neg q, decide_eq_false q]; rfl
theorem jla_ok {a k : Nat} {M : JM} (h : k < jlen jE0 a) (hk : k < 2147483648) : jla a (N k) M = some (M a k) := by rw [jla_N hk, if_pos h]
theorem jsa_ok {a k : Nat} {v : Int32} {M : JM} (h : k < jlen jE0 a) (hk : k < 2147483648) : jsa a (N k) v M = some (jup M a k v) := by rw [jsa_N hk, if_pos h]
theorem jup_same {M : JM} {o k : Nat} {v : Int32} : jup M o k v o k = v := by
  unfold jup; rw [Nat.beq_refl, Nat.beq_refl]; rfl
theorem jup_at {M : JM} {o k o2 k2 : Nat} {v : Int32} : jup M o k v o2 k2 = if o2 = o ∧ k2 = k then v else M o2 k2 := by
  unfold jup
  by_cases h1 : o2 = o
  · by_cases h2 : k2 = k
    · rw [if_pos ⟨h1, h2⟩, h1, h2, Nat.beq_refl, Nat.beq_refl]; rfl
    · rw [if_neg (fun q => h2 q.2)]
      have : Nat.beq k2 k = false := by
        cases h : Nat.beq k2 k with
        | false => rfl
        | true => exact absurd (Nat.eq_of_beq_eq_true h) h2
      rw [this, Bool.and_false]; rfl
  · rw [if_neg (fun q => h1 q.1)]
    have : Nat.beq o2 o = false := by
      cases h : Nat.beq o2 o with
      | false => rfl
      | true => exact absurd (Nat.eq_of_beq_eq_true h) h1
    rw [this]; rfl
theorem jup_o {M : JM} {o k o2 : Nat} {v : Int32} (h : o2 ≠ o) : jup M o k v o2 = M o2 := by
  funext k2; rw [jup_at, if_neg (fun q => h q.1)]
/-- loops -/
def itr {α : Type} (f : Nat → α → α) : Nat → Nat → α → α
  | _, 0, a => a
  | k, c + 1, a => itr f (k + 1) c (f k a)
theorem loop_run {σ ρ : Type} {F : Nat → Nat → σ → Option ρ} {K : Nat} {f : Nat → σ → σ} {out : σ → Option ρ} {P : Nat → σ → Prop} (h1 : ∀ n k s, k < K → P k s → F (n + 1) k s = F n (k + 1) (f k s) ∧ P (k + 1) (f k s)) (h2 : ∀ n s, P K s → F (n + 1) K s = out s) : ∀ (c k : Nat) (s : σ) (n : Nat), k + c = K → c < n → P k s → F n k s = out (itr f k c s) ∧ P K (itr f k c s)
  | 0, k, s, 0, _, hn, _ => absurd hn (Nat.not_lt_zero _)
  | 0, k, s, n + 1, hk, _, hP => by
    have e : k = K := hk
    subst e
    exact ⟨h2 n s hP, hP⟩
  | c + 1, k, s, 0, _, hn, _ => absurd hn (Nat.not_lt_zero _)
  | c + 1, k, s, n + 1, hk, hn, hP => by
    obtain ⟨e, hP2⟩ := h1 n k s (by omega) hP
    rw [e]
    exact loop_run h1 h2 c (k + 1) (f k s) n (by omega) (by omega) hP2
theorem itr_succ {α : Type} {f : Nat → α → α} : ∀ (c k : Nat) (a : α), itr f k (c + 1) a = f (k + c) (itr f k c a)
  | 0, k, a => rfl
  | c + 1, k, a => by
    have h := itr_succ (f := f) c (k + 1) (f k a)
    show itr f (k + 1) (c + 1) (f k a) = _
    rw [h]
    show f (k + 1 + c) _ = f (k + (c + 1)) _
    rw [show k + 1 + c = k + (c + 1) by omega]
    rfl
theorem itr_inv {α : Type} {f : Nat → α → α} {P : Nat → α → Prop} : ∀ (c k : Nat) (a : α), (∀ j b, k ≤ j → j < k + c → P j b → P (j + 1) (f j b)) → P k a → P (k + c) (itr f k c a)
  | 0, k, a, _, h => h
  | c + 1, k, a, h1, h => by
    have e := itr_inv (P := P) c (k + 1) (f k a) (fun j b hj hj2 => h1 j b (by omega) (by omega)) (h1 k a (Nat.le_refl _) (by omega) h)
    rw [show k + 1 + c = k + (c + 1) by omega] at e
    exact e
theorem itr_congr {α : Type} {f g : Nat → α → α} : ∀ (c k : Nat) (a : α), (∀ j b, k ≤ j → j < k + c → f j b = g j b) → itr f k c a = itr g k c a
  | 0, _, _, _ => rfl
  | c + 1, k, a, h => by
    show itr f (k + 1) c (f k a) = itr g (k + 1) c (g k a)
    rw [h k a (Nat.le_refl _) (by omega)]
    exact itr_congr c (k + 1) _ (fun j b hj hj2 => h j b (by omega) (by omega))
