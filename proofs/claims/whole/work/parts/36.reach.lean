/-! PURE: who is reached from one: by so many steps, by all -/
def sb (s t : Int32) : Prop := ∀ j, bt s j = true → bt t j = true
def bnd (n : Nat) (s : Int32) : Prop := ∀ j, bt s j = true → j < n
def okn (n : Nat) (x : Int32) : Prop := x = -1 ∨ ∃ j, j < n ∧ x = N j
theorem okn_p {n : Nat} {x : Int32} (h : okn n x) (hn : n ≤ 9) : okp x := by
  rcases h with h | ⟨j, hj, h⟩
  · exact Or.inl h
  · exact Or.inr ⟨j, by omega, h⟩
theorem bt_par {n j : Nat} {x : Int32} (h : okn n x) (hn : n ≤ 9) : bt (par x) j = decide (x = N j ∧ j < n) := by
  rcases h with rfl | ⟨i, hi, rfl⟩
  · show bt 0 j = _
    rw [bt_zero]
    refine (decide_eq_false (fun q => ?_)).symm
    exact N_m1 (k := j) (by omega) q.1.symm
  · unfold par
    rw [if_neg (N_m1 (by omega))]
    show bt (B i) j = _
    rw [bt_B (by omega)]
    by_cases h : j = i
    · subst h; rw [decide_eq_true rfl, decide_eq_true ⟨rfl, hi⟩]
    · rw [decide_eq_false h, decide_eq_false (fun q => h ((N_eq (by omega) (by omega)).mp q.1).symm)]
theorem stF_sub {bo mo fa : Nat → Int32} {lt s r : Int32} {p : Nat} : sb r (stF bo mo fa lt s p r) := by
  intro j hj
  unfold stF
  split
  · exact hj
  · rw [bt_or, bt_or, hj]; rfl
theorem stp_sub {n : Nat} {bo mo fa : Nat → Int32} {lt s : Int32} : sb s (stp n bo mo fa lt s) := by
  unfold stp
  exact itr_inv (P := fun _ r => sb s r) n 0 s (fun p r _ _ h j hj => stF_sub j (h j hj)) (fun j hj => hj)
theorem stF_bnd {n : Nat} {bo mo fa : Nat → Int32} {lt s r : Int32} {p : Nat} (hn : n ≤ 9) (hp : p < n) (h1 : okn n (mo p)) (h2 : okn n (fa p)) (h : bnd n r) : bnd n (stF bo mo fa lt s p r) := by
  intro j hj
  unfold stF at hj
  split at hj
  · exact h j hj
  · rw [bt_or, bt_or, Bool.or_eq_true, Bool.or_eq_true] at hj
    rcases hj with (hj | hj) | hj
    · exact h j hj
    · split at hj
      · rw [bt_or, Bool.or_eq_true, bt_par h1 hn, bt_par h2 hn] at hj
        rcases hj with hj | hj
        · exact (of_decide_eq_true hj).2
        · exact (of_decide_eq_true hj).2
      · rw [bt_zero] at hj; cases hj
    · split at hj
      · rw [bt_zero] at hj; cases hj
      · rw [bt_B (by omega)] at hj
        have := of_decide_eq_true hj
        omega
theorem stp_bnd {n : Nat} {bo mo fa : Nat → Int32} {lt s : Int32} (hn : n ≤ 9) (hp : ∀ p, p < n → okn n (mo p) ∧ okn n (fa p)) (h : bnd n s) : bnd n (stp n bo mo fa lt s) := by
  unfold stp
  exact itr_inv (P := fun _ r => bnd n r) n 0 s (fun p r _ hpn hr => stF_bnd hn (by omega) (hp p (by omega)).1 (hp p (by omega)).2 hr) h
def rch (n : Nat) (bo mo fa : Nat → Int32) (lt : Int32) (a : Nat) : Nat → Int32
  | 0 => B a
  | i + 1 => stp n bo mo fa lt (rch n bo mo fa lt a i)
def crd (s : Int32) : Nat → Nat
  | 0 => 0
  | n + 1 => crd s n + (if bt s n = true then 1 else 0)
theorem crd_le {s : Int32} : ∀ n, crd s n ≤ n
  | 0 => Nat.le_refl _
  | n + 1 => by
    have := crd_le (s := s) n
    show crd s n + _ ≤ n + 1
    split <;> omega
theorem crd_sub {s t : Int32} (h : sb s t) : ∀ n, crd s n ≤ crd t n
  | 0 => Nat.le_refl _
  | n + 1 => by
    have := crd_sub h n
    show crd s n + _ ≤ crd t n + _
    by_cases h1 : bt s n = true
    · rw [if_pos h1, if_pos (h n h1)]; omega
    · rw [if_neg h1]; split <;> omega
theorem crd_lt {s t : Int32} (h : sb s t) {j : Nat} (h1 : bt s j = false) (h2 : bt t j = true) : ∀ n, j < n → crd s n + 1 ≤ crd t n
  | 0, hj => absurd hj (Nat.not_lt_zero _)
  | n + 1, hj => by
    show crd s n + _ + 1 ≤ crd t n + _
    by_cases e : j = n
    · subst e
      rw [if_neg (by rw [h1]; decide), if_pos h2]
      have := crd_sub h j
      omega
    · have := crd_lt h h1 h2 n (by omega)
      by_cases h3 : bt s n = true
      · rw [if_pos h3, if_pos (h n h3)]; omega
      · rw [if_neg h3]; split <;> omega
section RC
variable {n a b : Nat} {bo mo fa : Nat → Int32} {lt : Int32}
theorem rch_bnd (hn : n ≤ 9) (ha : a < n) (hp : ∀ p, p < n → okn n (mo p) ∧ okn n (fa p)) : ∀ i, bnd n (rch n bo mo fa lt a i)
  | 0 => fun j hj => by
    have hj2 : bt (B a) j = true := hj
    rw [bt_B (by omega)] at hj2
    have := of_decide_eq_true hj2
    omega
  | i + 1 => stp_bnd hn hp (rch_bnd hn ha hp i)
theorem rch_sub : ∀ i, sb (rch n bo mo fa lt a i) (rch n bo mo fa lt a (i + 1)) := fun i => stp_sub
theorem rch_mono {i : Nat} : ∀ j, sb (rch n bo mo fa lt a i) (rch n bo mo fa lt a (i + j))
  | 0 => fun _ h => h
  | j + 1 => fun x h => rch_sub (i + j) x (rch_mono j x h)
theorem rch_stay {i : Nat} (h : rch n bo mo fa lt a (i + 1) = rch n bo mo fa lt a i) : ∀ j, rch n bo mo fa lt a (i + j) = rch n bo mo fa lt a i
  | 0 => rfl
  | j + 1 => by
    show stp n bo mo fa lt (rch n bo mo fa lt a (i + j)) = _
    rw [rch_stay h j]
    exact h
theorem rch_grow (hn : n ≤ 9) (ha : a < n) (hp : ∀ p, p < n → okn n (mo p) ∧ okn n (fa p)) : ∀ i, (∃ s, s < i ∧ rch n bo mo fa lt a (s + 1) = rch n bo mo fa lt a s) ∨ i + 1 ≤ crd (rch n bo mo fa lt a i) n
  | 0 => by
    refine Or.inr ?_
    have h0 : sb 0 (B a) := fun j hj => by rw [bt_zero] at hj; cases hj
    have := crd_lt h0 (j := a) bt_zero (by rw [bt_B (by omega), decide_eq_true rfl]) n ha
    show 0 + 1 ≤ crd (B a) n
    omega
  | i + 1 => by
    rcases rch_grow hn ha hp i with ⟨s, hs, e⟩ | h
    · exact Or.inl ⟨s, by omega, e⟩
    · by_cases e : rch n bo mo fa lt a (i + 1) = rch n bo mo fa lt a i
      · exact Or.inl ⟨i, by omega, e⟩
      · refine Or.inr ?_
        have hd : ∃ j, bt (rch n bo mo fa lt a i) j = false ∧ bt (rch n bo mo fa lt a (i + 1)) j = true := by
          apply Classical.byContradiction
          intro hno
          apply e
          apply bt_ext
          intro j _
          cases h1 : bt (rch n bo mo fa lt a i) j with
          | true => exact rch_sub i j h1
          | false =>
            cases h2 : bt (rch n bo mo fa lt a (i + 1)) j with
            | false => rfl
            | true => exact absurd ⟨j, h1, h2⟩ hno
        obtain ⟨j, h1, h2⟩ := hd
        have := crd_lt (rch_sub i) h1 h2 n (rch_bnd hn ha hp (i + 1) j h2)
        omega
theorem rch_full (hn : n ≤ 9) (ha : a < n) (hp : ∀ p, p < n → okn n (mo p) ∧ okn n (fa p)) : ∃ s, s < n ∧ ∀ j, rch n bo mo fa lt a (s + j) = rch n bo mo fa lt a s := by
  rcases rch_grow hn ha hp n with ⟨s, hs, e⟩ | h
  · exact ⟨s, hs, rch_stay e⟩
  · have := crd_le (s := rch n bo mo fa lt a n) n
    omega
theorem rch_last (hn : n ≤ 9) (ha : a < n) (hp : ∀ p, p < n → okn n (mo p) ∧ okn n (fa p)) {i : Nat} (hi : n ≤ i + 1) : rch n bo mo fa lt a i = rch n bo mo fa lt a n := by
  obtain ⟨s, hs, h⟩ := rch_full (bo := bo) (lt := lt) hn ha hp
  have h1 := h (i - s)
  have h2 := h (n - s)
  rw [show s + (i - s) = i by omega] at h1
  rw [show s + (n - s) = n by omega] at h2
  exact h1.trans h2.symm
/-- at the fewest steps -/
def dgr (R : Nat → Int32) (b : Nat) : Nat → Nat → Option Nat
  | 0, _ => none
  | c + 1, k => if bt (R k) b = true then some k else dgr R b c (k + 1)
def deg (n : Nat) (bo mo fa : Nat → Int32) (lt : Int32) (a b : Nat) : Option Nat := dgr (rch n bo mo fa lt a) b n 0
theorem dgr_none {R : Nat → Int32} {b : Nat} : ∀ c k, (∀ i, k ≤ i → i < k + c → bt (R i) b = false) → dgr R b c k = none
  | 0, _, _ => rfl
  | c + 1, k, h => by
    unfold dgr
    rw [if_neg (by rw [h k (Nat.le_refl _) (by omega)]; decide)]
    exact dgr_none c (k + 1) (fun i h1 h2 => h i (by omega) (by omega))
theorem dgr_some {R : Nat → Int32} {b i : Nat} : ∀ c k, dgr R b c k = some i → k ≤ i ∧ i < k + c ∧ bt (R i) b = true
  | 0, _, h => by cases h
  | c + 1, k, h => by
    unfold dgr at h
    by_cases h1 : bt (R k) b = true
    · rw [if_pos h1] at h
      cases h
      exact ⟨Nat.le_refl _, by omega, h1⟩
    · rw [if_neg h1] at h
      have := dgr_some c (k + 1) h
      exact ⟨by omega, by omega, this.2.2⟩
theorem dgr_hit {R : Nat → Int32} {b : Nat} : ∀ c k i, k ≤ i → i < k + c → bt (R i) b = true → ∃ j, dgr R b c k = some j
  | 0, k, i, h1, h2, _ => absurd h2 (by omega)
  | c + 1, k, i, h1, h2, h3 => by
    unfold dgr
    by_cases h4 : bt (R k) b = true
    · exact ⟨k, if_pos h4⟩
    · rw [if_neg h4]
      have : i ≠ k := fun e => h4 (e ▸ h3)
      exact dgr_hit c (k + 1) i (by omega) (by omega) h3
theorem deg_lt {i : Nat} (h : deg n bo mo fa lt a b = some i) : i < n := by
  have := dgr_some n 0 h
  omega
theorem deg_iff (hn : n ≤ 9) (ha : a < n) (hp : ∀ p, p < n → okn n (mo p) ∧ okn n (fa p)) : (∃ i, deg n bo mo fa lt a b = some i) ↔ bt (rch n bo mo fa lt a n) b = true := by
  constructor
  · rintro ⟨i, h⟩
    have := dgr_some n 0 h
    have e := rch_mono (n := n) (bo := bo) (mo := mo) (fa := fa) (lt := lt) (a := a) (i := i) (n - i) b this.2.2
    rw [show i + (n - i) = n by omega] at e
    exact e
  · intro h
    refine dgr_hit n 0 (n - 1) (by omega) (by omega) ?_
    rw [rch_last hn ha hp (by omega)]
    exact h
end RC
