/-! PURE: sums of counts; kin is of both; pairs of kin -/
def smN (f : Nat → Nat) : Nat → Nat
  | 0 => 0
  | m + 1 => smN f m + f m
def ibN (b : Bool) : Nat := if b = true then 1 else 0
theorem smN_congr {f g : Nat → Nat} : ∀ m, (∀ j, j < m → f j = g j) → smN f m = smN g m
  | 0, _ => rfl
  | m + 1, h => by
    show smN f m + f m = smN g m + g m
    rw [smN_congr m (fun j hj => h j (by omega)), h m (by omega)]
theorem smN_add {f g : Nat → Nat} : ∀ m, smN (fun j => f j + g j) m = smN f m + smN g m
  | 0 => rfl
  | m + 1 => by
    show smN (fun j => f j + g j) m + (f m + g m) = smN f m + f m + (smN g m + g m)
    rw [smN_add m]; omega
theorem smN_zero {f : Nat → Nat} : ∀ m, (∀ j, j < m → f j = 0) → smN f m = 0
  | 0, _ => rfl
  | m + 1, h => by
    show smN f m + f m = 0
    rw [smN_zero m (fun j hj => h j (by omega)), h m (by omega)]
theorem smN_le {f : Nat → Nat} {c : Nat} : ∀ m, (∀ j, j < m → f j ≤ c) → smN f m ≤ m * c
  | 0, _ => Nat.zero_le _
  | m + 1, h => by
    show smN f m + f m ≤ (m + 1) * c
    have h1 := smN_le m (fun j hj => h j (by omega))
    have h2 := h m (by omega)
    rw [Nat.succ_mul]; omega
theorem smN_ext {f : Nat → Nat} {n : Nat} : ∀ d, (∀ j, n ≤ j → f j = 0) → smN f (n + d) = smN f n
  | 0, _ => rfl
  | d + 1, h => by
    show smN f (n + d) + f (n + d) = smN f n
    rw [smN_ext d h, h (n + d) (by omega)]; rfl
theorem ibN_le {b : Bool} : ibN b ≤ 1 := by cases b <;> decide
theorem crd_sm {s : Int32} : ∀ m, crd s m = smN (fun j => ibN (bt s j)) m
  | 0 => rfl
  | m + 1 => by
    show crd s m + _ = smN (fun j => ibN (bt s j)) m + ibN (bt s m)
    rw [crd_sm m]; rfl
theorem sm_pairs {D : Nat → Nat → Bool} {n : Nat} (hs : ∀ a b, a < n → b < n → D a b = D b a) : ∀ m, m ≤ n → smN (fun a => smN (fun j => ibN (!(decide (j = a)) && D a j)) m) m = 2 * smN (fun a => smN (fun j => ibN (decide (a < j) && D a j)) m) m
  | 0, _ => rfl
  | m + 1, hm => by
    have ih := sm_pairs hs m (by omega)
    have e1 : smN (fun a => smN (fun j => ibN (!(decide (j = a)) && D a j)) (m + 1)) m = smN (fun a => smN (fun j => ibN (!(decide (j = a)) && D a j)) m) m + smN (fun a => ibN (D a m)) m := by
      rw [← smN_add]
      refine smN_congr m (fun a ha => ?_)
      show smN (fun j => ibN (!(decide (j = a)) && D a j)) m + ibN (!(decide (m = a)) && D a m) = _
      rw [decide_eq_false (show ¬ m = a by omega)]; rfl
    have e2 : smN (fun j => ibN (!(decide (j = m)) && D m j)) m = smN (fun a => ibN (D a m)) m := by
      refine smN_congr m (fun a ha => ?_)
      rw [decide_eq_false (show ¬ a = m by omega), hs a m (by omega) (by omega)]; rfl
    have e3 : smN (fun a => smN (fun j => ibN (decide (a < j) && D a j)) (m + 1)) m = smN (fun a => smN (fun j => ibN (decide (a < j) && D a j)) m) m + smN (fun a => ibN (D a m)) m := by
      rw [← smN_add]
      refine smN_congr m (fun a ha => ?_)
      show smN (fun j => ibN (decide (a < j) && D a j)) m + ibN (decide (a < m) && D a m) = _
      rw [decide_eq_true ha]; rfl
    have e4 : smN (fun j => ibN (decide (m < j) && D m j)) (m + 1) = 0 := by
      refine smN_zero (m + 1) (fun j hj => ?_)
      rw [decide_eq_false (show ¬ m < j by omega)]; rfl
    have e5 : smN (fun j => ibN (!(decide (j = m)) && D m j)) (m + 1) = smN (fun j => ibN (!(decide (j = m)) && D m j)) m := by
      show smN (fun j => ibN (!(decide (j = m)) && D m j)) m + ibN (!(decide (m = m)) && D m m) = _
      rw [decide_eq_true (rfl : m = m)]; rfl
    show smN (fun a => smN (fun j => ibN (!(decide (j = a)) && D a j)) (m + 1)) m + smN (fun j => ibN (!(decide (j = m)) && D m j)) (m + 1) = 2 * (smN (fun a => smN (fun j => ibN (decide (a < j) && D a j)) (m + 1)) m + smN (fun j => ibN (decide (m < j) && D m j)) (m + 1))
    rw [e1, e3, e4, e5, e2, ih]; omega
/-- kin is of both -/
def adjn (n : Nat) (bo mo fa : Nat → Int32) (lt : Int32) (i j : Nat) : Prop := ∃ p, p < n ∧ ¬ lt < bo p ∧ ((i = p ∧ j < n ∧ (mo p = N j ∨ fa p = N j)) ∨ (j = p ∧ i < n ∧ (mo p = N i ∨ fa p = N i)))
theorem adj_symm {n i j : Nat} {bo mo fa : Nat → Int32} {lt : Int32} (h : adjn n bo mo fa lt i j) : adjn n bo mo fa lt j i := by
  obtain ⟨p, hp, h2, h3⟩ := h
  exact ⟨p, hp, h2, h3.symm⟩
def wlk (A : Nat → Nat → Prop) : Nat → Nat → Nat → Prop
  | 0, a, b => a = b
  | i + 1, a, b => ∃ c, wlk A i a c ∧ (c = b ∨ A c b)
theorem wlk_front {A : Nat → Nat → Prop} : ∀ (i a b c : Nat), (a = c ∨ A a c) → wlk A i c b → wlk A (i + 1) a b
  | 0, a, b, c, h, h2 => by
    have e : c = b := h2
    subst e
    exact ⟨a, rfl, h⟩
  | i + 1, a, b, c, h, h2 => by
    obtain ⟨d, h3, h4⟩ := h2
    exact ⟨d, wlk_front i a d c h h3, h4⟩
theorem wlk_symm {A : Nat → Nat → Prop} (hA : ∀ i j, A i j → A j i) : ∀ (i a b : Nat), wlk A i a b → wlk A i b a
  | 0, _, _, h => Eq.symm h
  | i + 1, a, b, h => by
    obtain ⟨c, h1, h2⟩ := h
    refine wlk_front i b a c ?_ (wlk_symm hA i a c h1)
    rcases h2 with h2 | h2
    · exact Or.inl h2.symm
    · exact Or.inr (hA _ _ h2)
theorem and_nz {s t : Int32} : ¬ (s &&& t = 0) ↔ ∃ i, bt s i = true ∧ bt t i = true := by
  constructor
  · intro h
    apply Classical.byContradiction
    intro hn
    apply h
    apply bt_ext
    intro j _
    rw [bt_zero, bt_and]
    cases h1 : bt s j with
    | false => rfl
    | true =>
      cases h2 : bt t j with
      | false => rfl
      | true => exact absurd ⟨j, h1, h2⟩ hn
  · rintro ⟨i, h1, h2⟩ h
    have e := congrArg (fun x => bt x i) h
    simp only [bt_and, bt_zero, h1, h2] at e
    cases e
section WK
variable {n a b : Nat} {bo mo fa : Nat → Int32} {lt : Int32}
theorem bt_stp (hn : n ≤ 9) (hp : ∀ p, p < n → okn n (mo p) ∧ okn n (fa p)) {s : Int32} {j : Nat} : ∀ m, m ≤ n → (bt (itr (stF bo mo fa lt s) 0 m s) j = true ↔ bt s j = true ∨ ∃ p, p < m ∧ ¬ lt < bo p ∧ ((bt s p = true ∧ j < n ∧ (mo p = N j ∨ fa p = N j)) ∨ (j = p ∧ ∃ i, i < n ∧ bt s i = true ∧ (mo p = N i ∨ fa p = N i))))
  | 0, _ => by
    constructor
    · exact fun h => Or.inl h
    · rintro (h | ⟨p, h, _⟩)
      · exact h
      · exact absurd h (Nat.not_lt_zero _)
  | m + 1, hm => by
    have ih := bt_stp (s := s) (j := j) hn hp m (by omega)
    rw [itr_succ, Nat.zero_add]
    generalize itr (stF bo mo fa lt s) 0 m s = r at ih ⊢
    have bP : ∀ i, bt (par (mo m) ||| par (fa m)) i = true ↔ i < n ∧ (mo m = N i ∨ fa m = N i) := by
      intro i
      rw [bt_or, bt_par (hp m (by omega)).1 hn, bt_par (hp m (by omega)).2 hn, Bool.or_eq_true, decide_eq_true_iff, decide_eq_true_iff]
      constructor
      · rintro (h | h)
        · exact ⟨h.2, Or.inl h.1⟩
        · exact ⟨h.2, Or.inr h.1⟩
      · rintro ⟨h, h2 | h2⟩
        · exact Or.inl ⟨h2, h⟩
        · exact Or.inr ⟨h2, h⟩
    unfold stF
    by_cases hl : lt < bo m
    · rw [if_pos hl, ih]
      constructor
      · rintro (h | ⟨p, h1, h2⟩)
        · exact Or.inl h
        · exact Or.inr ⟨p, by omega, h2⟩
      · rintro (h | ⟨p, h1, h2, h3⟩)
        · exact Or.inl h
        · by_cases e : p = m
          · subst e; exact absurd hl h2
          · exact Or.inr ⟨p, by omega, h2, h3⟩
    · rw [if_neg hl, bt_or, bt_or, Bool.or_eq_true, Bool.or_eq_true, ih]
      have q1 : bt (if bt s m = true then par (mo m) ||| par (fa m) else 0) j = true ↔ bt s m = true ∧ j < n ∧ (mo m = N j ∨ fa m = N j) := by
        by_cases h : bt s m = true
        · rw [if_pos h, bP]; exact ⟨fun q => ⟨h, q⟩, fun q => q.2⟩
        · rw [if_neg h, bt_zero]; exact ⟨fun q => (by cases q), fun q => absurd q.1 h⟩
      have q2 : bt (if s &&& (par (mo m) ||| par (fa m)) = 0 then 0 else B m) j = true ↔ j = m ∧ ∃ i, i < n ∧ bt s i = true ∧ (mo m = N i ∨ fa m = N i) := by
        by_cases h : s &&& (par (mo m) ||| par (fa m)) = 0
        · rw [if_pos h, bt_zero]
          refine ⟨fun q => (by cases q), ?_⟩
          rintro ⟨_, i, h1, h2, h3⟩
          exact absurd h (and_nz.mpr ⟨i, h2, (bP i).mpr ⟨h1, h3⟩⟩)
        · rw [if_neg h, bt_B (by omega), decide_eq_true_iff]
          obtain ⟨i, h1, h2⟩ := and_nz.mp h
          have h3 := (bP i).mp h2
          exact ⟨fun q => ⟨q, i, h3.1, h1, h3.2⟩, fun q => q.1⟩
      rw [q1, q2]
      constructor
      · rintro ((h | h) | h)
        · rcases h with h | ⟨p, h1, h2⟩
          · exact Or.inl h
          · exact Or.inr ⟨p, by omega, h2⟩
        · exact Or.inr ⟨m, by omega, hl, Or.inl h⟩
        · exact Or.inr ⟨m, by omega, hl, Or.inr h⟩
      · rintro (h | ⟨p, h1, h2, h3⟩)
        · exact Or.inl (Or.inl (Or.inl h))
        · by_cases e : p = m
          · subst e
            rcases h3 with h3 | h3
            · exact Or.inl (Or.inr h3)
            · exact Or.inr h3
          · exact Or.inl (Or.inl (Or.inr ⟨p, by omega, h2, h3⟩))
theorem rch_wlk (hn : n ≤ 9) (ha : a < n) (hp : ∀ p, p < n → okn n (mo p) ∧ okn n (fa p)) : ∀ i j, bt (rch n bo mo fa lt a i) j = true ↔ wlk (adjn n bo mo fa lt) i a j
  | 0, j => by
    show bt (B a) j = true ↔ a = j
    rw [bt_B (by omega), decide_eq_true_iff]
    exact ⟨Eq.symm, Eq.symm⟩
  | i + 1, j => by
    show bt (itr (stF bo mo fa lt (rch n bo mo fa lt a i)) 0 n (rch n bo mo fa lt a i)) j = true ↔ _
    rw [bt_stp hn hp n (Nat.le_refl _), rch_wlk hn ha hp i j]
    constructor
    · rintro (h | ⟨p, h1, h2, ⟨h3, h4⟩ | ⟨h3, c, h4, h5, h6⟩⟩)
      · exact ⟨j, h, Or.inl rfl⟩
      · exact ⟨p, (rch_wlk hn ha hp i p).mp h3, Or.inr ⟨p, h1, h2, Or.inl ⟨rfl, h4⟩⟩⟩
      · exact ⟨c, (rch_wlk hn ha hp i c).mp h5, Or.inr ⟨p, h1, h2, Or.inr ⟨h3, h4, h6⟩⟩⟩
    · rintro ⟨c, h1, h2 | ⟨p, h2, h3, ⟨h4, h5⟩ | ⟨h4, h5, h6⟩⟩⟩
      · subst h2; exact Or.inl h1
      · subst h4; exact Or.inr ⟨c, h2, h3, Or.inl ⟨(rch_wlk hn ha hp i c).mpr h1, h5⟩⟩
      · exact Or.inr ⟨p, h2, h3, Or.inr ⟨h4, c, h5, (rch_wlk hn ha hp i c).mpr h1, h6⟩⟩
theorem rch_symm (hn : n ≤ 9) (ha : a < n) (hb : b < n) (hp : ∀ p, p < n → okn n (mo p) ∧ okn n (fa p)) : bt (rch n bo mo fa lt a n) b = bt (rch n bo mo fa lt b n) a := by
  have h1 := rch_wlk (bo := bo) (lt := lt) hn ha hp n b
  have h2 := rch_wlk (bo := bo) (lt := lt) hn hb hp n a
  cases ha2 : bt (rch n bo mo fa lt a n) b with
  | true => exact (h2.mpr (wlk_symm (fun i j => adj_symm) n a b (h1.mp ha2))).symm
  | false =>
    cases hb2 : bt (rch n bo mo fa lt b n) a with
    | false => rfl
    | true => rw [h1.mpr (wlk_symm (fun i j => adj_symm) n b a (h2.mp hb2))] at ha2; cases ha2
theorem deg_symm (hn : n ≤ 9) (ha : a < n) (hb : b < n) (hp : ∀ p, p < n → okn n (mo p) ∧ okn n (fa p)) : (deg n bo mo fa lt a b).isSome = (deg n bo mo fa lt b a).isSome := by
  rw [deg_isSome hn ha hp, deg_isSome hn hb hp, rch_symm hn ha hb hp]
end WK
theorem dg_symm {M : JM} {o n k a b : Nat} {y : Int32} (h : Ctr M o n k) (ha : a < n) (hb : b < n) : (dg M o n k a b y).isSome = (dg M o n k b a y).isSome := by
  unfold dg lts
  rw [Int32.and_comm]
  exact deg_symm h.2.1 ha hb h.2.2.2.2.1
/-- counts of bits -/
theorem bc_all : (List.range 512).all (fun m => f207 (N m) == some (N (crd (N m) 9)) && (f127 (N m) == some (N (crd (N m) 9)))) = true := by decide +kernel
theorem set_num {s : Int32} {n : Nat} (hn : n ≤ 9) (h : bnd n s) : ∃ m, m < 512 ∧ s = N m := by
  refine ⟨s.toBitVec.toNat, ?_, ?_⟩
  · show _ < 2 ^ 9
    apply Nat.lt_pow_two_of_testBit
    intro i hi
    cases hb : Nat.testBit s.toBitVec.toNat i with
    | false => rfl
    | true => exact absurd (h i hb) (by omega)
  · apply Int32.toBitVec_inj.mp
    show _ = BitVec.ofNat 32 _
    rw [BitVec.ofNat_toNat, BitVec.setWidth_eq]
theorem bc_c {s : Int32} {n : Nat} (hn : n ≤ 9) (h : bnd n s) : f207 s = some (N (crd s 9)) := by
  obtain ⟨m, hm, rfl⟩ := set_num hn h
  have q := List.all_eq_true.mp bc_all m (List.mem_range.mpr hm)
  rw [Bool.and_eq_true] at q
  exact eq_of_beq q.1
theorem bc_m {s : Int32} {n : Nat} (hn : n ≤ 9) (h : bnd n s) : f127 s = some (N (crd s 9)) := by
  obtain ⟨m, hm, rfl⟩ := set_num hn h
  have q := List.all_eq_true.mp bc_all m (List.mem_range.mpr hm)
  rw [Bool.and_eq_true] at q
  exact eq_of_beq q.2
theorem kinS_bnd {n a : Nat} {D : Nat → Bool} (hn : n ≤ 9) : bnd n (kinS n a D) := fun j hj => by
  rw [bt_kinS hn, Bool.and_eq_true] at hj
  exact of_decide_eq_true hj.1
theorem crd_kinS {n a : Nat} {D : Nat → Bool} (hn : n ≤ 9) : crd (kinS n a D) 9 = smN (fun j => ibN (!(decide (j = a)) && D j)) n := by
  rw [crd_sm, show 9 = n + (9 - n) by omega, smN_ext (9 - n) (fun j hj => ?_)]
  · exact smN_congr n (fun j hj => by rw [bt_kinS hn, decide_eq_true hj]; rfl)
  · rw [bt_kinS hn, decide_eq_false (by omega)]; rfl
theorem half_all : (List.range 200).all (fun m => jdv (N (2 * m)) 2 == some (N m)) = true := by decide +kernel
theorem half_ok {m : Nat} (h : m < 200) : jdv (N (2 * m)) 2 = some (N m) := eq_of_beq (List.all_eq_true.mp half_all m (List.mem_range.mpr h))
/-- how many pairs -/
def prs (n : Nat) (D : Nat → Nat → Bool) : Nat := smN (fun a => smN (fun j => ibN (decide (a < j) && D a j)) n) n
theorem prs_le {n : Nat} {D : Nat → Nat → Bool} (hn : n ≤ 9) : prs n D ≤ 81 := by
  have h1 := smN_le (c := 9) (f := fun a => smN (fun j => ibN (decide (a < j) && D a j)) n) n (fun a _ => by
    have := smN_le (c := 1) (f := fun j => ibN (decide (a < j) && D a j)) n (fun j _ => ibN_le)
    omega)
  unfold prs
  omega
theorem prs_congr {n : Nat} {D E : Nat → Nat → Bool} (h : ∀ a b, a < n → b < n → D a b = E a b) : prs n D = prs n E := by
  unfold prs
  exact smN_congr n (fun a ha => smN_congr n (fun j hj => by rw [h a j ha hj]))
theorem c_pairs {M : JM} {o n k : Nat} {y : Int32} (ho : Cok o) (h : Ctr M o n k) : f22 M o y = some (N (prs n (fun a b => (dg M o n k a b y).isSome))) := by
  have hn9 := h.2.1
  have hE : ∀ a m, smN (fun j => ibN (!(decide (j = a)) && (dg M o n k a j y).isSome)) m ≤ m := fun a m => by
    have := smN_le (c := 1) (f := fun j => ibN (!(decide (j = a)) && (dg M o n k a j y).isSome)) m (fun j _ => ibN_le)
    omega
  unfold f22
  have key : ∀ (d a f : Nat), a + d = n → d < f → f22_4 M f o y (N (smN (fun a => smN (fun j => ibN (!(decide (j = a)) && (dg M o n k a j y).isSome)) n) a)) (N a) = some (N (prs n (fun a b => (dg M o n k a b y).isSome))) := by
    intro d
    induction d with
    | zero =>
      intro a f ha hf
      obtain ⟨f, rfl⟩ : ∃ g, f = g + 1 := ⟨f - 1, by omega⟩
      have e : a = n := ha
      subst e
      rw [f22_4, h.1, if_neg (fun q => Nat.lt_irrefl _ ((N_lt (by omega) (by omega)).mp q)), sm_pairs (fun i j hi hj => dg_symm h hi hj) a (Nat.le_refl _), show smN (fun a_1 => smN (fun j => ibN (decide (a_1 < j) && (dg M o a k a_1 j y).isSome)) a) a = prs a (fun a_1 b => (dg M o a k a_1 b y).isSome) from rfl, half_ok (by have := prs_le (D := fun a_1 b => (dg M o a k a_1 b y).isSome) hn9; omega)]
      rfl
    | succ d ih =>
      intro a f ha hf
      obtain ⟨f, rfl⟩ : ∃ g, f = g + 1 := ⟨f - 1, by omega⟩
      rw [f22_4, h.1, if_pos ((N_lt (by omega) (by omega)).mpr (by omega)), c_kin ho h (show a < n by omega)]
      simp only [Option.bind_some, bc_c hn9 (kinS_bnd hn9), crd_kinS hn9, N_add, N_succ]
      exact ih (a + 1) f (by omega) (by omega)
  exact key n 0 1000 (by omega) (by omega)
theorem m_pairs1 {M : JM} {n k a c : Nat} (h : Rfk M n k) (ha : a < n) {h4 : Nat → Int32 → Int32 → JM → Option (Int32 × JM)} : ∀ (d b f : Nat) (X : JM), b + d = n → d < f → a < b → Sm M X → ∃ X2, f193_16 h4 f 198 (N (c + smN (fun j => ibN (decide (a < j) && (md M n k a j (M 199 0)).isSome)) b)) (N a) (N b) X = h4 198 (N (c + smN (fun j => ibN (decide (a < j) && (md M n k a j (M 199 0)).isSome)) n)) (N a + 1) X2 ∧ Sm M X2
  | _, _, 0, _, _, hf, _, _ => absurd hf (Nat.not_lt_zero _)
  | 0, b, f + 1, X, hb, _, _, s => by
    have e : b = n := hb
    subst e
    rw [f193_16, s 198 (by decide), h.1, if_neg (fun q => Nat.lt_irrefl _ ((N_lt (by have := h.2.1; omega) (by have := h.2.1; omega)).mp q))]
    exact ⟨X, rfl, s⟩
  | d + 1, b, f + 1, X, hb, hf, hab, s => by
    have hn9 := h.2.1
    obtain ⟨X1, e1, s1⟩ := m_degs (y := M 199 0) s h ha (show b < n by omega)
    obtain ⟨X2, e, s2⟩ := m_pairs1 (c := c) h ha (h4 := h4) d (b + 1) f X1 (by omega) (by omega) (by omega) s1
    rw [f193_16, s 198 (by decide), h.1, if_pos ((N_lt (by omega) (by omega)).mpr (by omega)), mp_0, show jla 199 (0 : Int32) X = jla 199 (N 0) X from rfl, la_199 (by omega), s 199 (by decide)]
    simp only [Option.bind_some, e1]
    unfold f193_46
    rw [N_succ]
    refine ⟨X2, ?_, s2⟩
    rw [← e]
    have st : smN (fun j => ibN (decide (a < j) && (md M n k a j (M 199 0)).isSome)) (b + 1) = smN (fun j => ibN (decide (a < j) && (md M n k a j (M 199 0)).isSome)) b + ibN ((md M n k a b (M 199 0)).isSome) := by
      show _ + ibN (decide (a < b) && (md M n k a b (M 199 0)).isSome) = _
      rw [decide_eq_true hab]; rfl
    rw [st]
    cases hd : md M n k a b (M 199 0) with
    | none =>
      rw [if_pos (show oi none = -1 from rfl), show (0 : Int32) = N 0 from rfl, N_add]
      rfl
    | some j =>
      rw [if_neg (fun q => by rw [oi_none (fun i hi => md_lt hn9 i (hd.trans hi))] at q; cases q), show (1 : Int32) = N 1 from rfl, N_add]
      rfl
theorem m_pairs0 {M : JM} {n k : Nat} (h : Rfk M n k) : ∀ (d a f : Nat) (X : JM), a + d = n → d < f → Sm M X → ∃ X2, f193_4 f 198 (N (smN (fun a => smN (fun j => ibN (decide (a < j) && (md M n k a j (M 199 0)).isSome)) n) a)) (N a) X = some (N (prs n (fun a b => (md M n k a b (M 199 0)).isSome)), X2) ∧ Sm M X2
  | _, _, 0, _, _, hf, _ => absurd hf (Nat.not_lt_zero _)
  | 0, a, f + 1, X, hb, _, s => by
    have e : a = n := hb
    subst e
    rw [f193_4, s 198 (by decide), h.1, if_neg (fun q => Nat.lt_irrefl _ ((N_lt (by have := h.2.1; omega) (by have := h.2.1; omega)).mp q))]
    exact ⟨X, rfl, s⟩
  | d + 1, a, f + 1, X, hb, hf, s => by
    have hn9 := h.2.1
    have e0 : smN (fun j => ibN (decide (a < j) && (md M n k a j (M 199 0)).isSome)) (a + 1) = 0 := smN_zero (a + 1) (fun j hj => by rw [decide_eq_false (show ¬ a < j by omega)]; rfl)
    obtain ⟨X1, e1, s1⟩ := m_pairs1 (c := smN (fun a => smN (fun j => ibN (decide (a < j) && (md M n k a j (M 199 0)).isSome)) n) a) h (show a < n by omega) (h4 := f193_4 f) (n - (a + 1)) (a + 1) 1000 X (by omega) (by omega) (by omega) s
    rw [e0, Nat.add_zero] at e1
    obtain ⟨X2, e, s2⟩ := m_pairs0 h d (a + 1) f X1 (by omega) (by omega) s1
    rw [f193_4, s 198 (by decide), h.1, if_pos ((N_lt (by omega) (by omega)).mpr (by omega)), N_succ, e1, N_succ]
    exact ⟨X2, e, s2⟩
theorem m_pairs {M X : JM} {n k : Nat} (h : Rfk M n k) (s : Sm M X) : ∃ X2, f193 198 X = some (N (prs n (fun a b => (md M n k a b (M 199 0)).isSome)), X2) ∧ Sm M X2 := by
  unfold f193
  exact m_pairs0 h n 0 1000 X (by omega) (by have := h.2.1; omega) s
