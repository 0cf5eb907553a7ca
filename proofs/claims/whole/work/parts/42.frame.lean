/-! PURE: what each part of the invariant looks at -/
section FR
variable {M M2 : JM} {n k : Nat}
theorem ctr_fr (r : ∀ o, 4 ≤ o ∧ o ≤ 18 → M2 o = M o) (h : Ctr M 4 n k) : Ctr M2 4 n k := by
  unfold Ctr at h ⊢
  rw [r 4 (by omega), r (4 + 2) (by omega), r (4 + 4) (by omega), r (4 + 6) (by omega), r (4 + 8) (by omega), r (4 + 12) (by omega), r (4 + 14) (by omega)]
  exact h
theorem agr_fr (r : ∀ o, (4 ≤ o ∧ o ≤ 18) ∨ (203 ≤ o ∧ o ≤ 209) → M2 o = M o) (f : ∀ j, j = 7 ∨ j = 13 ∨ j = 16 → M2 198 j = M 198 j) (h : Agr M 4 n k) : Agr M2 4 n k := by
  unfold Agr at h ⊢
  rw [r 4 (by omega), r (4 + 2) (by omega), r (4 + 4) (by omega), r (4 + 6) (by omega), r (4 + 8) (by omega), r (4 + 10) (by omega), r (4 + 12) (by omega), r (4 + 14) (by omega), r 203 (by omega), r 204 (by omega), r 205 (by omega), r 206 (by omega), r 207 (by omega), r 208 (by omega), r 209 (by omega), f 7 (by omega), f 13 (by omega), f 16 (by omega)]
  exact h
theorem rng_fr (r : ∀ o, 4 ≤ o ∧ o ≤ 18 → M2 o = M o) (h : Rng M n k) : Rng M2 n k := by
  unfold Rng at h ⊢
  rw [r 4 (by omega), r 6 (by omega), r 8 (by omega), r 16 (by omega), r 18 (by omega)]
  exact h
theorem lif_fr {o b : Nat} (r : ∀ a, (o ≤ a ∧ a ≤ o + 12) ∨ a = 199 → M2 a = M a) (h : Lif M o b n) : Lif M2 o b n := Lif_eq h (r _ (by omega)) (r _ (by omega)) (r _ (by omega)) (r _ (by omega)) (r _ (by omega)) (r _ (by omega)) (r _ (by omega)) (r _ (by omega))
theorem fst_fr (r : ∀ o, (182 ≤ o ∧ o ≤ 189) ∨ o = 213 → M2 o = M o) (f : M2 198 27 = M 198 27) (g : M2 181 0 = M 181 0) (h : Fst M n) : Fst M2 n := by
  obtain ⟨m, hm⟩ := h
  refine ⟨m, ?_⟩
  rw [g, f, r 183 (by omega), r 185 (by omega), r 187 (by omega), r 189 (by omega), r 213 (by omega)]
  exact hm
theorem txt_fr (r : ∀ o, o = 3 ∨ o = 201 → M2 o = M o) (f : M2 198 4 = M 198 4) (g : M2 1 1 = M 1 1) (h : Txt M) : Txt M2 := by
  obtain ⟨m, hm⟩ := h
  refine ⟨m, ?_⟩
  rw [g, f, r 3 (by omega), r 201 (by omega)]
  exact hm
theorem und_fr (r : ∀ o, (49 ≤ o ∧ o ≤ 152) ∨ o = 199 → M2 o = M o) (f : M2 198 1 = M 198 1) (g5 : M2 0 5 = M 0 5) (g6 : M2 0 6 = M 0 6) (h : Und M n) : Und M2 n := by
  obtain ⟨u, q, a1, a2, a3, a4, a5, a6⟩ := h
  exact ⟨u, q, a1, a2, by rw [g6]; exact a3, by rw [f]; exact a4, by rw [g5]; exact a5, fun i hi => lif_fr (fun a ha => r a (by omega)) (a6 i hi)⟩
theorem kep_fr (r : ∀ o, (155 ≤ o ∧ o ≤ 180) ∨ o = 199 ∨ o = 200 → M2 o = M o) (g : M2 0 8 = M 0 8) (h : Kep M n) : Kep M2 n := by
  intro i hi
  rw [r 200 (by omega), g]
  exact ⟨(h i hi).1, fun hb => lif_fr (fun a ha => r a (by omega)) ((h i hi).2 hb)⟩
end FR
/-- the class's cells -/
theorem xp_0 : jpt 0 0 = 1 := by decide +kernel
theorem xp_1 : jpt 0 1 = 4 := by decide +kernel
theorem xp_2 : jpt 0 2 = 19 := by decide +kernel
theorem xp_3 : jpt 0 3 = 34 := by decide +kernel
theorem xp_4 : jpt 0 4 = 47 := by decide +kernel
theorem xp_7 : jpt 0 7 = 153 := by decide +kernel
theorem xp_9 : jpt 0 9 = 181 := by decide +kernel
theorem xp_10 : jpt 0 10 = 196 := by decide +kernel
def rowb (o a L : Nat) : Bool := Nat.beq (jpt o 0) a && Nat.beq (jlen jE0 a) L && Nat.ble (L + 1) 1000
theorem rowb_ok {o a L : Nat} (h : rowb o a L = true) : Row o a L := by
  unfold rowb at h
  rw [Bool.and_eq_true, Bool.and_eq_true] at h
  exact ⟨Nat.eq_of_beq_eq_true h.1.1, Nat.eq_of_beq_eq_true h.1.2, Nat.le_of_ble_eq_true h.2⟩
theorem row_txt : Row (jpt 1 0) 3 160 := rowb_ok (by decide +kernel)
theorem cok_4 : Cok 4 := ⟨rowb_ok (by decide +kernel), rowb_ok (by decide +kernel), rowb_ok (by decide +kernel), rowb_ok (by decide +kernel), rowb_ok (by decide +kernel), rowb_ok (by decide +kernel), rowb_ok (by decide +kernel)⟩
theorem cok_19 : Cok 19 := ⟨rowb_ok (by decide +kernel), rowb_ok (by decide +kernel), rowb_ok (by decide +kernel), rowb_ok (by decide +kernel), rowb_ok (by decide +kernel), rowb_ok (by decide +kernel), rowb_ok (by decide +kernel)⟩
/-- a life's rows -/
def Lok (o : Nat) : Prop := Row (jpt o 4) (o + 2) 9 ∧ Row (jpt o 5) (o + 4) 9 ∧ Row (jpt o 6) (o + 6) 8 ∧ Row (jpt o 7) (o + 8) 8 ∧ Row (jpt o 8) (o + 10) 8 ∧ Row (jpt o 9) (o + 12) 8
theorem lok_all : ([34, 49, 62, 75, 88, 101, 114, 127, 140, 155, 168] : List Nat).all (fun o => rowb (jpt o 4) (o + 2) 9 && (rowb (jpt o 5) (o + 4) 9 && (rowb (jpt o 6) (o + 6) 8 && (rowb (jpt o 7) (o + 8) 8 && (rowb (jpt o 8) (o + 10) 8 && rowb (jpt o 9) (o + 12) 8))))) = true := by decide +kernel
theorem lok {o : Nat} (h : o ∈ ([34, 49, 62, 75, 88, 101, 114, 127, 140, 155, 168] : List Nat)) : Lok o := by
  have q := List.all_eq_true.mp lok_all o h
  simp only [Bool.and_eq_true] at q
  exact ⟨rowb_ok q.1, rowb_ok q.2.1, rowb_ok q.2.2.1, rowb_ok q.2.2.2.1, rowb_ok q.2.2.2.2.1, rowb_ok q.2.2.2.2.2⟩
theorem lok_34 : Lok 34 := lok (by decide)
/-- numbers of persons -/
theorem one_in {n : Nat} {x : Int32} (hn : n ≤ 1000) : (¬ x < 0 ∧ x < N n) ↔ ∃ p, p < n ∧ x = N p := by
  constructor
  · rintro ⟨h1, h2⟩; exact N_lt_of (by omega) h1 h2
  · rintro ⟨p, hp, rfl⟩; exact ⟨N_neg (by omega), (N_lt (by omega) (by omega)).mpr hp⟩
def isN (n : Nat) (x : Int32) : Bool := !(decide (x < 0)) && decide (x < N n)
theorem isN_t {n : Nat} {x : Int32} (hn : n ≤ 1000) (h : isN n x = true) : ∃ p, p < n ∧ x = N p := by
  unfold isN at h
  rw [Bool.and_eq_true, Bool.not_eq_true', decide_eq_false_iff_not] at h
  exact (one_in hn).mp ⟨h.1, of_decide_eq_true h.2⟩
theorem isN_N {n p : Nat} (hn : n ≤ 1000) (h : p < n) : isN n (N p) = true := by
  unfold isN
  rw [decide_eq_false (N_neg (by omega)), decide_eq_true ((N_lt (by omega) (by omega)).mpr h)]; rfl
theorem c_one {o n : Nat} {x : Int32} {M : JM} (hn : M o 0 = N n) : f3 M o x = some (b2 (isN n x)) := by
  unfold f3 isN
  rw [hn]
  by_cases h : x < 0
  · rw [if_pos h, decide_eq_true h]; rfl
  · rw [if_neg h, decide_eq_false h]
    by_cases h2 : x < N n
    · rw [if_pos h2, decide_eq_true h2]; rfl
    · rw [if_neg h2, decide_eq_false h2]; rfl
theorem c_comet {o n : Nat} {x : Int32} {M : JM} (hn : M o 1 = N n) : f5 M o x = some (b2 (isN n x)) := by
  unfold f5 isN
  rw [hn]
  by_cases h : x < 0
  · rw [if_pos h, decide_eq_true h]; rfl
  · rw [if_neg h, decide_eq_false h]
    by_cases h2 : x < N n
    · rw [if_pos h2, decide_eq_true h2]; rfl
    · rw [if_neg h2, decide_eq_false h2]; rfl
theorem c_two {o n : Nat} {x y : Int32} {M : JM} (hn : M o 0 = N n) : f4 M o x y = some (b2 (isN n x && (isN n y && !(decide (x = y))))) := by
  unfold f4
  rw [c_one hn, c_one hn]
  simp only [Option.bind_some, b2_0]
  cases isN n x with
  | false => rfl
  | true =>
    cases isN n y with
    | false => rfl
    | true =>
      by_cases h : x = y
      · simp [h]; rfl
      · simp [h]; rfl
theorem isN_sub {n : Nat} {x : Int32} (hn : n ≤ 1000) : (!(decide (x < 0)) && !(decide (N n - 1 < x))) = isN n x := by
  unfold isN
  by_cases h : x < 0
  · rw [decide_eq_true h]; rfl
  · rw [decide_eq_false h, Bool.not_false, Bool.true_and, Bool.true_and]
    obtain ⟨p, hp, rfl⟩ := N_of h
    by_cases h0 : n = 0
    · subst h0
      rw [decide_eq_true (show N 0 - 1 < N p from by
        have h1 := N_neg hp
        rw [Int32.lt_iff_toInt_lt] at h1 ⊢
        have h00 : ((0 : Int32)).toInt = 0 := rfl
        have h01 : (N 0 - 1).toInt = -1 := rfl
        omega), decide_eq_false (fun q => Nat.not_lt_zero p ((N_lt hp (by omega)).mp q))]; rfl
    · have e : N n - 1 = N (n - 1) := (Int32.ofNat_sub n 1 (by omega)).symm
      rw [e]
      by_cases h2 : p < n
      · rw [decide_eq_true ((N_lt hp (by omega)).mpr h2), decide_eq_false (fun q => absurd ((N_lt (by omega) hp).mp q) (by omega))]; rfl
      · rw [decide_eq_false (fun q => h2 ((N_lt hp (by omega)).mp q)), decide_eq_true ((N_lt (by omega) hp).mpr (by omega))]; rfl
theorem jbo_b {mi : Nat} {b : Bool} (h : mi = 159 ∨ mi = 161 ∨ mi = 162 ∨ mi = 182) : jbo mi (b2 b) = some (b2 b) := by
  rcases h with rfl | rfl | rfl | rfl <;> cases b <;> rfl
theorem m_one {n : Nat} {x : Int32} {M : JM} (hn : M 198 7 = N n) (h9 : n ≤ 1000) : f159 M 198 x = some (b2 (isN n x)) := by
  unfold f159
  rw [hn, show (0 : Int64) = (0 : Int32).toInt64 from rfl, in_ok, isN_sub h9]
  exact jbo_b (Or.inl rfl)
theorem m_comet {n : Nat} {x : Int32} {M : JM} (hn : M 198 13 = N n) (h9 : n ≤ 1000) : f161 M 198 x = some (b2 (isN n x)) := by
  unfold f161
  rw [hn, show (0 : Int64) = (0 : Int32).toInt64 from rfl, in_ok, isN_sub h9]
  exact jbo_b (Or.inr (Or.inl rfl))
theorem m_two {n : Nat} {x y : Int32} {M : JM} (hn : M 198 7 = N n) (h9 : n ≤ 1000) : f160 M 198 x y = some (b2 (isN n x && (isN n y && !(decide (x = y))))) := by
  unfold f160
  rw [m_one hn h9, m_one hn h9]
  simp only [Option.bind_some, b2_0]
  cases isN n x with
  | false => rfl
  | true =>
    cases isN n y with
    | false => rfl
    | true =>
      by_cases h : x = y
      · simp [h]; rfl
      · simp [h]; rfl
theorem year_99 {x : Int32} : (!(decide (x < 0)) && !(decide ((99 : Int32) < x))) = isN 100 x := by
  rw [← isN_sub (by omega)]
  rfl
theorem m_year {x : Int32} : f162 x = some (b2 (isN 100 x)) := by
  unfold f162
  rw [show (0 : Int64) = (0 : Int32).toInt64 from rfl, show (99 : Int64) = (99 : Int32).toInt64 from rfl, in_ok, year_99]
  exact jbo_b (Or.inr (Or.inr (Or.inl rfl)))
theorem c_year {x : Int32} : f99 x = some (b2 (isN 100 x)) := by
  rw [← year_99]
  unfold f99
  by_cases h : x < 0
  · rw [if_pos h, decide_eq_true h]; rfl
  · rw [if_neg h, decide_eq_false h]
    by_cases h2 : (99 : Int32) < x
    · rw [if_pos h2, decide_eq_true h2]; rfl
    · rw [if_neg h2, decide_eq_false h2]; rfl
