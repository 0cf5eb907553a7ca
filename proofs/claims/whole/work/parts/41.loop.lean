/-! PURE: the law's loop, call by call -/
def Blk (f : Option (List Int32) → (Nat → Nat → Nat → Int32 → JM → Option (Int32 × JM)) → Nat → Nat → Nat → Int32 → JM → Option (Int32 × JM)) : Prop := ∀ (xs : List Int32) (h18 : Nat → Nat → Nat → Int32 → JM → Option (Int32 × JM)) (i : Nat) (M : JM), xs.length ≤ 320 → i + 5 ≤ xs.length → Inv M → ∃ M2, Inv M2 ∧ f (some xs) h18 1000000 0 198 (N i) M = h18 1000000 0 198 (N (i + 5)) M2
theorem jok_far : jok jE0 1000000 8 = false := by decide +kernel
theorem sc_at {xs : List Int32} {i : Nat} {M : JM} (h : i < xs.length) (hx : xs.length ≤ 320) : jlx (some xs) 1000000 (N i) M = some (xs.getD i 0) := by
  unfold jlx
  rw [jok_far]
  show (match (some xs : Option (List Int32)) with | some l => bif jin (N i) l.length then some (l.getD (N i).toNatClampNeg 0) else none | none => none) = _
  simp only
  rw [jin_N (by omega), decide_eq_true h, N_nat (by omega)]
  rfl
theorem sc_k {xs : List Int32} {i k : Nat} {M : JM} (h : i + k < xs.length) (hx : xs.length ≤ 320) : jlx (some xs) 1000000 (N i + N k) M = some (xs.getD (i + k) 0) := by
  rw [N_add]; exact sc_at h hx
theorem sc_len {xs : List Int32} : jal (some xs) 1000000 = some (N xs.length) := by
  unfold jal
  rw [show (jok jE0 1000000 8 || jok jE0 1000000 9 || jok jE0 1000000 10) = false from by decide +kernel]
  rfl
theorem sub5 {m i : Nat} (hm : m ≤ 320) (hi : i ≤ 400) : (N m - (5 : Int32) < N i) ↔ ¬ (i + 5 ≤ m) := by
  by_cases h : 5 ≤ m
  · have e : N m - (5 : Int32) = N (m - 5) := (Int32.ofNat_sub m 5 h).symm
    rw [e, N_lt (by omega) (by omega)]
    omega
  · refine ⟨fun _ => by omega, fun _ => ?_⟩
    have h0 : N m - (5 : Int32) < 0 := by
      rcases (show m = 0 ∨ m = 1 ∨ m = 2 ∨ m = 3 ∨ m = 4 by omega) with rfl | rfl | rfl | rfl | rfl <;> decide
    rw [Int32.lt_iff_toInt_lt] at h0 ⊢
    rw [N_int (by omega)]
    have h00 : ((0 : Int32)).toInt = 0 := rfl
    omega
def ok1 (x : Option (Int32 × JM)) : Prop := ∃ M', x = some (1, M')
theorem ok1_ite {c : Prop} {dec : Decidable c} {x y : Option (Int32 × JM)} (h1 : ok1 x) (h2 : ok1 y) : ok1 (if c then x else y) := by
  by_cases h : c
  · rw [if_pos h]; exact h1
  · rw [if_neg h]; exact h2
theorem blk_1076 : Blk f217_1076 := fun xs h18 i M _ _ hI => ⟨M, hI, by
  unfold f217_1076
  rw [show (5 : Int32) = N 5 from rfl, N_add]⟩
theorem law_run (b172 : Blk f217_172) (b195 : Blk f217_195) (b208 : Blk f217_208) (b221 : Blk f217_221) (b234 : Blk f217_234) (b267 : Blk f217_267) (b300 : Blk f217_300) (b333 : Blk f217_333) (b366 : Blk f217_366) (b409 : Blk f217_409) (b442 : Blk f217_442) (b465 : Blk f217_465) (b498 : Blk f217_498) (b531 : Blk f217_531) (b554 : Blk f217_554) (b597 : Blk f217_597) (b630 : Blk f217_630) (b653 : Blk f217_653) (b666 : Blk f217_666) (b689 : Blk f217_689) (b712 : Blk f217_712) (b755 : Blk f217_755) (b788 : Blk f217_788) (b841 : Blk f217_841) (b864 : Blk f217_864) (b887 : Blk f217_887) (b940 : Blk f217_940) (b953 : Blk f217_953) (b976 : Blk f217_976) (b999 : Blk f217_999) (b1053 : Blk f217_1053) {xs : List Int32} (hx : xs.length ≤ 320) : ∀ (c i n : Nat) (M : JM), i + c = 400 → c < n → Inv M → ok1 (f217_18 (some xs) n 1000000 0 198 (N i) M)
  | _, _, 0, _, _, hn, _ => absurd hn (Nat.not_lt_zero _)
  | c, i, n + 1, M, hi, hn, hI => by
    rw [f217_18, sc_len]
    simp only [Option.bind_some]
    by_cases h5 : i + 5 ≤ xs.length
    · rw [if_neg (fun q => (sub5 hx (by omega)).mp q h5), sc_at (by omega) hx]
      simp only [Option.bind_some]
      have r : ∀ {f : Option (List Int32) → (Nat → Nat → Nat → Int32 → JM → Option (Int32 × JM)) → Nat → Nat → Nat → Int32 → JM → Option (Int32 × JM)}, Blk f → ok1 (f (some xs) (f217_18 (some xs) n) 1000000 0 198 (N i) M) := by
        intro f hf
        obtain ⟨M2, h2, e⟩ := hf xs (f217_18 (some xs) n) i M hx h5 hI
        rw [e]
        exact law_run b172 b195 b208 b221 b234 b267 b300 b333 b366 b409 b442 b465 b498 b531 b554 b597 b630 b653 b666 b689 b712 b755 b788 b841 b864 b887 b940 b953 b976 b999 b1053 hx (c - 5) (i + 5) n M2 (by omega) (by omega) h2
      exact ok1_ite (r b172) (ok1_ite (r b195) (ok1_ite (r b208) (ok1_ite (r b221) (ok1_ite (r b234) (ok1_ite (r b267) (ok1_ite (r b300) (ok1_ite (r b333) (ok1_ite (r b366) (ok1_ite (r b409) (ok1_ite (r b442) (ok1_ite (r b465) (ok1_ite (r b498) (ok1_ite (r b531) (ok1_ite (r b554) (ok1_ite (r b597) (ok1_ite (r b630) (ok1_ite (r b653) (ok1_ite (r b666) (ok1_ite (r b689) (ok1_ite (r b712) (ok1_ite (r b755) (ok1_ite (r b788) (ok1_ite (r b841) (ok1_ite (r b864) (ok1_ite (r b887) (ok1_ite (r b940) (ok1_ite (r b953) (ok1_ite (r b976) (ok1_ite (r b999) (ok1_ite (r b1053) (r blk_1076)))))))))))))))))))))))))))))))
    · rw [if_pos ((sub5 hx (by omega)).mpr h5)]
      exact ⟨M, rfl⟩
  termination_by _ _ n => n
