/-! THE CLAIM, of the law's loop as a function -/
theorem jpok_out {c : JC} (h : jpok c = true) : ∃ M : JM, c = (18, [(3, .int 0), (2, .ref 198), (1, .ref 0), (0, .ref 1000000)], [], (jE0, M)) ∧ ∀ o, o < 216 → ∀ k, k < jlen jE0 o → M o k = jV0 o k := by
  unfold jpok at h
  split at h
  · rename_i pc i3 v3 i2 v2 i1 v1 i0 v0 E M
    simp only [Bool.and_eq_true] at h
    obtain ⟨⟨⟨⟨⟨⟨⟨⟨⟨⟨h1, h2⟩, h3⟩, h4⟩, h5⟩, h6⟩, h7⟩, h8⟩, h9⟩, h10⟩, h11⟩ := h
    have e1 := Nat.eq_of_beq_eq_true h1
    have e2 := Nat.eq_of_beq_eq_true h2
    have e3 := Nat.eq_of_beq_eq_true h3
    have e4 := Nat.eq_of_beq_eq_true h4
    have e5 := Nat.eq_of_beq_eq_true h5
    have e6 := of_decide_eq_true h6
    have e7 := Nat.eq_of_beq_eq_true h7
    have e8 := Nat.eq_of_beq_eq_true h8
    have e9 := Nat.eq_of_beq_eq_true h9
    have e10 := of_decide_eq_true h10
    subst e1; subst e2; subst e3; subst e4; subst e5; subst e6; subst e7; subst e8; subst e9; subst e10
    refine ⟨M, rfl, fun o ho k hk => ?_⟩
    exact of_decide_eq_true (List.all_eq_true.mp (List.all_eq_true.mp h11 o (List.mem_range.mpr ho)) k (List.mem_range.mpr hk))
  · cases h
theorem hrun_of_law (hlaw : ∀ (xs : List Int32) (M0 : JM), xs.length ≤ 320 → (∀ o, o < 216 → ∀ k, k < jlen jE0 o → M0 o k = jV0 o k) → ∃ M' : JM, f217_18 (some xs) 1000 1000000 0 198 0 M0 = some (1, M')) : ∀ xs : List Int32, xs.length ≤ 320 → ∃ (n : Nat) (h' : JH), jrun (some xs) n 60 217 jinit = some (some (.int 1), h') ∧ h'.1.length ≤ 600000 ∧ jsz h'.1 ≤ 7302250 := by
  intro xs hxs
  have hp := jPre_all
  cases hc : jPre 10 jinit with
  | none => rw [hc] at hp; cases hp
  | some c =>
    rw [hc] at hp
    obtain ⟨M0, he, hM⟩ := jpok_out hp
    obtain ⟨M', hf⟩ := hlaw xs M0 hxs hM
    have g := c217_18 (xs := some xs) 1000 1000000 0 198 0 M0 (by decide +kernel) (by decide +kernel)
    have g2 := g _ hf (some (.int 1), (jE0, M')) rfl
    have g3 : JEv (some xs) 17 217 c (some (.int 1), (jE0, M')) := by
      rw [he]
      exact ev_weak (lv := [(0, .ref 1000000), (1, .ref 0), (2, .ref 198), (3, .int 0)]) ⟨rfl, rfl, rfl, rfl, trivial⟩ (show ([0, 1, 2, 3] : List Nat).Nodup by decide) (show ([3, 2, 1, 0] : List Nat).Nodup by decide) g2
    obtain ⟨n, hn⟩ := (jPre_ev (l := xs) 10 hc (g3.dp (by decide))).dp (d2 := 60) (by decide)
    refine ⟨n, (jE0, M'), hn, ?_, ?_⟩
    · show jE0.length ≤ 600000
      rw [jE0_len]; decide
    · show jsz jE0 ≤ 7302250
      decide +kernel
