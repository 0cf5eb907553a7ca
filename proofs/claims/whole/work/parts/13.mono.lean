/-- what a step does to the heap: it grows -/
theorem jsA_heap {ins : Instr} {mi : Nat} {c c' : JC} (h : jsA ins mi c = some c') : c'.2.2.2 = c.2.2.2 := by
  unfold jsA at h
  split at h
  all_goals first
    | (cases h; done)
    | (cases h; rfl)
    | (obtain ⟨_, _, _, rfl⟩ := jld_spec h; rfl)
    | (obtain ⟨_, _, _, _, _, rfl⟩ := jst_spec h; rfl)
    | (obtain ⟨_, _, _, _, _, rfl⟩ := jst2_spec h; rfl)
    | (obtain ⟨_, _, _, rfl⟩ := jinc_spec h; rfl)
    | (obtain ⟨_, _, rfl⟩ := jn_spec h; rfl)
    | (obtain ⟨_, _, rfl⟩ := jto_spec h; rfl)
    | (split at h <;> first | (cases h; done) | (cases h; rfl) | (obtain ⟨_, h2⟩ := jbif_some h; cases h2; rfl) | (split at h <;> first | (cases h; done) | (cases h; rfl)))
theorem jbif_heap {b : Bool} {t u : JC} {h : JH} (ht : t.2.2.2 = h) (hu : u.2.2.2 = h) : (bif b then t else u).2.2.2 = h := by
  cases b
  · exact hu
  · exact ht
theorem jto_heap {c c' : JC} {off : Int} {st : List Value} (h : jto c off st = some c') : c'.2.2.2 = c.2.2.2 := by
  obtain ⟨_, _, rfl⟩ := jto_spec h; rfl
theorem jsB_heap {ins : Instr} {c c' : JC} (h : jsB ins c = some c') : c'.2.2.2 = c.2.2.2 := by
  obtain ⟨pc, lv, st, E, M⟩ := c
  unfold jsB at h
  dsimp only at h
  split at h
  · split at h
    · split at h
      · rename_i x r t ht
        cases h
        exact jbif_heap (jto_heap ht) rfl
      · cases h
    · cases h
  · split at h
    · split at h
      · rename_i y x r t ht
        cases h
        exact jbif_heap (jto_heap ht) rfl
      · cases h
    · cases h
  · split at h
    · cases h; rfl
    · exact jto_heap h
    · cases h
  · rename_i dflt lo hi offs
    split at h
    · rename_i x r
      cases hb : (decide (x.toInt < lo) || decide (hi < x.toInt)) with
      | true => rw [hb] at h; exact jto_heap h
      | false =>
        rw [hb] at h
        simp only [cond_false] at h
        split at h
        · exact jto_heap h
        · cases h
    · cases h
  · split at h
    · obtain ⟨_, h2⟩ := jbif_s h
      exact jto_heap h2
    · cases h
  · cases h
def jLe (h h' : JH) : Prop := h.1.length ≤ h'.1.length ∧ jsz h.1 ≤ jsz h'.1
theorem jLe.rf {h : JH} : jLe h h := ⟨Nat.le_refl _, Nat.le_refl _⟩
theorem jLe.tr {h1 h2 h3 : JH} (a : jLe h1 h2) (b : jLe h2 h3) : jLe h1 h3 := ⟨Nat.le_trans a.1 b.1, Nat.le_trans a.2 b.2⟩
theorem jLe_setp {E : List JE} {o k : Nat} {v : Option Nat} {M M' : JM} : jLe (E, M) (jsetp E o k v, M') := by
  unfold jsetp
  split
  · rename_i e he
    refine ⟨by rw [List.length_set]; exact Nat.le_refl _, ?_⟩
    rw [jsz_set (e2 := (e.1, e.2.1, e.2.2.set k v)) he rfl]
    exact Nat.le_refl _
  · exact jLe.rf
theorem jLe_push {E : List JE} {e2 : JE} {M M' : JM} : jLe (E, M) (E ++ [e2], M') := by
  refine ⟨by rw [List.length_append]; exact Nat.le_add_right _ _, ?_⟩
  rw [jsz_push]
  exact Nat.le_add_right _ _
set_option maxHeartbeats 4000000 in
theorem jsH_heap {xs : Option (List Int32)} {ins : Instr} {mi : Nat} {c c' : JC} (h : jsH xs ins mi c = some c') : jLe c.2.2.2 c'.2.2.2 := by
  obtain ⟨pc, lv, st, E, M⟩ := c
  unfold jsH at h
  dsimp only at h
  split at h
  · split at h
    · split at h
      · obtain ⟨_, h2⟩ := jbif_some h; cases h2; exact jLe.rf
      · split at h
        · obtain ⟨_, h2⟩ := jbif_some h; cases h2; exact jLe.rf
        · obtain ⟨_, h2⟩ := jbif_some h; cases h2; exact jLe.rf
        · cases h
    · cases h
  · split at h
    · split at h
      · obtain ⟨_, h2⟩ := jbif_some h; cases h2; exact ⟨Nat.le_refl _, Nat.le_refl _⟩
      · cases h
    · split at h
      · obtain ⟨_, h2⟩ := jbif_some h; cases h2; exact jLe_setp
      · cases h
    · cases h
  · split at h
    · cases h; exact jLe.rf
    · cases h
  · split at h
    · rename_i i ar r
      cases hb : jok E ar 8 with
      | true => rw [hb] at h; obtain ⟨_, h2⟩ := jbif_some h; cases h2; exact jLe.rf
      | false =>
        rw [hb] at h
        simp only [cond_false] at h
        split at h
        · obtain ⟨_, h2⟩ := jbif_some h; cases h2; exact jLe.rf
        · cases h
    · cases h
  · split at h
    · obtain ⟨_, h2⟩ := jbif_some h; cases h2; exact ⟨Nat.le_refl _, Nat.le_refl _⟩
    · cases h
  · split at h
    · rename_i i ar r
      cases hb : jok E ar 9 with
      | true => rw [hb] at h; obtain ⟨_, h2⟩ := jbif_some h; cases h2; exact jLe.rf
      | false =>
        rw [hb] at h
        simp only [cond_false] at h
        split at h
        · obtain ⟨_, h2⟩ := jbif_some h; cases h2; exact jLe.rf
        · cases h
    · cases h
  · split at h
    · obtain ⟨_, h2⟩ := jbif_some h; cases h2; exact ⟨Nat.le_refl _, Nat.le_refl _⟩
    · cases h
  · split at h
    · obtain ⟨_, h2⟩ := jbif_some h; cases h2; exact jLe.rf
    · cases h
  · split at h
    · obtain ⟨_, h2⟩ := jbif_some h; cases h2; exact jLe_setp
    · cases h
  · split at h
    · rename_i ar r
      cases hb : (jok E ar 8 || jok E ar 9 || jok E ar 10) with
      | true => rw [hb] at h; cases h; exact jLe.rf
      | false =>
        rw [hb] at h
        simp only [cond_false] at h
        split at h
        · cases h; exact jLe.rf
        · split at h
          · cases h; exact jLe.rf
          · cases h
    · cases h
  · split at h
    · obtain ⟨_, h2⟩ := jbif_some h; cases h2; exact jLe_push
    · cases h
  · split at h
    · obtain ⟨_, h2⟩ := jbif_some h; cases h2; exact jLe_push
    · cases h
  · split at h
    · obtain ⟨_, h2⟩ := jbif_some h; cases h2; exact jLe_push
    · cases h
  · cases h
theorem jsC_heap {ins : Instr} {mi : Nat} {c : JC} {k : JK} (h : jsC ins mi c = some k) : (∀ c', k = .inl c' → c'.2.2.2 = c.2.2.2) ∧ ∀ mj as c', k = .inr (mj, as, c') → c'.2.2.2 = c.2.2.2 := by
  obtain ⟨pc, lv, st, E, M⟩ := c
  unfold jsC at h
  dsimp only at h
  repeat' split at h
  all_goals first
    | (cases h; done)
    | (obtain ⟨_, h2⟩ := jbif_some h; subst h2; exact ⟨fun c' q => by cases q <;> rfl, fun mj as c' q => by cases q <;> rfl⟩)
theorem jsR_heap {ins : Instr} {mi : Nat} {c : JC} {r : Option Value × JH} (h : jsR ins mi c = some r) : r.2 = c.2.2.2 := by
  obtain ⟨pc, lv, st, E, M⟩ := c
  unfold jsR at h
  dsimp only at h
  repeat' split at h
  all_goals first
    | (cases h; done)
    | (obtain ⟨_, h2⟩ := jbif_some h; cases h2; rfl)
