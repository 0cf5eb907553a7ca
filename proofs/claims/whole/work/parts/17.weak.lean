/-! A RUN NEEDS NO MORE LOCALS THAN IT READS -/
def jND (l : JL) : Prop := (l.map Prod.fst).Nodup
def jLS (l l' : JL) : Prop := ∀ i v, jget l i = some v → jget l' i = some v
def jSim (c c2 : JC) : Prop := c.1 = c2.1 ∧ jLS c.2.1 c2.2.1 ∧ jND c.2.1 ∧ jND c2.2.1 ∧ c.2.2 = c2.2.2
theorem jget_cons {q : Nat × Value} {r : JL} {j : Nat} : jget (q :: r) j = if q.1 = j then some q.2 else jget r j := by
  show (bif Nat.beq q.1 j then some q.2 else jget r j) = _
  cases hb : Nat.beq q.1 j with
  | true => rw [if_pos (Nat.eq_of_beq_eq_true hb)]; rfl
  | false => rw [if_neg (fun h => by rw [h, Nat.beq_refl] at hb; cases hb)]; rfl
theorem jget_key {l : JL} {j : Nat} {w : Value} (h : jget l j = some w) : j ∈ l.map Prod.fst := List.mem_map.mpr ⟨(j, w), jget_mem h, rfl⟩
theorem jget_filter {p : Nat × Value → Bool} : ∀ {l : JL} {j : Nat} {w : Value}, jND l → (jget (l.filter p) j = some w ↔ jget l j = some w ∧ p (j, w) = true)
  | [], j, w, _ => ⟨fun h => (by cases h), fun h => (by cases h.1)⟩
  | q :: r, j, w, hnd => by
    have hnd2 : jND r := (List.nodup_cons.mp hnd).2
    have hq : q.1 ∉ r.map Prod.fst := (List.nodup_cons.mp hnd).1
    have ih := jget_filter (p := p) (l := r) (j := j) (w := w) hnd2
    by_cases hk : q.1 = j
    · have hr : jget r j ≠ some w := fun h => hq (by rw [hk]; exact jget_key h)
      cases hp : p q with
      | true =>
        rw [List.filter_cons, if_pos hp, jget_cons, jget_cons, if_pos hk, if_pos hk]
        constructor
        · intro h
          refine ⟨h, ?_⟩
          have e : q = (j, w) := by rw [← hk, ← Option.some.inj h]
          rw [← e]; exact hp
        · exact fun h => h.1
      | false =>
        rw [List.filter_cons, if_neg (by rw [hp]; exact Bool.false_ne_true), jget_cons, if_pos hk, ih]
        constructor
        · exact fun h => absurd h.1 hr
        · intro h
          have e : q = (j, w) := by rw [← hk, ← Option.some.inj h.1]
          rw [← e, hp] at h
          cases h.2
    · cases hp : p q with
      | true => rw [List.filter_cons, if_pos hp, jget_cons, jget_cons, if_neg hk, if_neg hk, ih]
      | false => rw [List.filter_cons, if_neg (by rw [hp]; exact Bool.false_ne_true), jget_cons, if_neg hk, ih]
theorem jND_filter {p : Nat × Value → Bool} {l : JL} (h : jND l) : jND (l.filter p) := by
  unfold jND at h ⊢
  exact List.Nodup.sublist (List.filter_sublist.map _) h
theorem jND_set {p : Nat × Value → Bool} {l : JL} {i : Nat} {v : Value} (h : jND l) (hp : ∀ q, q.1 = i → p q = false) : jND ((i, v) :: l.filter p) := by
  unfold jND
  rw [List.map_cons, List.nodup_cons]
  refine ⟨fun hm => ?_, jND_filter h⟩
  obtain ⟨q, hq, e⟩ := List.mem_map.mp hm
  have h2 := (List.mem_filter.mp hq).2
  rw [hp q e] at h2
  cases h2
theorem jLS_set {p : Nat × Value → Bool} {l l' : JL} {i : Nat} {v : Value} (hn : jND l) (hn' : jND l') (h : jLS l l') : jLS ((i, v) :: l.filter p) ((i, v) :: l'.filter p) := by
  intro j w hj
  rw [jget_cons] at hj ⊢
  by_cases hk : i = j
  · rw [if_pos hk] at hj ⊢; exact hj
  · rw [if_neg hk] at hj ⊢
    obtain ⟨h1, h2⟩ := (jget_filter hn).mp hj
    exact (jget_filter hn').mpr ⟨h j w h1, h2⟩
theorem jset_p {i : Nat} (q : Nat × Value) (h : q.1 = i) : (!(q.1 == i) && !(q.1 + 1 == i && q.2.category == 2)) = false := by
  rw [h]; simp
theorem jset2_p {i : Nat} (q : Nat × Value) (h : q.1 = i) : (!(q.1 == i) && (!(q.1 == i + 1) && !(q.1 + 1 == i && q.2.category == 2))) = false := by
  rw [h]; simp
section SIM
variable {pc : Nat} {lv lv2 : JL} {rest : List Value × JH} {c' : JC}
theorem sim_keep {pc' : Nat} {r' : List Value × JH} (h : jLS lv lv2) (hn : jND lv) (hn2 : jND lv2) : jSim (pc', lv, r') (pc', lv2, r') := ⟨rfl, h, hn, hn2, rfl⟩
theorem jn_sim {len : Nat} {o : Option (List Value)} (h : jLS lv lv2) (hn : jND lv) (hn2 : jND lv2) (hj : jn len (pc, lv, rest) o = some c') : ∃ c2, jn len (pc, lv2, rest) o = some c2 ∧ jSim c' c2 := by
  obtain ⟨st', rfl, rfl⟩ := jn_spec hj
  exact ⟨_, rfl, sim_keep h hn hn2⟩
theorem jto_sim {off : Int} {st : List Value} (h : jLS lv lv2) (hn : jND lv) (hn2 : jND lv2) (hj : jto (pc, lv, rest) off st = some c') : ∃ c2, jto (pc, lv2, rest) off st = some c2 ∧ jSim c' c2 := by
  obtain ⟨t, ht, rfl⟩ := jto_spec hj
  refine ⟨(t, lv2, st, rest.2), ?_, sim_keep h hn hn2⟩
  unfold jto
  dsimp only at ht ⊢
  rw [ht]
theorem jld_sim {i len : Nat} {ok : Value → Bool} (h : jLS lv lv2) (hn : jND lv) (hn2 : jND lv2) (hj : jld (pc, lv, rest) i len ok = some c') : ∃ c2, jld (pc, lv2, rest) i len ok = some c2 ∧ jSim c' c2 := by
  unfold jld at hj ⊢
  dsimp only at hj ⊢
  split at hj
  · rename_i v hv
    rw [h i v hv]
    obtain ⟨h1, h2⟩ := jbif_some hj
    subst h2
    exact ⟨(pc + len, lv2, v :: rest.1, rest.2), by dsimp only; rw [h1]; rfl, sim_keep h hn hn2⟩
  · cases hj
theorem jst_sim {mi i len : Nat} {ok : Value → Bool} (h : jLS lv lv2) (hn : jND lv) (hn2 : jND lv2) (hj : jst mi (pc, lv, rest) i len ok = some c') : ∃ c2, jst mi (pc, lv2, rest) i len ok = some c2 ∧ jSim c' c2 := by
  unfold jst at hj ⊢
  dsimp only at hj ⊢
  split at hj
  · rename_i v r hv
    obtain ⟨h1, h2⟩ := jbif_some hj
    subst h2
    exact ⟨(pc + len, jset lv2 i v, r, rest.2), by rw [h1]; rfl, ⟨rfl, jLS_set hn hn2 h, jND_set hn jset_p, jND_set hn2 jset_p, rfl⟩⟩
  · cases hj
theorem jst2_sim {mi i len : Nat} (h : jLS lv lv2) (hn : jND lv) (hn2 : jND lv2) (hj : jst2 mi (pc, lv, rest) i len = some c') : ∃ c2, jst2 mi (pc, lv2, rest) i len = some c2 ∧ jSim c' c2 := by
  unfold jst2 at hj ⊢
  dsimp only at hj ⊢
  split at hj
  · rename_i v r hv
    obtain ⟨h1, h2⟩ := jbif_some hj
    subst h2
    exact ⟨(pc + len, jset2 lv2 i v, r, rest.2), by rw [h1]; rfl, ⟨rfl, jLS_set hn hn2 h, jND_set hn jset2_p, jND_set hn2 jset2_p, rfl⟩⟩
  · cases hj
theorem jinc_sim {mi i : Nat} {n : Int} (h : jLS lv lv2) (hn : jND lv) (hn2 : jND lv2) (hj : jinc mi (pc, lv, rest) i n = some c') : ∃ c2, jinc mi (pc, lv2, rest) i n = some c2 ∧ jSim c' c2 := by
  unfold jinc at hj ⊢
  dsimp only at hj ⊢
  split at hj
  · rename_i x hv
    rw [h i _ hv]
    obtain ⟨h1, h2⟩ := jbif_some hj
    subst h2
    exact ⟨(pc + 3, jset lv2 i (.int (x + Int32.ofInt n)), rest.1, rest.2), by dsimp only; rw [h1]; rfl, ⟨rfl, jLS_set hn hn2 h, jND_set hn jset_p, jND_set hn2 jset_p, rfl⟩⟩
  · cases hj
end SIM
theorem jsA_sim {ins : Instr} {mi : Nat} {c c' c2 : JC} (hs : jSim c c2) (hj : jsA ins mi c = some c') : ∃ c2', jsA ins mi c2 = some c2' ∧ jSim c' c2' := by
  obtain ⟨pc, lv, st, h⟩ := c
  obtain ⟨pc2, lv2, st2, h2⟩ := c2
  obtain ⟨e1, hls, hn, hn2, e2⟩ := hs
  dsimp only at e1 hls hn hn2 e2
  cases e1
  cases e2
  unfold jsA at hj ⊢
  dsimp only at hj ⊢
  split at hj
  all_goals first
    | exact jn_sim hls hn hn2 hj
    | exact jld_sim hls hn hn2 hj
    | exact jst_sim hls hn hn2 hj
    | exact jst2_sim hls hn hn2 hj
    | exact jinc_sim hls hn hn2 hj
    | exact jto_sim hls hn hn2 hj
    | (cases hj; done)
    | (cases hj; exact ⟨_, rfl, sim_keep hls hn hn2⟩)
    | (rename_i idx
       rcases hK : jKI (jOC mi) idx with _ | ⟨v, w⟩
       · simp only [hK] at hj ⊢
         rcases hK2 : jKS (jOC mi) idx with _ | i
         · simp only [hK2] at hj; cases hj; done
         · simp only [hK2] at hj ⊢; cases hj; exact ⟨_, rfl, sim_keep hls hn hn2⟩
       · simp only [hK] at hj ⊢; cases hj; exact ⟨_, rfl, sim_keep hls hn hn2⟩)
    | (rename_i idx
       rcases hK : jKI (jOC mi) idx with _ | ⟨v, w⟩
       · simp only [hK] at hj; cases hj; done
       · simp only [hK] at hj ⊢; cases hj; exact ⟨_, rfl, sim_keep hls hn hn2⟩)
    | (rename_i idx
       rcases hK : jKL (jOC mi) idx with _ | ⟨v, w⟩
       · simp only [hK] at hj; cases hj; done
       · simp only [hK] at hj ⊢; cases hj; exact ⟨_, rfl, sim_keep hls hn hn2⟩)
    | (split at hj
       · cases hj; exact ⟨_, rfl, sim_keep hls hn hn2⟩
       · cases hj)
    | (split at hj
       · obtain ⟨h1, h3⟩ := jbif_some hj; cases h3; exact ⟨_, by simp only [h1]; rfl, sim_keep hls hn hn2⟩
       · cases hj)
theorem jsB_sim {ins : Instr} {c c' c2 : JC} (hs : jSim c c2) (hj : jsB ins c = some c') : ∃ c2', jsB ins c2 = some c2' ∧ jSim c' c2' := by
  obtain ⟨pc, lv, st, h⟩ := c
  obtain ⟨pc2, lv2, st2, h2⟩ := c2
  obtain ⟨e1, hls, hn, hn2, e2⟩ := hs
  dsimp only at e1 hls hn hn2 e2
  cases e1
  cases e2
  unfold jsB at hj ⊢
  dsimp only at hj ⊢
  split at hj
  · split at hj
    · rename_i cd off _ x r
      split at hj
      · rename_i t ht
        obtain ⟨c3, h3, h4⟩ := jto_sim hls hn hn2 ht
        cases hj
        simp only [h3]
        refine ⟨_, rfl, ?_⟩
        cases jcb cd x 0
        · exact sim_keep hls hn hn2
        · exact h4
      · cases hj
    · cases hj
  · split at hj
    · rename_i cd off _ y x r
      split at hj
      · rename_i t ht
        obtain ⟨c3, h3, h4⟩ := jto_sim hls hn hn2 ht
        cases hj
        simp only [h3]
        refine ⟨_, rfl, ?_⟩
        cases jcb cd x y
        · exact sim_keep hls hn hn2
        · exact h4
      · cases hj
    · cases hj
  · split at hj
    · cases hj; exact ⟨_, rfl, sim_keep hls hn hn2⟩
    · exact jto_sim hls hn hn2 hj
    · cases hj
  · split at hj
    · rename_i dflt lo hi offs _ x r
      cases hb : (decide (x.toInt < lo) || decide (hi < x.toInt)) with
      | true =>
        rw [hb] at hj
        simp only [cond_true] at hj ⊢
        exact jto_sim hls hn hn2 hj
      | false =>
        rw [hb] at hj
        simp only [cond_false] at hj ⊢
        split at hj
        · rename_i off ho
          exact jto_sim hls hn hn2 hj
        · cases hj
    · cases hj
  · split at hj
    · obtain ⟨h1, h3⟩ := jbif_s hj
      obtain ⟨c3, h4, h5⟩ := jto_sim hls hn hn2 h3
      exact ⟨c3, by simp only [h1, cond_true]; exact h4, h5⟩
    · cases hj
  · cases hj
theorem jbif_map {α β : Type} {b : Bool} {x y : Option α} {g : α → β} : Option.map g (bif b then x else y) = bif b then x.map g else y.map g := by
  cases b <;> rfl
/-- the heap's steps, the calls and the returns don't look at the locals -/
theorem jsH_loc {xs : Option (List Int32)} {ins : Instr} {mi pc : Nat} {lv lv2 : JL} {r : List Value × JH} : jsH xs ins mi (pc, lv2, r) = (jsH xs ins mi (pc, lv, r)).map (fun c => (c.1, lv2, c.2.2)) := by
  obtain ⟨st, E, M⟩ := r
  unfold jsH
  dsimp only
  repeat' split
  all_goals first
    | rfl
    | (simp only [jbif_map, Option.map_some, Option.map_none]; done)
    | (simp only [jbif_map, Option.map_some, Option.map_none]; rfl)
def jKloc (lv2 : JL) : JK → JK
  | .inl c => .inl (c.1, lv2, c.2.2)
  | .inr q => .inr (q.1, q.2.1, (q.2.2.1, lv2, q.2.2.2.2))
theorem jsC_loc {ins : Instr} {mi pc : Nat} {lv lv2 : JL} {r : List Value × JH} : jsC ins mi (pc, lv2, r) = (jsC ins mi (pc, lv, r)).map (jKloc lv2) := by
  obtain ⟨st, E, M⟩ := r
  unfold jsC
  dsimp only
  repeat' split
  all_goals first
    | rfl
    | (simp only [jbif_map, Option.map_some, Option.map_none]; done)
    | (simp only [jbif_map, Option.map_some, Option.map_none]; rfl)
theorem jsR_loc {ins : Instr} {mi pc : Nat} {lv lv2 : JL} {r : List Value × JH} : jsR ins mi (pc, lv2, r) = jsR ins mi (pc, lv, r) := by
  obtain ⟨st, E, M⟩ := r
  rfl
