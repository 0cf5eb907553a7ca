/-! RULES OF THE HEAP, OF BRANCHES, OF FEWER LOCALS -/
theorem jrun_sim {xs : Option (List Int32)} : ∀ (n d mi : Nat) (c c2 : JC) (r : Option Value × JH), jSim c c2 → jrun xs n d mi c = some r → jrun xs n d mi c2 = some r
  | 0, _, _, _, _, _, _, h => by cases h
  | n + 1, d, mi, c, c2, r, hs, h => by
    have e1 := hs.1
    have e2 := hs.2.2.2.2
    unfold jrun at h ⊢
    split at h
    · cases h
    · rename_i c' hj
      obtain ⟨ins, len, hp, q⟩ := jstep_cases hj
      rw [e1] at hp
      obtain ⟨c3, h3, h4⟩ : ∃ c3, jstep xs mi c2 = some (.inl c3) ∧ jSim c' c3 := by
        rcases q with ⟨c3, e, q⟩ | ⟨c3, e, q⟩ | ⟨c3, e, q⟩ | ⟨c3, e, q⟩ | ⟨r2, e, q⟩ | ⟨mj, as, c3, e, q⟩
        · cases e
          obtain ⟨c4, g1, g2⟩ := jsA_sim hs q
          exact ⟨c4, jstep_A hp g1, g2⟩
        · cases e
          obtain ⟨c4, g1, g2⟩ := jsB_sim hs q
          exact ⟨c4, jstep_B hp g1, g2⟩
        · cases e
          obtain ⟨pc, lv, rest⟩ := c
          obtain ⟨pc2, lv2, rest2⟩ := c2
          dsimp only at e1 e2 hp
          cases e1; cases e2
          have g := jsH_loc (xs := xs) (ins := ins) (mi := mi) (pc := pc) (lv := lv) (lv2 := lv2) (r := rest)
          rw [q] at g
          have gl : c'.2.1 = lv := by
            have g2 := jsH_loc (xs := xs) (ins := ins) (mi := mi) (pc := pc) (lv := lv) (lv2 := lv) (r := rest)
            rw [q] at g2
            have g3 := congrArg (fun c : JC => c.2.1) (Option.some.inj g2)
            exact g3
          exact ⟨_, jstep_H hp g, rfl, by rw [gl]; exact hs.2.1, by rw [gl]; exact hs.2.2.1, hs.2.2.2.1, rfl⟩
        · cases e
          obtain ⟨pc, lv, rest⟩ := c
          obtain ⟨pc2, lv2, rest2⟩ := c2
          dsimp only at e1 e2 hp
          cases e1; cases e2
          have g := jsC_loc (ins := ins) (mi := mi) (pc := pc) (lv := lv) (lv2 := lv2) (r := rest)
          rw [q] at g
          have gl : c'.2.1 = lv := by
            have g2 := jsC_loc (ins := ins) (mi := mi) (pc := pc) (lv := lv) (lv2 := lv) (r := rest)
            rw [q] at g2
            have g3 := Sum.inl.inj (Option.some.inj g2)
            exact congrArg (fun c : JC => c.2.1) g3
          refine ⟨(c'.1, lv2, c'.2.2), ?_, rfl, by rw [gl]; exact hs.2.1, by rw [gl]; exact hs.2.2.1, hs.2.2.2.1, rfl⟩
          unfold jstep
          rw [hp]
          simp only
          rw [(jsA_noneC (xs := xs) g).1, (jsA_noneC (xs := xs) g).2.1, (jsA_noneC (xs := xs) g).2.2, g]
          rfl
        · cases e
        · cases e
      rw [h3]
      exact jrun_sim n d mi c' c3 r h4 h
    · rename_i r' hj
      obtain ⟨ins, len, hp, q⟩ := jstep_cases hj
      rw [e1] at hp
      rcases q with ⟨c3, e, q⟩ | ⟨c3, e, q⟩ | ⟨c3, e, q⟩ | ⟨c3, e, q⟩ | ⟨r2, e, q⟩ | ⟨mj, as, c3, e, q⟩
      · cases e
      · cases e
      · cases e
      · cases e
      · cases e
        obtain ⟨pc, lv, rest⟩ := c
        obtain ⟨pc2, lv2, rest2⟩ := c2
        dsimp only at e1 e2 hp
        cases e1; cases e2
        rw [jstep_R hp ((jsR_loc (lv := lv)).trans q)]
        exact h
      · cases e
    · rename_i mj as c' hj
      obtain ⟨ins, len, hp, q⟩ := jstep_cases hj
      rw [e1] at hp
      rcases q with ⟨c3, e, q⟩ | ⟨c3, e, q⟩ | ⟨c3, e, q⟩ | ⟨c3, e, q⟩ | ⟨r2, e, q⟩ | ⟨mj2, as2, c3, e, q⟩
      · cases e
      · cases e
      · cases e
      · cases e
      · cases e
      · cases e
        obtain ⟨pc, lv, rest⟩ := c
        obtain ⟨pc2, lv2, rest2⟩ := c2
        dsimp only at e1 e2 hp
        cases e1; cases e2
        have g := jsC_loc (ins := ins) (mi := mi) (pc := pc) (lv := lv) (lv2 := lv2) (r := rest)
        rw [q] at g
        have gl : c'.2.1 = lv := by
          have g2 := jsC_loc (ins := ins) (mi := mi) (pc := pc) (lv := lv) (lv2 := lv) (r := rest)
          rw [q] at g2
          have g3 := congrArg (fun q : Nat × List Value × JC => q.2.2.2.1) (Sum.inr.inj (Option.some.inj g2))
          exact g3
        rw [jstep_C hp g]
        split at h
        · cases h
        · split at h
          · cases h
          · rename_i d' _ v h' hr
            show (match jrun xs n d' mj (0, lv_args 0 as, [], c'.2.2.2) with
              | none => none
              | some (v, h') => jrun xs n (d' + 1) mi (c'.1, lv2, v.toList ++ c'.2.2.1, h')) = some r
            rw [hr]
            exact jrun_sim n _ mi (c'.1, c'.2.1, v.toList ++ c'.2.2.1, h') (c'.1, lv2, v.toList ++ c'.2.2.1, h') r ⟨rfl, by rw [gl]; exact hs.2.1, by rw [gl]; exact hs.2.2.1, hs.2.2.2.1, rfl⟩ h
theorem jsub_LS : ∀ {l l' : JL}, jsub l l' → jLS l l'
  | [], _, _, i, v, h => by cases h
  | q :: r, l', hs, i, v, h => by
    rw [jget_cons] at h
    by_cases hk : q.1 = i
    · rw [if_pos hk] at h
      rw [← hk, ← h]; exact hs.1
    · rw [if_neg hk] at h
      exact jsub_LS hs.2 i v h
section GR
variable {α β : Type} {xs : Option (List Int32)} {d mi : Nat} {A B : Option α} {S : α → Option Value × JH → Prop} {f : α → Option β} {pc : Nat} {lv lv2 : JL} {st r : List Value} {h : JH} {E : List JE} {M : JM}
/-- fewer locals -/
theorem g_weak (hs : jsub lv lv2) (hn : jND lv) (hn2 : jND lv2) (g : JG xs d mi A S (pc, lv, st, h)) : JG xs d mi A S (pc, lv2, st, h) := by
  intro x hx r hr
  obtain ⟨n, hh⟩ := g x hx r hr
  exact ⟨n, jrun_sim n d mi (pc, lv, st, h) (pc, lv2, st, h) r ⟨rfl, jsub_LS hs, hn, hn2, rfl⟩ hh⟩
theorem ev_weak {rr : Option Value × JH} (hs : jsub lv lv2) (hn : jND lv) (hn2 : jND lv2) (g : JEv xs d mi (pc, lv, st, h) rr) : JEv xs d mi (pc, lv2, st, h) rr := by
  obtain ⟨n, hh⟩ := g
  exact ⟨n, jrun_sim n d mi (pc, lv, st, h) (pc, lv2, st, h) rr ⟨rfl, jsub_LS hs, hn, hn2, rfl⟩ hh⟩
/-- branches: the condition says when it jumps (J) or when it falls through (F) -/
theorem g_ifJ {P : Prop} {dec : Decidable P} {cd : ClassFile.Cond} {off : Int} {tgt : Nat} {x : Int32} (hp : jP mi pc = some (.ifCond cd off, 3)) (ht : (pc : Int) + off = Int.ofNat tgt) (h1 : P → jcb cd x 0 = true) (h2 : ¬ P → jcb cd x 0 = false)
    (k1 : P → JG xs d mi A S (tgt, lv, st, h)) (k2 : ¬ P → JG xs d mi B S (pc + 3, lv, st, h)) : JG xs d mi (if P then A else B) S (pc, lv, .int x :: st, h) := by
  have hto : jto (pc, lv, .int x :: st, h) off st = some (tgt, lv, st, h) := by unfold jto; dsimp only; rw [ht]
  have hb : jsB (.ifCond cd off) (pc, lv, .int x :: st, h) = some (bif jcb cd x 0 then (tgt, lv, st, h) else (pc + 3, lv, st, h)) := by unfold jsB; dsimp only; rw [hto]
  by_cases hP : P
  · rw [if_pos hP]
    rw [h1 hP] at hb
    exact g_step (jstep_B hp hb) (k1 hP)
  · rw [if_neg hP]
    rw [h2 hP] at hb
    exact g_step (jstep_B hp hb) (k2 hP)
theorem g_ifF {P : Prop} {dec : Decidable P} {cd : ClassFile.Cond} {off : Int} {tgt : Nat} {x : Int32} (hp : jP mi pc = some (.ifCond cd off, 3)) (ht : (pc : Int) + off = Int.ofNat tgt) (h1 : P → jcb cd x 0 = false) (h2 : ¬ P → jcb cd x 0 = true)
    (k1 : P → JG xs d mi A S (pc + 3, lv, st, h)) (k2 : ¬ P → JG xs d mi B S (tgt, lv, st, h)) : JG xs d mi (if P then A else B) S (pc, lv, .int x :: st, h) := by
  have hto : jto (pc, lv, .int x :: st, h) off st = some (tgt, lv, st, h) := by unfold jto; dsimp only; rw [ht]
  have hb : jsB (.ifCond cd off) (pc, lv, .int x :: st, h) = some (bif jcb cd x 0 then (tgt, lv, st, h) else (pc + 3, lv, st, h)) := by unfold jsB; dsimp only; rw [hto]
  by_cases hP : P
  · rw [if_pos hP]
    rw [h1 hP] at hb
    exact g_step (jstep_B hp hb) (k1 hP)
  · rw [if_neg hP]
    rw [h2 hP] at hb
    exact g_step (jstep_B hp hb) (k2 hP)
theorem g_icJ {P : Prop} {dec : Decidable P} {cd : ClassFile.Cond} {off : Int} {tgt : Nat} {x y : Int32} (hp : jP mi pc = some (.if_icmp cd off, 3)) (ht : (pc : Int) + off = Int.ofNat tgt) (h1 : P → jcb cd x y = true) (h2 : ¬ P → jcb cd x y = false)
    (k1 : P → JG xs d mi A S (tgt, lv, st, h)) (k2 : ¬ P → JG xs d mi B S (pc + 3, lv, st, h)) : JG xs d mi (if P then A else B) S (pc, lv, .int y :: .int x :: st, h) := by
  have hto : jto (pc, lv, .int y :: .int x :: st, h) off st = some (tgt, lv, st, h) := by unfold jto; dsimp only; rw [ht]
  have hb : jsB (.if_icmp cd off) (pc, lv, .int y :: .int x :: st, h) = some (bif jcb cd x y then (tgt, lv, st, h) else (pc + 3, lv, st, h)) := by unfold jsB; dsimp only; rw [hto]
  by_cases hP : P
  · rw [if_pos hP]
    rw [h1 hP] at hb
    exact g_step (jstep_B hp hb) (k1 hP)
  · rw [if_neg hP]
    rw [h2 hP] at hb
    exact g_step (jstep_B hp hb) (k2 hP)
theorem g_icF {P : Prop} {dec : Decidable P} {cd : ClassFile.Cond} {off : Int} {tgt : Nat} {x y : Int32} (hp : jP mi pc = some (.if_icmp cd off, 3)) (ht : (pc : Int) + off = Int.ofNat tgt) (h1 : P → jcb cd x y = false) (h2 : ¬ P → jcb cd x y = true)
    (k1 : P → JG xs d mi A S (pc + 3, lv, st, h)) (k2 : ¬ P → JG xs d mi B S (tgt, lv, st, h)) : JG xs d mi (if P then A else B) S (pc, lv, .int y :: .int x :: st, h) := by
  have hto : jto (pc, lv, .int y :: .int x :: st, h) off st = some (tgt, lv, st, h) := by unfold jto; dsimp only; rw [ht]
  have hb : jsB (.if_icmp cd off) (pc, lv, .int y :: .int x :: st, h) = some (bif jcb cd x y then (tgt, lv, st, h) else (pc + 3, lv, st, h)) := by unfold jsB; dsimp only; rw [hto]
  by_cases hP : P
  · rw [if_pos hP]
    rw [h1 hP] at hb
    exact g_step (jstep_B hp hb) (k1 hP)
  · rw [if_neg hP]
    rw [h2 hP] at hb
    exact g_step (jstep_B hp hb) (k2 hP)
end GR
theorem cb_t {cd : ClassFile.Cond} {x y : Int32} {P : Prop} (h : match cd with | .eq => x = y ↔ P | .ne => (¬ x = y) ↔ P | .lt => x < y ↔ P | .ge => (¬ x < y) ↔ P | .gt => y < x ↔ P | .le => (¬ y < x) ↔ P) : (P → jcb cd x y = true) ∧ (¬ P → jcb cd x y = false) := by
  cases cd
  · exact ⟨fun q => decide_eq_true (h.mpr q), fun q => decide_eq_false (fun z => q (h.mp z))⟩
  · refine ⟨fun q => ?_, fun q => ?_⟩
    · show (!(decide (x = y))) = true
      rw [decide_eq_false (h.mpr q)]; rfl
    · show (!(decide (x = y))) = false
      rw [decide_eq_true (Classical.not_not.mp (fun z => q (h.mp z)))]; rfl
  · exact ⟨fun q => decide_eq_true (h.mpr q), fun q => decide_eq_false (fun z => q (h.mp z))⟩
  · refine ⟨fun q => decide_eq_true (Int32.not_lt.mp (h.mpr q)), fun q => decide_eq_false (fun z => q (h.mp (Int32.not_lt.mpr z)))⟩
  · exact ⟨fun q => decide_eq_true (h.mpr q), fun q => decide_eq_false (fun z => q (h.mp z))⟩
  · refine ⟨fun q => decide_eq_true (Int32.not_lt.mp (h.mpr q)), fun q => decide_eq_false (fun z => q (h.mp (Int32.not_lt.mpr z)))⟩
