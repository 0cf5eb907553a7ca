section JS3
variable {p : Program} {l : Launch} {e : Env} {R : Room} {s : State} {m : MethodId} {args : Array Value} {below : List Frame} {meth : Method} {c0 : Code} {Q : State → Prop}
variable {z0 : Nat} {av : Nat → Nat} {v0 : Value} {DD : va_G} {cI cZ cL : ClassId} {xs : Option (List Int32)} {mi n0 s0 : Nat}
set_option maxHeartbeats 4000000 in
set_option maxRecDepth 100000 in
theorem jsB_ok {ins : Instr} {len : Nat} {c c' : JC} (hc : jCx p s m args meth c0 z0 av v0 DD cI cZ cL xs mi n0) (hj : jsB ins c = some c') (hd : decode (jB mi) c.1 = .ok (ins, len)) (hlen : jlo ins len = true)
    (k : jWX p l e R s m args below meth c0 Q z0 av v0 DD cI cZ cL mi n0 s0 c') : jWX p l e R s m args below meth c0 Q z0 av v0 DD cI cZ cL mi n0 s0 c := by
  obtain ⟨hx, hb, hml, hown, hts, hnm, hK, hRo, hVm, hfix, hsz⟩ := hc
  intro H locs cells slots ls hl hP hS hn1 hn2 hn3
  obtain ⟨pc, lv, st, E, M⟩ := c
  dsimp only at hj hd hl hP hn1 hn2 hn3 ⊢
  have hg := jval_cat (av := av) (v0 := v0) hfix.2
  unfold jsB at hj
  dsimp only at hj
  split at hj
  · -- ifCond
    rename_i cd off
    obtain rfl : len = 3 := Nat.eq_of_beq_eq_true hlen
    split at hj
    · rename_i x r
      split at hj
      · rename_i t ht0
        obtain ⟨tg, ht, rfl⟩ := jto_spec ht0
        cases hj
        cases cd
        · refine lv_if_eq hx hb hd ht (fun hh => ?_) (fun hh => ?_)
          · rw [show jcb .eq x 0 = true from decide_eq_true hh] at k
            exact k H locs cells slots ls hl hP hS hn1 hn2 hn3
          · rw [show jcb .eq x 0 = false from decide_eq_false hh] at k
            exact k H locs cells slots ls hl hP hS hn1 hn2 hn3
        · refine lv_if_ne hx hb hd ht (fun hh => ?_) (fun hh => ?_)
          · rw [show jcb .ne x 0 = true from by unfold jcb; rw [decide_eq_false hh]; rfl] at k
            exact k H locs cells slots ls hl hP hS hn1 hn2 hn3
          · rw [show jcb .ne x 0 = false from by unfold jcb; rw [decide_eq_true hh]; rfl] at k
            exact k H locs cells slots ls hl hP hS hn1 hn2 hn3
        · refine lv_if_lt hx hb hd ht (fun hh => ?_) (fun hh => ?_)
          · rw [show jcb .lt x 0 = true from decide_eq_true hh] at k
            exact k H locs cells slots ls hl hP hS hn1 hn2 hn3
          · rw [show jcb .lt x 0 = false from decide_eq_false hh] at k
            exact k H locs cells slots ls hl hP hS hn1 hn2 hn3
        · refine lv_if_ge hx hb hd ht (fun hh => ?_) (fun hh => ?_)
          · rw [show jcb .ge x 0 = true from decide_eq_true hh] at k
            exact k H locs cells slots ls hl hP hS hn1 hn2 hn3
          · rw [show jcb .ge x 0 = false from decide_eq_false hh] at k
            exact k H locs cells slots ls hl hP hS hn1 hn2 hn3
        · refine lv_if_gt hx hb hd ht (fun hh => ?_) (fun hh => ?_)
          · rw [show jcb .gt x 0 = true from decide_eq_true hh] at k
            exact k H locs cells slots ls hl hP hS hn1 hn2 hn3
          · rw [show jcb .gt x 0 = false from decide_eq_false hh] at k
            exact k H locs cells slots ls hl hP hS hn1 hn2 hn3
        · refine lv_if_le hx hb hd ht (fun hh => ?_) (fun hh => ?_)
          · rw [show jcb .le x 0 = true from decide_eq_true hh] at k
            exact k H locs cells slots ls hl hP hS hn1 hn2 hn3
          · rw [show jcb .le x 0 = false from decide_eq_false hh] at k
            exact k H locs cells slots ls hl hP hS hn1 hn2 hn3
      · cases hj
    · cases hj
  · -- if_icmp
    rename_i cd off
    obtain rfl : len = 3 := Nat.eq_of_beq_eq_true hlen
    split at hj
    · rename_i y x r
      split at hj
      · rename_i t ht0
        obtain ⟨tg, ht, rfl⟩ := jto_spec ht0
        cases hj
        cases cd
        · refine lv_icmp_eq hx hb hd ht (fun hh => ?_) (fun hh => ?_)
          · rw [show jcb .eq x y = true from decide_eq_true hh] at k
            exact k H locs cells slots ls hl hP hS hn1 hn2 hn3
          · rw [show jcb .eq x y = false from decide_eq_false hh] at k
            exact k H locs cells slots ls hl hP hS hn1 hn2 hn3
        · refine lv_icmp_ne hx hb hd ht (fun hh => ?_) (fun hh => ?_)
          · rw [show jcb .ne x y = true from by unfold jcb; rw [decide_eq_false hh]; rfl] at k
            exact k H locs cells slots ls hl hP hS hn1 hn2 hn3
          · rw [show jcb .ne x y = false from by unfold jcb; rw [decide_eq_true hh]; rfl] at k
            exact k H locs cells slots ls hl hP hS hn1 hn2 hn3
        · refine lv_icmp_lt hx hb hd ht (fun hh => ?_) (fun hh => ?_)
          · rw [show jcb .lt x y = true from decide_eq_true hh] at k
            exact k H locs cells slots ls hl hP hS hn1 hn2 hn3
          · rw [show jcb .lt x y = false from decide_eq_false hh] at k
            exact k H locs cells slots ls hl hP hS hn1 hn2 hn3
        · refine lv_icmp_ge hx hb hd ht (fun hh => ?_) (fun hh => ?_)
          · rw [show jcb .ge x y = true from decide_eq_true hh] at k
            exact k H locs cells slots ls hl hP hS hn1 hn2 hn3
          · rw [show jcb .ge x y = false from decide_eq_false hh] at k
            exact k H locs cells slots ls hl hP hS hn1 hn2 hn3
        · refine lv_icmp_gt hx hb hd ht (fun hh => ?_) (fun hh => ?_)
          · rw [show jcb .gt x y = true from decide_eq_true hh] at k
            exact k H locs cells slots ls hl hP hS hn1 hn2 hn3
          · rw [show jcb .gt x y = false from decide_eq_false hh] at k
            exact k H locs cells slots ls hl hP hS hn1 hn2 hn3
        · refine lv_icmp_le hx hb hd ht (fun hh => ?_) (fun hh => ?_)
          · rw [show jcb .le x y = true from decide_eq_true hh] at k
            exact k H locs cells slots ls hl hP hS hn1 hn2 hn3
          · rw [show jcb .le x y = false from decide_eq_false hh] at k
            exact k H locs cells slots ls hl hP hS hn1 hn2 hn3
      · cases hj
    · cases hj
  · -- ifnull
    obtain rfl : len = 3 := Nat.eq_of_beq_eq_true hlen
    split at hj
    · rename_i i r
      cases hj
      rw [List.map_cons, jval_ref]
      exact lv_ifnull hx hb hd (k H locs cells slots ls hl hP hS hn1 hn2 hn3)
    · obtain ⟨tg, ht, rfl⟩ := jto_spec hj
      exact lv_ifnullN hx hb hd ht (k H locs cells slots ls hl hP hS hn1 hn2 hn3)
    · cases hj
  · -- tableswitch
    rename_i dflt lo hi offs
    split at hj
    · rename_i x r
      cases hcb : (decide (x.toInt < lo) || decide (hi < x.toInt)) with
      | true =>
        rw [hcb] at hj
        obtain ⟨tg, ht, rfl⟩ := jto_spec hj
        rw [Bool.or_eq_true] at hcb
        exact lv_tableOut hx hb hd (hcb.imp of_decide_eq_true of_decide_eq_true) ht (k H locs cells slots ls hl hP hS hn1 hn2 hn3)
      | false =>
        rw [hcb] at hj
        rw [Bool.or_eq_false_iff] at hcb
        simp only [cond_false] at hj
        split at hj
        · rename_i off ho
          obtain ⟨tg, ht, rfl⟩ := jto_spec hj
          exact lv_tableIn hx hb hd (of_decide_eq_false hcb.1) (of_decide_eq_false hcb.2) ho ht (k H locs cells slots ls hl hP hS hn1 hn2 hn3)
        · cases hj
    · cases hj
  · -- lookupswitch
    split at hj
    · rename_i x r
      obtain ⟨h1, h2⟩ := jbif_s hj
      obtain ⟨tg, ht, rfl⟩ := jto_spec h2
      exact lv_lookup hx hb hd h1 rfl ht (k H locs cells slots ls hl hP hS hn1 hn2 hn3)
    · cases hj
  · -- else
    cases hj
end JS3
