theorem jset_self {E : List JE} {o : Nat} {en : JE} (h : E[o]? = some en) : E.set o en = E := by
  apply List.ext_getElem?
  intro k
  by_cases hk : o = k
  · subst hk
    rw [List.getElem?_set_self (List.getElem?_eq_some_iff.mp h).1, h]
  · rw [List.getElem?_set_ne hk]
theorem jup_ne {M : JM} {o k : Nat} {v : Int32} (o' : Nat) (h : o' ≠ o) : jup M o k v o' = M o' := by
  funext k'
  unfold jup
  cases hb : Nat.beq o' o with
  | false => rfl
  | true => exact absurd (Nat.eq_of_beq_eq_true hb) h
theorem jup_eq {M : JM} {o k : Nat} {v : Int32} (k' : Nat) : jup M o k v o k' = if k' = k then v else M o k' := by
  unfold jup
  rw [Nat.beq_refl]
  cases hb : Nat.beq k' k with
  | false =>
    rw [if_neg (fun h => by rw [h, Nat.beq_refl] at hb; cases hb)]; rfl
  | true => rw [if_pos (Nat.eq_of_beq_eq_true hb)]; rfl
theorem jzr_ne {M : JM} {o : Nat} (o' : Nat) (h : o' ≠ o) : jzr M o o' = M o' := by
  funext k'
  unfold jzr
  cases hb : Nat.beq o' o with
  | false => rfl
  | true => exact absurd (Nat.eq_of_beq_eq_true hb) h
theorem jzr_eq {M : JM} {o : Nat} : jzr M o o = fun _ => 0 := by
  funext k'
  unfold jzr
  rw [Nat.beq_refl]; rfl
theorem jent_put {av : Nat → Nat} {v0 : Value} {cI cZ cL : ClassId} {en : JE} {M : JM} {o ci fk : Nat} {v : Int32} (hek : en.1 = ci) (hci : ci ≤ 7) (hr : jRf ci fk = false) :
    jent av v0 cI cZ cL en (jup M o fk v o) = .inr (ci, ((List.range (jNF ci)).map (fun k => jval av v0 (bif jRf ci k then va_rf (en.2.2.getD k none) else .int (M o k)))).set fk (.int v)) := by
  rw [jent_o hek hci]
  congr 2
  apply List.ext_getElem?
  intro j
  by_cases hj : j = fk
  · subst hj
    by_cases hl : j < jNF ci
    · rw [List.getElem?_set_self (by simpa using hl)]
      simp [hl, hr, jup_eq, jval]
    · rw [List.getElem?_eq_none (by simpa using hl), List.getElem?_eq_none (by simpa using hl)]
  · rw [List.getElem?_set_ne (fun q => hj q.symm)]
    by_cases hl : j < jNF ci
    · simp [jup_eq, hj, hl]
    · rw [List.getElem?_eq_none (by simpa using hl), List.getElem?_eq_none (by simpa using hl)]
theorem jent_putr {av : Nat → Nat} {v0 : Value} {cI cZ cL : ClassId} {en : JE} {M : JM} {o ci fk v : Nat} (hek : en.1 = ci) (hci : ci ≤ 7) (hr : jRf ci fk = true) (hl0 : fk < en.2.2.length) :
    jent av v0 cI cZ cL (en.1, en.2.1, en.2.2.set fk (some v)) (M o) = .inr (ci, ((List.range (jNF ci)).map (fun k => jval av v0 (bif jRf ci k then va_rf (en.2.2.getD k none) else .int (M o k)))).set fk (.ref (av v))) := by
  rw [jent_o (e := (en.1, en.2.1, en.2.2.set fk (some v))) hek hci]
  congr 2
  apply List.ext_getElem?
  intro j
  by_cases hj : j = fk
  · subst hj
    by_cases hl : j < jNF ci
    · rw [List.getElem?_set_self (by simpa using hl)]
      simp only [List.getElem?_map, List.getElem?_range hl, Option.map_some, hr, cond_true, List.getD_eq_getElem?_getD, List.getElem?_set_self hl0, Option.getD_some]
      rw [jval_rf (r := some v)]; rfl
    · rw [List.getElem?_eq_none (by simpa using hl), List.getElem?_eq_none (by simpa using hl)]
  · rw [List.getElem?_set_ne (fun q => hj q.symm)]
    by_cases hl : j < jNF ci
    · simp only [List.getElem?_map, List.getElem?_range hl, Option.map_some, List.getD_eq_getElem?_getD]
      rw [List.getElem?_set_ne (fun q => hj q.symm)]
    · rw [List.getElem?_eq_none (by simpa using hl), List.getElem?_eq_none (by simpa using hl)]
theorem jSF_spec {oc idx k : Nat} (h : jSF oc idx = some k) : oc = 10 ∧ ((k = 0 ∧ idx = 9) ∨ (k = 1 ∧ idx = 15)) := by
  unfold jSF at h
  obtain ⟨h1, h2⟩ := jbif_s h
  refine ⟨Nat.eq_of_beq_eq_true h1, ?_⟩
  cases hb : Nat.beq idx 9 with
  | true => rw [hb] at h2; cases h2; exact Or.inl ⟨rfl, Nat.eq_of_beq_eq_true hb⟩
  | false =>
    rw [hb] at h2
    simp only [cond_false] at h2
    obtain ⟨h3, h4⟩ := jbif_s h2
    cases h4
    exact Or.inr ⟨rfl, Nat.eq_of_beq_eq_true h3⟩
theorem jS_spec {oc idx k : Nat} (h : jS oc idx = some k) : (oc = 6 ∧ idx = 144 ∧ k = 0) ∨ (oc = 6 ∧ idx = 155 ∧ k = 1) ∨ (oc = 10 ∧ idx = 38 ∧ k = 2) ∨ (oc = 10 ∧ idx = 1053 ∧ k = 3) := by
  unfold jS at h
  cases h6 : Nat.beq oc 6 with
  | true =>
    have e6 := Nat.eq_of_beq_eq_true h6
    rw [h6] at h
    simp only [cond_true] at h
    cases hb : Nat.beq idx 144 with
    | true => rw [hb] at h; cases h; exact Or.inl ⟨e6, Nat.eq_of_beq_eq_true hb, rfl⟩
    | false =>
      rw [hb] at h
      obtain ⟨h3, h4⟩ := jbif_s h
      cases h4
      exact Or.inr (Or.inl ⟨e6, Nat.eq_of_beq_eq_true h3, rfl⟩)
  | false =>
    rw [h6] at h
    simp only [cond_false] at h
    obtain ⟨h1, h2⟩ := jbif_s h
    have e10 := Nat.eq_of_beq_eq_true h1
    cases hb : Nat.beq idx 38 with
    | true => rw [hb] at h2; cases h2; exact Or.inr (Or.inr (Or.inl ⟨e10, Nat.eq_of_beq_eq_true hb, rfl⟩))
    | false =>
      rw [hb] at h2
      obtain ⟨h3, h4⟩ := jbif_s h2
      cases h4
      exact Or.inr (Or.inr (Or.inr ⟨e10, Nat.eq_of_beq_eq_true h3, rfl⟩))
theorem jisS_spec {o : Nat} (h : jisS o = true) : ∃ i, i < 13 ∧ o = 1000010 + i := by
  unfold jisS at h
  rw [Bool.and_eq_true] at h
  have h1 := Nat.le_of_ble_eq_true h.1
  have h2 := Nat.le_of_ble_eq_true h.2
  exact ⟨o - 1000010, by omega, by omega⟩
theorem jro_spec {xs : Option (List Int32)} {a : Nat} {l : List Int32} (h : jro xs a = some l) : ∃ k, k < 3 ∧ a = 1000000 + k := by
  unfold jro at h
  cases h0 : Nat.beq a 1000000 with
  | true => exact ⟨0, by decide, by have := Nat.eq_of_beq_eq_true h0; omega⟩
  | false =>
    rw [h0] at h
    simp only [cond_false] at h
    cases h1 : Nat.beq a 1000001 with
    | true => exact ⟨1, by decide, by have := Nat.eq_of_beq_eq_true h1; omega⟩
    | false =>
      rw [h1] at h
      simp only [cond_false] at h
      obtain ⟨h2, -⟩ := jbif_s h
      exact ⟨2, by decide, by have := Nat.eq_of_beq_eq_true h2; omega⟩
theorem jrb_spec {a : Nat} {l : List Int32} (h : jrb a = some l) : ∃ i, i < 13 ∧ a = 1000040 + i ∧ l = jStr.getD i [] := by
  unfold jrb at h
  obtain ⟨h1, h2⟩ := jbif_s h
  rw [Bool.and_eq_true] at h1
  have h3 := Nat.le_of_ble_eq_true h1.1
  have h4 := Nat.le_of_ble_eq_true h1.2
  exact ⟨a - 1000040, by omega, by omega, (Option.some.inj h2).symm⟩
theorem jSlen_ok : ∀ i, i < 13 → jSlen.getD i 0 = (jStr.getD i []).length := by decide +kernel
theorem jlr_at {E : List JE} {o : Nat} {en : JE} (h : E[o]? = some en) : jlr E o = en.2.2.length := by unfold jlr; rw [h]
theorem jsetp_at {E : List JE} {o k : Nat} {v : Option Nat} {en : JE} (h : E[o]? = some en) : jsetp E o k v = E.set o (en.1, en.2.1, en.2.2.set k v) := by unfold jsetp; rw [h]
theorem jsz_set {E : List JE} {o : Nat} {en e2 : JE} (h : E[o]? = some en) (h2 : e2.2.1 = en.2.1) : jsz (E.set o e2) = jsz E := by
  unfold jsz
  congr 1
  apply List.ext_getElem?
  intro k
  by_cases hk : o = k
  · subst hk
    rw [List.getElem?_map, List.getElem?_map, List.getElem?_set_self (List.getElem?_eq_some_iff.mp h).1, h]
    simp [h2]
  · rw [List.getElem?_map, List.getElem?_map, List.getElem?_set_ne hk]
theorem jsz_push {E : List JE} {e2 : JE} : jsz (E ++ [e2]) = jsz E + e2.2.1 := by simp [jsz]
section JS40
variable {p : Program} {l : Launch} {e : Env} {R : Room} {s : State} {m : MethodId} {args : Array Value} {below : List Frame} {meth : Method} {c0 : Code} {Q : State → Prop}
variable {z0 : Nat} {av : Nat → Nat} {v0 : Value} {DD : va_G} {cI cZ cL : ClassId} {xs : Option (List Int32)} {mi n0 s0 : Nat}
/-- the new cell's address -/
theorem jW_new {H1 : Heap} {locs : List Loc} {cells slots q0 : Nat} {x : va_E} {g : JFrame} {E : List JE} {M : JM} (hP : va_P DD vwCl (jwd av v0 cI cZ cL E M ++ [(q0, x)]) H1) (hD : va_D (jA0 z0) (jwd av v0 cI cZ cL E M ++ [(q0, x)])) (hc : cells + n0 = E.length + 1) (hs : s.heap.size = z0 + n0) (hf : jFix z0 av v0) (hE : E.length ≤ 1000000)
    (h : q0 = z0 + E.length → W p l e R s m args below meth c0 H1 locs cells slots Q g) : W p l e R s m args below meth c0 H1 locs cells slots Q g := by
  intro T hT X
  refine h ?_ T hT X
  have h1 := X.heapSize
  rw [hT, hs] at h1
  have hlast : (jwd av v0 cI cZ cL E M ++ [(q0, x)])[E.length]? = some (q0, x) := by
    rw [List.getElem?_append_right (by rw [jwd_len]; exact Nat.le_refl _), jwd_len, Nat.sub_self]; rfl
  have h2 : q0 < H1.size := (hP _ _ hlast).lt
  have h3 : z0 ≤ q0 := hD.2 _ _ hlast
  rcases Nat.lt_or_ge q0 (z0 + E.length) with q | q
  · have h4 : q0 - z0 < E.length := by omega
    have h5 : (jwd av v0 cI cZ cL E M ++ [(q0, x)])[q0 - z0]? = some (av (q0 - z0), jent av v0 cI cZ cL (E.getD (q0 - z0) (0, 0, [])) (M (q0 - z0))) := by
      rw [List.getElem?_append_left (by rw [jwd_len]; exact h4), jwd_get h4]
    have h6 := hD.1 (q0 - z0) E.length _ _ h5 hlast (by rw [hf.1 _ (by omega)]; show z0 + (q0 - z0) = q0; omega)
    omega
  · omega
end JS40
section JS4
variable {p : Program} {l : Launch} {e : Env} {R : Room} {s : State} {m : MethodId} {args : Array Value} {below : List Frame} {meth : Method} {c0 : Code} {Q : State → Prop}
variable {z0 : Nat} {av : Nat → Nat} {v0 : Value} {DD : va_G} {cI cZ cL : ClassId} {xs : Option (List Int32)} {mi n0 s0 : Nat}
set_option maxHeartbeats 4000000 in
set_option maxRecDepth 100000 in
theorem jsH_ok {ins : Instr} {len : Nat} {c c' : JC} (hc : jCx p s m args meth c0 z0 av v0 DD cI cZ cL xs mi n0) (hj : jsH xs ins mi c = some c') (hd : decode (jB mi) c.1 = .ok (ins, len)) (hlen : jlo ins len = true) (hB : c'.2.2.2.1.length ≤ R.cells + n0 ∧ jsz c'.2.2.2.1 ≤ R.slots + s0)
    (kk : jWX p l e R s m args below meth c0 Q z0 av v0 DD cI cZ cL mi n0 s0 c') : jWX p l e R s m args below meth c0 Q z0 av v0 DD cI cZ cL mi n0 s0 c := by
  obtain ⟨hx, hb, hml, hown, hts, hnm, hK, hRo, hVm, hfix, hsz⟩ := hc
  intro H locs cells slots ls hl hP hS hn1 hn2 hn3
  obtain ⟨pc, lv, st, E, M⟩ := c
  dsimp only at hj hd hl hP hn1 hn2 hn3 ⊢
  have hg := jval_cat (av := av) (v0 := v0) hfix.2
  have hA : ∀ q : Nat, s.heap.size ≤ q → jA0 z0 q := fun q h => by show z0 ≤ q; omega
  unfold jsH at hj
  dsimp only at hj
  split at hj
  · -- getfield
    obtain rfl : len = 3 := Nat.eq_of_beq_eq_true hlen
    split at hj
    · rename_i ob r
      split at hj
      · rename_i ci fk w hF
        obtain ⟨h1, h2⟩ := jbif_s hj
        cases h2
        have hf := jF_ok hF
        simp only [jF_P, Bool.and_eq_true] at hf
        obtain ⟨⟨hf1, hf2⟩, hf3⟩ := hf
        have hci : ci < 8 := Nat.lt_succ_of_le (Nat.le_of_ble_eq_true hf3)
        have hk2 : fk < jNF ci := Nat.le_of_ble_eq_true hf2
        obtain ⟨en, he, hek⟩ := jok_get h1
        have hw := jwd_at (av := av) (v0 := v0) (cI := cI) (cZ := cZ) (cL := cL) (M := M) he
        rw [jent_o hek (by omega)] at hw
        have q := kk H locs cells slots ls hl hP hS hn1 hn2 hn3
        dsimp only at q
        simp only [List.map_cons] at q ⊢
        rw [jval_ref]
        refine va_get (D := DD) (cl := vwCl) (own := jcn (jOC mi)) (ref := jcn ci) (C := jcn ci) (T := jT ci) (N := jNF ci) (ci := ci) hx hb hts (jL_ok hci) hown hK hP ob hw (jcl_ok hci) fk hk2 (hts _ (jAt_in hf1)) (fun x hx2 => by rw [(jtyp_ok hci hk2).2.2] at hx2; exact hx2) (v := jval av v0 (jfv E M ob ci fk)) ?_ hd q
        unfold jfv
        rw [jptr_at he]
        simp [hk2]
      · split at hj
        · rename_i hF hSF
          obtain ⟨h1, h2⟩ := jbif_s hj
          cases h2
          obtain ⟨i, hi, rfl⟩ := jisS_spec h1
          obtain ⟨hoc, hq⟩ := jSF_spec hSF
          obtain ⟨-, rfl⟩ : 0 = 0 ∧ _ = 9 := hq.elim id (fun z => absurd z.1 (by decide))
          have q := kk H locs cells slots ls hl hP hS hn1 hn2 hn3
          dsimp only at q
          simp only [List.map_cons] at q ⊢
          rw [jval_ref]
          rw [show 1000010 + i + 30 = 1000000 + (40 + i) by omega, jval_ref, show 1000000 + (40 + i) = 1000040 + i by omega] at q
          exact va_getX (o := "java/lang/String") (n := "value") (d := "[B") (ref := "java/lang/String") (N := 13) (v := fun i => .ref (av (1000040 + i))) (ad := fun i => av (1000010 + i)) (i := i) hx hb (fun j hj => (hRo.2.2.2.2.2.1 j hj).2.2.1) hi hS hown (by rw [hoc]; exact hts _ jwS_10_9) (fun x h => h) hd q
        · rename_i hF kq hne hSF
          obtain ⟨h1, h2⟩ := jbif_s hj
          cases h2
          obtain ⟨i, hi, rfl⟩ := jisS_spec h1
          obtain ⟨hoc, hq⟩ := jSF_spec hSF
          obtain ⟨-, rfl⟩ : _ = 1 ∧ _ = 15 := hq.elim (fun z => absurd z.1 (fun z2 => hne z2)) id
          have q := kk H locs cells slots ls hl hP hS hn1 hn2 hn3
          dsimp only at q
          simp only [List.map_cons] at q ⊢
          rw [jval_ref]
          exact va_getX (o := "java/lang/String") (n := "coder") (d := "B") (ref := "java/lang/String") (N := 13) (v := fun _ => .int 0) (ad := fun i => av (1000010 + i)) (i := i) hx hb (fun j hj => (hRo.2.2.2.2.2.1 j hj).2.1) hi hS hown (by rw [hoc]; exact hts _ jwS_10_15) (fun x h => h) hd q
        · cases hj
    · cases hj
  · -- putfield
    obtain rfl : len = 3 := Nat.eq_of_beq_eq_true hlen
    split at hj
    · rename_i v ob r
      split at hj
      · rename_i ci fk w hF
        obtain ⟨h1, h2⟩ := jbif_s hj
        simp only [Bool.and_eq_true, Bool.not_eq_true'] at h1
        obtain ⟨⟨h1, hr0⟩, hf0⟩ := h1
        cases h2
        have hf := jF_ok hF
        simp only [jF_P, Bool.and_eq_true] at hf
        obtain ⟨⟨hf1, hf2⟩, hf3⟩ := hf
        have hci : ci < 8 := Nat.lt_succ_of_le (Nat.le_of_ble_eq_true hf3)
        have hk2 : fk < jNF ci := Nat.le_of_ble_eq_true hf2
        obtain ⟨en, he, hek⟩ := jok_get h1
        have hw := jwd_at (av := av) (v0 := v0) (cI := cI) (cZ := cZ) (cL := cL) (M := M) he
        rw [jent_o hek (by omega)] at hw
        have hsl := jset_self he
        simp only [List.map_cons]
        rw [jval_ref]
        refine va_put (D := DD) (cl := vwCl) (own := jcn (jOC mi)) (ref := jcn ci) (C := jcn ci) (T := jT ci) (N := jNF ci) (ci := ci) hx hb hts (jL_ok hci) (jTy ci) (jty_ok hci) (jnm_ok hci) hown hK hP (jwd_D hfix hn3) hS ob hw (jcl_ok hci) fk hk2 (hts _ (jAt_in hf1)) (fun x hx2 => by rw [(jtyp_ok hci hk2).2.2] at hx2; exact hx2) hf0 (ty := .int) (v := .int v) (by rw [jty_ok hci fk hk2, (jtyp_ok hci hk2).1 hr0]) rfl rfl (by simpa using hk2) hd (fun H1 locs1 hP1 hD1 hS1 => ?_)
        have e1 := jwd_set (av := av) (v0 := v0) (cI := cI) (cZ := cZ) (cL := cL) (M := M) (e' := en) (M' := jup M ob fk v) (List.getElem?_eq_some_iff.mp he).1 (fun o' ho => jup_ne o' ho)
        rw [hsl, jent_put hek (by omega) hr0] at e1
        rw [e1] at hP1
        exact kk H1 locs1 cells slots ls hl hP1 hS1 hn1 hn2 hn3
      · cases hj
    · rename_i v ob r
      split at hj
      · rename_i ci fk w hF
        obtain ⟨h1, h2⟩ := jbif_s hj
        simp only [Bool.and_eq_true] at h1
        obtain ⟨⟨⟨⟨⟨h1, hr0⟩, hf0⟩, hini⟩, hcm⟩, hlr⟩ := h1
        cases h2
        have hf := jF_ok hF
        simp only [jF_P, Bool.and_eq_true] at hf
        obtain ⟨⟨hf1, hf2⟩, hf3⟩ := hf
        have hci : ci < 8 := Nat.lt_succ_of_le (Nat.le_of_ble_eq_true hf3)
        have hk2 : fk < jNF ci := Nat.le_of_ble_eq_true hf2
        obtain ⟨en, he, hek⟩ := jok_get h1
        have hw := jwd_at (av := av) (v0 := v0) (cI := cI) (cZ := cZ) (cL := cL) (M := M) he
        rw [jent_o hek (by omega)] at hw
        rw [jlr_at he] at hlr
        have hcm2 : ci = jOC mi := Nat.eq_of_beq_eq_true hcm
        have hni : meth.name = "<init>" := hnm hini
        simp only [List.map_cons]
        rw [jval_ref, jval_ref]
        refine va_putF (D := DD) (cl := vwCl) (own := jcn (jOC mi)) (ref := jcn ci) (C := jcn ci) (T := jT ci) (N := jNF ci) (ci := ci) hx hb hts (jL_ok hci) (jTy ci) (jty_ok hci) (jnm_ok hci) hown hK hP (jwd_D hfix hn3) hS ob hw (jcl_ok hci) fk hk2 (hts _ (jAt_in hf1)) (fun x hx2 => by rw [(jtyp_ok hci hk2).2.2] at hx2; exact hx2) hf0 hni (by rw [(jtyp_ok hci hk2).2.2, hcm2]) (ty := jTy ci fk) (v := .ref (av v)) (jty_ok hci fk hk2) (by rcases (jtyp_ok hci hk2).2.1 hr0 with ⟨n, hq⟩ | ⟨t, hq⟩ <;> rw [hq] <;> rfl) (by rcases (jtyp_ok hci hk2).2.1 hr0 with ⟨n, hq⟩ | ⟨t, hq⟩ <;> rw [hq] <;> rfl) (by simpa using hk2) hd (fun H1 locs1 hP1 hD1 hS1 => ?_)
        have e1 := jwd_set (av := av) (v0 := v0) (cI := cI) (cZ := cZ) (cL := cL) (M := M) (e' := (en.1, en.2.1, en.2.2.set fk (some v))) (M' := M) (List.getElem?_eq_some_iff.mp he).1 (fun o' ho => rfl)
        rw [jent_putr hek (by omega) hr0 (Nat.le_of_ble_eq_true hlr)] at e1
        rw [e1] at hP1
        rw [jsetp_at he] at kk
        exact kk H1 locs1 cells slots ls hl hP1 hS1 (by dsimp only; rw [List.length_set]; exact hn1) (by dsimp only; rw [jsz_set (e2 := (en.1, en.2.1, en.2.2.set fk (some v))) he rfl]; exact hn2) (by dsimp only; rw [List.length_set]; exact hn3)
      · cases hj
    · cases hj
  · -- getstatic
    obtain rfl : len = 3 := Nat.eq_of_beq_eq_true hlen
    split at hj
    · rename_i k0 hk
      cases hj
      rcases jS_spec hk with ⟨hoc, hidx, hk0⟩ | ⟨hoc, hidx, hk0⟩ | ⟨hoc, hidx, hk0⟩ | ⟨hoc, hidx, hk0⟩
      · subst hk0; subst hidx
        have q := kk H locs cells slots ls hl hP hS hn1 hn2 hn3
        dsimp only [jSv] at q
        simp only [List.map_cons] at q
        exact va_gets (C := "CometKin") (n := "OVER_PEOPLE") (d := "[I") (own := jcn (jOC mi)) (ref := "CometKin") (v := .ref (av 1000001)) hx hb hRo.2.1 hS hown (by rw [hoc]; exact hts _ jwS_6_144) (fun x h => h) hd q
      · subst hk0; subst hidx
        have q := kk H locs cells slots ls hl hP hS hn1 hn2 hn3
        dsimp only [jSv] at q
        simp only [List.map_cons] at q
        exact va_gets (C := "CometKin") (n := "OVER_COMETS") (d := "[I") (own := jcn (jOC mi)) (ref := "CometKin") (v := .ref (av 1000002)) hx hb hRo.2.2.1 hS hown (by rw [hoc]; exact hts _ jwS_6_155) (fun x h => h) hd q
      · subst hk0; subst hidx
        have q := kk H locs cells slots ls hl hP hS hn1 hn2 hn3
        dsimp only [jSv] at q
        simp only [List.map_cons] at q
        exact va_gets (C := "java/lang/String") (n := "COMPACT_STRINGS") (d := "Z") (own := jcn (jOC mi)) (ref := "java/lang/String") (v := .int 1) hx hb hRo.2.2.2.1 hS hown (by rw [hoc]; exact hts _ jwS_10_38) (fun x h => h) hd q
      · subst hk0; subst hidx
        have q := kk H locs cells slots ls hl hP hS hn1 hn2 hn3
        dsimp only [jSv] at q
        simp only [List.map_cons] at q
        exact va_gets (C := "jdk/internal/util/Preconditions") (n := "SIOOBE_FORMATTER") (d := "Ljava/util/function/BiFunction;") (own := jcn (jOC mi)) (ref := "jdk/internal/util/Preconditions") (v := v0) hx hb hRo.2.2.2.2.1 hS hown (by rw [hoc]; exact hts _ jwS_10_1053) (fun x h => h) hd q
    · cases hj
  · -- iaload
    obtain rfl : len = 1 := Nat.eq_of_beq_eq_true hlen
    split at hj
    · rename_i i ar r
      cases hok : jok E ar 8 with
      | true =>
        rw [hok] at hj
        obtain ⟨hin, h2⟩ := jbif_s hj
        cases h2
        have hen := jok_get hok
        obtain ⟨en, he, hek⟩ := hen
        have hw := jwd_at (av := av) (v0 := v0) (cI := cI) (cZ := cZ) (cL := cL) (M := M) he
        rw [jent_i hek] at hw
        rw [jlen_at he] at hin
        have q := kk H locs cells slots ls hl hP hS hn1 hn2 hn3
        dsimp only at q
        simp only [List.map_cons] at q ⊢
        rw [jval_ref]
        exact va_iald hx hb hK hP ar 0 hw rfl (jin_vp hin) hd q
      | false =>
        rw [hok] at hj
        simp only [cond_false] at hj
        split at hj
        · rename_i lr hlr
          obtain ⟨hin, h2⟩ := jbif_s hj
          cases h2
          obtain ⟨k0, hk0, rfl⟩ := jro_spec hlr
          have q := kk H locs cells slots ls hl hP hS hn1 hn2 hn3
          dsimp only at q
          simp only [List.map_cons] at q ⊢
          rw [jval_ref]
          exact va_ti hx hb (hRo.1 k0 lr hlr) hS (jin_vp hin) rfl hd q
        · cases hj
    · cases hj
  · -- iastore
    obtain rfl : len = 1 := Nat.eq_of_beq_eq_true hlen
    split at hj
    · rename_i v i ar r
      obtain ⟨h1, h2⟩ := jbif_s hj
      rw [Bool.and_eq_true] at h1
      obtain ⟨hok, hin⟩ := h1
      cases h2
      have hen := jok_get hok
      obtain ⟨en, he, hek⟩ := hen
      have hw := jwd_at (av := av) (v0 := v0) (cI := cI) (cZ := cZ) (cL := cL) (M := M) he
      rw [jent_i hek] at hw
      rw [jlen_at he] at hin
      have hsl := jset_self he
      simp only [List.map_cons]
      rw [jval_ref]
      refine va_iast hx hb hK hP (jwd_D hfix hn3) hS ar 0 hw rfl (jin_vp hin) hd (fun H1 locs1 hP1 hD1 hS1 => ?_)
      have e1 := jwd_set (av := av) (v0 := v0) (cI := cI) (cZ := cZ) (cL := cL) (M := M) (e' := en) (M' := jup M ar i.toNatClampNeg v) (List.getElem?_eq_some_iff.mp he).1 (fun o' ho => jup_ne o' ho)
      rw [hsl, jent_i hek, show jup M ar i.toNatClampNeg v ar = upd (M ar) i.toNatClampNeg v from funext fun j => by rw [jup_eq]; rfl] at e1
      rw [e1] at hP1
      exact kk H1 locs1 cells slots ls hl hP1 hS1 hn1 hn2 hn3
    · cases hj
  · -- baload
    obtain rfl : len = 1 := Nat.eq_of_beq_eq_true hlen
    split at hj
    · rename_i i ar r
      cases hok : jok E ar 9 with
      | true =>
        rw [hok] at hj
        obtain ⟨hin, h2⟩ := jbif_s hj
        cases h2
        have hen := jok_get hok
        obtain ⟨en, he, hek⟩ := hen
        have hw := jwd_at (av := av) (v0 := v0) (cI := cI) (cZ := cZ) (cL := cL) (M := M) he
        rw [jent_z hek] at hw
        rw [jlen_at he] at hin
        have q := kk H locs cells slots ls hl hP hS hn1 hn2 hn3
        dsimp only at q
        simp only [List.map_cons] at q ⊢
        rw [jval_ref]
        exact va_zald hx hb hK hP ar 1 hw rfl (jin_vp hin) hd q
      | false =>
        rw [hok] at hj
        simp only [cond_false] at hj
        split at hj
        · rename_i lr hlr
          obtain ⟨hin, h2⟩ := jbif_s hj
          cases h2
          obtain ⟨k0, hk0, rfl, rfl⟩ := jrb_spec hlr
          have q := kk H locs cells slots ls hl hP hS hn1 hn2 hn3
          have hT := (hRo.2.2.2.2.2.1 k0 hk0).2.2.2
          rw [jSlen_ok k0 hk0] at hT
          dsimp only at q
          simp only [List.map_cons] at q ⊢
          rw [jval_ref]
          exact va_tb hx hb hT hS (jin_vp hin) rfl hd q
        · cases hj
    · cases hj
  · -- bastore
    obtain rfl : len = 1 := Nat.eq_of_beq_eq_true hlen
    split at hj
    · rename_i v i ar r
      obtain ⟨h1, h2⟩ := jbif_s hj
      rw [Bool.and_eq_true] at h1
      obtain ⟨hok, hin⟩ := h1
      cases h2
      have hen := jok_get hok
      obtain ⟨en, he, hek⟩ := hen
      have hw := jwd_at (av := av) (v0 := v0) (cI := cI) (cZ := cZ) (cL := cL) (M := M) he
      rw [jent_z hek] at hw
      rw [jlen_at he] at hin
      have hsl := jset_self he
      simp only [List.map_cons]
      rw [jval_ref]
      refine va_zast hx hb hK hP (jwd_D hfix hn3) hS ar 1 hw rfl (jin_vp hin) hd (fun H1 locs1 hP1 hD1 hS1 => ?_)
      have e1 := jwd_set (av := av) (v0 := v0) (cI := cI) (cZ := cZ) (cL := cL) (M := M) (e' := en) (M' := jup M ar i.toNatClampNeg (v &&& 1)) (List.getElem?_eq_some_iff.mp he).1 (fun o' ho => jup_ne o' ho)
      rw [hsl, jent_z hek, show jup M ar i.toNatClampNeg (v &&& 1) ar = upd (M ar) i.toNatClampNeg (v &&& 1) from funext fun j => by rw [jup_eq]; rfl] at e1
      rw [show vp_nar .boolean v = v &&& 1 from rfl] at hP1
      rw [e1] at hP1
      exact kk H1 locs1 cells slots ls hl hP1 hS1 hn1 hn2 hn3
    · cases hj
  · -- aaload
    obtain rfl : len = 1 := Nat.eq_of_beq_eq_true hlen
    split at hj
    · rename_i i ar r
      obtain ⟨h1, h2⟩ := jbif_s hj
      rw [Bool.and_eq_true] at h1
      obtain ⟨hok, hin⟩ := h1
      cases h2
      have hen := jok_get hok
      obtain ⟨en, he, hek⟩ := hen
      have hw := jwd_at (av := av) (v0 := v0) (cI := cI) (cZ := cZ) (cL := cL) (M := M) he
      rw [jent_l hek] at hw
      rw [jlen_at he] at hin
      have q := kk H locs cells slots ls hl hP hS hn1 hn2 hn3
      dsimp only at q
      simp only [List.map_cons] at q ⊢
      rw [jval_rf, jptr_at he] at q
      rw [jval_ref]
      exact va_aldq hx hb hK hP ar 2 hw rfl (jin_vp hin) hd q
    · cases hj
  · -- aastore
    obtain rfl : len = 1 := Nat.eq_of_beq_eq_true hlen
    split at hj
    · rename_i v i ar r
      obtain ⟨h1, h2⟩ := jbif_s hj
      simp only [Bool.and_eq_true] at h1
      obtain ⟨⟨⟨hok, hin⟩, hov⟩, hlr⟩ := h1
      cases h2
      have hen := jok_get hok
      obtain ⟨en, he, hek⟩ := hen
      have hw := jwd_at (av := av) (v0 := v0) (cI := cI) (cZ := cZ) (cL := cL) (M := M) he
      rw [jent_l hek] at hw
      rw [jlen_at he] at hin
      obtain ⟨ev, hev, hevk⟩ := jok_get hov
      have hwv := jwd_at (av := av) (v0 := v0) (cI := cI) (cZ := cZ) (cL := cL) (M := M) hev
      rw [jent_o hevk (by omega)] at hwv
      rw [jlr_at he] at hlr
      have hlr2 := Nat.le_of_ble_eq_true hlr
      simp only [List.map_cons]
      rw [jval_ref, jval_ref]
      refine va_astq hx hb hK hP (jwd_D hfix hn3) hS ar 2 v 2 (r := (RX2, TX2, 10)) hw rfl hwv rfl (jin_vp hin) hd (fun H1 locs1 hP1 hD1 hS1 => ?_)
      have e1 := jwd_set (av := av) (v0 := v0) (cI := cI) (cZ := cZ) (cL := cL) (M := M) (e' := (en.1, en.2.1, en.2.2.set i.toNatClampNeg (some v))) (M' := M) (List.getElem?_eq_some_iff.mp he).1 (fun o' ho => rfl)
      rw [jent_l (e := (en.1, en.2.1, en.2.2.set i.toNatClampNeg (some v))) hek, show (fun j => ((en.2.2.set i.toNatClampNeg (some v)).getD j none).map av) = va_up (fun j => (en.2.2.getD j none).map av) i.toNatClampNeg (some (av v)) from funext fun j => by
        unfold va_up
        by_cases hj2 : j = i.toNatClampNeg
        · subst hj2
          rw [if_pos rfl, List.getD_eq_getElem?_getD, List.getElem?_set_self hlr2]; rfl
        · rw [if_neg hj2]
          simp only [List.getD_eq_getElem?_getD]
          rw [List.getElem?_set_ne (fun z => hj2 z.symm)]] at e1
      rw [e1] at hP1
      rw [jsetp_at he] at kk
      exact kk H1 locs1 cells slots ls hl hP1 hS1 (by dsimp only; rw [List.length_set]; exact hn1) (by dsimp only; rw [jsz_set (e2 := (en.1, en.2.1, en.2.2.set i.toNatClampNeg (some v))) he rfl]; exact hn2) (by dsimp only; rw [List.length_set]; exact hn3)
    · cases hj
  · -- arraylength
    obtain rfl : len = 1 := Nat.eq_of_beq_eq_true hlen
    split at hj
    · rename_i ar r
      cases hok3 : (jok E ar 8 || jok E ar 9 || jok E ar 10) with
      | true =>
        rw [hok3] at hj
        cases hj
        have q := kk H locs cells slots ls hl hP hS hn1 hn2 hn3
        dsimp only at q
        simp only [List.map_cons] at q ⊢
        simp only [Bool.or_eq_true] at hok3
        rcases hok3 with (hok | hok) | hok
        · obtain ⟨en, he, hek⟩ := jok_get hok
          have hw := jwd_at (av := av) (v0 := v0) (cI := cI) (cZ := cZ) (cL := cL) (M := M) he
          rw [jent_i hek] at hw
          rw [jlen_at he] at q
          rw [jval_ref]
          exact va_alen hx hb hK hP ar 0 hw rfl rfl hd q
        · obtain ⟨en, he, hek⟩ := jok_get hok
          have hw := jwd_at (av := av) (v0 := v0) (cI := cI) (cZ := cZ) (cL := cL) (M := M) he
          rw [jent_z hek] at hw
          rw [jlen_at he] at q
          rw [jval_ref]
          exact va_alen hx hb hK hP ar 1 hw rfl rfl hd q
        · obtain ⟨en, he, hek⟩ := jok_get hok
          have hw := jwd_at (av := av) (v0 := v0) (cI := cI) (cZ := cZ) (cL := cL) (M := M) he
          rw [jent_l hek] at hw
          rw [jlen_at he] at q
          rw [jval_ref]
          exact va_alen hx hb hK hP ar 2 hw rfl rfl hd q
      | false =>
        rw [hok3] at hj
        simp only [cond_false] at hj
        split at hj
        · rename_i lr hlr
          cases hj
          obtain ⟨k0, hk0, rfl⟩ := jro_spec hlr
          have q := kk H locs cells slots ls hl hP hS hn1 hn2 hn3
          dsimp only at q
          simp only [List.map_cons] at q ⊢
          rw [jval_ref]
          exact va_tlen hx hb (hRo.1 k0 lr hlr) hS rfl hd q
        · split at hj
          · rename_i lr hlr
            cases hj
            obtain ⟨k0, hk0, rfl, rfl⟩ := jrb_spec hlr
            have q := kk H locs cells slots ls hl hP hS hn1 hn2 hn3
            have hT := (hRo.2.2.2.2.2.1 k0 hk0).2.2.2
            rw [jSlen_ok k0 hk0] at hT
            dsimp only at q
            simp only [List.map_cons] at q ⊢
            rw [jval_ref]
            exact va_tlen hx hb hT hS rfl hd q
          · cases hj
    · cases hj
  · -- new
    obtain rfl : len = 3 := Nat.eq_of_beq_eq_true hlen
    split at hj
    · rename_i ci w hN
      obtain ⟨h1, h2⟩ := jbif_s hj
      have hlt := Nat.le_of_ble_eq_true h1
      cases h2
      have hf := jNw_ok hN
      simp only [jNw_P, Bool.and_eq_true] at hf
      have hci : ci < 8 := Nat.lt_succ_of_le (Nat.le_of_ble_eq_true hf.2)
      have hB1 := hB.1
      have hB2 := hB.2
      dsimp only at hB1 hB2
      rw [List.length_append, List.length_singleton] at hB1
      rw [jsz_push] at hB2
      dsimp only at hB2
      have he2 : jent av v0 cI cZ cL (ci, jNF ci, List.replicate (jNF ci) none) (jzr M E.length E.length) = .inr (ci, (List.range (jNF ci)).map (fun k => jval av v0 (bif jRf ci k then va_rf ((List.replicate (jNF ci) none).getD k none) else .int (jzr M E.length E.length k)))) := jent_o (e := (ci, jNF ci, List.replicate (jNF ci) none)) rfl (by omega)
      refine va_new (own := jcn (jOC mi)) (C := jcn ci) (T := jT ci) (N := jNF ci) (ci := ci) hx hb hts (jL_ok hci) (jTy ci) (jty_ok hci) hown (hts _ (jAt_in hf.1)) (hts _ (jX_ok hci)) (hts _ (jI_ok (by omega))) hK hP (jwd_D hfix hn3) hS hA (jcl_ok hci) (fs := (List.range (jNF ci)).map (fun k => jval av v0 (bif jRf ci k then va_rf ((List.replicate (jNF ci) none).getD k none) else .int (jzr M E.length E.length k)))) (fun j hj2 => ?_) (by omega) (by omega) hd (fun q0 H1 hP1 hD1 hS1 => ?_)
      · have e9 : vp_V ((List.range (jNF ci)).map (fun k => jval av v0 (bif jRf ci k then va_rf ((List.replicate (jNF ci) none).getD k none) else .int (jzr M E.length E.length k)))) j = jval av v0 (bif jRf ci j then va_rf ((List.replicate (jNF ci) none).getD j none) else .int (jzr M E.length E.length j)) := by
          unfold vp_V
          simp [List.getD_eq_getElem?_getD, hj2]
        rw [e9, jzr_eq]
        cases hr : jRf ci j with
        | true =>
          have e8 : (List.replicate (jNF ci) (none : Option Nat)).getD j none = none := by simp [List.getD_eq_getElem?_getD, List.getElem?_replicate, hj2]
          rw [e8]
          rcases (jtyp_ok hci hj2).2.1 hr with ⟨n, hq⟩ | ⟨t, hq⟩ <;> rw [hq] <;> rfl
        | false => rw [(jtyp_ok hci hj2).1 hr]; rfl
      · refine jW_new hP1 hD1 (n0 := n0) (E := E) (M := M) (by omega) hsz hfix hn3 (fun hq => ?_)
        have hq2 : q0 = av E.length := hq.trans (hfix.1 _ (by omega)).symm
        subst hq2
        rw [← he2, jwd_push (e' := (ci, jNF ci, List.replicate (jNF ci) none)) (M' := jzr M E.length) (fun o' ho => jzr_ne o' (by omega))] at hP1
        have q := kk H1 locs (cells + 1) (slots + jNF ci) ls hl hP1 hS1 (by dsimp only; rw [List.length_append, List.length_singleton]; omega) (by dsimp only; rw [jsz_push]; dsimp only; omega) (by dsimp only; rw [List.length_append, List.length_singleton]; exact hlt)
        dsimp only at q
        simp only [List.map_cons] at q
        rw [jval_ref] at q
        exact q
    · cases hj
  · -- newarray
    obtain rfl : len = 2 := Nat.eq_of_beq_eq_true hlen
    rename_i t
    split at hj
    · rename_i i r
      obtain ⟨h1, h2⟩ := jbif_s hj
      simp only [Bool.and_eq_true, Bool.or_eq_true] at h1
      obtain ⟨⟨⟨hty, hlo⟩, hhi⟩, hlt⟩ := h1
      have hlo := of_decide_eq_true hlo
      have hhi := of_decide_eq_true hhi
      have hlt := Nat.le_of_ble_eq_true hlt
      cases h2
      have hB1 := hB.1
      have hB2 := hB.2
      dsimp only at hB1 hB2
      rw [List.length_append, List.length_singleton] at hB1
      rw [jsz_push] at hB2
      dsimp only at hB2
      rcases hty with hty | hty
      · have hty : t = .int := by cases t <;> first | rfl | exact absurd hty (by decide)
        subst hty
        refine va_newa (atype := .int) (ty := .int) (a0 := (i.toNatClampNeg, .inl (fun _ => 0))) hx hb (hts _ jw_aI) rfl hK hP (jwd_D hfix hn3) hS hA (fun cA => rfl) (fun z => ?_) rfl (Nat.le_trans (Nat.mul_le_mul hhi (by decide : componentBytes .int ≤ 4)) (by decide)) (by omega) (by omega) hd (fun q0 cA H1 hK1 hP1 hD1 hS1 => ?_)
        · have e1 := Int32.lt_iff_toInt_lt.mp z
          have e2 := Int32.le_iff_toInt_le.mp hlo
          have e3 : (0 : Int32).toInt = 0 := rfl
          omega
        · have hcA : cA = cI := by
            have h8 := (hK1.2 3 (cA, .int) rfl).2
            have h9 := (hK.2 0 (cI, .int) rfl).2
            exact Option.some.inj (Eq.trans (Eq.symm h8) h9)
          rw [hcA] at hP1 hD1
          refine jW_new hP1 hD1 (n0 := n0) (E := E) (M := M) (by omega) hsz hfix hn3 (fun hq => ?_)
          have hq2 : q0 = av E.length := hq.trans (hfix.1 _ (by omega)).symm
          subst hq2
          have he2 : jent av v0 cI cZ cL (8, i.toNatClampNeg, []) (jzr M E.length E.length) = .inl (cI, i.toNatClampNeg, .inl (fun _ => 0)) := by rw [jent_i (e := (8, i.toNatClampNeg, [])) rfl, jzr_eq]
          rw [← he2, jwd_push (e' := (8, i.toNatClampNeg, [])) (M' := jzr M E.length) (fun o' ho => jzr_ne o' (by omega))] at hP1
          have q := kk H1 locs (cells + 1) (slots + i.toNatClampNeg) ls hl hP1 hS1 (by dsimp only; rw [List.length_append, List.length_singleton]; omega) (by dsimp only; rw [jsz_push]; dsimp only; omega) (by dsimp only; rw [List.length_append, List.length_singleton]; exact hlt)
          dsimp only at q
          simp only [List.map_cons] at q
          rw [jval_ref] at q
          exact q
      · have hty : t = .boolean := by cases t <;> first | rfl | exact absurd hty (by decide)
        subst hty
        refine va_newa (atype := .boolean) (ty := .boolean) (a0 := (i.toNatClampNeg, .inl (fun _ => 0))) hx hb (hts _ jw_aZ) rfl hK hP (jwd_D hfix hn3) hS hA (fun cA => rfl) (fun z => ?_) rfl (Nat.le_trans (Nat.mul_le_mul hhi (by decide : componentBytes .boolean ≤ 4)) (by decide)) (by omega) (by omega) hd (fun q0 cA H1 hK1 hP1 hD1 hS1 => ?_)
        · have e1 := Int32.lt_iff_toInt_lt.mp z
          have e2 := Int32.le_iff_toInt_le.mp hlo
          have e3 : (0 : Int32).toInt = 0 := rfl
          omega
        · have hcA : cA = cZ := by
            have h8 := (hK1.2 3 (cA, .boolean) rfl).2
            have h9 := (hK.2 1 (cZ, .boolean) rfl).2
            exact Option.some.inj (Eq.trans (Eq.symm h8) h9)
          rw [hcA] at hP1 hD1
          refine jW_new hP1 hD1 (n0 := n0) (E := E) (M := M) (by omega) hsz hfix hn3 (fun hq => ?_)
          have hq2 : q0 = av E.length := hq.trans (hfix.1 _ (by omega)).symm
          subst hq2
          have he2 : jent av v0 cI cZ cL (9, i.toNatClampNeg, []) (jzr M E.length E.length) = .inl (cZ, i.toNatClampNeg, .inl (fun _ => 0)) := by rw [jent_z (e := (9, i.toNatClampNeg, [])) rfl, jzr_eq]
          rw [← he2, jwd_push (e' := (9, i.toNatClampNeg, [])) (M' := jzr M E.length) (fun o' ho => jzr_ne o' (by omega))] at hP1
          have q := kk H1 locs (cells + 1) (slots + i.toNatClampNeg) ls hl hP1 hS1 (by dsimp only; rw [List.length_append, List.length_singleton]; omega) (by dsimp only; rw [jsz_push]; dsimp only; omega) (by dsimp only; rw [List.length_append, List.length_singleton]; exact hlt)
          dsimp only at q
          simp only [List.map_cons] at q
          rw [jval_ref] at q
          exact q
    · cases hj
  · -- anewarray
    obtain rfl : len = 3 := Nat.eq_of_beq_eq_true hlen
    split at hj
    · rename_i i r
      obtain ⟨h1, h2⟩ := jbif_s hj
      simp only [Bool.and_eq_true] at h1
      obtain ⟨⟨⟨⟨hoc, hidx⟩, hlo⟩, hhi⟩, hlt⟩ := h1
      have hoc := Nat.eq_of_beq_eq_true hoc
      have hidx := Nat.eq_of_beq_eq_true hidx
      have hlo := of_decide_eq_true hlo
      have hhi := of_decide_eq_true hhi
      have hlt := Nat.le_of_ble_eq_true hlt
      cases h2
      subst hidx
      have hB1 := hB.1
      have hB2 := hB.2
      dsimp only at hB1 hB2
      rw [List.length_append, List.length_singleton] at hB1
      rw [jsz_push] at hB2
      dsimp only at hB2
      refine va_newq (C := "CometKin$Life") (N' := i.toNatClampNeg) hx hb hown (by rw [hoc]; exact hts _ jw_aL) hVm.2.2 hK hP (jwd_D hfix hn3) hS hA (fun z => ?_) rfl (by omega) (by omega) (by omega) hd (fun q0 cA H1 hK1 hP1 hD1 hS1 => ?_)
      · have e1 := Int32.lt_iff_toInt_lt.mp z
        have e2 := Int32.le_iff_toInt_le.mp hlo
        have e3 : (0 : Int32).toInt = 0 := rfl
        omega
      · have hcA : cA = cL := by
          obtain ⟨_, _, _, _, _, h8⟩ := (hK1.2 3 (cA, .object "CometKin$Life") rfl).2
          obtain ⟨_, _, _, _, _, h9⟩ := (hK.2 2 (cL, .object "CometKin$Life") rfl).2
          exact Option.some.inj (Eq.trans (Eq.symm h8) h9)
        subst hcA
        refine jW_new hP1 hD1 (n0 := n0) (E := E) (M := M) (by omega) hsz hfix hn3 (fun hq => ?_)
        have hq2 : q0 = av E.length := hq.trans (hfix.1 _ (by omega)).symm
        subst hq2
        have he2 : jent av v0 cI cZ cA (10, i.toNatClampNeg, List.replicate i.toNatClampNeg none) (jzr M E.length E.length) = .inl (cA, i.toNatClampNeg, .inr (.inr (.inr (.inr (fun _ => none))))) := by
          rw [jent_l (e := (10, i.toNatClampNeg, List.replicate i.toNatClampNeg none)) rfl]
          simp [List.getD_eq_getElem?_getD, List.getElem?_replicate]
          funext j
          by_cases h9 : j < i.toNatClampNeg <;> simp [h9]
        rw [← he2, jwd_push (e' := (10, i.toNatClampNeg, List.replicate i.toNatClampNeg none)) (M' := jzr M E.length) (fun o' ho => jzr_ne o' (by omega))] at hP1
        have q := kk H1 locs (cells + 1) (slots + i.toNatClampNeg) ls hl hP1 hS1 (by dsimp only; rw [List.length_append, List.length_singleton]; omega) (by dsimp only; rw [jsz_push]; dsimp only; omega) (by dsimp only; rw [List.length_append, List.length_singleton]; exact hlt)
        dsimp only at q
        simp only [List.map_cons] at q
        rw [jval_ref] at q
        exact q
    · cases hj
  · -- else
    cases hj
end JS4
