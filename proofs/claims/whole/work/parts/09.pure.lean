/-! THE PLAIN MACHINE'S STEPS ARE THE MACHINE'S -/
def jsz (E : List JE) : Nat := (E.map (fun e => e.2.1)).sum
section JS
variable (p : Program) (l : Launch) (e : Env) (R : Room) (s : State) (m : MethodId) (args : Array Value) (below : List Frame) (meth : Method) (c0 : Code) (Q : State → Prop)
variable (z0 : Nat) (av : Nat → Nat) (v0 : Value) (DD : va_G) (cI cZ cL : ClassId) (xs : Option (List Int32)) (mi n0 s0 : Nat)
def jCx : Prop :=
  p.tables.exec = Jvm.exec ∧ c0.code = jB mi ∧ c0.maxLocals = jML mi ∧ s.vm.findClass (jcn (jOC mi)) = some m.cls ∧ (∀ w ∈ jTb, w.before args s = true) ∧ (jIni mi = true → meth.name = "<init>") ∧ va_K DD vwCl (jtys cI cZ cL) s ∧ jRo z0 av v0 xs s s.heap ∧ jVm av s ∧ jFix z0 av v0 ∧ s.heap.size = z0 + n0
def jWA (c : JC) : Prop := ∀ (H : Heap) (locs : List Loc) (cells slots : Nat) (ls : Array Slot),
  lv_has ls (jML mi) (c.2.1.map (fun q => (q.1, jval av v0 q.2))) → va_P DD vwCl (jwd av v0 cI cZ cL c.2.2.2.1 c.2.2.2.2) H → va_S (jA0 z0) s.heap H locs → cells + n0 = c.2.2.2.1.length → slots + s0 = jsz c.2.2.2.1 → c.2.2.2.1.length ≤ 1000000 →
  W p l e R s m args below meth c0 H locs cells slots Q (F0 m c.1 ls (c.2.2.1.map (jval av v0)))
end JS
theorem jn_spec {len : Nat} {c c' : JC} {o : Option (List Value)} (h : jn len c o = some c') : ∃ st', o = some st' ∧ c' = (c.1 + len, c.2.1, st', c.2.2.2) := by
  unfold jn at h
  split at h
  · cases h
  · cases h; exact ⟨_, rfl, rfl⟩
theorem jb2_spec {f : Int32 → Int32 → Int32} {st st' : List Value} (h : jb2 f st = some st') : ∃ x y r, st = .int y :: .int x :: r ∧ st' = .int (f x y) :: r := by
  unfold jb2 at h
  split at h
  · cases h; exact ⟨_, _, _, rfl, rfl⟩
  · cases h
theorem jl2_spec {f : Int64 → Int64 → Int64} {st st' : List Value} (h : jl2 f st = some st') : ∃ x y r, st = .long y :: .long x :: r ∧ st' = .long (f x y) :: r := by
  unfold jl2 at h
  split at h
  · cases h; exact ⟨_, _, _, rfl, rfl⟩
  · cases h
theorem jbif_n {α : Type} {b : Bool} {x : Option α} {y : α} (h : (bif b then none else x) = some y) : b = false ∧ x = some y := by
  cases b
  · exact ⟨rfl, h⟩
  · cases h
theorem jbif_s {α : Type} {b : Bool} {x : Option α} {y : α} (h : (bif b then x else none) = some y) : b = true ∧ x = some y := by
  cases b
  · cases h
  · exact ⟨rfl, h⟩
theorem jb2d_spec {f : Int32 → Int32 → Int32} {st st' : List Value} (h : jb2d f st = some st') : ∃ x y r, st = .int y :: .int x :: r ∧ ¬ y = 0 ∧ st' = .int (f x y) :: r := by
  unfold jb2d at h
  split at h
  · obtain ⟨h1, h2⟩ := jbif_n h
    cases h2; exact ⟨_, _, _, rfl, of_decide_eq_false h1, rfl⟩
  · cases h
theorem jl2d_spec {f : Int64 → Int64 → Int64} {st st' : List Value} (h : jl2d f st = some st') : ∃ x y r, st = .long y :: .long x :: r ∧ ¬ y = 0 ∧ st' = .long (f x y) :: r := by
  unfold jl2d at h
  split at h
  · obtain ⟨h1, h2⟩ := jbif_n h
    cases h2; exact ⟨_, _, _, rfl, of_decide_eq_false h1, rfl⟩
  · cases h
theorem jld_spec {c c' : JC} {i len : Nat} {ok : Value → Bool} (h : jld c i len ok = some c') : ∃ v, (i, v) ∈ c.2.1 ∧ ok v = true ∧ c' = (c.1 + len, c.2.1, v :: c.2.2.1, c.2.2.2) := by
  unfold jld at h
  split at h
  · rename_i v hv
    obtain ⟨h1, h2⟩ := jbif_s h
    cases h2; exact ⟨v, jget_mem hv, h1, rfl⟩
  · cases h
theorem jst_spec {mi : Nat} {c c' : JC} {i len : Nat} {ok : Value → Bool} (h : jst mi c i len ok = some c') : ∃ v r, c.2.2.1 = v :: r ∧ ok v = true ∧ i < jML mi ∧ c' = (c.1 + len, jset c.2.1 i v, r, c.2.2.2) := by
  unfold jst at h
  split at h
  · rename_i v r hv
    obtain ⟨h1, h2⟩ := jbif_s h
    rw [Bool.and_eq_true] at h1
    cases h2; exact ⟨v, r, hv, h1.1, Nat.le_of_ble_eq_true h1.2, rfl⟩
  · cases h
theorem jst2_spec {mi : Nat} {c c' : JC} {i len : Nat} (h : jst2 mi c i len = some c') : ∃ v r, c.2.2.1 = v :: r ∧ jisL v = true ∧ i + 1 < jML mi ∧ c' = (c.1 + len, jset2 c.2.1 i v, r, c.2.2.2) := by
  unfold jst2 at h
  split at h
  · rename_i v r hv
    obtain ⟨h1, h2⟩ := jbif_s h
    rw [Bool.and_eq_true] at h1
    cases h2; exact ⟨v, r, hv, h1.1, Nat.le_of_ble_eq_true h1.2, rfl⟩
  · cases h
theorem jinc_spec {mi : Nat} {c c' : JC} {i : Nat} {n : Int} (h : jinc mi c i n = some c') : ∃ x, (i, Value.int x) ∈ c.2.1 ∧ i < jML mi ∧ c' = (c.1 + 3, jset c.2.1 i (.int (x + Int32.ofInt n)), c.2.2.1, c.2.2.2) := by
  unfold jinc at h
  split at h
  · rename_i x hv
    obtain ⟨h1, h2⟩ := jbif_s h
    cases h2; exact ⟨x, jget_mem hv, Nat.le_of_ble_eq_true h1, rfl⟩
  · cases h
theorem jto_spec {c c' : JC} {off : Int} {st : List Value} (h : jto c off st = some c') : ∃ t : Nat, (c.1 : Int) + off = (t : Int) ∧ c' = (t, c.2.1, st, c.2.2.2) := by
  unfold jto at h
  split at h
  · rename_i t ht
    cases h; exact ⟨t, ht, rfl⟩
  · cases h
theorem jisI_spec {v : Value} (h : jisI v = true) : ∃ x, v = .int x := by
  cases v <;> first | exact ⟨_, rfl⟩ | cases h
theorem jisL_spec {v : Value} (h : jisL v = true) : ∃ x, v = .long x := by
  cases v <;> first | exact ⟨_, rfl⟩ | cases h
theorem jisR_spec {v : Value} (h : jisR v = true) : ∃ i, v = .ref i := by
  cases v <;> first | exact ⟨_, rfl⟩ | cases h
section JS2
variable {p : Program} {l : Launch} {e : Env} {R : Room} {s : State} {m : MethodId} {args : Array Value} {below : List Frame} {meth : Method} {c0 : Code} {Q : State → Prop}
variable {z0 : Nat} {av : Nat → Nat} {v0 : Value} {DD : va_G} {cI cZ cL : ClassId} {xs : Option (List Int32)} {mi n0 s0 : Nat}
abbrev jWX (p : Program) (l : Launch) (e : Env) (R : Room) (s : State) (m : MethodId) (args : Array Value) (below : List Frame) (meth : Method) (c0 : Code) (Q : State → Prop) (z0 : Nat) (av : Nat → Nat) (v0 : Value) (DD : va_G) (cI cZ cL : ClassId) (mi n0 s0 : Nat) (c : JC) : Prop := jWA p l e R s m args below meth c0 Q z0 av v0 DD cI cZ cL mi n0 s0 c
set_option maxHeartbeats 4000000 in
set_option maxRecDepth 100000 in
theorem jsA_ok {ins : Instr} {len : Nat} {c c' : JC} (hc : jCx p s m args meth c0 z0 av v0 DD cI cZ cL xs mi n0) (hj : jsA ins mi c = some c') (hd : decode (jB mi) c.1 = .ok (ins, len)) (hlen : jlo ins len = true)
    (k : jWX p l e R s m args below meth c0 Q z0 av v0 DD cI cZ cL mi n0 s0 c') : jWX p l e R s m args below meth c0 Q z0 av v0 DD cI cZ cL mi n0 s0 c := by
  obtain ⟨hx, hb, hml, hown, hts, hnm, hK, hRo, hVm, hfix, hsz⟩ := hc
  intro H locs cells slots ls hl hP hS hn1 hn2 hn3
  obtain ⟨pc, lv, st, E, M⟩ := c
  dsimp only at hj hd hl hP hn1 hn2 hn3 ⊢
  have hg := jval_cat (av := av) (v0 := v0) hfix.2
  unfold jsA at hj
  dsimp only at hj
  split at hj
  · -- iconst
    obtain rfl : len = 1 := Nat.eq_of_beq_eq_true hlen
    cases hj
    exact lv_iconst hx hb hd rfl (k H locs cells slots ls hl hP hS hn1 hn2 hn3)
  · -- bipush
    obtain rfl : len = 2 := Nat.eq_of_beq_eq_true hlen
    cases hj
    exact lv_bipush hx hb hd rfl (k H locs cells slots ls hl hP hS hn1 hn2 hn3)
  · -- sipush
    obtain rfl : len = 3 := Nat.eq_of_beq_eq_true hlen
    cases hj
    exact lv_sipush hx hb hd rfl (k H locs cells slots ls hl hP hS hn1 hn2 hn3)
  · -- lconst
    obtain rfl : len = 1 := Nat.eq_of_beq_eq_true hlen
    cases hj
    exact lv_lconst hx hb hd rfl (k H locs cells slots ls hl hP hS hn1 hn2 hn3)
  · -- aconst_null
    obtain rfl : len = 1 := Nat.eq_of_beq_eq_true hlen
    cases hj
    exact lv_null hx hb hd (k H locs cells slots ls hl hP hS hn1 hn2 hn3)
  · -- ldc
    obtain rfl : len = 2 := Nat.eq_of_beq_eq_true hlen
    split at hj
    · rename_i v w hv
      cases hj
      exact lv_ldc hx hb hown (hts _ (jAt_in (jKI_ok hv))) hd (k H locs cells slots ls hl hP hS hn1 hn2 hn3)
    · split at hj
      · rename_i i hi
        cases hj
        have q := jKS_ok hi
        have q2 := k H locs cells slots ls hl hP hS hn1 hn2 hn3
        dsimp only at q2
        rw [List.map_cons, jval_ref] at q2
        refine va_ldcS (tx := jStx.getD i "") hx hb hown ?_ hd q2
        have q3 := hVm.1 i q.1
        rw [q.2.1]
        rw [q.2.2] at q3
        exact q3
      · cases hj
  · -- ldc_w
    obtain rfl : len = 3 := Nat.eq_of_beq_eq_true hlen
    split at hj
    · rename_i v w hv
      cases hj
      exact lv_ldcw hx hb hown (hts _ (jAt_in (jKI_ok hv))) hd (k H locs cells slots ls hl hP hS hn1 hn2 hn3)
    · cases hj
  · -- ldc2_w
    obtain rfl : len = 3 := Nat.eq_of_beq_eq_true hlen
    split at hj
    · rename_i v w hv
      cases hj
      exact lv_ldc2 hx hb hown (hts _ (jAt_in (jKL_ok hv))) hd (k H locs cells slots ls hl hP hS hn1 hn2 hn3)
    · cases hj
  · -- iload_n
    obtain rfl : len = 1 := Nat.eq_of_beq_eq_true hlen
    obtain ⟨v, hm, hv, rfl⟩ := jld_spec hj
    obtain ⟨x, rfl⟩ := jisI_spec hv
    exact lv_iload_n hx hb hd rfl (hl.2.2 (_, .int x) (List.mem_map.mpr ⟨_, hm, rfl⟩)) (k H locs cells slots ls hl hP hS hn1 hn2 hn3)
  · -- iload
    obtain rfl : len = 2 := Nat.eq_of_beq_eq_true hlen
    obtain ⟨v, hm, hv, rfl⟩ := jld_spec hj
    obtain ⟨x, rfl⟩ := jisI_spec hv
    exact lv_iload hx hb hd (hl.2.2 (_, .int x) (List.mem_map.mpr ⟨_, hm, rfl⟩)) (k H locs cells slots ls hl hP hS hn1 hn2 hn3)
  · -- lload_n
    obtain rfl : len = 1 := Nat.eq_of_beq_eq_true hlen
    obtain ⟨v, hm, hv, rfl⟩ := jld_spec hj
    obtain ⟨x, rfl⟩ := jisL_spec hv
    exact lv_lload_n hx hb hd rfl (hl.2.2 (_, .long x) (List.mem_map.mpr ⟨_, hm, rfl⟩)) (k H locs cells slots ls hl hP hS hn1 hn2 hn3)
  · -- lload
    obtain rfl : len = 2 := Nat.eq_of_beq_eq_true hlen
    obtain ⟨v, hm, hv, rfl⟩ := jld_spec hj
    obtain ⟨x, rfl⟩ := jisL_spec hv
    exact lv_lload hx hb hd (hl.2.2 (_, .long x) (List.mem_map.mpr ⟨_, hm, rfl⟩)) (k H locs cells slots ls hl hP hS hn1 hn2 hn3)
  · -- aload_n
    obtain rfl : len = 1 := Nat.eq_of_beq_eq_true hlen
    obtain ⟨v, hm, hv, rfl⟩ := jld_spec hj
    obtain ⟨x, rfl⟩ := jisR_spec hv
    have q := k H locs cells slots ls hl hP hS hn1 hn2 hn3
    dsimp only at q
    have q1 := hl.2.2 _ (List.mem_map.mpr ⟨_, hm, rfl⟩)
    dsimp only at q1
    rw [jval_ref] at q1
    rw [List.map_cons, jval_ref] at q
    exact lv_aload_n hx hb hd rfl q1 q
  · -- aload
    obtain rfl : len = 2 := Nat.eq_of_beq_eq_true hlen
    obtain ⟨v, hm, hv, rfl⟩ := jld_spec hj
    obtain ⟨x, rfl⟩ := jisR_spec hv
    have q := k H locs cells slots ls hl hP hS hn1 hn2 hn3
    dsimp only at q
    have q1 := hl.2.2 _ (List.mem_map.mpr ⟨_, hm, rfl⟩)
    dsimp only at q1
    rw [jval_ref] at q1
    rw [List.map_cons, jval_ref] at q
    exact lv_aload hx hb hd q1 q
  · -- istore_n
    obtain rfl : len = 1 := Nat.eq_of_beq_eq_true hlen
    obtain ⟨v, r, rfl, hv, hi, rfl⟩ := jst_spec hj
    obtain ⟨x, rfl⟩ := jisI_spec hv
    exact lv_istore_n hx hb hd rfl hl hi (jset_map hg lv _ (.int _)).symm (fun ls2 hl2 => k H locs cells slots ls2 hl2 hP hS hn1 hn2 hn3)
  · -- istore
    obtain rfl : len = 2 := Nat.eq_of_beq_eq_true hlen
    obtain ⟨v, r, rfl, hv, hi, rfl⟩ := jst_spec hj
    obtain ⟨x, rfl⟩ := jisI_spec hv
    exact lv_istore hx hb hd hl hi (jset_map hg lv _ (.int _)).symm (fun ls2 hl2 => k H locs cells slots ls2 hl2 hP hS hn1 hn2 hn3)
  · -- lstore_n
    obtain rfl : len = 1 := Nat.eq_of_beq_eq_true hlen
    obtain ⟨v, r, rfl, hv, hi, rfl⟩ := jst2_spec hj
    obtain ⟨x, rfl⟩ := jisL_spec hv
    exact lv_lstore_n hx hb hd rfl hl hi (jset2_map hg lv _ (.long _)).symm (fun ls2 hl2 => k H locs cells slots ls2 hl2 hP hS hn1 hn2 hn3)
  · -- lstore
    obtain rfl : len = 2 := Nat.eq_of_beq_eq_true hlen
    obtain ⟨v, r, rfl, hv, hi, rfl⟩ := jst2_spec hj
    obtain ⟨x, rfl⟩ := jisL_spec hv
    exact lv_lstore hx hb hd hl hi (jset2_map hg lv _ (.long _)).symm (fun ls2 hl2 => k H locs cells slots ls2 hl2 hP hS hn1 hn2 hn3)
  · -- astore_n
    obtain rfl : len = 1 := Nat.eq_of_beq_eq_true hlen
    obtain ⟨v, r, rfl, hv, hi, rfl⟩ := jst_spec hj
    obtain ⟨x, rfl⟩ := jisR_spec hv
    rw [List.map_cons, jval_ref]
    refine lv_astore_n hx hb hd rfl hl hi (lv' := (jset lv _ (.ref x)).map (fun q => (q.1, jval av v0 q.2))) ?_ (fun ls2 hl2 => k H locs cells slots ls2 hl2 hP hS hn1 hn2 hn3)
    rw [jset_map hg, jval_ref]
  · -- astore
    obtain rfl : len = 2 := Nat.eq_of_beq_eq_true hlen
    obtain ⟨v, r, rfl, hv, hi, rfl⟩ := jst_spec hj
    obtain ⟨x, rfl⟩ := jisR_spec hv
    rw [List.map_cons, jval_ref]
    refine lv_astore hx hb hd hl hi (lv' := (jset lv _ (.ref x)).map (fun q => (q.1, jval av v0 q.2))) ?_ (fun ls2 hl2 => k H locs cells slots ls2 hl2 hP hS hn1 hn2 hn3)
    rw [jset_map hg, jval_ref]
  · -- iinc
    obtain rfl : len = 3 := Nat.eq_of_beq_eq_true hlen
    obtain ⟨x, hm, hi, rfl⟩ := jinc_spec hj
    obtain ⟨j, hj2⟩ := List.getElem?_of_mem (List.mem_map.mpr ⟨_, hm, rfl⟩ : ((_, jval av v0 (.int x)) : Nat × Value) ∈ lv.map (fun q => (q.1, jval av v0 q.2)))
    exact lv_iinc hx hb hd hl hj2 rfl hi (jset_map hg lv _ (.int _)).symm (fun ls2 hl2 => k H locs cells slots ls2 hl2 hP hS hn1 hn2 hn3)
  · -- iadd
    obtain rfl : len = 1 := Nat.eq_of_beq_eq_true hlen
    obtain ⟨st2, h1, rfl⟩ := jn_spec hj
    obtain ⟨x, y, r, rfl, rfl⟩ := jb2_spec h1
    exact lv_iadd hx hb hd (k H locs cells slots ls hl hP hS hn1 hn2 hn3)
  · -- isub
    obtain rfl : len = 1 := Nat.eq_of_beq_eq_true hlen
    obtain ⟨st2, h1, rfl⟩ := jn_spec hj
    obtain ⟨x, y, r, rfl, rfl⟩ := jb2_spec h1
    exact lv_isub hx hb hd (k H locs cells slots ls hl hP hS hn1 hn2 hn3)
  · -- imul
    obtain rfl : len = 1 := Nat.eq_of_beq_eq_true hlen
    obtain ⟨st2, h1, rfl⟩ := jn_spec hj
    obtain ⟨x, y, r, rfl, rfl⟩ := jb2_spec h1
    exact lv_imul hx hb hd (k H locs cells slots ls hl hP hS hn1 hn2 hn3)
  · -- iand
    obtain rfl : len = 1 := Nat.eq_of_beq_eq_true hlen
    obtain ⟨st2, h1, rfl⟩ := jn_spec hj
    obtain ⟨x, y, r, rfl, rfl⟩ := jb2_spec h1
    exact lv_iand hx hb hd (k H locs cells slots ls hl hP hS hn1 hn2 hn3)
  · -- ior
    obtain rfl : len = 1 := Nat.eq_of_beq_eq_true hlen
    obtain ⟨st2, h1, rfl⟩ := jn_spec hj
    obtain ⟨x, y, r, rfl, rfl⟩ := jb2_spec h1
    exact lv_ior hx hb hd (k H locs cells slots ls hl hP hS hn1 hn2 hn3)
  · -- ixor
    obtain rfl : len = 1 := Nat.eq_of_beq_eq_true hlen
    obtain ⟨st2, h1, rfl⟩ := jn_spec hj
    obtain ⟨x, y, r, rfl, rfl⟩ := jb2_spec h1
    exact lv_ixor hx hb hd (k H locs cells slots ls hl hP hS hn1 hn2 hn3)
  · -- ishl
    obtain rfl : len = 1 := Nat.eq_of_beq_eq_true hlen
    obtain ⟨st2, h1, rfl⟩ := jn_spec hj
    obtain ⟨x, y, r, rfl, rfl⟩ := jb2_spec h1
    exact lv_ishl hx hb hd (k H locs cells slots ls hl hP hS hn1 hn2 hn3)
  · -- ishr
    obtain rfl : len = 1 := Nat.eq_of_beq_eq_true hlen
    obtain ⟨st2, h1, rfl⟩ := jn_spec hj
    obtain ⟨x, y, r, rfl, rfl⟩ := jb2_spec h1
    exact lv_ishr hx hb hd (k H locs cells slots ls hl hP hS hn1 hn2 hn3)
  · -- iushr
    obtain rfl : len = 1 := Nat.eq_of_beq_eq_true hlen
    obtain ⟨st2, h1, rfl⟩ := jn_spec hj
    obtain ⟨x, y, r, rfl, rfl⟩ := jb2_spec h1
    exact lv_iushr hx hb hd rfl (k H locs cells slots ls hl hP hS hn1 hn2 hn3)
  · -- idiv
    obtain rfl : len = 1 := Nat.eq_of_beq_eq_true hlen
    obtain ⟨st2, h1, rfl⟩ := jn_spec hj
    obtain ⟨x, y, r, rfl, hne, rfl⟩ := jb2d_spec h1
    exact lv_idiv hx hb hd hne (k H locs cells slots ls hl hP hS hn1 hn2 hn3)
  · -- irem
    obtain rfl : len = 1 := Nat.eq_of_beq_eq_true hlen
    obtain ⟨st2, h1, rfl⟩ := jn_spec hj
    obtain ⟨x, y, r, rfl, hne, rfl⟩ := jb2d_spec h1
    exact lv_irem hx hb hd hne (k H locs cells slots ls hl hP hS hn1 hn2 hn3)
  · -- ineg
    obtain rfl : len = 1 := Nat.eq_of_beq_eq_true hlen
    split at hj
    · cases hj
      exact lv_ineg hx hb hd (k H locs cells slots ls hl hP hS hn1 hn2 hn3)
    · cases hj
  · -- i2l
    obtain rfl : len = 1 := Nat.eq_of_beq_eq_true hlen
    split at hj
    · cases hj
      exact lv_i2l hx hb hd rfl (k H locs cells slots ls hl hP hS hn1 hn2 hn3)
    · cases hj
  · -- i2c
    obtain rfl : len = 1 := Nat.eq_of_beq_eq_true hlen
    split at hj
    · cases hj
      exact lv_i2c hx hb hd rfl (k H locs cells slots ls hl hP hS hn1 hn2 hn3)
    · cases hj
  · -- ladd
    obtain rfl : len = 1 := Nat.eq_of_beq_eq_true hlen
    obtain ⟨st2, h1, rfl⟩ := jn_spec hj
    obtain ⟨x, y, r, rfl, rfl⟩ := jl2_spec h1
    exact lv_ladd hx hb hd (k H locs cells slots ls hl hP hS hn1 hn2 hn3)
  · -- lmul
    obtain rfl : len = 1 := Nat.eq_of_beq_eq_true hlen
    obtain ⟨st2, h1, rfl⟩ := jn_spec hj
    obtain ⟨x, y, r, rfl, rfl⟩ := jl2_spec h1
    exact lv_lmul hx hb hd (k H locs cells slots ls hl hP hS hn1 hn2 hn3)
  · -- ldiv
    obtain rfl : len = 1 := Nat.eq_of_beq_eq_true hlen
    obtain ⟨st2, h1, rfl⟩ := jn_spec hj
    obtain ⟨x, y, r, rfl, hne, rfl⟩ := jl2d_spec h1
    exact lv_ldiv hx hb hd hne (k H locs cells slots ls hl hP hS hn1 hn2 hn3)
  · -- lrem
    obtain rfl : len = 1 := Nat.eq_of_beq_eq_true hlen
    obtain ⟨st2, h1, rfl⟩ := jn_spec hj
    obtain ⟨x, y, r, rfl, hne, rfl⟩ := jl2d_spec h1
    exact lv_lrem hx hb hd hne (k H locs cells slots ls hl hP hS hn1 hn2 hn3)
  · -- lcmp
    obtain rfl : len = 1 := Nat.eq_of_beq_eq_true hlen
    split at hj
    · cases hj
      exact W.lcmp hx hb hd (k H locs cells slots ls hl hP hS hn1 hn2 hn3)
    · cases hj
  · -- dup
    obtain rfl : len = 1 := Nat.eq_of_beq_eq_true hlen
    split at hj
    · obtain ⟨h1, h2⟩ := jbif_s hj
      cases h2
      exact lv_dup hx hb hd ((hg _).trans (Nat.eq_of_beq_eq_true h1)) (k H locs cells slots ls hl hP hS hn1 hn2 hn3)
    · cases hj
  · -- dup2
    obtain rfl : len = 1 := Nat.eq_of_beq_eq_true hlen
    split at hj
    · obtain ⟨h1, h2⟩ := jbif_s hj
      rw [Bool.and_eq_true] at h1
      cases h2
      exact lv_dup2_11 hx hb hd ((hg _).trans (Nat.eq_of_beq_eq_true h1.1)) ((hg _).trans (Nat.eq_of_beq_eq_true h1.2)) (k H locs cells slots ls hl hP hS hn1 hn2 hn3)
    · cases hj
  · -- pop
    obtain rfl : len = 1 := Nat.eq_of_beq_eq_true hlen
    split at hj
    · obtain ⟨h1, h2⟩ := jbif_s hj
      cases h2
      exact lv_pop hx hb hd ((hg _).trans (Nat.eq_of_beq_eq_true h1)) (k H locs cells slots ls hl hP hS hn1 hn2 hn3)
    · cases hj
  · -- goto
    obtain rfl : len = 3 := Nat.eq_of_beq_eq_true hlen
    obtain ⟨t, ht, rfl⟩ := jto_spec hj
    exact lv_goto hx hb hd ht (k H locs cells slots ls hl hP hS hn1 hn2 hn3)
  · -- else
    cases hj
end JS2
