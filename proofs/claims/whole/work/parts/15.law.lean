-- begun from kit/laws/SKELETON.whole
/-! THE CLAIM OUT OF ONE WALK OF THE LAW'S BODY. Your part is whole_start (and what it stands on); all else here is the same for every law, but numbers. -/
def R_law : String := "CometKinLaw"
def lw_P (b : Addr) (xs : List Int32) (args : Array Value) (s : State) : Prop := args = #[.ref b] ∧ s.IntsAt b xs ∧ xs.length ≤ 320 ∧ (Jvm.Cond.and given_1 narrow_1).before args s = true
def lw_Q (_ : Array Value) (s : State) (o : Outcome) (t : State) : Prop := o = .returned (some (.int 1)) ∧ Framed s o t [] 600000 7302250
def lw_Z (below : List Frame) (a : Array Value) (s : State) : State → Prop := fun t => ∃ o, t.status = .running ∧ Ended t below o ∧ lw_Q a s o t
/-- the law's own end, with 1 on the stack, nothing written that was there before, its room as the claim has it -/
theorem lw_ret {p : Program} {l : Launch} {e : Env} {s : State} {m : MethodId} {below : List Frame} {meth : Method} {c : Code} {b : Nat} (hx : p.tables.exec = Jvm.exec) (hb : c.code = code) (hr : meth.sig.returnType = ret) (hlocks : meth.locks = false) {pc : Nat} {H : Heap} {ls : Array Slot} (hdg : decode code pc = .ok (.ireturn, 1)) : W p l e room_1 s m #[Value.ref b] below meth c H [] 600000 7302250 (lw_Z below #[Value.ref b] s) (F0 m pc ls [.int 1]) := by
  intro T hT X
  obtain ⟨fs, hret, hrun, hended, hW, hframe⟩ := X.leave (v := some (.int 1)) (hlocks := hlocks) (fun h => by rw [hr] at h; cases h)
  have hmeth' : T.vm.method? m = some meth := X.method'
  refine ⟨T.setFrames fs, ?_, .returned (some (.int 1)), hrun, hended, rfl, ⟨_, rfl⟩, hW, hframe⟩
  jvm_step X.here [X.here.top, hx, hb, hdg, hmeth', hr, ret, narrow_b1]
  (try refine ⟨rfl, ?_⟩); (try refine ⟨rfl, ?_⟩)
  first | (intro acts; rw [hret _ acts rfl rfl rfl]) | rw [hret _ _ rfl rfl rfl]
  exact Steps.refl _
/-- what holds at the law's entry: the machine, the code, the tables' words (any of lw_tbl by 'hts w (by decide +kernel)'), the script of L ints xs at the cell b, what the Statement gives of the start (any of its parts by flat_of_before) -/
def lw_At (p : Program) (s : State) (m : MethodId) (meth : Method) (c : Code) (b L : Nat) (xs : Nat → Int32) : Prop :=
  p.tables.exec = Jvm.exec ∧ c.code = code ∧ meth.sig.returnType = ret ∧ c.maxLocals = 4 ∧ s.vm.findClass R_law = some m.cls ∧ (∀ w ∈ lw_tbl, w.before #[Value.ref b] s = true) ∧ va_X b L xs s s.heap ∧ b < s.heap.size ∧ meth.locks = false ∧ (Jvm.Cond.and given_1 narrow_1).before #[Value.ref b] s = true

/-! THE LAW'S START: what the Statement gives, in the plain machine's words -/
theorem jK_start {s : State} {args : Array Value} (hts : ∀ w ∈ jTb, w.before args s = true) (hao : (Cond.arrayOver (.object "CometKin$Life")).before args s = true) : ∃ (DD : va_G) (cI cZ cL : ClassId), va_K DD vwCl (jtys cI cZ cL) s := by
  have h1 : ∀ ci, ∃ q : ClassId × (Nat → Nat), ci < 8 → u_Kn s (jcn ci) (jT ci) (jNF ci) q.1 q.2 := by
    intro ci
    by_cases h : ci < 8
    · obtain ⟨cC, iS, hk⟩ := u_known hts (jL_ok h) (hts _ (jX_ok h))
      exact ⟨(cC, iS), fun _ => hk⟩
    · exact ⟨(0, fun _ => 0), fun q => absurd q h⟩
  obtain ⟨cI, kI, compI, a1, a2, a3⟩ := Cond.arrayClass_spec (hts _ jw_aI)
  obtain ⟨cZ, kZ, compZ, b1, b2, b3⟩ := Cond.arrayClass_spec (hts _ jw_aZ)
  obtain ⟨compL, cL, kL, d1, d2, d3, d4, d5⟩ := Cond.arrayOver_spec hao
  refine ⟨(fun ci => (Classical.choose (h1 ci)).1, fun ci => (Classical.choose (h1 ci)).2), cI, cZ, cL, ?_, ?_⟩
  · intro c q hq
    have hc : c < 8 := (List.getElem?_eq_some_iff.mp hq).1
    rw [jcl_ok hc] at hq
    cases hq
    exact Classical.choose_spec (h1 c) hc
  · intro k q hq
    match k, hq with
    | 0, hq => cases hq; exact ⟨fun n z => ⟨fun k h => (by cases h), kI, a2, compI, a3⟩, a1⟩
    | 1, hq => cases hq; exact ⟨fun n z => ⟨fun k h => (by cases h), kZ, b2, compZ, b3⟩, b1⟩
    | 2, hq => cases hq; exact ⟨fun n z => ⟨fun k h => (by cases h), kL, d3, compL, d4⟩, ⟨kL, compL, d3, d4, d1, d5⟩⟩
    | k + 3, hq => simp at hq
def jgv : List Jvm.Cond := flatC (Jvm.Cond.and given_1 narrow_1)
def jtm (i : Nat) : Term := .string "CometKin$Text" (jSix.getD i 0)
def jmem (c : Jvm.Cond) : Bool := decide (c ∈ jgv)
set_option maxRecDepth 100000 in
theorem jg_ex : (List.range 13).all (fun i => jmem (Cond.exactly (jtm i) "java/lang/String") && jmem (Cond.eq (.field (jtm i) "java/lang/String" "coder" "B") (.int 0)) && jmem (Cond.arrayOf (.field (jtm i) "java/lang/String" "value" "[B") .byte) && jmem (Cond.eq (.length (.field (jtm i) "java/lang/String" "value" "[B")) (.int (Int32.ofNat (jSlen.getD i 0))))) = true := by decide +kernel
set_option maxRecDepth 100000 in
theorem jg_el : (List.range 13).all (fun i => (List.range (jSlen.getD i 0)).all (fun j => jmem (Cond.eq (.elem (.field (jtm i) "java/lang/String" "value" "[B") (.int (Int32.ofNat j))) (.int ((jStr.getD i []).getD j 0))))) = true := by decide +kernel
def jnP (i : Nat) : Bool := (List.range 13).all (fun j => Nat.beq i j || jmem (Cond.not (Cond.eq (jtm i) (jtm j))) || jmem (Cond.not (Cond.eq (jtm j) (jtm i))))
set_option maxRecDepth 100000 in
theorem jg_n0 : jnP 0 = true := by decide +kernel
set_option maxRecDepth 100000 in
theorem jg_n1 : jnP 1 = true := by decide +kernel
set_option maxRecDepth 100000 in
theorem jg_n2 : jnP 2 = true := by decide +kernel
set_option maxRecDepth 100000 in
theorem jg_n3 : jnP 3 = true := by decide +kernel
set_option maxRecDepth 100000 in
theorem jg_n4 : jnP 4 = true := by decide +kernel
set_option maxRecDepth 100000 in
theorem jg_n5 : jnP 5 = true := by decide +kernel
set_option maxRecDepth 100000 in
theorem jg_n6 : jnP 6 = true := by decide +kernel
set_option maxRecDepth 100000 in
theorem jg_n7 : jnP 7 = true := by decide +kernel
set_option maxRecDepth 100000 in
theorem jg_n8 : jnP 8 = true := by decide +kernel
set_option maxRecDepth 100000 in
theorem jg_n9 : jnP 9 = true := by decide +kernel
set_option maxRecDepth 100000 in
theorem jg_n10 : jnP 10 = true := by decide +kernel
set_option maxRecDepth 100000 in
theorem jg_n11 : jnP 11 = true := by decide +kernel
set_option maxRecDepth 100000 in
theorem jg_n12 : jnP 12 = true := by decide +kernel
theorem jg_ne : (List.range 13).all (fun i => (List.range 13).all (fun j => Nat.beq i j || jmem (Cond.not (Cond.eq (jtm i) (jtm j))) || jmem (Cond.not (Cond.eq (jtm j) (jtm i))))) = true := by
  refine List.all_eq_true.mpr (fun i hi => ?_)
  have h := List.mem_range.mp hi
  rcases (show i = 0 ∨ i = 1 ∨ i = 2 ∨ i = 3 ∨ i = 4 ∨ i = 5 ∨ i = 6 ∨ i = 7 ∨ i = 8 ∨ i = 9 ∨ i = 10 ∨ i = 11 ∨ i = 12 by omega) with rfl | rfl | rfl | rfl | rfl | rfl | rfl | rfl | rfl | rfl | rfl | rfl | rfl
  · exact jg_n0
  · exact jg_n1
  · exact jg_n2
  · exact jg_n3
  · exact jg_n4
  · exact jg_n5
  · exact jg_n6
  · exact jg_n7
  · exact jg_n8
  · exact jg_n9
  · exact jg_n10
  · exact jg_n11
  · exact jg_n12
set_option maxRecDepth 100000 in
theorem jg_st : (jmem (Cond.arrayOf (.static "CometKin" "OVER_PEOPLE" "[I") .int) && jmem (Cond.eq (.length (.static "CometKin" "OVER_PEOPLE" "[I")) (.int 4)) && jmem (Cond.arrayOf (.static "CometKin" "OVER_COMETS" "[I") .int) && jmem (Cond.eq (.length (.static "CometKin" "OVER_COMETS" "[I")) (.int 5)) && jmem (Cond.eq (.static "java/lang/String" "COMPACT_STRINGS" "Z") (.int 1)) && jmem (Cond.isRef (.static "jdk/internal/util/Preconditions" "SIOOBE_FORMATTER" "Ljava/util/function/BiFunction;"))) = true := by decide +kernel
def jOP : List Int32 := [-1, 0, 0, 1]
def jOK : List Int32 := [-1, 0, 1, 0, 1]
set_option maxRecDepth 100000 in
theorem jg_op : ((List.range 4).all (fun j => jmem (Cond.eq (.elem (.static "CometKin" "OVER_PEOPLE" "[I") (.int (Int32.ofNat j))) (.int (jOP.getD j 0)))) && (List.range 5).all (fun j => jmem (Cond.eq (.elem (.static "CometKin" "OVER_COMETS" "[I") (.int (Int32.ofNat j))) (.int (jOK.getD j 0))))) = true := by decide +kernel
set_option maxRecDepth 100000 in
theorem jt_ls : ([("CometKin", "OVER_PEOPLE", "[I"), ("CometKin", "OVER_COMETS", "[I"), ("java/lang/String", "COMPACT_STRINGS", "Z"), ("jdk/internal/util/Preconditions", "SIOOBE_FORMATTER", "Ljava/util/function/BiFunction;")].all (fun q => decide (Cond.laysStatic q.1 q.2.1 q.2.2 ∈ lw_tbl))) = true := by decide +kernel
set_option maxRecDepth 100000 in
theorem jt_sr : ((List.range 13).all (fun i => decide (Cond.stringRef "CometKin$Text" (jSix.getD i 0) (jStx.getD i "") ∈ lw_tbl))) = true := by decide +kernel
theorem jSlen_lt : ∀ i, i < 13 → jSlen.getD i 0 < 2 ^ 31 := by decide +kernel
def jAv (z b t1 t2 : Nat) (aK aV : Nat → Nat) (i : Nat) : Nat := if i < 1000000 then z + i else if i = 1000000 then b else if i = 1000001 then t1 else if i = 1000002 then t2 else if i < 1000040 then aK (i - 1000010) else aV (i - 1000040)
set_option maxHeartbeats 4000000 in
theorem jstart {p : Program} {s : State} {m : MethodId} {meth : Method} {c : Code} {b L : Nat} {xs : Nat → Int32} (C0 : lw_At p s m meth c b L xs) : ∃ (av : Nat → Nat) (v0 : Value) (DD : va_G) (cI cZ cL : ClassId), jCx p s m #[Value.ref b] meth c s.heap.size av v0 DD cI cZ cL (some ((List.range L).map xs)) 217 0 ∧ av 1000000 = b := by
  obtain ⟨hx, hb, hr, hml, hown, hts0, hX, hbl, hlk, hgv⟩ := C0
  have hts : ∀ w ∈ jTb, w.before #[Value.ref b] s = true := fun w hw => hts0 w (List.mem_filter.mp hw).1
  have hg : ∀ c : Jvm.Cond, jmem c = true → c.before #[Value.ref b] s = true := fun c h => flat_of_before _ hgv c (of_decide_eq_true h)
  obtain ⟨DD, cI, cZ, cL, hK⟩ := jK_start hts (hts0 _ jw_ao)
  have hA : ∀ a : Nat, a < s.heap.size → ¬ jA0 s.heap.size a := fun a h q => by have : s.heap.size ≤ a := q; omega
  have hst := jg_st
  simp only [Bool.and_eq_true] at hst
  obtain ⟨⟨⟨⟨⟨s1, s2⟩, s3⟩, s4⟩, s5⟩, s6⟩ := hst
  have hop := jg_op
  rw [Bool.and_eq_true] at hop
  obtain ⟨t1, e1, T1⟩ := va_Tof (N := 4) (f := fun j => .int (jOP.getD j 0)) (by decide) (hg _ s1) (va_eqt (hg _ s2)) (fun j hj => va_eqt (hg _ (List.all_eq_true.mp hop.1 j (List.mem_range.mpr hj)))) hA
  obtain ⟨t2, e2, T2⟩ := va_Tof (N := 5) (f := fun j => .int (jOK.getD j 0)) (by decide) (hg _ s3) (va_eqt (hg _ s4)) (fun j hj => va_eqt (hg _ (List.all_eq_true.mp hop.2 j (List.mem_range.mpr hj)))) hA
  have hls := List.all_eq_true.mp jt_ls
  have l1 := hts0 _ (of_decide_eq_true (hls ("CometKin", "OVER_PEOPLE", "[I") (by simp)))
  have l2 := hts0 _ (of_decide_eq_true (hls ("CometKin", "OVER_COMETS", "[I") (by simp)))
  have l3 := hts0 _ (of_decide_eq_true (hls ("java/lang/String", "COMPACT_STRINGS", "Z") (by simp)))
  have l4 := hts0 _ (of_decide_eq_true (hls ("jdk/internal/util/Preconditions", "SIOOBE_FORMATTER", "Ljava/util/function/BiFunction;") (by simp)))
  have i6 : (Cond.initialized "CometKin").before #[Value.ref b] s = true := hts _ (jI_ok (oc := 6) (by decide))
  have i10 : (Cond.initialized "java/lang/String").before #[Value.ref b] s = true := hts _ (jI_ok (oc := 10) (by decide))
  have i12 : (Cond.initialized "jdk/internal/util/Preconditions").before #[Value.ref b] s = true := hts _ (jI_ok (oc := 12) (by decide))
  have Z1 := va_Zref l1 i6 e1 hA
  have Z2 := va_Zref l2 i6 e2 hA
  have Z3 := va_Zof l3 i10 (va_eqi (hg _ s5)) hA
  obtain ⟨v0, hv0, Z4⟩ : ∃ v0 : Value, v0.category = 1 ∧ va_Z "jdk/internal/util/Preconditions" "SIOOBE_FORMATTER" "Ljava/util/function/BiFunction;" v0 (jA0 s.heap.size) s s.heap := by
    rcases va_Zqof l4 i12 (hg _ s6) hA with h | ⟨t, h⟩
    · exact ⟨_, rfl, h⟩
    · exact ⟨_, rfl, h⟩
  have hex := List.all_eq_true.mp jg_ex
  simp only [Bool.and_eq_true] at hex
  obtain ⟨aK, aV, hS, hSe⟩ := vk_Sof (s := s) (args := #[Value.ref b]) (N := 13) (tm := jtm) (len := jSlen) (byt := jStr) (A := jA0 s.heap.size) jSlen_lt (fun i hi => hg _ (hex i (List.mem_range.mpr hi)).1.1.1) (fun i hi => hg _ (hex i (List.mem_range.mpr hi)).1.1.2) (fun i hi => hg _ (hex i (List.mem_range.mpr hi)).1.2) (fun i hi => hg _ (hex i (List.mem_range.mpr hi)).2)
    (fun i hi j hj => hg _ (List.all_eq_true.mp (List.all_eq_true.mp jg_el i (List.mem_range.mpr hi)) j (List.mem_range.mpr hj)))
    (fun i j hi hj hne => by
      have h := List.all_eq_true.mp (List.all_eq_true.mp jg_ne i (List.mem_range.mpr hi)) j (List.mem_range.mpr hj)
      simp only [Bool.or_eq_true] at h
      rcases h with (h | h) | h
      · exact absurd (Nat.eq_of_beq_eq_true h) hne
      · exact Or.inl (hg _ h)
      · exact Or.inr (hg _ h)) hA
  have av0 : ∀ i, i < 1000000 → jAv s.heap.size b t1 t2 aK aV i = s.heap.size + i := fun i h => by unfold jAv; rw [if_pos h]
  have avK : (fun i => jAv s.heap.size b t1 t2 aK aV (1000010 + i)) = fun i => if i < 30 then aK i else aV (i - 30) := by
    funext i
    unfold jAv
    rw [if_neg (by omega), if_neg (by omega), if_neg (by omega), if_neg (by omega)]
    by_cases h : i < 30
    · rw [if_pos (by omega), if_pos h, Nat.add_sub_cancel_left]
    · rw [if_neg (by omega), if_neg h, show 1000010 + i - 1000040 = i - 30 by omega]
  have avV : (fun i => jAv s.heap.size b t1 t2 aK aV (1000040 + i)) = aV := by
    funext i
    unfold jAv
    rw [if_neg (by omega), if_neg (by omega), if_neg (by omega), if_neg (by omega), if_neg (by omega), Nat.add_sub_cancel_left]
  have avK2 : ∀ i, i < 13 → jAv s.heap.size b t1 t2 aK aV (1000010 + i) = aK i := fun i hi => by
    have h9 : jAv s.heap.size b t1 t2 aK aV (1000010 + i) = if i < 30 then aK i else aV (i - 30) := congrFun avK i
    rw [h9, if_pos (by omega)]
  refine ⟨jAv s.heap.size b t1 t2 aK aV, v0, DD, cI, cZ, cL, ⟨hx, hb, hml, hown, hts, fun h => absurd h (by decide +kernel), hK, ⟨?_, Z1, Z2, Z3, Z4, ?_⟩, ⟨?_, ?_, va_AO.of (hts0 _ jw_ao)⟩, ⟨av0, hv0⟩, rfl⟩, rfl⟩
  · intro k l hk
    obtain ⟨k2, hk2, e⟩ := jro_spec hk
    have e2 : k = k2 := Nat.add_left_cancel e
    subst e2
    have h3 : k = 0 ∨ k = 1 ∨ k = 2 := by omega
    rcases h3 with rfl | rfl | rfl
    · have hl : l = (List.range L).map xs := (Option.some.inj hk).symm
      subst hl
      obtain ⟨scr, h1, h2, h3, h4, h5⟩ := hX
      refine ⟨scr, h1, h2, h3, ?_, ?_, ?_, hA _ hbl⟩
      · rw [List.length_map, List.length_range, h4]; exact Nat.le_refl _
      · rw [List.length_map, List.length_range, h4]
      · intro j hj
        rw [List.length_map, List.length_range] at hj
        rw [h5 j hj]
        simp [hj]
    · have hl : l = jOP := (Option.some.inj hk).symm
      subst hl
      exact T1
    · have hl : l = jOK := (Option.some.inj hk).symm
      subst hl
      exact T2
  · rw [avV]
    refine ⟨fun i hi => ?_, fun i j hi hj h => ?_⟩
    · dsimp only
      rw [avK2 i hi]
      exact hS.1 i hi
    · dsimp only at h
      rw [avK2 i hi, avK2 j hj] at h
      exact hS.2 i j hi hj h
  · intro i hi
    rw [avK2 i hi]
    exact vk_R.of (hts0 _ (of_decide_eq_true (List.all_eq_true.mp jt_sr i (List.mem_range.mpr hi)))) (hSe i hi)
  · intro w hw
    have h1 := hts0 w (List.mem_filter.mp hw).1
    obtain ⟨a, i, y, q, rfl⟩ := jNs_ok hw
    exact va_Nw.of rfl h1
def jinit : JC := (0, [(0, .ref 1000000)], [], ([], fun _ _ => 0))
set_option maxHeartbeats 4000000 in
/-- the claim, of a run of the plain machine -/
theorem whole_of_run (hrun : ∀ xs : List Int32, xs.length ≤ 320 → ∃ (n : Nat) (h' : JH), jrun (some xs) n 60 217 jinit = some (some (.int 1), h') ∧ h'.1.length ≤ 600000 ∧ jsz h'.1 ≤ 7302250)
    {p : Program} {e : Env} {s : State} {m : MethodId} {below : List Frame} {meth : Method} {c : Code} (l : Launch) {b L : Nat} {xs : Nat → Int32} (hL : L ≤ 320) (C0 : lw_At p s m meth c b L xs) : W p l e room_1 s m #[Value.ref b] below meth c s.heap [] 0 0 (lw_Z below #[Value.ref b] s) (entryFrame m ([Value.ref b] : List Value).toArray 4) := by
  obtain ⟨av, v0, DD, cI, cZ, cL, hC, hav⟩ := jstart C0
  obtain ⟨n, h', hr, hn1, hn2⟩ := hrun ((List.range L).map xs) (by rw [List.length_map, List.length_range]; exact hL)
  have hC1 := hC
  obtain ⟨hx, hb, hml, hown, hts, hnm, hK, hRo, hVm, hfix, hsz⟩ := hC1
  have h := jmain l n 60 217 jinit _ h' hr (Nat.le_trans hn1 (by decide)) (e := e) (R := room_1) (below := below) (Q := lw_Z below #[Value.ref b] s) (s0 := 0) hC (fun c2 ins len hj hd hlo => ?_) ⟨hn1, hn2⟩ ⟨by decide, by decide⟩
  · have hl := lv_entry ([.ref b]) (n := 4) (Nat.le_of_ble_eq_true rfl)
    rw [lg_entry_eq]
    have hl2 : lv_has (lg_sl [Value.ref b] ++ List.replicate (4 - (lg_sl [Value.ref b]).length) Slot.unset).toArray (jML 217) (jinit.2.1.map (fun q => (q.1, jval av v0 q.2))) := by
      rw [show jinit.2.1.map (fun q => (q.1, jval av v0 q.2)) = [(0, Value.ref b)] from by rw [← hav]; rfl]
      exact hl
    exact h s.heap [] 0 0 _ hl2 (fun k q hk => by simp [jinit, jwd] at hk) va_S.rf rfl rfl (by decide)
  · intro H locs cells slots ls hl hP hS hm1 hm2 hm3
    obtain ⟨pc, lv, st, E, M⟩ := c2
    have hh := jsR_heap hj
    dsimp only at hj hd hl hP hm1 hm2 hm3 hh ⊢
    subst hh
    unfold jsR at hj
    dsimp only at hj
    split at hj
    · obtain rfl : len = 1 := Nat.eq_of_beq_eq_true hlo
      split at hj
      · obtain ⟨h1, h2⟩ := jbif_some hj
        cases h2
        refine va_forget (fun q hq => hS.2.2 q hq) (W.widen (k := 600000) (n := 7302250) (by dsimp only at hn1; omega) (by dsimp only at hn2; omega) ?_)
        exact lw_ret hx hb C0.2.2.1 C0.2.2.2.2.2.2.2.2.1 hd
      · cases hj
    · split at hj
      · obtain ⟨h1, h2⟩ := jbif_some hj; cases h2
      · cases hj
    · split at hj
      · obtain ⟨h1, h2⟩ := jbif_some hj; cases h2
      · obtain ⟨h1, h2⟩ := jbif_some hj; cases h2
      · cases hj
    · split at hj
      · obtain ⟨h1, h2⟩ := jbif_some hj; cases h2
      · cases hj
    · cases hj
