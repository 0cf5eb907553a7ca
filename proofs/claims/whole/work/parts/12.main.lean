/-! CALLS, RETURNS, THE WHOLE RUN -/
def wsM (mi : Nat) : List Jvm.Cond := .code (jY mi) (jB mi) (jML mi) (jRet mi) :: jTb
abbrev jrm (d mc ms : Nat) : Room := { frames := d + 1, cells := mc, slots := ms, locals := 40 * (d + 1) }
theorem jgood {w : Jvm.Cond} (h : w ∈ jTb) : (w.onTables && w.keeps) = true ∨ ∃ ty, w = .arrayClass ty := good_of_word (List.mem_filter.mp h).2
theorem jM_all {mi : Nat} (h : mi < 217) : Jvm.Cond.code (jY mi) (jB mi) (jML mi) (jRet mi) ∈ jTb ∧ (jY mi).cls = jcn (jOC mi) ∧ (jY mi).cls ≠ "java/lang/invoke/MethodHandle" ∧ (jY mi).cls ≠ "java/lang/invoke/VarHandle" ∧ (parseMethodDescriptor (jY mi).desc).map (fun d => d.parameters.length) = some (jNA mi) ∧ plainFor (jY mi) = true ∧ jML mi ≤ 21 ∧ jOC mi ≤ 12 := by
  have h1 := jM_ok h
  simp only [jM_P, Bool.and_eq_true] at h1
  obtain ⟨⟨⟨⟨⟨⟨⟨h1, h2⟩, h3⟩, h4⟩, h5⟩, h6⟩, h7⟩, h8⟩ := h1
  exact ⟨jAt_in h1, of_decide_eq_true h2, of_decide_eq_true h3, of_decide_eq_true h4, of_decide_eq_true h5, h6, Nat.le_of_ble_eq_true h7, Nat.le_of_ble_eq_true h8⟩
theorem wsM_good {mi : Nat} (h : mi < 217) : GoodIn jTb (wsM mi) := by
  intro w hw
  rcases List.mem_cons.mp hw with rfl | hw
  · exact ⟨(jM_all h).1, jgood (jM_all h).1⟩
  · exact ⟨hw, jgood hw⟩
theorem goodIn_pre {pre : List Jvm.Cond} {ws : List Jvm.Cond} (h1 : ∀ w ∈ pre, w ∈ jTb) (h2 : GoodIn jTb ws) : GoodIn jTb (pre ++ ws) := by
  intro w hw
  rcases List.mem_append.mp hw with hw | hw
  · exact ⟨h1 w hw, jgood (h1 w hw)⟩
  · exact h2 w hw
theorem jC_0 {oc idx mj : Nat} {ws : List Nat} (h : jC oc idx = some (0, mj, ws)) : mj < 217 ∧ Jvm.Cond.methodLink (jcn oc) idx (jY mj) ∈ jTb ∧ Jvm.Cond.instanceMethod (jY mj) ∈ jTb ∧ Jvm.Cond.selects (jcn (jOC mj)) (jY mj) (jY mj) ∈ jTb := by
  have hq := jC_ok h
  rcases ws with _ | ⟨a, _ | ⟨b, _ | ⟨c, _ | ⟨d, r⟩⟩⟩⟩
  · exact absurd (show false = true from hq) Bool.false_ne_true
  · exact absurd (show false = true from hq) Bool.false_ne_true
  · exact absurd (show false = true from hq) Bool.false_ne_true
  · have h2 : (Nat.ble (mj + 1) 217 && jAt a (.methodLink (jcn oc) idx (jY mj)) && jAt b (.instanceMethod (jY mj)) && jAt c (.selects (jcn (jOC mj)) (jY mj) (jY mj))) = true := hq
    simp only [Bool.and_eq_true] at h2
    exact ⟨Nat.le_of_ble_eq_true h2.1.1.1, jAt_in h2.1.1.2, jAt_in h2.1.2, jAt_in h2.2⟩
  · exact absurd (show false = true from hq) Bool.false_ne_true
theorem jC_1 {oc idx mj : Nat} {ws : List Nat} (h : jC oc idx = some (1, mj, ws)) : mj < 217 ∧ Jvm.Cond.methodLink (jcn oc) idx (jY mj) ∈ jTb ∧ Jvm.Cond.static (jY mj) ∈ jTb := by
  have hq := jC_ok h
  rcases ws with _ | ⟨a, _ | ⟨b, _ | ⟨c, r⟩⟩⟩
  · exact absurd (show false = true from hq) Bool.false_ne_true
  · exact absurd (show false = true from hq) Bool.false_ne_true
  · have h2 : (Nat.ble (mj + 1) 217 && jAt a (.methodLink (jcn oc) idx (jY mj)) && jAt b (.static (jY mj))) = true := hq
    simp only [Bool.and_eq_true] at h2
    exact ⟨Nat.le_of_ble_eq_true h2.1.1, jAt_in h2.1.2, jAt_in h2.2⟩
  · exact absurd (show false = true from hq) Bool.false_ne_true
theorem jC_2 {oc idx mj : Nat} {ws : List Nat} (h : jC oc idx = some (2, mj, ws)) : mj < 217 ∧ Jvm.Cond.methodLink (jcn oc) idx (jY mj) ∈ jTb ∧ Jvm.Cond.instanceMethod (jY mj) ∈ jTb ∧ (jY mj).name = "<init>" ∧ jRet mj = none := by
  have hq := jC_ok h
  rcases ws with _ | ⟨a, _ | ⟨b, _ | ⟨c, r⟩⟩⟩
  · exact absurd (show false = true from hq) Bool.false_ne_true
  · exact absurd (show false = true from hq) Bool.false_ne_true
  · have h2 : (Nat.ble (mj + 1) 217 && jAt a (.methodLink (jcn oc) idx (jY mj)) && jAt b (.instanceMethod (jY mj)) && decide ((jY mj).name = "<init>") && decide (jRet mj = none)) = true := hq
    simp only [Bool.and_eq_true] at h2
    exact ⟨Nat.le_of_ble_eq_true h2.1.1.1.1, jAt_in h2.1.1.1.2, jAt_in h2.1.1.2, of_decide_eq_true h2.1.2, of_decide_eq_true h2.2⟩
  · exact absurd (show false = true from hq) Bool.false_ne_true
theorem jC_3 {oc idx mj : Nat} {ws : List Nat} (h : jC oc idx = some (3, mj, ws)) : mj < 217 ∧ Jvm.Cond.methodLinkNest (jcn oc) idx (jY mj) RX6 ∈ jNs ∧ Jvm.Cond.static (jY mj) ∈ jTb := by
  have hq := jC_ok h
  rcases ws with _ | ⟨a, _ | ⟨b, _ | ⟨c, r⟩⟩⟩
  · exact absurd (show false = true from hq) Bool.false_ne_true
  · exact absurd (show false = true from hq) Bool.false_ne_true
  · have h2 : (Nat.ble (mj + 1) 217 && jAtN a (.methodLinkNest (jcn oc) idx (jY mj) RX6) && jAt b (.static (jY mj))) = true := hq
    simp only [Bool.and_eq_true] at h2
    exact ⟨Nat.le_of_ble_eq_true h2.1.1, jAtN_in h2.1.2, jAt_in h2.2⟩
  · exact absurd (show false = true from hq) Bool.false_ne_true
theorem jC_4 {oc idx mj : Nat} {ws : List Nat} (h : jC oc idx = some (4, mj, ws)) : Jvm.Cond.methodLink (jcn oc) idx objectInit ∈ jTb := by
  have hq := jC_ok h
  rcases ws with _ | ⟨a, _ | ⟨b, r⟩⟩
  · exact absurd (show false = true from hq) Bool.false_ne_true
  · exact jAt_in (show jAt a (.methodLink (jcn oc) idx objectInit) = true from hq)
  · exact absurd (show false = true from hq) Bool.false_ne_true
section JPQ
variable (z0 : Nat) (av : Nat → Nat) (v0 : Value) (DD : va_G) (cI cZ cL : ClassId) (xs : Option (List Int32))
def jPc (vs : List Value) (E : List JE) (M : JM) : Array Value → State → Prop := va_Pc (vs.map (jval av v0)) (fun U => U.heap.size = z0 + E.length ∧ va_P DD vwCl (jwd av v0 cI cZ cL E M) U.heap ∧ va_K DD vwCl (jtys cI cZ cL) U ∧ jRo z0 av v0 xs U U.heap ∧ jVm av U)
def jQc (rv : Option Value) (E : List JE) (M : JM) : Array Value → State → Outcome → State → Prop := fun _ st o t => o = .returned (rv.map (jval av v0)) ∧ va_P DD vwCl (jwd av v0 cI cZ cL E M) t.heap ∧ va_F (jA0 z0) st t
end JPQ
theorem jPc_blind {z0 : Nat} {av : Nat → Nat} {v0 : Value} {DD : va_G} {cI cZ cL : ClassId} {xs : Option (List Int32)} {vs : List Value} {E : List JE} {M : JM} : FrameBlind (jPc z0 av v0 DD cI cZ cL xs vs E M) :=
  fun a U g mk q => ⟨q.1, q.2.1, q.2.2.1, va_K.moved (u := U) (U := U.calling g mk a) (Vm.Alike.refl U.vm) q.2.2.2.1, jRo.moved (u := U) (U := U.calling g mk a) (Vm.Alike.refl U.vm) q.2.2.2.2.1, jVm.same (u := U) (U := U.calling g mk a) rfl q.2.2.2.2.2⟩
theorem lv_args_map {g : Value → Value} (hg : ∀ v, (g v).category = v.category) : ∀ (vs : List Value) (i : Nat), (lv_args i vs).map (fun q => (q.1, g q.2)) = lv_args i (vs.map g)
  | [], _ => rfl
  | v :: vs, i => by
    simp only [lv_args, List.map_cons, hg]
    rw [lv_args_map hg vs]
theorem lg_sl_len : ∀ vs : List Value, (lg_sl vs).length = jw vs
  | [] => rfl
  | v :: vs => by
    have ih := lg_sl_len vs
    unfold lg_sl jw at ih ⊢
    rw [List.flatMap_cons, List.length_append, ih, List.map_cons, List.sum_cons]
    congr 1
    cases v <;> rfl
section JM
variable {p : Program} {l : Launch} {e : Env} {R : Room} {s : State} {m : MethodId} {args : Array Value} {below : List Frame} {meth : Method} {c0 : Code} {Q : State → Prop}
variable {z0 : Nat} {av : Nat → Nat} {v0 : Value} {DD : va_G} {cI cZ cL : ClassId} {xs : Option (List Int32)} {mi n0 s0 : Nat}
variable {H : Heap} {locs : List Loc} {cells slots pc mc ms : Nat} {ls : Array Slot} {st0 rest : List Value} {E E' : List JE} {M M' : JM} {rv : Option Value} {a : Array Value}
theorem jW_call (hr : va_Run p l e R s m args below meth c0 H locs cells slots mc ms (F0 m pc ls st0) rest (jQc z0 av v0 DD cI cZ cL rv E' M' a) (jA0 z0)) (hS : va_S (jA0 z0) s.heap H locs)
    (kk : ∀ (H1 : Heap) (locs1 : List Loc), va_P DD vwCl (jwd av v0 cI cZ cL E' M') H1 → va_S (jA0 z0) s.heap H1 locs1 → W p l e R s m args below meth c0 H1 locs1 (cells + mc) (slots + ms) Q (F0 m (pc + 3) ls ((rv.map (jval av v0)).toList ++ rest))) :
    W p l e R s m args below meth c0 H locs cells slots Q (F0 m pc ls st0) := by
  intro T hT X
  obtain ⟨v, st₀, t, T', L, h0, X', hL, e1, e2, ⟨hv, hP, hF⟩, st⟩ := hr T hT X
  have hv2 : v = rv.map (jval av v0) := Outcome.returned.inj hv
  subst hv2
  have hF1 := hF.1
  have hF2 := hF.2
  rw [h0] at hF1 hF2
  obtain ⟨t2, a1, b1⟩ := kk T'.heap (locs ++ L) (by rw [e1]; exact hP)
    ⟨Nat.le_trans hS.1 (by rw [e1]; exact hF1), fun q h1 h2 => by rw [e1, hF2 q (Nat.lt_of_lt_of_le h1 hS.1) h2]; exact hS.2.1 q h1 h2, fun q hq => by
      rcases List.mem_append.mp hq with h | h
      · exact hS.2.2 q h
      · exact hL q h⟩ T' rfl X'
  exact ⟨t2, st t2 a1, b1⟩
/-- the heap's size, off the book -/
theorem jW_size {g : JFrame} (hP : va_P DD vwCl (jwd av v0 cI cZ cL E M) H) (hS : va_S (jA0 z0) s.heap H locs) (hc : cells + n0 = E.length) (hs : s.heap.size = z0 + n0) (hf : jFix z0 av v0) (hE : E.length ≤ 1000000)
    (h : H.size = z0 + E.length → W p l e R s m args below meth c0 H locs cells slots Q g) : W p l e R s m args below meth c0 H locs cells slots Q g := by
  intro T hT X
  refine h ?_ T hT X
  have h1 := X.heapSize
  rw [hT, hs] at h1
  have h2 := hS.1
  rcases Nat.eq_zero_or_pos E.length with q | q
  · omega
  · have h3 := (hP (E.length - 1) _ (jwd_get (by omega))).lt
    rw [show (av (E.length - 1), jent av v0 cI cZ cL (E.getD (E.length - 1) (0, 0, [])) (M (E.length - 1))).1 = z0 + (E.length - 1) from hf.1 _ (by omega)] at h3
    omega
theorem jpre (hc : jCx p s m args meth c0 z0 av v0 DD cI cZ cL xs mi n0) (hP : va_P DD vwCl (jwd av v0 cI cZ cL E M) H) (hS : va_S (jA0 z0) s.heap H locs) (hz : H.size = z0 + E.length) (vs : List Value) : ∀ U : State, U.heap = H → s.WarmedH U.vm → jPc z0 av v0 DD cI cZ cL xs vs E M (vs.map (jval av v0)).toArray U := by
  intro U hU hW
  obtain ⟨hx, hb, hml, hown, hts, hnm, hK, hRo, hVm, hfix, hsz⟩ := hc
  refine ⟨rfl, by rw [hU]; exact hz, by rw [hU]; exact hP, va_K.moved hW.alike hK, ?_, jVm.warm hW hVm⟩
  rw [hU]
  exact jRo.moved hW.alike (jRo.kept hRo (fun q h1 h2 => hS.2.1 q h1 h2))
/-- the contract of a run of a method -/
def jMet (l : Launch) (z0 : Nat) (av : Nat → Nat) (v0 : Value) (DD : va_G) (cI cZ cL : ClassId) (xs : Option (List Int32)) (mj d : Nat) (vs : List Value) (E : List JE) (M : JM) (rv : Option Value) (E' : List JE) (M' : JM) : Prop :=
  Met l (jY mj) (wsM mj) (jrm d (E'.length - E.length) (jsz E' - jsz E)) (jPc z0 av v0 DD cI cZ cL xs vs E M) (jQc z0 av v0 DD cI cZ cL rv E' M') (E'.length - E.length) (jsz E' - jsz E) (jA0 z0)
end JM
theorem jrec {s : State} {H : Heap} {z0 : Nat} {av : Nat → Nat} {v0 : Value} {DD : va_G} {cI cZ cL : ClassId} {xs : Option (List Int32)} {E : List JE} {M : JM} {locs : List Loc} {b oc : Nat} (hK : va_K DD vwCl (jtys cI cZ cL) s) (hP : va_P DD vwCl (jwd av v0 cI cZ cL E M) H) (hRo : jRo z0 av v0 xs s s.heap) (hS : va_S (jA0 z0) s.heap H locs) (hE : E.length ≤ 1000000) (h : jrv E b oc = true) :
    ∃ cell : Cell, H[av b]? = some cell ∧ cell.vm.isStatics = false ∧ s.vm.findClass (jcn oc) = some cell.cls := by
  unfold jrv at h
  cases hb : Nat.ble oc 7 with
  | true =>
    rw [hb] at h
    simp only [cond_true] at h
    have hoc := Nat.le_of_ble_eq_true hb
    obtain ⟨en, he, hek⟩ := jok_get h
    have hw := jwd_at (av := av) (v0 := v0) (cI := cI) (cZ := cZ) (cL := cL) (M := M) he
    rw [jent_o hek hoc] at hw
    exact va_recv hK hP (jcl_ok (by omega)) hw
  | false =>
    rw [hb] at h
    simp only [cond_false, Bool.and_eq_true] at h
    have hoc : oc = 10 := Nat.eq_of_beq_eq_true h.1
    subst hoc
    obtain ⟨i, hi, rfl⟩ := jisS_spec h.2
    obtain ⟨cell, h1, h2, h3, h4⟩ := ((hRo.2.2.2.2.2.1 i hi).1).kept (fun q h1 h2 => hS.2.1 q h1 h2)
    exact ⟨cell, h1, h2, h3⟩
section JC
variable {p : Program} {l : Launch} {e : Env} {R : Room} {s : State} {m : MethodId} {args : Array Value} {below : List Frame} {meth : Method} {c0 : Code} {Q : State → Prop}
variable {z0 : Nat} {av : Nat → Nat} {v0 : Value} {DD : va_G} {cI cZ cL : ClassId} {xs : Option (List Int32)} {mi n0 s0 : Nat}
theorem jbif_some {α : Type} {b : Bool} {x y : α} (h : (bif b then some x else none) = some y) : b = true ∧ x = y := by
  cases b
  · cases h
  · exact ⟨rfl, Option.some.inj h⟩
set_option maxHeartbeats 4000000 in
set_option maxRecDepth 100000 in
/-- Object.<init> -/
theorem jsCo_ok {ins : Instr} {len : Nat} {c c' : JC} (hc : jCx p s m args meth c0 z0 av v0 DD cI cZ cL xs mi n0) (hj : jsC ins mi c = some (.inl c')) (hd : decode (jB mi) c.1 = .ok (ins, len)) (hlen : jlo ins len = true) (hR : 1 ≤ R.frames ∧ 40 ≤ R.locals)
    (kk : jWX p l e R s m args below meth c0 Q z0 av v0 DD cI cZ cL mi n0 s0 c') : jWX p l e R s m args below meth c0 Q z0 av v0 DD cI cZ cL mi n0 s0 c := by
  obtain ⟨hx, hb, hml, hown, hts, hnm, hK, hRo, hVm, hfix, hsz⟩ := hc
  intro H locs cells slots ls hl hP hS hn1 hn2 hn3
  obtain ⟨pc, lv, st, E, M⟩ := c
  dsimp only at hj hd hl hP hn1 hn2 hn3 ⊢
  unfold jsC at hj
  dsimp only at hj
  split at hj
  · split at hj
    · split at hj
      · obtain ⟨h1, h2⟩ := jbif_some hj; cases h2
      · cases hj
    · cases hj
  · split at hj
    · obtain ⟨h1, h2⟩ := jbif_some hj; cases h2
    · cases hj
  · obtain rfl : len = 3 := Nat.eq_of_beq_eq_true hlen
    split at hj
    · split at hj
      · obtain ⟨h1, h2⟩ := jbif_some hj; cases h2
      · cases hj
    · rename_i mj ws hC
      split at hj
      · rename_i b r
        obtain ⟨h1, h2⟩ := jbif_some hj
        cases h2
        have hq := jC_4 hC
        have q := kk H locs cells slots ls hl hP hS hn1 hn2 hn3
        dsimp only at q
        simp only [List.map_cons] at q ⊢
        rw [jval_ref]
        refine W.objInit hx hb hown (hts _ hq) (hts _ jw_oi) (hts _ jw_oc) rfl (hl.1.trans hml.symm) rfl hd hR.1 ?_ q
        have e1 := Nat.le_of_ble_eq_true h1
        rw [← jw_map (jval_cat (av := av) hfix.2) r] at e1
        show 2 * 0 + jw (r.map (jval av v0)) + 12 ≤ R.locals
        omega
      · cases hj
    · cases hj
  · cases hj
/-- a call's fixed part -/
theorem jcallB {mj d mc ms : Nat} (hm : mj < 217) (hR : d + 2 ≤ R.frames ∧ 40 * (d + 2) ≤ R.locals) : (jrm d mc ms).frames + 1 ≤ R.frames ∧ 8 + (jML mj + 11) + (jrm d mc ms).locals ≤ R.locals := by
  have h7 := (jM_all hm).2.2.2.2.2.2.1
  constructor
  · show d + 1 + 1 ≤ R.frames
    omega
  · show 8 + (jML mj + 11) + 40 * (d + 1) ≤ R.locals
    omega
set_option maxHeartbeats 4000000 in
set_option maxRecDepth 100000 in
theorem jsCc_ok {ins : Instr} {len : Nat} {c c' : JC} {mj d : Nat} {as : List Value} {rv : Option Value} {E' : List JE} {M' : JM} (hc : jCx p s m args meth c0 z0 av v0 DD cI cZ cL xs mi n0) (hj : jsC ins mi c = some (.inr (mj, as, c'))) (hd : decode (jB mi) c.1 = .ok (ins, len)) (hlen : jlo ins len = true)
    (hR : d + 2 ≤ R.frames ∧ 40 * (d + 2) ≤ R.locals) (hM : mj < 217 → jw as ≤ jML mj → jMet l z0 av v0 DD cI cZ cL xs mj d as c.2.2.2.1 c.2.2.2.2 rv E' M') (hB : E'.length ≤ R.cells + n0 ∧ jsz E' ≤ R.slots + s0) (hmono : c.2.2.2.1.length ≤ E'.length ∧ jsz c.2.2.2.1 ≤ jsz E') (hE : E'.length ≤ 1000000)
    (kk : jWX p l e R s m args below meth c0 Q z0 av v0 DD cI cZ cL mi n0 s0 (c'.1, c'.2.1, rv.toList ++ c'.2.2.1, (E', M'))) : jWX p l e R s m args below meth c0 Q z0 av v0 DD cI cZ cL mi n0 s0 c := by
  have hc0 := hc
  obtain ⟨hx, hb, hml, hown, hts, hnm, hK, hRo, hVm, hfix, hsz⟩ := hc
  intro H locs cells slots ls hl hP hS hn1 hn2 hn3
  obtain ⟨pc, lv, st, E, M⟩ := c
  dsimp only at hj hd hl hP hn1 hn2 hn3 hM hmono ⊢
  have hg := jval_cat (av := av) (v0 := v0) hfix.2
  have hF : CallFix p m c0 (jB mi) (jML mi) s args jTb (jcn (jOC mi)) := ⟨hx, hb, hml, hown, hts⟩
  unfold jsC at hj
  dsimp only at hj
  refine jW_size hP hS hn1 hsz hfix hn3 (fun hz => ?_)
  split at hj
  · -- virtual
    rename_i idx
    obtain rfl : len = 3 := Nat.eq_of_beq_eq_true hlen
    split at hj
    · rename_i mj' ws hC
      split at hj
      · rename_i b r hdrop
        obtain ⟨h1, h2⟩ := jbif_some hj
        simp only [Bool.and_eq_true] at h1
        obtain ⟨⟨⟨hrv, hw8⟩, hln⟩, hwm⟩ := h1
        cases h2
        obtain ⟨hm, hq1, hq2, hq3⟩ := jC_0 hC
        have hA := jM_all hm
        have hst : st = (st.take (jNA mj)).reverse.reverse ++ .ref b :: r := by rw [List.reverse_reverse, ← hdrop]; exact (List.take_append_drop _ _).symm
        have hrec := jrec (oc := jOC mj) hK hP hRo hS hn3 hrv
        have hMt := hM hm (Nat.le_of_ble_eq_true hwm)
        refine jW_call (rest := r.map (jval av v0)) (rv := rv) (E' := E') (M' := M') (mc := E'.length - E.length) (ms := jsz E' - jsz E) (va_runV (As := (st.take (jNA mj)).reverse.map (jval av v0)) (b := av b) (C := jcn (jOC mj)) (n := jNA mj) hF hMt
          (cwV (jNA mj) hts (goodIn_pre (ws := wsM mj) (pre := [.methodLink (jcn (jOC mi)) idx (jY mj), .instanceMethod (jY mj), .selects (jcn (jOC mj)) (jY mj) (jY mj), .initialized (jcn (jOC mj))]) (fun w hw => ?_) (wsM_good hm)) rfl rfl rfl ⟨hA.2.1, hA.2.2.1, hA.2.2.2.1, hA.2.2.2.2.1⟩ (jcallB hm hR))
          ⟨jPc_blind, hrec, fun U hU hW => ?_⟩ rfl ?_ hl.1 ?_ ?_ hd ?_) hS (fun H1 locs1 hP1 hS1 => ?_)
        · simp only [List.mem_cons, List.not_mem_nil, or_false] at hw
          rcases hw with rfl | rfl | rfl | rfl
          · exact hq1
          · exact hq2
          · exact hq3
          · exact jI_ok (by have := hA.2.2.2.2.2.2.2; omega)
        · have q := jpre hc0 hP hS hz (.ref b :: (st.take (jNA mj)).reverse) U hU hW
          rw [List.map_cons, jval_ref] at q
          exact q
        · rw [List.length_map, List.length_reverse]; exact Nat.eq_of_beq_eq_true hln
        · show st.map (jval av v0) = _
          rw [← List.map_reverse, ← jval_ref (v0 := v0), ← List.map_cons, ← List.map_append, ← hst]
        · exact lv_room (by
            have e1 := Nat.le_of_ble_eq_true hw8
            rw [← jw_map hg] at e1
            exact e1)
        · omega
        · have q := kk H1 locs1 (cells + (E'.length - E.length)) (slots + (jsz E' - jsz E)) ls hl hP1 hS1 (by dsimp only; omega) (by dsimp only; omega) hE
          dsimp only at q
          rw [List.map_append] at q
          cases rv <;> exact q
      · cases hj
    · cases hj
  · -- static
    rename_i idx
    obtain rfl : len = 3 := Nat.eq_of_beq_eq_true hlen
    split at hj
    · rename_i kd mj' ws hC
      obtain ⟨h1, h2⟩ := jbif_some hj
      simp only [Bool.and_eq_true, Bool.or_eq_true] at h1
      obtain ⟨⟨⟨hkd, hw8⟩, hln⟩, hwm⟩ := h1
      cases h2
      have hst : st = (st.take (jNA mj)).reverse.reverse ++ st.drop (jNA mj) := by rw [List.reverse_reverse]; exact (List.take_append_drop _ _).symm
      have hfin : ∀ (H1 : Heap) (locs1 : List Loc), va_P DD vwCl (jwd av v0 cI cZ cL E' M') H1 → va_S (jA0 z0) s.heap H1 locs1 → W p l e R s m args below meth c0 H1 locs1 (cells + (E'.length - E.length)) (slots + (jsz E' - jsz E)) Q (F0 m (pc + 3) ls ((rv.map (jval av v0)).toList ++ (st.drop (jNA mj)).map (jval av v0))) := by
        intro H1 locs1 hP1 hS1
        have q := kk H1 locs1 (cells + (E'.length - E.length)) (slots + (jsz E' - jsz E)) ls hl hP1 hS1 (by dsimp only; omega) (by dsimp only; omega) hE
        dsimp only at q
        rw [List.map_append] at q
        cases rv <;> exact q
      have hst2 : (F0 m pc ls (st.map (jval av v0))).stack = ((st.take (jNA mj)).reverse.map (jval av v0)).reverse ++ (st.drop (jNA mj)).map (jval av v0) := by
        show st.map (jval av v0) = _
        rw [← List.map_reverse, ← List.map_append, ← hst]
      have hln2 : ((st.take (jNA mj)).reverse.map (jval av v0)).length = jNA mj := by rw [List.length_map, List.length_reverse]; exact Nat.eq_of_beq_eq_true hln
      have hrm : (((st.drop (jNA mj)).map (jval av v0)).map (fun v => v.category)).sum ≤ 8 := by
        have e1 := Nat.le_of_ble_eq_true hw8
        rw [← jw_map hg] at e1
        exact e1
      rcases hkd with hkd | hkd
      · have hk1 := Nat.eq_of_beq_eq_true hkd
        subst hk1
        obtain ⟨hm, hq1, hq2⟩ := jC_1 hC
        have hA := jM_all hm
        have hMt := hM hm (Nat.le_of_ble_eq_true hwm)
        refine jW_call (rest := (st.drop (jNA mj)).map (jval av v0)) (rv := rv) (E' := E') (M' := M') (mc := E'.length - E.length) (ms := jsz E' - jsz E) (va_runS (As := (st.take (jNA mj)).reverse.map (jval av v0)) (n := jNA mj) hF hMt
          (va_cwS (jNA mj) hts (goodIn_pre (ws := wsM mj) (pre := [.methodLink (jcn (jOC mi)) idx (jY mj), .static (jY mj), .initialized (jY mj).cls]) (fun w hw => ?_) (wsM_good hm)) rfl rfl rfl ⟨hA.2.2.1, hA.2.2.2.1, hA.2.2.2.2.1⟩ (jcallB hm hR))
          ⟨jPc_blind, jpre hc0 hP hS hz _⟩ rfl hln2 hl.1 hst2 (lv_room hrm) hd ?_) hS hfin
        · simp only [List.mem_cons, List.not_mem_nil, or_false] at hw
          rcases hw with rfl | rfl | rfl
          · exact hq1
          · exact hq2
          · rw [hA.2.1]; exact jI_ok (by have := hA.2.2.2.2.2.2.2; omega)
        · omega
      · have hk1 := Nat.eq_of_beq_eq_true hkd
        subst hk1
        obtain ⟨hm, hq1, hq2⟩ := jC_3 hC
        have hA := jM_all hm
        have hMt := hM hm (Nat.le_of_ble_eq_true hwm)
        refine jW_call (rest := (st.drop (jNA mj)).map (jval av v0)) (rv := rv) (E' := E') (M' := M') (mc := E'.length - E.length) (ms := jsz E' - jsz E) (va_runSN (As := (st.take (jNA mj)).reverse.map (jval av v0)) (n := jNA mj) (host := RX6) hF hMt
          ⟨va_cnB (jNA mj) hts (wsM_good hm) rfl rfl rfl (hVm.2.1 _ hq1) (by rw [hA.2.1]; exact hts _ (jI_ok (by have := hA.2.2.2.2.2.2.2; omega))) ⟨hA.2.2.1, hA.2.2.2.1, hA.2.2.2.2.1⟩ (jcallB hm hR), hts _ hq2, trivial⟩
          ⟨jPc_blind, jpre hc0 hP hS hz _⟩ rfl hln2 hl.1 hst2 (lv_room hrm) hd ?_) hS hfin
        omega
    · cases hj
  · -- special
    rename_i idx
    obtain rfl : len = 3 := Nat.eq_of_beq_eq_true hlen
    split at hj
    · rename_i mj' ws hC
      split at hj
      · rename_i b r hdrop
        obtain ⟨h1, h2⟩ := jbif_some hj
        simp only [Bool.and_eq_true] at h1
        obtain ⟨⟨⟨hok, hw8⟩, hln⟩, hwm⟩ := h1
        cases h2
        obtain ⟨hm, hq1, hq2, hq3, hret⟩ := jC_2 hC
        have hA := jM_all hm
        have hst : st = (st.take (jNA mj)).reverse.reverse ++ .ref b :: r := by rw [List.reverse_reverse, ← hdrop]; exact (List.take_append_drop _ _).symm
        have hMt := hM hm (Nat.le_of_ble_eq_true hwm)
        have hws : wsM mj = .code (jY mj) (jB mj) (jML mj) none :: jTb := by unfold wsM; rw [hret]
        refine jW_call (rest := r.map (jval av v0)) (rv := rv) (E' := E') (M' := M') (mc := E'.length - E.length) (ms := jsz E' - jsz E) (va_runI (As := (st.take (jNA mj)).reverse.map (jval av v0)) (b := av b) (n := jNA mj) hF hMt
          (cwI (jNA mj) hts (wsM_good hm) hws rfl rfl (by rw [hA.2.1]; exact hts _ (jI_ok (by have := hA.2.2.2.2.2.2.2; omega))) (hts _ (hq1)) (hts _ (hq2)) hq3 ⟨hA.2.2.1, hA.2.2.2.1, hA.2.2.2.2.1⟩ (jcallB hm hR))
          ⟨jPc_blind, fun U hU hW => ?_⟩ rfl ?_ hl.1 ?_ ?_ hd ?_) hS (fun H1 locs1 hP1 hS1 => ?_)
        · have q := jpre hc0 hP hS hz (.ref b :: (st.take (jNA mj)).reverse) U hU hW
          rw [List.map_cons, jval_ref] at q
          exact q
        · rw [List.length_map, List.length_reverse]; exact Nat.eq_of_beq_eq_true hln
        · show st.map (jval av v0) = _
          rw [← List.map_reverse, ← jval_ref (v0 := v0), ← List.map_cons, ← List.map_append, ← hst]
        · exact lv_room (by
            have e1 := Nat.le_of_ble_eq_true hw8
            rw [← jw_map hg] at e1
            exact e1)
        · omega
        · have q := kk H1 locs1 (cells + (E'.length - E.length)) (slots + (jsz E' - jsz E)) ls hl hP1 hS1 (by dsimp only; omega) (by dsimp only; omega) hE
          dsimp only at q
          rw [List.map_append] at q
          cases rv <;> exact q
      · cases hj
    · split at hj
      · obtain ⟨h1, h2⟩ := jbif_some hj; cases h2
      · cases hj
    · cases hj
  · cases hj
end JC
