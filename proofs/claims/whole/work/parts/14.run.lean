/-! THE WHOLE RUN -/
theorem jstep_cases {xs : Option (List Int32)} {mi : Nat} {c : JC} {q : JC ⊕ ((Option Value × JH) ⊕ (Nat × List Value × JC))} (h : jstep xs mi c = some q) : ∃ ins len, jP mi c.1 = some (ins, len) ∧
    ((∃ c', q = .inl c' ∧ jsA ins mi c = some c') ∨ (∃ c', q = .inl c' ∧ jsB ins c = some c') ∨ (∃ c', q = .inl c' ∧ jsH xs ins mi c = some c') ∨ (∃ c', q = .inl c' ∧ jsC ins mi c = some (.inl c')) ∨
      (∃ r, q = .inr (.inl r) ∧ jsR ins mi c = some r) ∨ (∃ mj as c', q = .inr (.inr (mj, as, c')) ∧ jsC ins mi c = some (.inr (mj, as, c')))) := by
  unfold jstep at h
  split at h
  · cases h
  · rename_i ins len hp
    refine ⟨ins, len, hp, ?_⟩
    split at h
    · rename_i c' h1
      exact Or.inl ⟨c', (Option.some.inj h).symm, h1⟩
    · split at h
      · rename_i c' h1
        exact Or.inr (Or.inl ⟨c', (Option.some.inj h).symm, h1⟩)
      · split at h
        · rename_i c' h1
          exact Or.inr (Or.inr (Or.inl ⟨c', (Option.some.inj h).symm, h1⟩))
        · split at h
          · rename_i c' h1
            exact Or.inr (Or.inr (Or.inr (Or.inl ⟨c', (Option.some.inj h).symm, h1⟩)))
          · rename_i r h1
            obtain ⟨mj, as, c'⟩ := r
            exact Or.inr (Or.inr (Or.inr (Or.inr (Or.inr ⟨mj, as, c', (Option.some.inj h).symm, h1⟩))))
          · split at h
            · rename_i r h1
              exact Or.inr (Or.inr (Or.inr (Or.inr (Or.inl ⟨r, (Option.some.inj h).symm, h1⟩))))
            · cases h
theorem jrun_mono {xs : Option (List Int32)} : ∀ (n d mi : Nat) (c : JC) (r : Option Value × JH), jrun xs n d mi c = some r → jLe c.2.2.2 r.2
  | 0, _, _, _, _, h => by cases h
  | n + 1, d, mi, c, r, h => by
    unfold jrun at h
    split at h
    · cases h
    · rename_i c' hs
      have h1 := jrun_mono n d mi c' r h
      obtain ⟨ins, len, -, q⟩ := jstep_cases hs
      rcases q with ⟨c2, e, q⟩ | ⟨c2, e, q⟩ | ⟨c2, e, q⟩ | ⟨c2, e, q⟩ | ⟨r2, e, q⟩ | ⟨mj, as, c2, e, q⟩
      · cases e; rw [← jsA_heap q]; exact h1
      · cases e; rw [← jsB_heap q]; exact h1
      · cases e; exact (jsH_heap q).tr h1
      · cases e; rw [← (jsC_heap q).1 _ rfl]; exact h1
      · cases e
      · cases e
    · rename_i r' hs
      cases h
      obtain ⟨ins, len, -, q⟩ := jstep_cases hs
      rcases q with ⟨c2, e, q⟩ | ⟨c2, e, q⟩ | ⟨c2, e, q⟩ | ⟨c2, e, q⟩ | ⟨r2, e, q⟩ | ⟨mj, as, c2, e, q⟩
      · cases e
      · cases e
      · cases e
      · cases e
      · cases e; rw [jsR_heap q]; exact jLe.rf
      · cases e
    · rename_i mj as c' hs
      obtain ⟨ins, len, -, q⟩ := jstep_cases hs
      have e0 : c'.2.2.2 = c.2.2.2 := by
        rcases q with ⟨c2, e, q⟩ | ⟨c2, e, q⟩ | ⟨c2, e, q⟩ | ⟨c2, e, q⟩ | ⟨r2, e, q⟩ | ⟨mj2, as2, c2, e, q⟩
        · cases e
        · cases e
        · cases e
        · cases e
        · cases e
        · cases e; exact (jsC_heap q).2 _ _ _ rfl
      split at h
      · cases h
      · rename_i d'
        split at h
        · cases h
        · rename_i v h' hr
          have h1 := jrun_mono n _ mj _ _ hr
          have h2 := jrun_mono n _ mi _ r h
          dsimp only at h1 h2
          rw [← e0]
          exact h1.tr h2
section JR
variable {p : Program} {l : Launch} {e : Env} {R : Room} {s : State} {m : MethodId} {args : Array Value} {below : List Frame} {meth : Method} {c0 : Code} {Q : State → Prop}
variable {z0 : Nat} {av : Nat → Nat} {v0 : Value} {DD : va_G} {cI cZ cL : ClassId} {xs : Option (List Int32)} {mi n0 s0 : Nat}
set_option maxHeartbeats 4000000 in
set_option maxRecDepth 100000 in
/-- a method's return -/
theorem jsR_ok {ins : Instr} {len : Nat} {c : JC} {rv : Option Value} {h' : JH} (hc : jCx p s m args meth c0 z0 av v0 DD cI cZ cL xs mi n0) (hr : meth.sig.returnType = jRet mi) (hlk : meth.locks = false) (hj : jsR ins mi c = some (rv, h')) (hd : decode (jB mi) c.1 = .ok (ins, len)) (hlen : jlo ins len = true) :
    jWX p l e R s m args below meth c0 (MQ below (jQc z0 av v0 DD cI cZ cL rv h'.1 h'.2) args s (h'.1.length - n0) (jsz h'.1 - s0) (jA0 z0)) z0 av v0 DD cI cZ cL mi n0 s0 c := by
  obtain ⟨hx, hb, hml, hown, hts, hnm, hK, hRo, hVm, hfix, hsz⟩ := hc
  intro H locs cells slots ls hl hP hS hn1 hn2 hn3
  obtain ⟨pc, lv, st, E, M⟩ := c
  have hh := jsR_heap hj
  dsimp only at hj hd hl hP hn1 hn2 hn3 hh ⊢
  subst hh
  have e1 : E.length - n0 = cells := by omega
  have e2 : jsz E - s0 = slots := by omega
  dsimp only
  rw [e1, e2]
  have hq : ∀ (v : Option Value) (t : State), t.heap = H → jQc z0 av v0 DD cI cZ cL v E M args s (.returned (v.map (jval av v0))) t := fun v t ht => ⟨rfl, by rw [ht]; exact hP, hS.F ht⟩
  unfold jsR at hj
  dsimp only at hj
  split at hj
  · obtain rfl : len = 1 := Nat.eq_of_beq_eq_true hlen
    split at hj
    · rename_i v
      obtain ⟨h1, h2⟩ := jbif_some hj
      cases h2
      unfold jnar at h1
      split at h1
      · rename_i hrt
        exact W.iret hx hb (by rw [hr, hrt]) (fun t ht _ => hq (some (.int v)) t ht) hS.2.2 hd hlk
      · rename_i hrt
        exact W.zret hx hb (by rw [hr, hrt]) (of_decide_eq_true h1) (fun t ht _ => hq (some (.int v)) t ht) hS.2.2 hd hlk
      · rename_i hrt
        exact W.zret hx hb (by rw [hr, hrt]) (of_decide_eq_true h1) (fun t ht _ => hq (some (.int v)) t ht) hS.2.2 hd hlk
      · rename_i hrt
        exact W.zret hx hb (by rw [hr, hrt]) (of_decide_eq_true h1) (fun t ht _ => hq (some (.int v)) t ht) hS.2.2 hd hlk
      · cases h1
    · cases hj
  · obtain rfl : len = 1 := Nat.eq_of_beq_eq_true hlen
    split at hj
    · rename_i v
      obtain ⟨h1, h2⟩ := jbif_some hj
      cases h2
      have hrt : jRet mi = some .long := eq_of_beq h1
      exact W.lret hx hb (by rw [hr, hrt]) (fun t ht _ => hq (some (.long v)) t ht) hS.2.2 hd hlk
    · cases hj
  · obtain rfl : len = 1 := Nat.eq_of_beq_eq_true hlen
    have hO : jisO (jRet mi) = true → ∃ rt, jRet mi = some rt ∧ ((∃ n, rt = .object n) ∨ ∃ t, rt = .array t) := by
      intro h
      unfold jisO at h
      split at h
      · exact ⟨_, by assumption, Or.inl ⟨_, rfl⟩⟩
      · exact ⟨_, by assumption, Or.inr ⟨_, rfl⟩⟩
      · cases h
    split at hj
    · rename_i v
      obtain ⟨h1, h2⟩ := jbif_some hj
      cases h2
      obtain ⟨rt, hrt, hro⟩ := hO h1
      have hq2 := hq (some (.ref v))
      simp only [List.map_cons, List.map_nil, Option.map_some] at hq2 ⊢
      rw [jval_ref] at hq2 ⊢
      exact W.aret hx hb (by rw [hr, hrt]) hro (Or.inr ⟨_, rfl⟩) (fun t ht _ => hq2 t ht) hS.2.2 hd hlk
    · obtain ⟨h1, h2⟩ := jbif_some hj
      cases h2
      obtain ⟨rt, hrt, hro⟩ := hO h1
      exact W.aret hx hb (by rw [hr, hrt]) hro (Or.inl rfl) (fun t ht _ => hq (some .null) t ht) hS.2.2 hd hlk
    · cases hj
  · obtain rfl : len = 1 := Nat.eq_of_beq_eq_true hlen
    split at hj
    · obtain ⟨h1, h2⟩ := jbif_some hj
      cases h2
      have hrt : jRet mi = none := eq_of_beq h1
      exact W.vret hx hb (by rw [hr, hrt]) (fun t ht _ => hq none t ht) hS.2.2 hd hlk
    · cases hj
  · cases hj
end JR
set_option maxHeartbeats 4000000 in
set_option maxRecDepth 100000 in
/-- a run of the plain machine is a run of the machine -/
theorem jmain {z0 : Nat} {av : Nat → Nat} {v0 : Value} {DD : va_G} {cI cZ cL : ClassId} {xs : Option (List Int32)} (l : Launch) : ∀ (n d mi : Nat) (c : JC) (rv : Option Value) (h' : JH), jrun xs n d mi c = some (rv, h') → h'.1.length ≤ 1000000 →
    ∀ {p : Program} {e : Env} {R : Room} {s : State} {m : MethodId} {args : Array Value} {below : List Frame} {meth : Method} {c0 : Code} {Q : State → Prop} {n0 s0 : Nat}, jCx p s m args meth c0 z0 av v0 DD cI cZ cL xs mi n0 →
      (∀ (c2 : JC) (ins : Instr) (len : Nat), jsR ins mi c2 = some (rv, h') → decode (jB mi) c2.1 = .ok (ins, len) → jlo ins len = true → jWX p l e R s m args below meth c0 Q z0 av v0 DD cI cZ cL mi n0 s0 c2) →
      h'.1.length ≤ R.cells + n0 ∧ jsz h'.1 ≤ R.slots + s0 → d + 1 ≤ R.frames ∧ 40 * (d + 1) ≤ R.locals → jWX p l e R s m args below meth c0 Q z0 av v0 DD cI cZ cL mi n0 s0 c
  | 0, _, _, _, _, _, h, _, _, _, _, _, _, _, _, _, _, _, _, _, _, _, _, _ => by cases h
  | n + 1, d, mi, c, rv, h', h, hE, p, e, R, s, m, args, below, meth, c0, Q, n0, s0, hc, hret, hB, hR => by
    unfold jrun at h
    split at h
    · cases h
    · rename_i c' hs
      have ih := jmain l n d mi c' rv h' h hE hc hret hB hR
      have hm := jrun_mono n d mi c' _ h
      obtain ⟨ins, len, hp, q⟩ := jstep_cases hs
      have hd := jP_ok mi c.1 _ hp
      have hlo := jlo_ok mi c.1 _ hp
      rcases q with ⟨c2, e, q⟩ | ⟨c2, e, q⟩ | ⟨c2, e, q⟩ | ⟨c2, e, q⟩ | ⟨r2, e, q⟩ | ⟨mj, as, c2, e, q⟩
      · cases e; exact jsA_ok hc q hd hlo ih
      · cases e; exact jsB_ok hc q hd hlo ih
      · cases e; exact jsH_ok hc q hd hlo ⟨Nat.le_trans hm.1 hB.1, Nat.le_trans hm.2 hB.2⟩ ih
      · cases e; exact jsCo_ok hc q hd hlo ⟨by omega, by omega⟩ ih
      · cases e
      · cases e
    · rename_i r' hs
      cases h
      obtain ⟨ins, len, hp, q⟩ := jstep_cases hs
      have hd := jP_ok mi c.1 _ hp
      have hlo := jlo_ok mi c.1 _ hp
      rcases q with ⟨c2, e, q⟩ | ⟨c2, e, q⟩ | ⟨c2, e, q⟩ | ⟨c2, e, q⟩ | ⟨r2, e, q⟩ | ⟨mj, as, c2, e, q⟩
      · cases e
      · cases e
      · cases e
      · cases e
      · cases e; exact hret c ins len q hd hlo
      · cases e
    · rename_i mj as c' hs
      obtain ⟨ins, len, hp, q⟩ := jstep_cases hs
      have hd := jP_ok mi c.1 _ hp
      have hlo := jlo_ok mi c.1 _ hp
      rcases q with ⟨c2, e, q⟩ | ⟨c2, e, q⟩ | ⟨c2, e, q⟩ | ⟨c2, e, q⟩ | ⟨r2, e, q⟩ | ⟨mj2, as2, c2, e, q⟩
      · cases e
      · cases e
      · cases e
      · cases e
      · cases e
      · cases e
        have e0 : c'.2.2.2 = c.2.2.2 := (jsC_heap q).2 _ _ _ rfl
        split at h
        · cases h
        · rename_i d'
          split at h
          · cases h
          · rename_i v h1 hr
            have ih := jmain l n (d' + 1) mi _ rv h' h hE hc hret hB hR
            have hm1 := jrun_mono n _ mj _ _ hr
            have hm2 := jrun_mono n _ mi _ _ h
            dsimp only at hm1 hm2
            rw [e0] at hm1 hr
            refine jsCc_ok (d := d') (E' := h1.1) (M' := h1.2) (rv := v) hc q hd hlo hR (fun hlt hw => ?_) ⟨Nat.le_trans hm2.1 hB.1, Nat.le_trans hm2.2 hB.2⟩ hm1 (Nat.le_trans hm2.1 hE) ih
            obtain ⟨E1, M1⟩ := h1
            obtain ⟨pc, lv, st, E, M⟩ := c
            dsimp only at hr hm1 ⊢
            have hA := jM_all hlt
            refine va_MetF (cc := jB mj) (maxL := jML mj) (ret := jRet mj) hA.2.2.2.2.2.1 rfl ?_
            intro p e s m args below meth c s₁ B hml hv
            obtain ⟨rfl, hsz, hP, hK, hRo, hVm⟩ := hv
            have hts : ∀ w ∈ jTb, w.before _ s = true := fun w hw => atoms_spec (ws := wsM mj) B.pre w (List.mem_cons_of_mem _ hw)
            have hown : s.vm.findClass (jcn (jOC mj)) = some m.cls := by rw [← hA.2.1]; exact findClass_of_methodNamed B.named
            have hnm : jIni mj = true → meth.name = "<init>" := fun hq => (name_of_methodNamed B.named B.method).1.trans (eq_of_beq hq)
            have hfix : jFix z0 av v0 := hc.2.2.2.2.2.2.2.2.2.1
            have hC : jCx p s m ((as.map (jval av v0)).toArray) meth c z0 av v0 DD cI cZ cL xs mj E.length := ⟨B.exec, B.bytes, hml, hown, hts, hnm, hK, hRo, hVm, hfix, hsz⟩
            rw [lg_entry_eq]
            have hwl : (lg_sl (as.map (jval av v0))).length ≤ jML mj := by rw [lg_sl_len, jw_map (jval_cat hfix.2)]; exact hw
            have hl := lv_entry (as.map (jval av v0)) hwl
            rw [← lv_args_map (jval_cat hfix.2)] at hl
            have hmn := Nat.le_trans hm2.1 hE
            dsimp only at hmn
            have ih2 := jmain l n d' mj (0, lv_args 0 as, [], E, M) v (E1, M1) hr hmn (e := e) (R := jrm d' (E1.length - E.length) (jsz E1 - jsz E)) (s0 := jsz E) (Q := MQ below (jQc z0 av v0 DD cI cZ cL v E1 M1) ((as.map (jval av v0)).toArray) s (E1.length - E.length) (jsz E1 - jsz E) (jA0 z0)) hC
              (fun c2 ins2 len2 q2 hd2 hlo2 => jsR_ok hC B.returns B.notSynchronized q2 hd2 hlo2) ⟨by have := hm1.1; dsimp only at this ⊢; omega, by have := hm1.2; dsimp only at this ⊢; omega⟩ ⟨Nat.le_refl _, Nat.le_refl _⟩
            exact ih2 s.heap [] 0 0 _ hl hP va_S.rf (Nat.zero_add _) (Nat.zero_add _) (Nat.le_trans hm1.1 hmn)
termination_by n => n
