/-! THE WORLD of the plain machine's heap: cell i lies at av i -/
section JW
variable (z0 : Nat) (av : Nat → Nat) (v0 : Value) (DD : va_G) (cI cZ cL : ClassId) (xs : Option (List Int32))
def jval : Value → Value
  | .ref i => .ref (av i)
  | .float _ => v0
  | v => v
def jent (e : JE) (m : Nat → Int32) : va_E :=
  bif Nat.ble e.1 7 then .inr (e.1, (List.range (jNF e.1)).map (fun k => jval av v0 (bif jRf e.1 k then va_rf (e.2.2.getD k none) else .int (m k))))
  else bif Nat.beq e.1 8 then .inl (cI, e.2.1, .inl m)
  else bif Nat.beq e.1 9 then .inl (cZ, e.2.1, .inl m)
  else .inl (cL, e.2.1, .inr (.inr (.inr (.inr (fun j => (e.2.2.getD j none).map av)))))
def jwd (E : List JE) (M : JM) : va_W := (List.range E.length).map (fun i => (av i, jent av v0 cI cZ cL (E.getD i (0, 0, [])) (M i)))
abbrev jtys : List (ClassId × FieldType) := [(cI, .int), (cZ, .boolean), (cL, .object "CometKin$Life")]
def jA0 : Nat → Prop := fun q => z0 ≤ q
def jSlen : List Nat := jStr.map List.length
def jSix : List Nat := [119, 121, 123, 125, 127, 129, 131, 133, 135, 137, 139, 140, 142]
def jStx : List String := ["comet", "cloud", "spark", "eclipse", "child", "seer", "widow", "of", "to", "gold", "law", "land", "dark"]
/-- what is read alone, in the heap -/
def jRo (U : State) (H : Heap) : Prop :=
  (∀ k l, jro xs (1000000 + k) = some l → va_T .int (av (1000000 + k)) l.length (fun j => .int (l.getD j 0)) (jA0 z0) U H) ∧
  va_Z "CometKin" "OVER_PEOPLE" "[I" (.ref (av 1000001)) (jA0 z0) U H ∧ va_Z "CometKin" "OVER_COMETS" "[I" (.ref (av 1000002)) (jA0 z0) U H ∧
  va_Z "java/lang/String" "COMPACT_STRINGS" "Z" (.int 1) (jA0 z0) U H ∧ va_Z "jdk/internal/util/Preconditions" "SIOOBE_FORMATTER" "Ljava/util/function/BiFunction;" v0 (jA0 z0) U H ∧
  vk_S 13 jSlen jStr (fun i => av (1000010 + i)) (fun i => av (1000040 + i)) (jA0 z0) U H
/-- and in the tables -/
def jVm (U : State) : Prop := (∀ i, i < 13 → vk_R "CometKin$Text" (jSix.getD i 0) (jStx.getD i "") (av (1000010 + i)) U) ∧ (∀ w ∈ jNs, va_Nw w U) ∧ va_AO "CometKin$Life" U
def jFix : Prop := (∀ i, i < 1000000 → av i = z0 + i) ∧ v0.category = 1
end JW
theorem jval_int {av : Nat → Nat} {v0 : Value} (x : Int32) : jval av v0 (.int x) = .int x := rfl
theorem jval_long {av : Nat → Nat} {v0 : Value} (x : Int64) : jval av v0 (.long x) = .long x := rfl
theorem jval_null {av : Nat → Nat} {v0 : Value} : jval av v0 .null = .null := rfl
theorem jval_ref {av : Nat → Nat} {v0 : Value} {i : Nat} : jval av v0 (.ref i) = .ref (av i) := rfl
theorem jval_cat {av : Nat → Nat} {v0 : Value} (h0 : v0.category = 1) (v : Value) : (jval av v0 v).category = v.category := by
  cases v with
  | float x => exact h0
  | _ => rfl
theorem jval_rf {av : Nat → Nat} {v0 : Value} {r : Option Nat} : jval av v0 (va_rf r) = va_rf (r.map av) := by
  cases r <;> rfl
theorem jget_mem {lv : JL} {i : Nat} {v : Value} (h : jget lv i = some v) : (i, v) ∈ lv := by
  induction lv with
  | nil => cases h
  | cons q r ih =>
    unfold jget at h
    cases hb : Nat.beq q.1 i with
    | true =>
      rw [hb] at h
      have e1 : q.1 = i := Nat.eq_of_beq_eq_true hb
      simp only [cond_true, Option.some.injEq] at h
      have : q = (i, v) := by rw [← e1, ← h]
      rw [this]; exact List.mem_cons_self
    | false =>
      rw [hb] at h
      exact List.mem_cons_of_mem _ (ih h)
section JW2
variable {z0 : Nat} {av : Nat → Nat} {v0 : Value} {DD : va_G} {cI cZ cL : ClassId} {xs : Option (List Int32)} {E : List JE} {M : JM}
theorem jwd_len : (jwd av v0 cI cZ cL E M).length = E.length := by simp [jwd]
theorem jwd_get {i : Nat} (h : i < E.length) : (jwd av v0 cI cZ cL E M)[i]? = some (av i, jent av v0 cI cZ cL (E.getD i (0, 0, [])) (M i)) := by
  simp [jwd, h]
theorem jwd_at {i : Nat} {e : JE} (h : E[i]? = some e) : (jwd av v0 cI cZ cL E M)[i]? = some (av i, jent av v0 cI cZ cL e (M i)) := by
  have hl : i < E.length := (List.getElem?_eq_some_iff.mp h).1
  rw [jwd_get hl, List.getD_eq_getElem?_getD, h]; rfl
theorem jwd_set {i : Nat} {e' : JE} {M' : JM} (hi : i < E.length) (hM : ∀ o, o ≠ i → M' o = M o) : (jwd av v0 cI cZ cL E M).set i (av i, jent av v0 cI cZ cL e' (M' i)) = jwd av v0 cI cZ cL (E.set i e') M' := by
  apply List.ext_getElem?
  intro k
  by_cases hk : k < E.length
  · by_cases hik : i = k
    · subst hik
      rw [List.getElem?_set_self (by rw [jwd_len]; exact hk)]
      rw [jwd_at (e := e') (by rw [List.getElem?_set_self hk])]
    · rw [List.getElem?_set_ne hik, jwd_get hk, jwd_get (by rw [List.length_set]; exact hk), hM k (fun q => hik q.symm)]
      simp only [List.getD_eq_getElem?_getD, List.getElem?_set_ne hik]
  · rw [List.getElem?_eq_none (by rw [List.length_set, jwd_len]; omega), List.getElem?_eq_none (by rw [jwd_len, List.length_set]; omega)]
theorem jwd_push {e' : JE} {M' : JM} (hM : ∀ o, o < E.length → M' o = M o) : jwd av v0 cI cZ cL E M ++ [(av E.length, jent av v0 cI cZ cL e' (M' E.length))] = jwd av v0 cI cZ cL (E ++ [e']) M' := by
  apply List.ext_getElem?
  intro k
  rcases Nat.lt_trichotomy k E.length with hk | hk | hk
  · rw [List.getElem?_append_left (by rw [jwd_len]; exact hk), jwd_get hk, jwd_get (by rw [List.length_append]; omega), hM k hk]
    simp only [List.getD_eq_getElem?_getD, List.getElem?_append_left hk]
  · subst hk
    rw [List.getElem?_append_right (by rw [jwd_len]; exact Nat.le_refl _), jwd_len, Nat.sub_self]
    rw [jwd_at (e := e') (by rw [List.getElem?_append_right (Nat.le_refl _), Nat.sub_self]; rfl)]
    rfl
  · rw [List.getElem?_eq_none (by rw [List.length_append, jwd_len, List.length_singleton]; omega), List.getElem?_eq_none (by rw [jwd_len, List.length_append, List.length_singleton]; omega)]
theorem jwd_D (hf : jFix z0 av v0) (hE : E.length ≤ 1000000) : va_D (jA0 z0) (jwd av v0 cI cZ cL E M) := by
  have key : ∀ (k : Nat) (q : Nat × va_E), (jwd av v0 cI cZ cL E M)[k]? = some q → k < E.length ∧ q.1 = z0 + k := by
    intro k q h
    have hk : k < E.length := by
      have := (List.getElem?_eq_some_iff.mp h).1
      rwa [jwd_len] at this
    rw [jwd_get hk] at h
    cases h
    exact ⟨hk, hf.1 k (Nat.lt_of_lt_of_le hk hE)⟩
  refine ⟨fun i j p q hi hj hpq => ?_, fun k q h => ?_⟩
  · have h1 := key i p hi
    have h2 := key j q hj
    omega
  · have h1 := key k q h
    show z0 ≤ q.1
    omega
theorem jok_get {o kd : Nat} (h : jok E o kd = true) : ∃ e : JE, E[o]? = some e ∧ e.1 = kd := by
  unfold jok at h
  split at h
  · rename_i e he
    exact ⟨e, he, Nat.eq_of_beq_eq_true h⟩
  · cases h
theorem jok_ne {o kd kd' : Nat} (h : jok E o kd = true) (hn : kd ≠ kd') : jok E o kd' = false := by
  obtain ⟨e, he, h1⟩ := jok_get h
  unfold jok
  rw [he]
  show Nat.beq e.1 kd' = false
  cases hb : Nat.beq e.1 kd' with
  | false => rfl
  | true => exact absurd ((h1.symm.trans (Nat.eq_of_beq_eq_true hb))) hn
theorem jlen_at {o : Nat} {e : JE} (h : E[o]? = some e) : jlen E o = e.2.1 := by unfold jlen; rw [h]
theorem jptr_at {o k : Nat} {e : JE} (h : E[o]? = some e) : jptr E o k = e.2.2.getD k none := by unfold jptr; rw [h]
theorem jent_o {e : JE} {m : Nat → Int32} {ci : Nat} (h : e.1 = ci) (hc : ci ≤ 7) : jent av v0 cI cZ cL e m = .inr (ci, (List.range (jNF ci)).map (fun k => jval av v0 (bif jRf ci k then va_rf (e.2.2.getD k none) else .int (m k)))) := by
  subst h
  unfold jent
  rw [Nat.ble_eq.mpr hc]; rfl
theorem jent_i {e : JE} {m : Nat → Int32} (h : e.1 = 8) : jent av v0 cI cZ cL e m = .inl (cI, e.2.1, .inl m) := by unfold jent; rw [h]; rfl
theorem jent_z {e : JE} {m : Nat → Int32} (h : e.1 = 9) : jent av v0 cI cZ cL e m = .inl (cZ, e.2.1, .inl m) := by unfold jent; rw [h]; rfl
theorem jent_l {e : JE} {m : Nat → Int32} (h : e.1 = 10) : jent av v0 cI cZ cL e m = .inl (cL, e.2.1, .inr (.inr (.inr (.inr (fun j => (e.2.2.getD j none).map av))))) := by unfold jent; rw [h]; rfl
theorem jin_vp {i : Int32} {n : Nat} (h : jin i n = true) : vp_in i n := by
  unfold jin at h
  rw [Bool.and_eq_true] at h
  have h1 : (0 : Int32) ≤ i := of_decide_eq_true h.1
  have h2 : i.toNatClampNeg < n := of_decide_eq_true h.2
  intro q
  rcases q with q | q
  · have e1 := Int32.lt_iff_toInt_lt.mp q
    have e2 := Int32.le_iff_toInt_le.mp h1
    have e3 : (0 : Int32).toInt = 0 := rfl
    omega
  · omega
theorem jRo.kept {U : State} {H H1 : Heap} (h : jRo z0 av v0 xs U H) (hq : ∀ a : Nat, a < H.size → ¬ jA0 z0 a → H1[a]? = H[a]?) : jRo z0 av v0 xs U H1 :=
  ⟨fun k l hk => (h.1 k l hk).kept hq, h.2.1.kept hq, h.2.2.1.kept hq, h.2.2.2.1.kept hq, h.2.2.2.2.1.kept hq, h.2.2.2.2.2.kept hq⟩
theorem jRo.moved {u U : State} {H : Heap} (hvm : u.vm.Alike U.vm) (h : jRo z0 av v0 xs u H) : jRo z0 av v0 xs U H :=
  ⟨fun k l hk => (h.1 k l hk).moved hvm, h.2.1.moved hvm, h.2.2.1.moved hvm, h.2.2.2.1.moved hvm, h.2.2.2.2.1.moved hvm, h.2.2.2.2.2.moved hvm⟩
theorem jNs_ok {w : Jvm.Cond} (h : w ∈ jNs) : ∃ a i y q, w = .methodLinkNest a i y q := by
  have h2 := (List.mem_filter.mp h).2
  split at h2
  · exact ⟨_, _, _, _, rfl⟩
  · cases h2
theorem jVm.warm {s U : State} (hW : s.WarmedH U.vm) (h : jVm av s) : jVm av U :=
  ⟨fun i hi => vk_R.warm hW (h.1 i hi), fun w hw => by
    obtain ⟨a, i, y, q, rfl⟩ := jNs_ok hw
    exact va_Nw.warmM hW (h.2.1 _ hw), va_AO.moved hW.alike h.2.2⟩
theorem jVm.same {u U : State} (hv : U.vm = u.vm) (h : jVm av u) : jVm av U :=
  ⟨fun i hi => vk_R.same hv (h.1 i hi), fun w hw => by
    obtain ⟨a, i, y, q, rfl⟩ := jNs_ok hw
    exact va_Nw.same rfl hv.symm (h.2.1 _ hw), va_AO.moved (by rw [hv]; exact Vm.Alike.refl _) h.2.2⟩
end JW2
theorem jset_map {g : Value → Value} (hg : ∀ v, (g v).category = v.category) (lv : JL) (i : Nat) (v : Value) : (jset lv i v).map (fun q => (q.1, g q.2)) = (i, g v) :: (lv.map (fun q => (q.1, g q.2))).filter (fun q => !(q.1 == i) && !(q.1 + 1 == i && q.2.category == 2)) := by
  simp [jset, List.filter_map, Function.comp_def, hg]
theorem jset2_map {g : Value → Value} (hg : ∀ v, (g v).category = v.category) (lv : JL) (i : Nat) (v : Value) : (jset2 lv i v).map (fun q => (q.1, g q.2)) = (i, g v) :: (lv.map (fun q => (q.1, g q.2))).filter (fun q => !(q.1 == i) && (!(q.1 == i + 1) && !(q.1 + 1 == i && q.2.category == 2))) := by
  simp [jset2, List.filter_map, Function.comp_def, hg]
theorem jw_map {g : Value → Value} (hg : ∀ v, (g v).category = v.category) (l : List Value) : jw (l.map g) = jw l := by
  simp [jw, Function.comp_def, hg]
def jKS_P (oc idx : Nat) (i : Nat) : Bool := Nat.ble (i + 1) 13 && decide (jcn oc = "CometKin$Text") && Nat.beq (jSix.getD i 0) idx
set_option maxRecDepth 100000 in
theorem jKS_all : jall jKS jKS_P 14 1060 = true := by decide +kernel
theorem jKS_ok {oc idx : Nat} {i : Nat} (h : jKS oc idx = some i) : i < 13 ∧ jcn oc = "CometKin$Text" ∧ jSix.getD i 0 = idx := by
  have h1 := jall_ok jKS_all (jg1 (fun _ _ => rfl)).1 (jg1 (fun _ _ => rfl)).2 h
  unfold jKS_P at h1
  rw [Bool.and_eq_true, Bool.and_eq_true] at h1
  exact ⟨Nat.le_of_ble_eq_true h1.1.1, of_decide_eq_true h1.1.2, Nat.eq_of_beq_eq_true h1.2⟩
