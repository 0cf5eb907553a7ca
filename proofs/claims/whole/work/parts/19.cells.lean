/-! THE HEAP AFTER THE CONSTRUCTORS, AND A RULE FOR EACH KIND OF STEP OVER IT -/
def jE0 : List JE := [(6, 11, [some 1, some 4, some 19, some 34, some 47, none, none, some 153, none, some 181, some 196]), (5, 5, [some 2, none, none, none, none]), (3, 1, [some 3]), (8, 160, []), (0, 14, [none, none, none, some 5, some 7, some 9, some 11, some 13, some 15, some 17, none, none, none, none]), (3, 1, [some 6]), (8, 9, []), (3, 1, [some 8]), (8, 9, []), (3, 1, [some 10]), (8, 9, []), (3, 1, [some 12]), (8, 9, []), (3, 1, [some 14]), (8, 9, []), (3, 1, [some 16]), (8, 6, []), (3, 1, [some 18]), (8, 6, []), (0, 14, [none, none, none, some 20, some 22, some 24, some 26, some 28, some 30, some 32, none, none, none, none]), (3, 1, [some 21]), (8, 9, []), (3, 1, [some 23]), (8, 9, []), (3, 1, [some 25]), (8, 9, []), (3, 1, [some 27]), (8, 9, []), (3, 1, [some 29]), (8, 9, []), (3, 1, [some 31]), (8, 6, []), (3, 1, [some 33]), (8, 6, []), (2, 10, [none, none, none, none, some 35, some 37, some 39, some 41, some 43, some 45]), (3, 1, [some 36]), (8, 9, []), (3, 1, [some 38]), (8, 9, []), (3, 1, [some 40]), (8, 8, []), (3, 1, [some 42]), (8, 8, []), (3, 1, [some 44]), (8, 8, []), (3, 1, [some 46]), (8, 8, []), (4, 1, [some 48]), (10, 8, [some 49, some 62, some 75, some 88, some 101, some 114, some 127, some 140]), (2, 10, [none, none, none, none, some 50, some 52, some 54, some 56, some 58, some 60]), (3, 1, [some 51]), (8, 9, []), (3, 1, [some 53]), (8, 9, []), (3, 1, [some 55]), (8, 8, []), (3, 1, [some 57]), (8, 8, []), (3, 1, [some 59]), (8, 8, []), (3, 1, [some 61]), (8, 8, []), (2, 10, [none, none, none, none, some 63, some 65, some 67, some 69, some 71, some 73]), (3, 1, [some 64]), (8, 9, []), (3, 1, [some 66]), (8, 9, []), (3, 1, [some 68]), (8, 8, []), (3, 1, [some 70]), (8, 8, []), (3, 1, [some 72]), (8, 8, []), (3, 1, [some 74]), (8, 8, []), (2, 10, [none, none, none, none, some 76, some 78, some 80, some 82, some 84, some 86]), (3, 1, [some 77]), (8, 9, []), (3, 1, [some 79]), (8, 9, []), (3, 1, [some 81]), (8, 8, []), (3, 1, [some 83]), (8, 8, []), (3, 1, [some 85]), (8, 8, []), (3, 1, [some 87]), (8, 8, []), (2, 10, [none, none, none, none, some 89, some 91, some 93, some 95, some 97, some 99]), (3, 1, [some 90]), (8, 9, []), (3, 1, [some 92]), (8, 9, []), (3, 1, [some 94]), (8, 8, []), (3, 1, [some 96]), (8, 8, []), (3, 1, [some 98]), (8, 8, []), (3, 1, [some 100]), (8, 8, []), (2, 10, [none, none, none, none, some 102, some 104, some 106, some 108, some 110, some 112]), (3, 1, [some 103]), (8, 9, []), (3, 1, [some 105]), (8, 9, []), (3, 1, [some 107]), (8, 8, []), (3, 1, [some 109]), (8, 8, []), (3, 1, [some 111]), (8, 8, []), (3, 1, [some 113]), (8, 8, []), (2, 10, [none, none, none, none, some 115, some 117, some 119, some 121, some 123, some 125]), (3, 1, [some 116]), (8, 9, []), (3, 1, [some 118]), (8, 9, []), (3, 1, [some 120]), (8, 8, []), (3, 1, [some 122]), (8, 8, []), (3, 1, [some 124]), (8, 8, []), (3, 1, [some 126]), (8, 8, []), (2, 10, [none, none, none, none, some 128, some 130, some 132, some 134, some 136, some 138]), (3, 1, [some 129]), (8, 9, []), (3, 1, [some 131]), (8, 9, []), (3, 1, [some 133]), (8, 8, []), (3, 1, [some 135]), (8, 8, []), (3, 1, [some 137]), (8, 8, []), (3, 1, [some 139]), (8, 8, []), (2, 10, [none, none, none, none, some 141, some 143, some 145, some 147, some 149, some 151]), (3, 1, [some 142]), (8, 9, []), (3, 1, [some 144]), (8, 9, []), (3, 1, [some 146]), (8, 8, []), (3, 1, [some 148]), (8, 8, []), (3, 1, [some 150]), (8, 8, []), (3, 1, [some 152]), (8, 8, []), (4, 1, [some 154]), (10, 2, [some 155, some 168]), (2, 10, [none, none, none, none, some 156, some 158, some 160, some 162, some 164, some 166]), (3, 1, [some 157]), (8, 9, []), (3, 1, [some 159]), (8, 9, []), (3, 1, [some 161]), (8, 8, []), (3, 1, [some 163]), (8, 8, []), (3, 1, [some 165]), (8, 8, []), (3, 1, [some 167]), (8, 8, []), (2, 10, [none, none, none, none, some 169, some 171, some 173, some 175, some 177, some 179]), (3, 1, [some 170]), (8, 9, []), (3, 1, [some 172]), (8, 9, []), (3, 1, [some 174]), (8, 8, []), (3, 1, [some 176]), (8, 8, []), (3, 1, [some 178]), (8, 8, []), (3, 1, [some 180]), (8, 8, []), (1, 10, [none, some 182, some 184, some 186, some 188, some 190, none, some 192, some 194, none]), (3, 1, [some 183]), (8, 8, []), (3, 1, [some 185]), (8, 8, []), (3, 1, [some 187]), (8, 8, []), (3, 1, [some 189]), (8, 8, []), (3, 1, [some 191]), (8, 8, []), (3, 1, [some 193]), (8, 6, []), (3, 1, [some 195]), (8, 4, []), (3, 1, [some 197]), (8, 9, []), (7, 32, [some 199, none, some 200, some 201, none, some 202, none, none, some 203, some 204, some 205, some 206, some 207, none, some 208, some 209, none, none, none, none, none, none, none, some 210, some 211, some 212, some 213, none, some 214, some 215, none, none]), (8, 671, []), (9, 2, []), (8, 160, []), (8, 56, []), (8, 9, []), (8, 9, []), (8, 9, []), (8, 9, []), (8, 9, []), (8, 6, []), (8, 6, []), (9, 6, []), (8, 512, []), (8, 9, []), (8, 32, []), (8, 6, []), (8, 6, [])]
def jpt (o k : Nat) : Nat := (jptr jE0 o k).getD 0
/-- of each reference field the kind of what it holds -/
def jkd (ci k : Nat) : Nat := (bif Nat.ble ci 3 then (bif Nat.ble ci 1 then (bif Nat.ble ci 0 then (bif Nat.beq ci 0 then (bif Nat.ble k 5 then (bif Nat.ble k 3 then (bif Nat.beq k 3 then 3 else 99) else (bif Nat.ble k 4 then (bif Nat.beq k 4 then 3 else 99) else (bif Nat.beq k 5 then 3 else 99))) else (bif Nat.ble k 7 then (bif Nat.ble k 6 then (bif Nat.beq k 6 then 3 else 99) else (bif Nat.beq k 7 then 3 else 99)) else (bif Nat.ble k 8 then (bif Nat.beq k 8 then 3 else 99) else (bif Nat.beq k 9 then 3 else 99)))) else 99) else (bif Nat.beq ci 1 then (bif Nat.ble k 3 then (bif Nat.ble k 1 then (bif Nat.beq k 1 then 3 else 99) else (bif Nat.ble k 2 then (bif Nat.beq k 2 then 3 else 99) else (bif Nat.beq k 3 then 3 else 99))) else (bif Nat.ble k 5 then (bif Nat.ble k 4 then (bif Nat.beq k 4 then 3 else 99) else (bif Nat.beq k 5 then 3 else 99)) else (bif Nat.ble k 7 then (bif Nat.beq k 7 then 3 else 99) else (bif Nat.beq k 8 then 3 else 99)))) else 99)) else (bif Nat.ble ci 2 then (bif Nat.beq ci 2 then (bif Nat.ble k 6 then (bif Nat.ble k 4 then (bif Nat.beq k 4 then 3 else 99) else (bif Nat.ble k 5 then (bif Nat.beq k 5 then 3 else 99) else (bif Nat.beq k 6 then 3 else 99))) else (bif Nat.ble k 7 then (bif Nat.beq k 7 then 3 else 99) else (bif Nat.ble k 8 then (bif Nat.beq k 8 then 3 else 99) else (bif Nat.beq k 9 then 3 else 99)))) else 99) else (bif Nat.beq ci 3 then (bif Nat.beq k 0 then 8 else 99) else 99))) else (bif Nat.ble ci 5 then (bif Nat.ble ci 4 then (bif Nat.beq ci 4 then (bif Nat.beq k 0 then 10 else 99) else 99) else (bif Nat.beq ci 5 then (bif Nat.beq k 0 then 3 else 99) else 99)) else (bif Nat.ble ci 6 then (bif Nat.beq ci 6 then (bif Nat.ble k 3 then (bif Nat.ble k 1 then (bif Nat.ble k 0 then (bif Nat.beq k 0 then 5 else 99) else (bif Nat.beq k 1 then 0 else 99)) else (bif Nat.ble k 2 then (bif Nat.beq k 2 then 0 else 99) else (bif Nat.beq k 3 then 2 else 99))) else (bif Nat.ble k 7 then (bif Nat.ble k 4 then (bif Nat.beq k 4 then 4 else 99) else (bif Nat.beq k 7 then 4 else 99)) else (bif Nat.ble k 9 then (bif Nat.beq k 9 then 1 else 99) else (bif Nat.beq k 10 then 3 else 99)))) else 99) else (bif Nat.beq ci 7 then (bif Nat.ble k 11 then (bif Nat.ble k 5 then (bif Nat.ble k 2 then (bif Nat.ble k 0 then (bif Nat.beq k 0 then 8 else 99) else (bif Nat.beq k 2 then 9 else 99)) else (bif Nat.ble k 3 then (bif Nat.beq k 3 then 8 else 99) else (bif Nat.beq k 5 then 8 else 99))) else (bif Nat.ble k 9 then (bif Nat.ble k 8 then (bif Nat.beq k 8 then 8 else 99) else (bif Nat.beq k 9 then 8 else 99)) else (bif Nat.ble k 10 then (bif Nat.beq k 10 then 8 else 99) else (bif Nat.beq k 11 then 8 else 99)))) else (bif Nat.ble k 23 then (bif Nat.ble k 14 then (bif Nat.ble k 12 then (bif Nat.beq k 12 then 8 else 99) else (bif Nat.beq k 14 then 8 else 99)) else (bif Nat.ble k 15 then (bif Nat.beq k 15 then 8 else 99) else (bif Nat.beq k 23 then 9 else 99))) else (bif Nat.ble k 25 then (bif Nat.ble k 24 then (bif Nat.beq k 24 then 8 else 99) else (bif Nat.beq k 25 then 8 else 99)) else (bif Nat.ble k 26 then (bif Nat.beq k 26 then 8 else 99) else (bif Nat.ble k 28 then (bif Nat.beq k 28 then 8 else 99) else (bif Nat.beq k 29 then 8 else 99)))))) else 99))))
def jpk (o k kd : Nat) : Bool := match jptr jE0 o k with
  | some p => jok jE0 p kd
  | none => false
set_option maxRecDepth 100000 in
theorem jpk_all : (List.range 216).all (fun o => (List.range 8).all (fun ci => (List.range 33).all (fun k => bif jok jE0 o ci && Nat.ble (jkd ci k) 98 then jpk o k (jkd ci k) else true))) = true := by decide +kernel
set_option maxRecDepth 100000 in
theorem jpe_all : (List.range 216).all (fun o => bif jok jE0 o 10 then (List.range (jlen jE0 o)).all (fun k => jpk o k 2) else true) = true := by decide +kernel
set_option maxRecDepth 100000 in
theorem jE0_len : jE0.length = 216 := by decide +kernel
theorem jok_lt {o kd : Nat} (h : jok jE0 o kd = true) : o < 216 := by
  unfold jok at h
  split at h
  · rename_i e he
    obtain ⟨q, _⟩ := List.getElem?_eq_some_iff.mp he
    rw [← jE0_len]; exact q
  · cases h
theorem jpk_ok {o k kd : Nat} (h : jpk o k kd = true) : jptr jE0 o k = some (jpt o k) ∧ jok jE0 (jpt o k) kd = true := by
  unfold jpk at h
  split at h
  · rename_i p hp
    have e : jpt o k = p := by unfold jpt; rw [hp]; rfl
    rw [e]; exact ⟨hp, h⟩
  · cases h
theorem jp_ok {o ci k kd : Nat} (ho : jok jE0 o ci = true) (hc : ci < 8) (hk : k < 33) (hd : jkd ci k = kd) (hn : Nat.ble kd 98 = true) : jptr jE0 o k = some (jpt o k) ∧ jok jE0 (jpt o k) kd = true := by
  have h := List.all_eq_true.mp (List.all_eq_true.mp (List.all_eq_true.mp jpk_all o (List.mem_range.mpr (jok_lt ho))) ci (List.mem_range.mpr hc)) k (List.mem_range.mpr hk)
  rw [hd, ho, hn] at h
  exact jpk_ok h
theorem jk_ok {o ci k kd : Nat} (ho : jok jE0 o ci = true) (hc : ci < 8) (hk : k < 33) (hd : jkd ci k = kd) (hn : Nat.ble kd 98 = true) : jok jE0 (jpt o k) kd = true := (jp_ok ho hc hk hd hn).2
theorem je_ok {o k : Nat} (ho : jok jE0 o 10 = true) (hk : k < jlen jE0 o) : jptr jE0 o k = some (jpt o k) ∧ jok jE0 (jpt o k) 2 = true := by
  have h := List.all_eq_true.mp jpe_all o (List.mem_range.mpr (jok_lt ho))
  rw [ho] at h
  exact jpk_ok (List.all_eq_true.mp h k (List.mem_range.mpr hk))
/-- arrays of the heap -/
def jla (a : Nat) (i : Int32) (M : JM) : Option Int32 := bif jin i (jlen jE0 a) then some (M a i.toNatClampNeg) else none
def jsa (a : Nat) (i v : Int32) (M : JM) : Option JM := bif jin i (jlen jE0 a) then some (jup M a i.toNatClampNeg v) else none
def jea (a : Nat) (i : Int32) : Option Nat := bif jin i (jlen jE0 a) then some (jpt a i.toNatClampNeg) else none
/-- any array of ints, of bytes; the length of any -/
def jlx (xs : Option (List Int32)) (a : Nat) (i : Int32) (M : JM) : Option Int32 := bif jok jE0 a 8 then (bif jin i (jlen jE0 a) then some (M a i.toNatClampNeg) else none) else match jro xs a with
  | some l => bif jin i l.length then some (l.getD i.toNatClampNeg 0) else none
  | none => none
def jly (a : Nat) (i : Int32) (M : JM) : Option Int32 := bif jok jE0 a 9 then (bif jin i (jlen jE0 a) then some (M a i.toNatClampNeg) else none) else match jrb a with
  | some l => bif jin i l.length then some (l.getD i.toNatClampNeg 0) else none
  | none => none
def jal (xs : Option (List Int32)) (a : Nat) : Option Int32 := bif jok jE0 a 8 || jok jE0 a 9 || jok jE0 a 10 then some (Int32.ofNat (jlen jE0 a)) else match jro xs a with
  | some l => some (Int32.ofNat l.length)
  | none => match jrb a with
    | some l => some (Int32.ofNat l.length)
    | none => none
def jdv (x y : Int32) : Option Int32 := bif decide (y = 0) then none else some (x / y)
def jir (x y : Int32) : Option Int32 := bif decide (y = 0) then none else some (x - x / y * y)
def jldv (x y : Int64) : Option Int64 := bif decide (y = 0) then none else some (x / y)
def jlir (x y : Int64) : Option Int64 := bif decide (y = 0) then none else some (x - x / y * y)
def jbo (mi : Nat) (v : Int32) : Option Int32 := bif jnar (jRet mi) v then some v else none
section GC
variable {α β : Type} {xs : Option (List Int32)} {d mi : Nat} {A B : Option α} {S : α → Option Value × JH → Prop} {SB : β → Option Value × JH → Prop} {f : α → Option β} {pc : Nat} {lv : JL} {st : List Value} {h : JH} {M : JM} {o a idx ci k w : Nat} {i v x y : Int32} {off : Int} {tgt : Nat}
theorem g_gf (hp : jP mi pc = some (.getfield idx, 3)) (hF : jF (jOC mi) idx = some (ci, k, w)) (hR : jRf ci k = false) (ho : jok jE0 o ci = true) (g : JG xs d mi A S (pc + 3, lv, .int (M o k) :: st, (jE0, M))) : JG xs d mi A S (pc, lv, .ref o :: st, (jE0, M)) := by
  refine g_step (jstep_H hp ?_) g
  unfold jsH
  simp only [hF, ho, jfv, hR, cond_true, cond_false]
theorem g_gp (hp : jP mi pc = some (.getfield idx, 3)) (hF : jF (jOC mi) idx = some (ci, k, w)) (hR : jRf ci k = true) (ho : jok jE0 o ci = true) (hq : jptr jE0 o k = some (jpt o k)) (g : JG xs d mi A S (pc + 3, lv, .ref (jpt o k) :: st, (jE0, M))) : JG xs d mi A S (pc, lv, .ref o :: st, (jE0, M)) := by
  refine g_step (jstep_H hp ?_) g
  unfold jsH
  simp only [hF, ho, jfv, hR, cond_true, hq, va_rf]
theorem g_pf {f : JM → Option β} (hp : jP mi pc = some (.putfield idx, 3)) (hF : jF (jOC mi) idx = some (ci, k, w)) (hR : jRf ci k = false) (hf : jfin ci k = false) (ho : jok jE0 o ci = true) (g : ∀ M2, JG xs d mi (f M2) SB (pc + 3, lv, st, (jE0, M2))) : JG xs d mi ((some (jup M o k v)).bind f) SB (pc, lv, .int v :: .ref o :: st, (jE0, M)) := by
  refine g_step (jstep_H hp (c' := (pc + 3, lv, st, (jE0, jup M o k v))) ?_) (g _)
  unfold jsH
  simp only [hF, ho, hR, hf, cond_true, Bool.not_false, Bool.and_true]
theorem g_ia {f : Int32 → Option β} (hp : jP mi pc = some (.iaload, 1)) (ha : jok jE0 a 8 = true) (g : ∀ v, JG xs d mi (f v) SB (pc + 1, lv, .int v :: st, (jE0, M))) : JG xs d mi ((jla a i M).bind f) SB (pc, lv, .int i :: .ref a :: st, (jE0, M)) := by
  unfold jla
  cases hi : jin i (jlen jE0 a) with
  | false => exact g_bn
  | true =>
    refine g_step (jstep_H hp ?_) (g _)
    unfold jsH
    simp only [ha, hi, cond_true]
theorem g_ba {f : Int32 → Option β} (hp : jP mi pc = some (.baload, 1)) (ha : jok jE0 a 9 = true) (g : ∀ v, JG xs d mi (f v) SB (pc + 1, lv, .int v :: st, (jE0, M))) : JG xs d mi ((jla a i M).bind f) SB (pc, lv, .int i :: .ref a :: st, (jE0, M)) := by
  unfold jla
  cases hi : jin i (jlen jE0 a) with
  | false => exact g_bn
  | true =>
    refine g_step (jstep_H hp ?_) (g _)
    unfold jsH
    simp only [ha, hi, cond_true]
theorem g_ix {f : Int32 → Option β} (hp : jP mi pc = some (.iaload, 1)) (g : ∀ v, JG xs d mi (f v) SB (pc + 1, lv, .int v :: st, (jE0, M))) : JG xs d mi ((jlx xs a i M).bind f) SB (pc, lv, .int i :: .ref a :: st, (jE0, M)) := by
  intro z hz r hr
  cases hx : jlx xs a i M with
  | none => rw [hx] at hz; cases hz
  | some v =>
    rw [hx] at hz
    refine JEv.step (jstep_H hp (c' := (pc + 1, lv, .int v :: st, (jE0, M))) ?_) (g v z hz r hr)
    unfold jlx at hx
    unfold jsH
    cases h8 : jok jE0 a 8 with
    | true =>
      simp only [h8, cond_true] at hx ⊢
      cases hi : jin i (jlen jE0 a) with
      | false => rw [hi] at hx; cases hx
      | true => rw [hi] at hx; cases hx; rfl
    | false =>
      simp only [h8, cond_false] at hx ⊢
      cases hl : jro xs a with
      | none => rw [hl] at hx; cases hx
      | some l =>
        rw [hl] at hx
        simp only at hx ⊢
        cases hi : jin i l.length with
        | false => rw [hi] at hx; cases hx
        | true => rw [hi] at hx; cases hx; rfl
theorem g_by {f : Int32 → Option β} (hp : jP mi pc = some (.baload, 1)) (g : ∀ v, JG xs d mi (f v) SB (pc + 1, lv, .int v :: st, (jE0, M))) : JG xs d mi ((jly a i M).bind f) SB (pc, lv, .int i :: .ref a :: st, (jE0, M)) := by
  intro z hz r hr
  cases hx : jly a i M with
  | none => rw [hx] at hz; cases hz
  | some v =>
    rw [hx] at hz
    refine JEv.step (jstep_H hp (c' := (pc + 1, lv, .int v :: st, (jE0, M))) ?_) (g v z hz r hr)
    unfold jly at hx
    unfold jsH
    cases h8 : jok jE0 a 9 with
    | true =>
      simp only [h8, cond_true] at hx ⊢
      cases hi : jin i (jlen jE0 a) with
      | false => rw [hi] at hx; cases hx
      | true => rw [hi] at hx; cases hx; rfl
    | false =>
      simp only [h8, cond_false] at hx ⊢
      cases hl : jrb a with
      | none => rw [hl] at hx; cases hx
      | some l =>
        rw [hl] at hx
        simp only at hx ⊢
        cases hi : jin i l.length with
        | false => rw [hi] at hx; cases hx
        | true => rw [hi] at hx; cases hx; rfl
theorem g_is {f : JM → Option β} (hp : jP mi pc = some (.iastore, 1)) (ha : jok jE0 a 8 = true) (g : ∀ M2, JG xs d mi (f M2) SB (pc + 1, lv, st, (jE0, M2))) : JG xs d mi ((jsa a i v M).bind f) SB (pc, lv, .int v :: .int i :: .ref a :: st, (jE0, M)) := by
  unfold jsa
  cases hi : jin i (jlen jE0 a) with
  | false => exact g_bn
  | true =>
    refine g_step (jstep_H hp ?_) (g _)
    unfold jsH
    simp only [ha, hi, cond_true, Bool.and_self]
theorem g_zs {f : JM → Option β} (hp : jP mi pc = some (.bastore, 1)) (ha : jok jE0 a 9 = true) (g : ∀ M2, JG xs d mi (f M2) SB (pc + 1, lv, st, (jE0, M2))) : JG xs d mi ((jsa a i (v &&& 1) M).bind f) SB (pc, lv, .int v :: .int i :: .ref a :: st, (jE0, M)) := by
  unfold jsa
  cases hi : jin i (jlen jE0 a) with
  | false => exact g_bn
  | true =>
    refine g_step (jstep_H hp ?_) (g _)
    unfold jsH
    simp only [ha, hi, cond_true, Bool.and_self]
theorem jin_lt {n : Nat} (h : jin i n = true) : i.toNatClampNeg < n := by
  unfold jin at h
  rw [Bool.and_eq_true] at h
  exact of_decide_eq_true h.2
theorem g_aa {f : Nat → Option β} (hp : jP mi pc = some (.aaload, 1)) (ha : jok jE0 a 10 = true) (g : ∀ p, jok jE0 p 2 = true → JG xs d mi (f p) SB (pc + 1, lv, .ref p :: st, (jE0, M))) : JG xs d mi ((jea a i).bind f) SB (pc, lv, .int i :: .ref a :: st, (jE0, M)) := by
  unfold jea
  cases hi : jin i (jlen jE0 a) with
  | false => exact g_bn
  | true =>
    obtain ⟨h1, h2⟩ := je_ok ha (jin_lt hi)
    refine g_step (jstep_H hp ?_) (g _ h2)
    unfold jsH
    simp only [ha, hi, cond_true, Bool.and_self, h1, va_rf]
theorem g_al (hp : jP mi pc = some (.arraylength, 1)) (ha : (jok jE0 a 8 || jok jE0 a 9 || jok jE0 a 10) = true) (g : JG xs d mi A S (pc + 1, lv, .int (Int32.ofNat (jlen jE0 a)) :: st, (jE0, M))) : JG xs d mi A S (pc, lv, .ref a :: st, (jE0, M)) := by
  refine g_step (jstep_H hp ?_) g
  unfold jsH
  simp only [ha, cond_true]
theorem g_ax {f : Int32 → Option β} (hp : jP mi pc = some (.arraylength, 1)) (g : ∀ v, JG xs d mi (f v) SB (pc + 1, lv, .int v :: st, (jE0, M))) : JG xs d mi ((jal xs a).bind f) SB (pc, lv, .ref a :: st, (jE0, M)) := by
  intro z hz r hr
  cases hx : jal xs a with
  | none => rw [hx] at hz; cases hz
  | some v =>
    rw [hx] at hz
    refine JEv.step (jstep_H hp (c' := (pc + 1, lv, .int v :: st, (jE0, M))) ?_) (g v z hz r hr)
    unfold jal at hx
    unfold jsH
    cases h8 : (jok jE0 a 8 || jok jE0 a 9 || jok jE0 a 10) with
    | true =>
      simp only [h8, cond_true] at hx ⊢
      cases hx; rfl
    | false =>
      simp only [h8, cond_false] at hx ⊢
      cases hl : jro xs a with
      | some l => rw [hl] at hx; cases hx; rfl
      | none =>
        rw [hl] at hx
        simp only at hx ⊢
        cases hm : jrb a with
        | some l => rw [hm] at hx; cases hx; rfl
        | none => rw [hm] at hx; cases hx
theorem g_st {z : Nat} {u : Value} (hp : jP mi pc = some (.getstatic idx, 3)) (hS : jS (jOC mi) idx = some z) (hv : jSv z = u) (g : JG xs d mi A S (pc + 3, lv, u :: st, h)) : JG xs d mi A S (pc, lv, st, h) := by
  refine g_step (jstep_H hp ?_) g
  unfold jsH
  simp only [hS, hv]
theorem g_sv (hp : jP mi pc = some (.getfield idx, 3)) (hF : jF (jOC mi) idx = none) (hS : jSF (jOC mi) idx = some 0) (ho : jisS o = true) (g : JG xs d mi A S (pc + 3, lv, .ref (o + 30) :: st, (jE0, M))) : JG xs d mi A S (pc, lv, .ref o :: st, (jE0, M)) := by
  refine g_step (jstep_H hp ?_) g
  unfold jsH
  simp only [hF, hS, ho, cond_true]
theorem g_sc (hp : jP mi pc = some (.getfield idx, 3)) (hF : jF (jOC mi) idx = none) (hS : jSF (jOC mi) idx = some 1) (ho : jisS o = true) (g : JG xs d mi A S (pc + 3, lv, .int 0 :: st, (jE0, M))) : JG xs d mi A S (pc, lv, .ref o :: st, (jE0, M)) := by
  refine g_step (jstep_H hp ?_) g
  unfold jsH
  simp only [hF, hS, ho, cond_true]
theorem g_nn (hp : jP mi pc = some (.ifnull off, 3)) (g : JG xs d mi A S (pc + 3, lv, st, h)) : JG xs d mi A S (pc, lv, .ref o :: st, h) := g_step (jstep_B hp rfl) g
theorem g_rn (hp : jP mi pc = some (.ireturn, 1)) {S : Int32 → Option Value × JH → Prop} (hS : ∀ v r', S v r' → r' = (some (.int v), h)) : JG xs d mi (jbo mi v) S (pc, lv, [.int v], h) := by
  unfold jbo
  cases hn : jnar (jRet mi) v with
  | false => exact g_none
  | true =>
    refine g_ret hp (r := (some (.int v), h)) ?_ (hS v)
    unfold jsR
    simp only [hn, cond_true]
theorem g_rw (hp : jP mi pc = some (.ireturn, 1)) {S : Int32 × JM → Option Value × JH → Prop} (hS : ∀ v r', S (v, M) r' → r' = (some (.int v), (jE0, M))) : JG xs d mi ((jbo mi v).bind (fun u => some (u, M))) S (pc, lv, [.int v], (jE0, M)) := by
  unfold jbo
  cases hn : jnar (jRet mi) v with
  | false => exact g_bn
  | true =>
    refine g_ret (v := (v, M)) hp (r := (some (.int v), (jE0, M))) ?_ (hS v)
    unfold jsR
    simp only [hn, cond_true]
/-- switches -/
theorem g_eq {P : Prop} {dec : Decidable P} {c : JC} (k1 : P → JG xs d mi A S c) (k2 : ¬ P → JG xs d mi B S c) : JG xs d mi (if P then A else B) S c := by
  by_cases hP : P
  · rw [if_pos hP]; exact k1 hP
  · rw [if_neg hP]; exact k2 hP
theorem g_t1 {ins : Instr} {len : Nat} (hx : x = y) (hp : jP mi pc = some (ins, len)) (hb : jsB ins (pc, lv, .int y :: st, h) = some (tgt, lv, st, h)) (g : JG xs d mi A S (tgt, lv, st, h)) : JG xs d mi A S (pc, lv, .int x :: st, h) := by
  rw [hx]; exact g_step (jstep_B hp hb) g
theorem g_t0 {dflt lo hi : Int} {offs : Array Int} {len : Nat} (hp : jP mi pc = some (.tableswitch dflt lo hi offs, len)) (hn : ∀ v : Int, lo ≤ v → v ≤ hi → ¬ x = Int32.ofInt v) (ht : (pc : Int) + dflt = Int.ofNat tgt) (g : JG xs d mi A S (tgt, lv, st, h)) : JG xs d mi A S (pc, lv, .int x :: st, h) := by
  refine g_step (jstep_B hp ?_) g
  have hb : (decide (x.toInt < lo) || decide (hi < x.toInt)) = true := by
    by_cases h1 : x.toInt < lo
    · rw [decide_eq_true h1]; rfl
    · by_cases h2 : hi < x.toInt
      · rw [decide_eq_true h2, Bool.or_true]
      · exact absurd (Int32.ofInt_toInt x).symm (hn _ (Int.not_lt.mp h1) (Int.not_lt.mp h2))
  unfold jsB
  simp only [hb, cond_true]
  unfold jto
  dsimp only
  rw [ht]
theorem g_l0 {dflt : Int} {ps : Array (Int × Int)} {len : Nat} (hp : jP mi pc = some (.lookupswitch dflt ps, len)) (hs : (ps.toList.zip (ps.toList.drop 1)).all (fun (a, next) => a.1 < next.1) = true) (hn : Op.lookupswitch.offset ps.toList dflt x.toInt = dflt) (ht : (pc : Int) + dflt = Int.ofNat tgt) (g : JG xs d mi A S (tgt, lv, st, h)) : JG xs d mi A S (pc, lv, .int x :: st, h) := by
  refine g_step (jstep_B hp ?_) g
  unfold jsB
  simp only [hs, cond_true, hn]
  unfold jto
  dsimp only
  rw [ht]
/-- division -/
theorem g_d1 {f : Int32 → Option β} (hp : jP mi pc = some (.idiv, 1)) (g : ∀ v, JG xs d mi (f v) SB (pc + 1, lv, .int v :: st, h)) : JG xs d mi ((jdv x y).bind f) SB (pc, lv, .int y :: .int x :: st, h) := by
  unfold jdv
  cases hy : decide (y = 0) with
  | true => exact g_bn
  | false =>
    refine g_step (jstep_A hp (c' := (pc + 1, lv, .int (x / y) :: st, h)) ?_) (g _)
    unfold jsA
    simp only [jb2d, hy, cond_false, jn]
theorem g_d2 {f : Int32 → Option β} (hp : jP mi pc = some (.irem, 1)) (g : ∀ v, JG xs d mi (f v) SB (pc + 1, lv, .int v :: st, h)) : JG xs d mi ((jir x y).bind f) SB (pc, lv, .int y :: .int x :: st, h) := by
  unfold jir
  cases hy : decide (y = 0) with
  | true => exact g_bn
  | false =>
    refine g_step (jstep_A hp (c' := (pc + 1, lv, .int (x - x / y * y) :: st, h)) ?_) (g _)
    unfold jsA
    simp only [jb2d, hy, cond_false, jn]
theorem g_d3 {x y : Int64} {f : Int64 → Option β} (hp : jP mi pc = some (.ldiv, 1)) (g : ∀ v, JG xs d mi (f v) SB (pc + 1, lv, .long v :: st, h)) : JG xs d mi ((jldv x y).bind f) SB (pc, lv, .long y :: .long x :: st, h) := by
  unfold jldv
  cases hy : decide (y = 0) with
  | true => exact g_bn
  | false =>
    refine g_step (jstep_A hp (c' := (pc + 1, lv, .long (x / y) :: st, h)) ?_) (g _)
    unfold jsA
    simp only [jl2d, hy, cond_false, jn]
theorem g_d4 {x y : Int64} {f : Int64 → Option β} (hp : jP mi pc = some (.lrem, 1)) (g : ∀ v, JG xs d mi (f v) SB (pc + 1, lv, .long v :: st, h)) : JG xs d mi ((jlir x y).bind f) SB (pc, lv, .long y :: .long x :: st, h) := by
  unfold jlir
  cases hy : decide (y = 0) with
  | true => exact g_bn
  | false =>
    refine g_step (jstep_A hp (c' := (pc + 1, lv, .long (x - x / y * y) :: st, h)) ?_) (g _)
    unfold jsA
    simp only [jl2d, hy, cond_false, jn]
theorem g_if_eq {dec : Decidable (x = 0)} (hp : jP mi pc = some (.ifCond .eq off, 3)) (ht : (pc : Int) + off = Int.ofNat tgt) (k1 : x = 0 → JG xs d mi A S (tgt, lv, st, h)) (k2 : ¬ (x = 0) → JG xs d mi B S (pc + 3, lv, st, h)) : JG xs d mi (if x = 0 then A else B) S (pc, lv, .int x :: st, h) := g_ifJ hp ht (cb_t (cd := .eq) (x := x) (y := 0) (P := x = 0) Iff.rfl).1 (cb_t (cd := .eq) (x := x) (y := 0) (P := x = 0) Iff.rfl).2 k1 k2
theorem g_ic_eq {dec : Decidable (x = y)} (hp : jP mi pc = some (.if_icmp .eq off, 3)) (ht : (pc : Int) + off = Int.ofNat tgt) (k1 : x = y → JG xs d mi A S (tgt, lv, st, h)) (k2 : ¬ (x = y) → JG xs d mi B S (pc + 3, lv, st, h)) : JG xs d mi (if x = y then A else B) S (pc, lv, .int y :: .int x :: st, h) := g_icJ hp ht (cb_t (cd := .eq) (x := x) (y := y) (P := x = y) Iff.rfl).1 (cb_t (cd := .eq) (x := x) (y := y) (P := x = y) Iff.rfl).2 k1 k2
theorem g_if_ne {dec : Decidable (x = 0)} (hp : jP mi pc = some (.ifCond .ne off, 3)) (ht : (pc : Int) + off = Int.ofNat tgt) (k1 : x = 0 → JG xs d mi A S (pc + 3, lv, st, h)) (k2 : ¬ (x = 0) → JG xs d mi B S (tgt, lv, st, h)) : JG xs d mi (if x = 0 then A else B) S (pc, lv, .int x :: st, h) := g_ifF hp ht (fun q => (cb_t (cd := .ne) (x := x) (y := 0) (P := ¬ (x = 0)) Iff.rfl).2 (fun z => z q)) (fun q => (cb_t (cd := .ne) (x := x) (y := 0) (P := ¬ (x = 0)) Iff.rfl).1 q) k1 k2
theorem g_ic_ne {dec : Decidable (x = y)} (hp : jP mi pc = some (.if_icmp .ne off, 3)) (ht : (pc : Int) + off = Int.ofNat tgt) (k1 : x = y → JG xs d mi A S (pc + 3, lv, st, h)) (k2 : ¬ (x = y) → JG xs d mi B S (tgt, lv, st, h)) : JG xs d mi (if x = y then A else B) S (pc, lv, .int y :: .int x :: st, h) := g_icF hp ht (fun q => (cb_t (cd := .ne) (x := x) (y := y) (P := ¬ (x = y)) Iff.rfl).2 (fun z => z q)) (fun q => (cb_t (cd := .ne) (x := x) (y := y) (P := ¬ (x = y)) Iff.rfl).1 q) k1 k2
theorem g_if_lt {dec : Decidable (x < 0)} (hp : jP mi pc = some (.ifCond .lt off, 3)) (ht : (pc : Int) + off = Int.ofNat tgt) (k1 : x < 0 → JG xs d mi A S (tgt, lv, st, h)) (k2 : ¬ (x < 0) → JG xs d mi B S (pc + 3, lv, st, h)) : JG xs d mi (if x < 0 then A else B) S (pc, lv, .int x :: st, h) := g_ifJ hp ht (cb_t (cd := .lt) (x := x) (y := 0) (P := x < 0) Iff.rfl).1 (cb_t (cd := .lt) (x := x) (y := 0) (P := x < 0) Iff.rfl).2 k1 k2
theorem g_ic_lt {dec : Decidable (x < y)} (hp : jP mi pc = some (.if_icmp .lt off, 3)) (ht : (pc : Int) + off = Int.ofNat tgt) (k1 : x < y → JG xs d mi A S (tgt, lv, st, h)) (k2 : ¬ (x < y) → JG xs d mi B S (pc + 3, lv, st, h)) : JG xs d mi (if x < y then A else B) S (pc, lv, .int y :: .int x :: st, h) := g_icJ hp ht (cb_t (cd := .lt) (x := x) (y := y) (P := x < y) Iff.rfl).1 (cb_t (cd := .lt) (x := x) (y := y) (P := x < y) Iff.rfl).2 k1 k2
theorem g_if_ge {dec : Decidable (x < 0)} (hp : jP mi pc = some (.ifCond .ge off, 3)) (ht : (pc : Int) + off = Int.ofNat tgt) (k1 : x < 0 → JG xs d mi A S (pc + 3, lv, st, h)) (k2 : ¬ (x < 0) → JG xs d mi B S (tgt, lv, st, h)) : JG xs d mi (if x < 0 then A else B) S (pc, lv, .int x :: st, h) := g_ifF hp ht (fun q => (cb_t (cd := .ge) (x := x) (y := 0) (P := ¬ (x < 0)) Iff.rfl).2 (fun z => z q)) (fun q => (cb_t (cd := .ge) (x := x) (y := 0) (P := ¬ (x < 0)) Iff.rfl).1 q) k1 k2
theorem g_ic_ge {dec : Decidable (x < y)} (hp : jP mi pc = some (.if_icmp .ge off, 3)) (ht : (pc : Int) + off = Int.ofNat tgt) (k1 : x < y → JG xs d mi A S (pc + 3, lv, st, h)) (k2 : ¬ (x < y) → JG xs d mi B S (tgt, lv, st, h)) : JG xs d mi (if x < y then A else B) S (pc, lv, .int y :: .int x :: st, h) := g_icF hp ht (fun q => (cb_t (cd := .ge) (x := x) (y := y) (P := ¬ (x < y)) Iff.rfl).2 (fun z => z q)) (fun q => (cb_t (cd := .ge) (x := x) (y := y) (P := ¬ (x < y)) Iff.rfl).1 q) k1 k2
theorem g_if_gt {dec : Decidable (0 < x)} (hp : jP mi pc = some (.ifCond .gt off, 3)) (ht : (pc : Int) + off = Int.ofNat tgt) (k1 : 0 < x → JG xs d mi A S (tgt, lv, st, h)) (k2 : ¬ (0 < x) → JG xs d mi B S (pc + 3, lv, st, h)) : JG xs d mi (if 0 < x then A else B) S (pc, lv, .int x :: st, h) := g_ifJ hp ht (cb_t (cd := .gt) (x := x) (y := 0) (P := 0 < x) Iff.rfl).1 (cb_t (cd := .gt) (x := x) (y := 0) (P := 0 < x) Iff.rfl).2 k1 k2
theorem g_ic_gt {dec : Decidable (y < x)} (hp : jP mi pc = some (.if_icmp .gt off, 3)) (ht : (pc : Int) + off = Int.ofNat tgt) (k1 : y < x → JG xs d mi A S (tgt, lv, st, h)) (k2 : ¬ (y < x) → JG xs d mi B S (pc + 3, lv, st, h)) : JG xs d mi (if y < x then A else B) S (pc, lv, .int y :: .int x :: st, h) := g_icJ hp ht (cb_t (cd := .gt) (x := x) (y := y) (P := y < x) Iff.rfl).1 (cb_t (cd := .gt) (x := x) (y := y) (P := y < x) Iff.rfl).2 k1 k2
theorem g_if_le {dec : Decidable (0 < x)} (hp : jP mi pc = some (.ifCond .le off, 3)) (ht : (pc : Int) + off = Int.ofNat tgt) (k1 : 0 < x → JG xs d mi A S (pc + 3, lv, st, h)) (k2 : ¬ (0 < x) → JG xs d mi B S (tgt, lv, st, h)) : JG xs d mi (if 0 < x then A else B) S (pc, lv, .int x :: st, h) := g_ifF hp ht (fun q => (cb_t (cd := .le) (x := x) (y := 0) (P := ¬ (0 < x)) Iff.rfl).2 (fun z => z q)) (fun q => (cb_t (cd := .le) (x := x) (y := 0) (P := ¬ (0 < x)) Iff.rfl).1 q) k1 k2
theorem g_ic_le {dec : Decidable (y < x)} (hp : jP mi pc = some (.if_icmp .le off, 3)) (ht : (pc : Int) + off = Int.ofNat tgt) (k1 : y < x → JG xs d mi A S (pc + 3, lv, st, h)) (k2 : ¬ (y < x) → JG xs d mi B S (tgt, lv, st, h)) : JG xs d mi (if y < x then A else B) S (pc, lv, .int y :: .int x :: st, h) := g_icF hp ht (fun q => (cb_t (cd := .le) (x := x) (y := y) (P := ¬ (y < x)) Iff.rfl).2 (fun z => z q)) (fun q => (cb_t (cd := .le) (x := x) (y := y) (P := ¬ (y < x)) Iff.rfl).1 q) k1 k2
theorem g_cI {f : Int32 → Option β} {A : Option Int32} {D mj len : Nat} {as : List Value} {ins : Instr} {s s2 : List Value} (hp : jP mi pc = some (ins, len)) (hc : jsC ins mi (pc, lv, s, (jE0, M)) = some (.inr (mj, as, (pc + 3, lv, s2, (jE0, M))))) (hM : JG xs D mj A (fun x r => r = (some (.int x), (jE0, M))) (0, lv_args 0 as, [], (jE0, M))) (hD : D ≤ d) (g : ∀ x, A = some x → JG xs (d + 1) mi (f x) SB (pc + 3, lv, .int x :: s2, (jE0, M))) : JG xs (d + 1) mi (A.bind f) SB (pc, lv, s, (jE0, M)) := by
  intro y hy r hr
  cases hA : A with
  | none => rw [hA] at hy; cases hy
  | some x =>
    rw [hA] at hy
    exact JEv.call (jstep_C hp hc) ((hM x hA _ rfl).dp hD) (g x hA y hy r hr)
theorem g_wI {f : Int32 × JM → Option β} {A : Option (Int32 × JM)} {D mj len : Nat} {as : List Value} {ins : Instr} {s s2 : List Value} (hp : jP mi pc = some (ins, len)) (hc : jsC ins mi (pc, lv, s, (jE0, M)) = some (.inr (mj, as, (pc + 3, lv, s2, (jE0, M))))) (hM : JG xs D mj A (fun x r => r = (some (.int x.1), (jE0, x.2))) (0, lv_args 0 as, [], (jE0, M))) (hD : D ≤ d) (g : ∀ x M2, A = some (x, M2) → JG xs (d + 1) mi (f (x, M2)) SB (pc + 3, lv, .int x :: s2, (jE0, M2))) : JG xs (d + 1) mi (A.bind f) SB (pc, lv, s, (jE0, M)) := by
  intro y hy r hr
  cases hA : A with
  | none => rw [hA] at hy; cases hy
  | some x =>
    rw [hA] at hy
    exact JEv.call (jstep_C hp hc) ((hM x hA _ rfl).dp hD) (g x.1 x.2 hA y hy r hr)
theorem g_cL {f : Int64 → Option β} {A : Option Int64} {D mj len : Nat} {as : List Value} {ins : Instr} {s s2 : List Value} (hp : jP mi pc = some (ins, len)) (hc : jsC ins mi (pc, lv, s, (jE0, M)) = some (.inr (mj, as, (pc + 3, lv, s2, (jE0, M))))) (hM : JG xs D mj A (fun x r => r = (some (.long x), (jE0, M))) (0, lv_args 0 as, [], (jE0, M))) (hD : D ≤ d) (g : ∀ x, A = some x → JG xs (d + 1) mi (f x) SB (pc + 3, lv, .long x :: s2, (jE0, M))) : JG xs (d + 1) mi (A.bind f) SB (pc, lv, s, (jE0, M)) := by
  intro y hy r hr
  cases hA : A with
  | none => rw [hA] at hy; cases hy
  | some x =>
    rw [hA] at hy
    exact JEv.call (jstep_C hp hc) ((hM x hA _ rfl).dp hD) (g x hA y hy r hr)
theorem g_wL {f : Int64 × JM → Option β} {A : Option (Int64 × JM)} {D mj len : Nat} {as : List Value} {ins : Instr} {s s2 : List Value} (hp : jP mi pc = some (ins, len)) (hc : jsC ins mi (pc, lv, s, (jE0, M)) = some (.inr (mj, as, (pc + 3, lv, s2, (jE0, M))))) (hM : JG xs D mj A (fun x r => r = (some (.long x.1), (jE0, x.2))) (0, lv_args 0 as, [], (jE0, M))) (hD : D ≤ d) (g : ∀ x M2, A = some (x, M2) → JG xs (d + 1) mi (f (x, M2)) SB (pc + 3, lv, .long x :: s2, (jE0, M2))) : JG xs (d + 1) mi (A.bind f) SB (pc, lv, s, (jE0, M)) := by
  intro y hy r hr
  cases hA : A with
  | none => rw [hA] at hy; cases hy
  | some x =>
    rw [hA] at hy
    exact JEv.call (jstep_C hp hc) ((hM x hA _ rfl).dp hD) (g x.1 x.2 hA y hy r hr)
theorem g_cR {f : Nat → Option β} {A : Option Nat} {D mj len : Nat} {as : List Value} {ins : Instr} {s s2 : List Value} (hp : jP mi pc = some (ins, len)) (hc : jsC ins mi (pc, lv, s, (jE0, M)) = some (.inr (mj, as, (pc + 3, lv, s2, (jE0, M))))) (hM : JG xs D mj A (fun x r => r = (some (.ref x), (jE0, M))) (0, lv_args 0 as, [], (jE0, M))) (hD : D ≤ d) (g : ∀ x, A = some x → JG xs (d + 1) mi (f x) SB (pc + 3, lv, .ref x :: s2, (jE0, M))) : JG xs (d + 1) mi (A.bind f) SB (pc, lv, s, (jE0, M)) := by
  intro y hy r hr
  cases hA : A with
  | none => rw [hA] at hy; cases hy
  | some x =>
    rw [hA] at hy
    exact JEv.call (jstep_C hp hc) ((hM x hA _ rfl).dp hD) (g x hA y hy r hr)
theorem g_wR {f : Nat × JM → Option β} {A : Option (Nat × JM)} {D mj len : Nat} {as : List Value} {ins : Instr} {s s2 : List Value} (hp : jP mi pc = some (ins, len)) (hc : jsC ins mi (pc, lv, s, (jE0, M)) = some (.inr (mj, as, (pc + 3, lv, s2, (jE0, M))))) (hM : JG xs D mj A (fun x r => r = (some (.ref x.1), (jE0, x.2))) (0, lv_args 0 as, [], (jE0, M))) (hD : D ≤ d) (g : ∀ x M2, A = some (x, M2) → JG xs (d + 1) mi (f (x, M2)) SB (pc + 3, lv, .ref x :: s2, (jE0, M2))) : JG xs (d + 1) mi (A.bind f) SB (pc, lv, s, (jE0, M)) := by
  intro y hy r hr
  cases hA : A with
  | none => rw [hA] at hy; cases hy
  | some x =>
    rw [hA] at hy
    exact JEv.call (jstep_C hp hc) ((hM x hA _ rfl).dp hD) (g x.1 x.2 hA y hy r hr)
theorem g_wV {f : JM → Option β} {A : Option JM} {D mj len : Nat} {as : List Value} {ins : Instr} {s s2 : List Value} (hp : jP mi pc = some (ins, len)) (hc : jsC ins mi (pc, lv, s, (jE0, M)) = some (.inr (mj, as, (pc + 3, lv, s2, (jE0, M))))) (hM : JG xs D mj A (fun x r => r = (none, (jE0, x))) (0, lv_args 0 as, [], (jE0, M))) (hD : D ≤ d) (g : ∀ M2, JG xs (d + 1) mi (f M2) SB (pc + 3, lv, s2, (jE0, M2))) : JG xs (d + 1) mi (A.bind f) SB (pc, lv, s, (jE0, M)) := by
  intro y hy r hr
  cases hA : A with
  | none => rw [hA] at hy; cases hy
  | some x =>
    rw [hA] at hy
    exact JEv.call (jstep_C hp hc) ((hM x hA _ rfl).dp hD) (g x y hy r hr)
theorem g_cV {f : Unit → Option β} {A : Option Unit} {D mj len : Nat} {as : List Value} {ins : Instr} {s s2 : List Value} (hp : jP mi pc = some (ins, len)) (hc : jsC ins mi (pc, lv, s, (jE0, M)) = some (.inr (mj, as, (pc + 3, lv, s2, (jE0, M))))) (hM : JG xs D mj A (fun _ r => r = (none, (jE0, M))) (0, lv_args 0 as, [], (jE0, M))) (hD : D ≤ d) (g : JG xs (d + 1) mi (f ()) SB (pc + 3, lv, s2, (jE0, M))) : JG xs (d + 1) mi (A.bind f) SB (pc, lv, s, (jE0, M)) := by
  intro y hy r hr
  cases hA : A with
  | none => rw [hA] at hy; cases hy
  | some x =>
    rw [hA] at hy
    exact JEv.call (jstep_C hp hc) ((hM x hA _ rfl).dp hD) (g y hy r hr)
/-- calls upon an object, upon a String: the kinds that the machine asks for -/
theorem jc_v {mj : Nat} {ws : List Nat} {o : Nat} {s r : List Value} (hC : jC (jOC mi) idx = some (0, mj, ws)) (hd : s.drop (jNA mj) = .ref o :: r) (hk : jrv jE0 o (jOC mj) = true) (hb : (Nat.ble (jw r) 8 && Nat.beq (s.take (jNA mj)).length (jNA mj) && Nat.ble (jw (.ref o :: (s.take (jNA mj)).reverse)) (jML mj)) = true) : jsC (.invokevirtual idx) mi (pc, lv, s, (jE0, M)) = some (.inr (mj, .ref o :: (s.take (jNA mj)).reverse, (pc + 3, lv, r, (jE0, M)))) := by
  unfold jsC
  simp only [hC, hd, hk, Bool.true_and]
  rw [hb]
  rfl
theorem jc_s {mj k : Nat} {ws : List Nat} {s : List Value} (hC : jC (jOC mi) idx = some (k, mj, ws)) (hb : ((Nat.beq k 1 || Nat.beq k 3) && Nat.ble (jw (s.drop (jNA mj))) 8 && Nat.beq (s.take (jNA mj)).length (jNA mj) && Nat.ble (jw (s.take (jNA mj)).reverse) (jML mj)) = true) : jsC (.invokestatic idx) mi (pc, lv, s, h) = some (.inr (mj, (s.take (jNA mj)).reverse, (pc + 3, lv, s.drop (jNA mj), h))) := by
  unfold jsC
  simp only [hC]
  rw [hb]
  rfl
theorem jv_o {oc : Nat} (h : jok jE0 o oc = true) (h7 : Nat.ble oc 7 = true) : jrv jE0 o oc = true := by
  unfold jrv; rw [h7]; exact h
theorem jv_s {oc : Nat} (h : jisS o = true) (h7 : Nat.ble oc 7 = false) (h10 : Nat.beq oc 10 = true) : jrv jE0 o oc = true := by
  unfold jrv; rw [h7, h10]; exact h
theorem g_weakk {lv lv2 : JL} (hs : jsub lv lv2) (k1 : List Nat) (h1 : lv.map Prod.fst = k1) (n1 : k1.Nodup) (k2 : List Nat) (h2 : lv2.map Prod.fst = k2) (n2 : k2.Nodup) (g : JG xs d mi A S (pc, lv, st, h)) : JG xs d mi A S (pc, lv2, st, h) := g_weak hs (by unfold jND; rw [h1]; exact n1) (by unfold jND; rw [h2]; exact n2) g
end GC
