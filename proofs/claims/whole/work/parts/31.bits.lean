/-! PURE: bits and rows -/
def bt (s : Int32) (k : Nat) : Bool := s.toBitVec.getLsbD k
def B (k : Nat) : Int32 := (1 : Int32) <<< (N k &&& (31 : Int32))
def b2 (b : Bool) : Int32 := if b then 1 else 0
theorem bt_ext {s t : Int32} (h : ∀ k, k < 32 → bt s k = bt t k) : s = t := by
  apply Int32.toBitVec_inj.mp
  exact BitVec.eq_of_getLsbD_eq (fun i hi => h i hi)
theorem bt_or {s t : Int32} {k : Nat} : bt (s ||| t) k = (bt s k || bt t k) := by
  unfold bt; rw [Int32.toBitVec_or, BitVec.getLsbD_or]
theorem bt_and {s t : Int32} {k : Nat} : bt (s &&& t) k = (bt s k && bt t k) := by
  unfold bt; rw [Int32.toBitVec_and, BitVec.getLsbD_and]
theorem bt_xor {s t : Int32} {k : Nat} : bt (s ^^^ t) k = (bt s k ^^ bt t k) := by
  unfold bt; rw [Int32.toBitVec_xor, BitVec.getLsbD_xor]
theorem bt_m1 {k : Nat} (h : k < 32) : bt (-1) k = true := by
  have : (List.range 32).all (fun k => bt (-1) k) = true := by decide +kernel
  exact List.all_eq_true.mp this k (List.mem_range.mpr h)
theorem bt_not {s : Int32} {k : Nat} (h : k < 32) : bt (s ^^^ (-1)) k = !(bt s k) := by
  rw [bt_xor, bt_m1 h, Bool.xor_true]
theorem bt_zero {k : Nat} : bt 0 k = false := by
  unfold bt
  show (0#32).getLsbD k = false
  exact BitVec.getLsbD_zero
theorem bt_ge {s : Int32} {k : Nat} (h : 32 ≤ k) : bt s k = false := BitVec.getLsbD_of_ge _ _ h
theorem B_all : (List.range 31).all (fun k => (List.range 32).all (fun j => bt (B k) j == decide (j = k))) = true := by decide +kernel
theorem bt_B {k j : Nat} (hk : k < 31) : bt (B k) j = decide (j = k) := by
  by_cases hj : j < 32
  · have h := List.all_eq_true.mp (List.all_eq_true.mp B_all k (List.mem_range.mpr hk)) j (List.mem_range.mpr hj)
    exact eq_of_beq h
  · rw [bt_ge (by omega)]
    exact (decide_eq_false (by omega)).symm
theorem sh_all : (List.range 31).all (fun k => decide (((N k &&& (31 : Int32)).toBitVec.smod 32).toNat = k)) = true := by decide +kernel
theorem sh_ok {k : Nat} (hk : k < 31) : ((N k &&& (31 : Int32)).toBitVec.smod 32).toNat = k := of_decide_eq_true (List.all_eq_true.mp sh_all k (List.mem_range.mpr hk))
theorem has_eq {s : Int32} {k : Nat} (hk : k < 31) : ((s >>> (N k &&& (31 : Int32))) &&& (1 : Int32)) = b2 (bt s k) := by
  apply bt_ext
  intro i hi
  rw [bt_and]
  have h1 : bt (1 : Int32) i = decide (i = 0) := by
    have := bt_B (k := 0) (j := i) (by decide)
    rw [show B 0 = 1 by decide] at this
    exact this
  rw [h1]
  by_cases h0 : i = 0
  · subst h0
    have h2 : bt (s >>> (N k &&& (31 : Int32))) 0 = bt s k := by
      unfold bt
      rw [Int32.toBitVec_shiftRight, BitVec.sshiftRight_eq', sh_ok hk, BitVec.getLsbD_sshiftRight]
      simp
      omega
    rw [h2]
    unfold b2
    cases bt s k
    · rw [Bool.false_and]; exact bt_zero.symm
    · rfl
  · rw [decide_eq_false h0, Bool.and_false]
    unfold b2
    cases bt s k
    · exact bt_zero.symm
    · show false = bt 1 i
      rw [h1, decide_eq_false h0]
theorem b2_0 {b : Bool} : b2 b = 0 ↔ b = false := by cases b <;> decide
theorem b2_1 {b : Bool} : b2 b = 1 ↔ b = true := by cases b <;> decide
/-- bit, has, lowest of the class -/
theorem bit_N {k : Nat} (hk : k < 31) : f100 (N k) = some (B k) := by
  unfold f100
  rw [if_neg (N_neg (by omega)), if_pos (show N k < (31 : Int32) from (N_lt (b := 31) (by omega) (by decide)).mpr hk)]
  rfl
theorem bit_neg {x : Int32} (h : x < 0) : f100 x = some 0 := by
  unfold f100; rw [if_pos h]
theorem has_N {s : Int32} {k : Nat} (hk : k < 31) : f101 s (N k) = some (b2 (bt s k)) := by
  unfold f101
  rw [if_neg (N_neg (by omega)), if_pos (show N k < (31 : Int32) from (N_lt (b := 31) (by omega) (by decide)).mpr hk), has_eq hk]
  cases bt s k <;> rfl
theorem has_neg {s x : Int32} (h : x < 0) : f101 s x = some 0 := by
  unfold f101; rw [if_pos h]
/-- rows -/
def Row (o a L : Nat) : Prop := jpt o 0 = a ∧ jlen jE0 a = L ∧ L < 1000
theorem get_N {o a L k : Nat} {M : JM} (h : Row o a L) (hk : k < 2147483648) : f42 M o (N k) = some (if k < L then M a k else -1) := by
  obtain ⟨h1, h2, h3⟩ := h
  unfold f42
  rw [h1, h2, if_neg (N_neg hk)]
  by_cases q : k < L
  · rw [if_pos ((N_lt hk (by omega)).mpr q), if_pos q, jla_ok (by omega) hk]; rfl
  · rw [if_neg (fun z => q ((N_lt hk (by omega)).mp z)), if_neg q]
theorem get_in {o a L k : Nat} {M : JM} (h : Row o a L) (hk : k < L) : f42 M o (N k) = some (M a k) := by
  rw [get_N h (Nat.lt_trans hk (Nat.lt_trans h.2.2 (by decide))), if_pos hk]
theorem get_neg {o : Nat} {x : Int32} {M : JM} (h : x < 0) : f42 M o x = some (-1) := by
  unfold f42; rw [if_pos h]
theorem set_N {o a L k : Nat} {v : Int32} {M : JM} (h : Row o a L) (hk : k < 2147483648) : f43 o (N k) v M = some (if k < L then jup M a k v else M) := by
  obtain ⟨h1, h2, h3⟩ := h
  unfold f43
  rw [h1, h2, if_neg (N_neg hk)]
  by_cases q : k < L
  · rw [if_pos ((N_lt hk (by omega)).mpr q), if_pos q, jsa_ok (by omega) hk]; rfl
  · rw [if_neg (fun z => q ((N_lt hk (by omega)).mp z)), if_neg q]
theorem set_in {o a L k : Nat} {v : Int32} {M : JM} (h : Row o a L) (hk : k < L) : f43 o (N k) v M = some (jup M a k v) := by
  rw [set_N h (Nat.lt_trans hk (Nat.lt_trans h.2.2 (by decide))), if_pos hk]
theorem set_neg {o : Nat} {x v : Int32} {M : JM} (h : x < 0) : f43 o x v M = some M := by
  unfold f43; rw [if_pos h]
def jcp (M : JM) (a b n : Nat) : JM := fun o k => if o = a ∧ k < n then M b k else M o k
def jfl (M : JM) (a n : Nat) (v : Int32) : JM := fun o k => if o = a ∧ k < n then v else M o k
theorem itr_cp {a b : Nat} {M : JM} (hab : a ≠ b) : ∀ (c : Nat), itr (fun k (X : JM) => jup X a k (X b k)) 0 c M = jcp M a b c
  | 0 => by
    funext o k
    show M o k = if o = a ∧ k < 0 then _ else M o k
    rw [if_neg (by omega)]
  | c + 1 => by
    rw [itr_succ, itr_cp hab c, Nat.zero_add]
    funext o k
    rw [jup_at]
    show (if o = a ∧ k = c then (if b = a ∧ c < c then _ else M b c) else if o = a ∧ k < c then M b k else M o k) = if o = a ∧ k < c + 1 then M b k else M o k
    by_cases h1 : o = a ∧ k = c
    · rw [if_pos h1, if_neg (fun q => hab q.1.symm), if_pos ⟨h1.1, by omega⟩, h1.2]
    · rw [if_neg h1]
      by_cases h2 : o = a ∧ k < c
      · rw [if_pos h2, if_pos ⟨h2.1, by omega⟩]
      · rw [if_neg h2, if_neg (fun q => by omega)]
theorem copy_ok {o a o2 b L : Nat} {M : JM} (h : Row o a L) (h2 : Row o2 b L) (hab : a ≠ b) : f46 o o2 M = some (jcp M a b L) := by
  unfold f46
  have hL := h.2.2
  have q := (loop_run (F := fun n k X => f46_2 n o o2 (N k) X) (K := L) (f := fun k (X : JM) => jup X a k (X b k)) (out := fun X => some X) (P := fun _ _ => True) (fun n k s hk _ => ⟨?_, trivial⟩) (fun n s _ => ?_) L 0 M 1000 (by omega) hL trivial).1
  · rw [itr_cp hab] at q; exact q
  · show f46_2 (n + 1) o o2 (N k) s = f46_2 n o o2 (N (k + 1)) (jup s a k (s b k))
    rw [f46_2, h.1, h.2.1, if_pos ((N_lt (by omega) (by omega)).mpr hk), get_in h2 hk]
    show (jsa a (N k) (s b k) s).bind _ = _
    rw [jsa_ok (by rw [h.2.1]; exact hk) (by omega)]
    show f46_2 n o o2 (N k + 1) _ = _
    rw [N_succ]
  · show f46_2 (n + 1) o o2 (N L) s = some s
    rw [f46_2, h.1, h.2.1, if_neg (fun q => Nat.lt_irrefl _ ((N_lt (by omega) (by omega)).mp q))]
theorem itr_fl {a : Nat} {v : Int32} {M : JM} : ∀ (c : Nat), itr (fun k (X : JM) => jup X a k v) 0 c M = jfl M a c v
  | 0 => by
    funext o k
    show M o k = if o = a ∧ k < 0 then _ else M o k
    rw [if_neg (by omega)]
  | c + 1 => by
    rw [itr_succ, itr_fl c, Nat.zero_add]
    funext o k
    rw [jup_at]
    show (if o = a ∧ k = c then v else if o = a ∧ k < c then v else M o k) = if o = a ∧ k < c + 1 then v else M o k
    by_cases h1 : o = a ∧ k = c
    · rw [if_pos h1, if_pos ⟨h1.1, by omega⟩]
    · rw [if_neg h1]
      by_cases h2 : o = a ∧ k < c
      · rw [if_pos h2, if_pos ⟨h2.1, by omega⟩]
      · rw [if_neg h2, if_neg (fun q => by omega)]
theorem fill_ok {o a L : Nat} {v : Int32} {M : JM} (h : Row o a L) : f45 o v M = some (jfl M a L v) := by
  unfold f45
  have hL := h.2.2
  have q := (loop_run (F := fun n k X => f45_2 n o v (N k) X) (K := L) (f := fun k (X : JM) => jup X a k v) (out := fun X => some X) (P := fun _ _ => True) (fun n k s hk _ => ⟨?_, trivial⟩) (fun n s _ => ?_) L 0 M 1000 (by omega) hL trivial).1
  · rw [itr_fl] at q; exact q
  · show f45_2 (n + 1) o v (N k) s = f45_2 n o v (N (k + 1)) (jup s a k v)
    rw [f45_2, h.1, h.2.1, if_pos ((N_lt (by omega) (by omega)).mpr hk), jsa_ok (by rw [h.2.1]; exact hk) (by omega)]
    show f45_2 n o v (N k + 1) _ = _
    rw [N_succ]
  · show f45_2 (n + 1) o v (N L) s = some s
    rw [f45_2, h.1, h.2.1, if_neg (fun q => Nat.lt_irrefl _ ((N_lt (by omega) (by omega)).mp q))]
