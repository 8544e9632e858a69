section G2
theorem g_mx : Int32.maxValue.toInt = 2147483647 := rfl
theorem g_mn : Int32.minValue.toInt = -2147483648 := rfl
variable {d y pc pc1 len k idx z ns a b a0 ci t : Nat} {lv lv1 : q_L} {st r as : List Value} {M M1 : g_M} {ins : Instr} {Q : Option Value → g_M → Prop} {v w : Value} {x u n : Int} {X Y : Int64}
def g_and (x u : Int) : Int := (Int32.ofInt x &&& Int32.ofInt u).toInt
def g_or (x u : Int) : Int := (Int32.ofInt x ||| Int32.ofInt u).toInt
def g_xor (x u : Int) : Int := (Int32.ofInt x ^^^ Int32.ofInt u).toInt
def g_shl (x u : Int) : Int := (Int32.ofInt x <<< (Int32.ofInt u &&& 31)).toInt
def g_shr (x u : Int) : Int := (Int32.ofInt x >>> (Int32.ofInt u &&& 31)).toInt
/-- the low byte, with sign -/
def g_w8 (x : Int) : Int := x.bmod 256
theorem g_w8_R (x : Int) : -128 ≤ g_w8 x ∧ g_w8 x ≤ 127 := by
  unfold g_w8
  rw [Int.bmod_def]
  split <;> omega
theorem g_w8_of {x : Int} (h : -128 ≤ x) (h2 : x ≤ 127) : g_w8 x = x := by
  unfold g_w8
  rw [Int.bmod_def]
  split <;> omega
theorem g_w8_eq (x : Int) : (Int32.ofInt x).toInt8.toInt32 = Int32.ofInt (g_w8 x) := by
  rw [Int32.toInt8_ofInt, ← Int32.ofInt_int8ToInt, Int8.toInt_ofInt]
  rfl
theorem r_iand (hd : decode (q_code y) pc = .ok (.iand, 1)) (kk : g_Run d y (pc + 1) lv (g_n (g_and x u) :: st) M Q) : g_Run d y pc lv (g_n u :: g_n x :: st) M Q :=
  g_st0 hd rfl rfl (fun lv' E _ _ => by
    show some (pc + 1, lv', Value.int (Int32.ofInt x &&& Int32.ofInt u) :: st, E, 0, 0) = _
    unfold g_and
    rw [g_n_toInt]) kk
theorem r_ior (hd : decode (q_code y) pc = .ok (.ior, 1)) (kk : g_Run d y (pc + 1) lv (g_n (g_or x u) :: st) M Q) : g_Run d y pc lv (g_n u :: g_n x :: st) M Q :=
  g_st0 hd rfl rfl (fun lv' E _ _ => by
    show some (pc + 1, lv', Value.int (Int32.ofInt x ||| Int32.ofInt u) :: st, E, 0, 0) = _
    unfold g_or
    rw [g_n_toInt]) kk
theorem r_ixor (hd : decode (q_code y) pc = .ok (.ixor, 1)) (kk : g_Run d y (pc + 1) lv (g_n (g_xor x u) :: st) M Q) : g_Run d y pc lv (g_n u :: g_n x :: st) M Q :=
  g_st0 hd rfl rfl (fun lv' E _ _ => by
    show some (pc + 1, lv', Value.int (Int32.ofInt x ^^^ Int32.ofInt u) :: st, E, 0, 0) = _
    unfold g_xor
    rw [g_n_toInt]) kk
theorem r_ishl (hd : decode (q_code y) pc = .ok (.ishl, 1)) (kk : g_Run d y (pc + 1) lv (g_n (g_shl x u) :: st) M Q) : g_Run d y pc lv (g_n u :: g_n x :: st) M Q :=
  g_st0 hd rfl rfl (fun lv' E _ _ => by
    show some (pc + 1, lv', Value.int (Int32.ofInt x <<< (Int32.ofInt u &&& 31)) :: st, E, 0, 0) = _
    unfold g_shl
    rw [g_n_toInt]) kk
theorem r_ishr (hd : decode (q_code y) pc = .ok (.ishr, 1)) (kk : g_Run d y (pc + 1) lv (g_n (g_shr x u) :: st) M Q) : g_Run d y pc lv (g_n u :: g_n x :: st) M Q :=
  g_st0 hd rfl rfl (fun lv' E _ _ => by
    show some (pc + 1, lv', Value.int (Int32.ofInt x >>> (Int32.ofInt u &&& 31)) :: st, E, 0, 0) = _
    unfold g_shr
    rw [g_n_toInt]) kk
theorem g_ofne0 (hu : g_InR u) (h : 0 < u) : (!(Int32.ofInt u == 0)) = true := by
  have h1 : ¬ Int32.ofInt u = 0 := by
    rw [g_of0, g_ofInj hu g_R0]
    omega
  simpa using h1
theorem g_tdiv (hx : g_InR x) (hu : g_InR u) (h : 0 < u) : Int32.ofInt (x.tdiv u) = Int32.ofInt x / Int32.ofInt u :=
  Int32.ofInt_tdiv (by rw [g_mn]; exact hx.1) (by rw [g_mx]; exact hx.2) (by rw [g_mn]; exact hu.1) (by rw [g_mx]; exact hu.2)
theorem r_idiv (hd : decode (q_code y) pc = .ok (.idiv, 1)) (hx : g_InR x) (hu : g_InR u) (h : 0 < u) (kk : g_Run d y (pc + 1) lv (g_n (x.tdiv u) :: st) M Q) : g_Run d y pc lv (g_n u :: g_n x :: st) M Q :=
  g_st0 hd rfl rfl (fun lv' E _ _ => by
    show q_if (!(Int32.ofInt u == 0)) (some (pc + 1, lv', Value.int (Int32.ofInt x / Int32.ofInt u) :: st, E, 0, 0)) = _
    rw [g_ofne0 hu h, ← g_tdiv hx hu h]
    rfl) kk
theorem r_irem (hd : decode (q_code y) pc = .ok (.irem, 1)) (hx : g_InR x) (hu : g_InR u) (h : 0 < u) (kk : g_Run d y (pc + 1) lv (g_n (x.tmod u) :: st) M Q) : g_Run d y pc lv (g_n u :: g_n x :: st) M Q :=
  g_st0 hd rfl rfl (fun lv' E _ _ => by
    show q_if (!(Int32.ofInt u == 0)) (some (pc + 1, lv', Value.int (Int32.ofInt x - Int32.ofInt x / Int32.ofInt u * Int32.ofInt u) :: st, E, 0, 0)) = _
    rw [g_ofne0 hu h, ← g_tdiv hx hu h, ← Int32.ofInt_mul, ← Int32.ofInt_sub, show x - x.tdiv u * u = x.tmod u by rw [Int.tmod_def, Int.mul_comm]]
    rfl) kk
theorem r_i2b (hd : decode (q_code y) pc = .ok (.i2b, 1)) (kk : g_Run d y (pc + 1) lv (g_n (g_w8 x) :: st) M Q) : g_Run d y pc lv (g_n x :: st) M Q :=
  g_st0 hd rfl rfl (fun lv' E _ _ => by
    show some (pc + 1, lv', Value.int (Int32.ofInt x).toInt8.toInt32 :: st, E, 0, 0) = _
    rw [g_w8_eq]
    rfl) kk
/-! longs -/
def g_lc (X Y : Int64) : Int := (lg_cmp X Y).toInt
theorem r_lcmp (hd : decode (q_code y) pc = .ok (.lcmp, 1)) (kk : g_Run d y (pc + 1) lv (g_n (g_lc X Y) :: st) M Q) : g_Run d y pc lv (.long Y :: .long X :: st) M Q :=
  g_st0 hd rfl rfl (fun lv' E _ _ => by
    show some (pc + 1, lv', Value.int (lg_cmp X Y) :: st, E, 0, 0) = _
    unfold g_lc
    rw [g_n_toInt]) kk
theorem r_ladd (hd : decode (q_code y) pc = .ok (.ladd, 1)) (kk : g_Run d y (pc + 1) lv (.long (X + Y) :: st) M Q) : g_Run d y pc lv (.long Y :: .long X :: st) M Q := g_st0 hd rfl rfl (fun _ _ _ _ => rfl) kk
theorem r_land (hd : decode (q_code y) pc = .ok (.land, 1)) (kk : g_Run d y (pc + 1) lv (.long (X &&& Y) :: st) M Q) : g_Run d y pc lv (.long Y :: .long X :: st) M Q := g_st0 hd rfl rfl (fun _ _ _ _ => rfl) kk
theorem r_lor (hd : decode (q_code y) pc = .ok (.lor, 1)) (kk : g_Run d y (pc + 1) lv (.long (X ||| Y) :: st) M Q) : g_Run d y pc lv (.long Y :: .long X :: st) M Q := g_st0 hd rfl rfl (fun _ _ _ _ => rfl) kk
theorem r_lxor (hd : decode (q_code y) pc = .ok (.lxor, 1)) (kk : g_Run d y (pc + 1) lv (.long (X ^^^ Y) :: st) M Q) : g_Run d y pc lv (.long Y :: .long X :: st) M Q := g_st0 hd rfl rfl (fun _ _ _ _ => rfl) kk
theorem r_lshl (hd : decode (q_code y) pc = .ok (.lshl, 1)) (kk : g_Run d y (pc + 1) lv (.long (X <<< ((Int32.ofInt u).toInt64 &&& 63)) :: st) M Q) : g_Run d y pc lv (g_n u :: .long X :: st) M Q := g_st0 hd rfl rfl (fun _ _ _ _ => rfl) kk
theorem r_lshr (hd : decode (q_code y) pc = .ok (.lshr, 1)) (kk : g_Run d y (pc + 1) lv (.long (X >>> ((Int32.ofInt u).toInt64 &&& 63)) :: st) M Q) : g_Run d y pc lv (g_n u :: .long X :: st) M Q := g_st0 hd rfl rfl (fun _ _ _ _ => rfl) kk
theorem r_i2l (hd : decode (q_code y) pc = .ok (.i2l, 1)) (hx : g_InR x) (kk : g_Run d y (pc + 1) lv (.long (Int64.ofInt x) :: st) M Q) : g_Run d y pc lv (g_n x :: st) M Q :=
  g_st0 hd rfl rfl (fun lv' E _ _ => by
    show some (pc + 1, lv', Value.long (Int32.ofInt x).toInt64 :: st, E, 0, 0) = _
    rw [Int32.toInt64_ofInt (by rw [g_mn]; exact hx.1) (by rw [g_mx]; exact hx.2)]) kk
theorem r_l2i (hd : decode (q_code y) pc = .ok (.l2i, 1)) (kk : g_Run d y (pc + 1) lv (g_n X.toInt32.toInt :: st) M Q) : g_Run d y pc lv (.long X :: st) M Q :=
  g_st0 hd rfl rfl (fun lv' E _ _ => by
    show some (pc + 1, lv', Value.int X.toInt32 :: st, E, 0, 0) = _
    rw [g_n_toInt]) kk
/-! the stack -/
theorem r_dup (hd : decode (q_code y) pc = .ok (.dup, 1)) (hv : (v.category == 1) = true) (kk : g_Run d y (pc + 1) lv (v :: v :: st) M Q) : g_Run d y pc lv (v :: st) M Q :=
  g_st0 hd rfl rfl (fun lv' E _ _ => by
    show q_if (v.category == 1) _ = _
    rw [hv]
    rfl) kk
theorem r_pop (hd : decode (q_code y) pc = .ok (.pop, 1)) (hv : (v.category == 1) = true) (kk : g_Run d y (pc + 1) lv st M Q) : g_Run d y pc lv (v :: st) M Q :=
  g_st0 hd rfl rfl (fun lv' E _ _ => by
    show q_if (v.category == 1) _ = _
    rw [hv]
    rfl) kk
theorem r_dup_x1 (hd : decode (q_code y) pc = .ok (.dup_x1, 1)) (hv : (v.category == 1) = true) (hw : (w.category == 1) = true) (kk : g_Run d y (pc + 1) lv (v :: w :: v :: st) M Q) : g_Run d y pc lv (v :: w :: st) M Q :=
  g_st0 hd rfl rfl (fun lv' E _ _ => by
    show q_if (v.category == 1) (q_if (w.category == 1) _) = _
    rw [hv, hw]
    rfl) kk
theorem r_dup2 (hd : decode (q_code y) pc = .ok (.dup2, 1)) (hv : (v.category == 1) = true) (hw : (w.category == 1) = true) (kk : g_Run d y (pc + 1) lv (v :: w :: v :: w :: st) M Q) : g_Run d y pc lv (v :: w :: st) M Q :=
  g_st0 hd rfl rfl (fun lv' E _ _ => by
    show q_if (v.category == 1) (q_if (w.category == 1) _) = _
    rw [hv, hw]
    rfl) kk
/-! branches -/
theorem r_goto {off : Int} (hd : decode (q_code y) pc = .ok (.goto off, 3)) (ht : q_tg pc off = some t) (kk : g_Run d y t lv st M Q) : g_Run d y pc lv st M Q :=
  g_st0 hd rfl rfl (fun lv' E _ _ => by
    show (q_tg pc off).bind _ = _
    rw [ht]
    rfl) kk
theorem g_if {cd : ClassFile.Cond} {off : Int} (hd : decode (q_code y) pc = .ok (.ifCond cd off, 3)) (ht : q_tg pc off = some t) (h1 : q_c1 cd (Int32.ofInt x) = true → g_Run d y t lv st M Q) (h2 : q_c1 cd (Int32.ofInt x) = false → g_Run d y (pc + 3) lv st M Q) : g_Run d y pc lv (g_n x :: st) M Q := by
  cases hc : q_c1 cd (Int32.ofInt x) with
  | true =>
    exact g_st0 hd rfl rfl (fun lv' E _ _ => by
      show (q_tg pc off).bind (fun t => some (bif q_c1 cd (Int32.ofInt x) then t else pc + 3, lv', st, E, 0, 0)) = _
      rw [ht, hc]
      rfl) (h1 hc)
  | false =>
    exact g_st0 hd rfl rfl (fun lv' E _ _ => by
      show (q_tg pc off).bind (fun t => some (bif q_c1 cd (Int32.ofInt x) then t else pc + 3, lv', st, E, 0, 0)) = _
      rw [ht, hc]
      rfl) (h2 hc)
theorem g_ic {cd : ClassFile.Cond} {off : Int} (hd : decode (q_code y) pc = .ok (.if_icmp cd off, 3)) (ht : q_tg pc off = some t) (h1 : q_c2 cd (Int32.ofInt x) (Int32.ofInt u) = true → g_Run d y t lv st M Q) (h2 : q_c2 cd (Int32.ofInt x) (Int32.ofInt u) = false → g_Run d y (pc + 3) lv st M Q) : g_Run d y pc lv (g_n u :: g_n x :: st) M Q := by
  cases hc : q_c2 cd (Int32.ofInt x) (Int32.ofInt u) with
  | true =>
    exact g_st0 hd rfl rfl (fun lv' E _ _ => by
      show (q_tg pc off).bind (fun t => some (bif q_c2 cd (Int32.ofInt x) (Int32.ofInt u) then t else pc + 3, lv', st, E, 0, 0)) = _
      rw [ht, hc]
      rfl) (h1 hc)
  | false =>
    exact g_st0 hd rfl rfl (fun lv' E _ _ => by
      show (q_tg pc off).bind (fun t => some (bif q_c2 cd (Int32.ofInt x) (Int32.ofInt u) then t else pc + 3, lv', st, E, 0, 0)) = _
      rw [ht, hc]
      rfl) (h2 hc)
theorem r_ic_eq {off : Int} (hd : decode (q_code y) pc = .ok (.if_icmp .eq off, 3)) (ht : q_tg pc off = some t) (hx : g_InR x) (hu : g_InR u) (h1 : x = u → g_Run d y t lv st M Q) (h2 : ¬ x = u → g_Run d y (pc + 3) lv st M Q) : g_Run d y pc lv (g_n u :: g_n x :: st) M Q :=
  g_ic hd ht (fun hc => h1 (by simp only [q_c2, decide_eq_true_eq, decide_eq_false_iff_not, Bool.not_eq_true', Bool.not_eq_false', g_ofInj hx hu] at hc; omega)) (fun hc => h2 (by simp only [q_c2, decide_eq_true_eq, decide_eq_false_iff_not, Bool.not_eq_true', Bool.not_eq_false', g_ofInj hx hu] at hc; omega))
theorem r_if_eq {off : Int} (hd : decode (q_code y) pc = .ok (.ifCond .eq off, 3)) (ht : q_tg pc off = some t) (hx : g_InR x) (h1 : x = 0 → g_Run d y t lv st M Q) (h2 : ¬ x = 0 → g_Run d y (pc + 3) lv st M Q) : g_Run d y pc lv (g_n x :: st) M Q :=
  g_if hd ht (fun hc => h1 (by simp only [q_c1, g_of0, decide_eq_true_eq, decide_eq_false_iff_not, Bool.not_eq_true', Bool.not_eq_false', g_ofInj hx g_R0] at hc; omega)) (fun hc => h2 (by simp only [q_c1, g_of0, decide_eq_true_eq, decide_eq_false_iff_not, Bool.not_eq_true', Bool.not_eq_false', g_ofInj hx g_R0] at hc; omega))
theorem r_ic_ne {off : Int} (hd : decode (q_code y) pc = .ok (.if_icmp .ne off, 3)) (ht : q_tg pc off = some t) (hx : g_InR x) (hu : g_InR u) (h1 : ¬ x = u → g_Run d y t lv st M Q) (h2 : x = u → g_Run d y (pc + 3) lv st M Q) : g_Run d y pc lv (g_n u :: g_n x :: st) M Q :=
  g_ic hd ht (fun hc => h1 (by simp only [q_c2, decide_eq_true_eq, decide_eq_false_iff_not, Bool.not_eq_true', Bool.not_eq_false', g_ofInj hx hu] at hc; omega)) (fun hc => h2 (by simp only [q_c2, decide_eq_true_eq, decide_eq_false_iff_not, Bool.not_eq_true', Bool.not_eq_false', g_ofInj hx hu] at hc; omega))
theorem r_if_ne {off : Int} (hd : decode (q_code y) pc = .ok (.ifCond .ne off, 3)) (ht : q_tg pc off = some t) (hx : g_InR x) (h1 : ¬ x = 0 → g_Run d y t lv st M Q) (h2 : x = 0 → g_Run d y (pc + 3) lv st M Q) : g_Run d y pc lv (g_n x :: st) M Q :=
  g_if hd ht (fun hc => h1 (by simp only [q_c1, g_of0, decide_eq_true_eq, decide_eq_false_iff_not, Bool.not_eq_true', Bool.not_eq_false', g_ofInj hx g_R0] at hc; omega)) (fun hc => h2 (by simp only [q_c1, g_of0, decide_eq_true_eq, decide_eq_false_iff_not, Bool.not_eq_true', Bool.not_eq_false', g_ofInj hx g_R0] at hc; omega))
theorem r_ic_lt {off : Int} (hd : decode (q_code y) pc = .ok (.if_icmp .lt off, 3)) (ht : q_tg pc off = some t) (hx : g_InR x) (hu : g_InR u) (h1 : x < u → g_Run d y t lv st M Q) (h2 : ¬ x < u → g_Run d y (pc + 3) lv st M Q) : g_Run d y pc lv (g_n u :: g_n x :: st) M Q :=
  g_ic hd ht (fun hc => h1 (by simp only [q_c2, decide_eq_true_eq, decide_eq_false_iff_not, Bool.not_eq_true', Bool.not_eq_false', g_ofLt hx hu] at hc; omega)) (fun hc => h2 (by simp only [q_c2, decide_eq_true_eq, decide_eq_false_iff_not, Bool.not_eq_true', Bool.not_eq_false', g_ofLt hx hu] at hc; omega))
theorem r_if_lt {off : Int} (hd : decode (q_code y) pc = .ok (.ifCond .lt off, 3)) (ht : q_tg pc off = some t) (hx : g_InR x) (h1 : x < 0 → g_Run d y t lv st M Q) (h2 : ¬ x < 0 → g_Run d y (pc + 3) lv st M Q) : g_Run d y pc lv (g_n x :: st) M Q :=
  g_if hd ht (fun hc => h1 (by simp only [q_c1, g_of0, decide_eq_true_eq, decide_eq_false_iff_not, Bool.not_eq_true', Bool.not_eq_false', g_ofLt hx g_R0] at hc; omega)) (fun hc => h2 (by simp only [q_c1, g_of0, decide_eq_true_eq, decide_eq_false_iff_not, Bool.not_eq_true', Bool.not_eq_false', g_ofLt hx g_R0] at hc; omega))
theorem r_ic_ge {off : Int} (hd : decode (q_code y) pc = .ok (.if_icmp .ge off, 3)) (ht : q_tg pc off = some t) (hx : g_InR x) (hu : g_InR u) (h1 : ¬ x < u → g_Run d y t lv st M Q) (h2 : x < u → g_Run d y (pc + 3) lv st M Q) : g_Run d y pc lv (g_n u :: g_n x :: st) M Q :=
  g_ic hd ht (fun hc => h1 (by simp only [q_c2, decide_eq_true_eq, decide_eq_false_iff_not, Bool.not_eq_true', Bool.not_eq_false', g_ofLe hu hx] at hc; omega)) (fun hc => h2 (by simp only [q_c2, decide_eq_true_eq, decide_eq_false_iff_not, Bool.not_eq_true', Bool.not_eq_false', g_ofLe hu hx] at hc; omega))
theorem r_if_ge {off : Int} (hd : decode (q_code y) pc = .ok (.ifCond .ge off, 3)) (ht : q_tg pc off = some t) (hx : g_InR x) (h1 : ¬ x < 0 → g_Run d y t lv st M Q) (h2 : x < 0 → g_Run d y (pc + 3) lv st M Q) : g_Run d y pc lv (g_n x :: st) M Q :=
  g_if hd ht (fun hc => h1 (by simp only [q_c1, g_of0, decide_eq_true_eq, decide_eq_false_iff_not, Bool.not_eq_true', Bool.not_eq_false', g_ofLe g_R0 hx] at hc; omega)) (fun hc => h2 (by simp only [q_c1, g_of0, decide_eq_true_eq, decide_eq_false_iff_not, Bool.not_eq_true', Bool.not_eq_false', g_ofLe g_R0 hx] at hc; omega))
theorem r_ic_gt {off : Int} (hd : decode (q_code y) pc = .ok (.if_icmp .gt off, 3)) (ht : q_tg pc off = some t) (hx : g_InR x) (hu : g_InR u) (h1 : u < x → g_Run d y t lv st M Q) (h2 : ¬ u < x → g_Run d y (pc + 3) lv st M Q) : g_Run d y pc lv (g_n u :: g_n x :: st) M Q :=
  g_ic hd ht (fun hc => h1 (by simp only [q_c2, decide_eq_true_eq, decide_eq_false_iff_not, Bool.not_eq_true', Bool.not_eq_false', g_ofLt hu hx] at hc; omega)) (fun hc => h2 (by simp only [q_c2, decide_eq_true_eq, decide_eq_false_iff_not, Bool.not_eq_true', Bool.not_eq_false', g_ofLt hu hx] at hc; omega))
theorem r_if_gt {off : Int} (hd : decode (q_code y) pc = .ok (.ifCond .gt off, 3)) (ht : q_tg pc off = some t) (hx : g_InR x) (h1 : 0 < x → g_Run d y t lv st M Q) (h2 : ¬ 0 < x → g_Run d y (pc + 3) lv st M Q) : g_Run d y pc lv (g_n x :: st) M Q :=
  g_if hd ht (fun hc => h1 (by simp only [q_c1, g_of0, decide_eq_true_eq, decide_eq_false_iff_not, Bool.not_eq_true', Bool.not_eq_false', g_ofLt g_R0 hx] at hc; omega)) (fun hc => h2 (by simp only [q_c1, g_of0, decide_eq_true_eq, decide_eq_false_iff_not, Bool.not_eq_true', Bool.not_eq_false', g_ofLt g_R0 hx] at hc; omega))
theorem r_ic_le {off : Int} (hd : decode (q_code y) pc = .ok (.if_icmp .le off, 3)) (ht : q_tg pc off = some t) (hx : g_InR x) (hu : g_InR u) (h1 : ¬ u < x → g_Run d y t lv st M Q) (h2 : u < x → g_Run d y (pc + 3) lv st M Q) : g_Run d y pc lv (g_n u :: g_n x :: st) M Q :=
  g_ic hd ht (fun hc => h1 (by simp only [q_c2, decide_eq_true_eq, decide_eq_false_iff_not, Bool.not_eq_true', Bool.not_eq_false', g_ofLe hx hu] at hc; omega)) (fun hc => h2 (by simp only [q_c2, decide_eq_true_eq, decide_eq_false_iff_not, Bool.not_eq_true', Bool.not_eq_false', g_ofLe hx hu] at hc; omega))
theorem r_if_le {off : Int} (hd : decode (q_code y) pc = .ok (.ifCond .le off, 3)) (ht : q_tg pc off = some t) (hx : g_InR x) (h1 : ¬ 0 < x → g_Run d y t lv st M Q) (h2 : 0 < x → g_Run d y (pc + 3) lv st M Q) : g_Run d y pc lv (g_n x :: st) M Q :=
  g_if hd ht (fun hc => h1 (by simp only [q_c1, g_of0, decide_eq_true_eq, decide_eq_false_iff_not, Bool.not_eq_true', Bool.not_eq_false', g_ofLe hx g_R0] at hc; omega)) (fun hc => h2 (by simp only [q_c1, g_of0, decide_eq_true_eq, decide_eq_false_iff_not, Bool.not_eq_true', Bool.not_eq_false', g_ofLe hx g_R0] at hc; omega))
theorem r_table {dd lo hi : Int} {offs : Array Int} (hd : decode (q_code y) pc = .ok (.tableswitch dd lo hi offs, len)) (hx : g_InR x) (hp : (bif decide (x < lo) || decide (hi < x) then q_tg pc dd else (offs[(x - lo).toNat]?).bind (fun off => q_tg pc off)) = some t) (kk : g_Run d y t lv st M Q) : g_Run d y pc lv (g_n x :: st) M Q :=
  g_st0 hd rfl rfl (fun lv' E _ _ => by
    show (bif (decide ((Int32.ofInt x).toInt < lo) || decide (hi < (Int32.ofInt x).toInt)) then ((q_tg pc dd).bind fun t => some (t, lv', st, E, 0, 0)) else ((offs[((Int32.ofInt x).toInt - lo).toNat]?).bind fun off => (q_tg pc off).bind fun t => some (t, lv', st, E, 0, 0))) = _
    rw [g_toInt hx]
    cases hb : (decide (x < lo) || decide (hi < x)) with
    | true =>
      rw [hb] at hp
      rw [show q_tg pc dd = some t from hp]
      rfl
    | false =>
      rw [hb] at hp
      obtain ⟨off, h1, h2⟩ := q_bind_s (show (offs[(x - lo).toNat]?).bind (fun off => q_tg pc off) = some t from hp)
      rw [h1]
      show (q_tg pc off).bind _ = _
      rw [h2]
      rfl) kk
theorem r_lookup {dd : Int} {ps : Array (Int × Int)} (hd : decode (q_code y) pc = .ok (.lookupswitch dd ps, len)) (hx : g_InR x) (hz : ((ps.toList.zip (ps.toList.drop 1)).all (fun (a, next) => a.1 < next.1)) = true) (hp : q_tg pc (Op.lookupswitch.offset ps.toList dd x) = some t) (kk : g_Run d y t lv st M Q) : g_Run d y pc lv (g_n x :: st) M Q :=
  g_st0 hd rfl rfl (fun lv' E _ _ => by
    show q_if ((ps.toList.zip (ps.toList.drop 1)).all (fun (a, next) => a.1 < next.1)) ((q_tg pc (Op.lookupswitch.offset ps.toList dd (Int32.ofInt x).toInt)).bind fun t => some (t, lv', st, E, 0, 0)) = _
    rw [hz, g_toInt hx, hp]
    rfl) kk
theorem r_ifnull {o : Option Nat} {off : Int} (hd : decode (q_code y) pc = .ok (.ifnull off, 3)) (ht : q_tg pc off = some t) (h1 : o = none → g_Run d y t lv st M Q) (h2 : ∀ a, o = some a → g_Run d y (pc + 3) lv st M Q) : g_Run d y pc lv (va_rf o :: st) M Q := by
  cases o with
  | none =>
    exact g_st0 hd rfl rfl (fun lv' E _ _ => by
      show (q_tg pc off).bind _ = _
      rw [ht]
      rfl) (h1 rfl)
  | some a =>
    exact g_st0 hd rfl rfl (fun lv' E _ _ => by
      show (q_tg pc off).bind _ = _
      rw [ht]
      rfl) (h2 a rfl)
theorem r_ifnonnull {o : Option Nat} {off : Int} (hd : decode (q_code y) pc = .ok (.ifnonnull off, 3)) (ht : q_tg pc off = some t) (h1 : o = none → g_Run d y (pc + 3) lv st M Q) (h2 : ∀ a, o = some a → g_Run d y t lv st M Q) : g_Run d y pc lv (va_rf o :: st) M Q := by
  cases o with
  | none =>
    exact g_st0 hd rfl rfl (fun lv' E _ _ => by
      show (q_tg pc off).bind _ = _
      rw [ht]
      rfl) (h1 rfl)
  | some a =>
    exact g_st0 hd rfl rfl (fun lv' E _ _ => by
      show (q_tg pc off).bind _ = _
      rw [ht]
      rfl) (h2 a rfl)
theorem r_acmp_ne {off : Int} (hd : decode (q_code y) pc = .ok (.if_acmp .ne off, 3)) (ht : q_tg pc off = some t) (ha : a % 2 = 0) (hb : b % 2 = 0) (h1 : ¬ b = a → g_Run d y t lv st M Q) (h2 : b = a → g_Run d y (pc + 3) lv st M Q) : g_Run d y pc lv (.ref a :: .ref b :: st) M Q := by
  have hc : (decide ((.ne : ClassFile.ACond) = .ne) && a % 2 == 0 && b % 2 == 0) = true := by simp [ha, hb]
  by_cases g : b = a
  · exact g_st0 hd rfl rfl (fun lv' E _ _ => by
      show q_if (decide ((.ne : ClassFile.ACond) = .ne) && a % 2 == 0 && b % 2 == 0) ((q_tg pc off).bind fun t => some (bif a == b then pc + 3 else t, lv', st, E, 0, 0)) = _
      rw [hc, ht, show (a == b) = true by simpa using g.symm]
      rfl) (h2 g)
  · exact g_st0 hd rfl rfl (fun lv' E _ _ => by
      show q_if (decide ((.ne : ClassFile.ACond) = .ne) && a % 2 == 0 && b % 2 == 0) ((q_tg pc off).bind fun t => some (bif a == b then pc + 3 else t, lv', st, E, 0, 0)) = _
      rw [hc, ht, show (a == b) = false by simpa using fun e : a = b => g e.symm]
      rfl) (h1 g)
/-! fields -/
theorem g_sgetN {o : Nat} (ho : (o == 14) = false) : q_sget o idx a = none := by
  unfold q_sget
  rw [ho]
  rfl
theorem g_getf (hd : decode (q_code y) pc = .ok (.getfield idx, 3)) (ho : (q_own y == 14) = false) (hq : q_fld (q_own y) idx = some (ci, k, ns)) (hk : k < q_N ci) (hO : g_O M a ci) (kk : g_Run d y (pc + 3) lv (g_fv M a ci k :: st) M Q) : g_Run d y pc lv (.ref a :: st) M Q :=
  g_st0 hd rfl rfl (fun lv' E _ hE => by
    obtain ⟨fs, -, h1, h2, h3⟩ := hE.obj hO
    show q_el ((q_sget (q_own y) idx a).bind _) ((q_fld (q_own y) idx).bind _) = _
    rw [g_sgetN ho, hq]
    show ((q_obj E a ci).bind fun fs => (fs[k]?).bind fun v => some (pc + 3, lv', v :: st, E, 0, 0)) = _
    rw [h1]
    show ((fs[k]?).bind fun v => some (pc + 3, lv', v :: st, E, 0, 0)) = _
    rw [h3 k hk]
    rfl) kk
theorem r_getI {kz : Int} (hd : decode (q_code y) pc = .ok (.getfield idx, 3)) (ho : (q_own y == 14) = false) (hq : q_fld (q_own y) idx = some (ci, k, ns)) (hk : k < q_N ci) (hty : g_isR (q_Ty ci k) = false) (hkz : (k : Int) = kz) (hO : g_O M a ci) (kk : g_Run d y (pc + 3) lv (g_n (g_i M a kz) :: st) M Q) : g_Run d y pc lv (.ref a :: st) M Q :=
  by
    subst hkz
    exact g_getf hd ho hq hk hO (by unfold g_fv; rw [hty]; exact kk)
theorem r_getO {kz : Int} (hd : decode (q_code y) pc = .ok (.getfield idx, 3)) (ho : (q_own y == 14) = false) (hq : q_fld (q_own y) idx = some (ci, k, ns)) (hk : k < q_N ci) (hty : g_isR (q_Ty ci k) = true) (hkz : (k : Int) = kz) (hO : g_O M a ci) (kk : g_Run d y (pc + 3) lv (va_rf (g_r M a kz) :: st) M Q) : g_Run d y pc lv (.ref a :: st) M Q :=
  by
    subst hkz
    exact g_getf hd ho hq hk hO (by unfold g_fv; rw [hty]; exact kk)
theorem r_getR {kz : Int} (hd : decode (q_code y) pc = .ok (.getfield idx, 3)) (ho : (q_own y == 14) = false) (hq : q_fld (q_own y) idx = some (ci, k, ns)) (hk : k < q_N ci) (hty : g_isR (q_Ty ci k) = true) (hkz : (k : Int) = kz) (hO : g_O M a ci) (hv : g_r M a kz = some b) (kk : g_Run d y (pc + 3) lv (.ref b :: st) M Q) : g_Run d y pc lv (.ref a :: st) M Q :=
  r_getO hd ho hq hk hty hkz hO (by rw [hv]; exact kk)
theorem g_putf (hd : decode (q_code y) pc = .ok (.putfield idx, 3)) (hq : q_fld (q_own y) idx = some (ci, k, ns)) (hk : k < q_N ci) (hf : (q_fit (q_Ty ci k) v && q_fin (q_own y) (q_ini y) ci k ns) = true) (hO : g_O M a ci) (h1 : M1.1 = M.1) (hi : ∀ x j, ¬ (x = a ∧ j = (k : Int)) → g_i M1 x j = g_i M x j) (hr : ∀ x j, ¬ (x = a ∧ j = (k : Int)) → g_r M1 x j = g_r M x j) (hok : g_ok M → g_ok M1) (hv : g_fv M1 a ci k = v) (kk : g_Run d y (pc + 3) lv st M1 Q) : g_Run d y pc lv (v :: .ref a :: st) M Q :=
  g_step hd rfl rfl (fun x c h => by unfold g_sh at h ⊢; rw [h1]; exact h) (fun lv' E hl hE => by
    obtain ⟨fs, h0, h2, h3, h4⟩ := hE.obj hO
    refine ⟨lv', E.set (a / 2) (.inr (ci, fs.set k v)), 0, 0, ?_, hl, ?_, by rw [h1]; omega, by unfold g_sl; rw [h1]; omega⟩
    · show (q_fld (q_own y) idx).bind _ = _
      rw [hq]
      show ((q_obj E a ci).bind fun fs => q_if (q_fit (q_Ty ci k) v && q_fin (q_own y) (q_ini y) ci k ns && decide (k < fs.length)) _) = _
      rw [h2]
      show q_if (q_fit (q_Ty ci k) v && q_fin (q_own y) (q_ini y) ci k ns && decide (k < fs.length)) _ = _
      rw [hf, show decide (k < fs.length) = true by rw [h3]; simpa using hk]
      simp only [q_fc_eq]
      rfl
    · refine hE.upd hO h1 (fun x hx j => hi x j (fun q => hx q.1)) (fun x hx j => hr x j (fun q => hx q.1)) (hok hE.2.1) ⟨rfl, by rw [List.length_set]; exact h3, fun j hj => ?_⟩
      rw [List.getElem?_set]
      by_cases hz : k = j
      · subst hz
        rw [if_pos rfl, if_pos (by rw [h3]; exact hk), hv]
      · rw [if_neg hz, h4 j hj]
        have hne : ¬ (a = a ∧ (j : Int) = (k : Int)) := fun q => hz (by omega)
        unfold g_fv
        rw [hi a j hne, hr a j hne]) kk
theorem g_sh1 {M M1 : g_M} (h1 : M1.1 = M.1) (x : Nat) : g_sh M1 x = g_sh M x := by
  unfold g_sh
  rw [h1]
theorem r_putI {kz : Int} (hd : decode (q_code y) pc = .ok (.putfield idx, 3)) (hq : q_fld (q_own y) idx = some (ci, k, ns)) (hk : k < q_N ci) (hf : (q_fit (q_Ty ci k) (g_n x) && q_fin (q_own y) (q_ini y) ci k ns) = true) (hty : g_isR (q_Ty ci k) = false) (hx : g_InR x) (hg : g_fit (q_Ty ci k) x) (hkz : (k : Int) = kz) (hO : g_O M a ci) (kk : g_Run d y (pc + 3) lv st (g_wi M a kz x) Q) : g_Run d y pc lv (g_n x :: .ref a :: st) M Q :=
  by
    subst hkz
    exact g_putf (M1 := g_wi M a (k : Int) x) hd hq hk hf hO rfl (fun z j h => by rw [g_i_wi, if_neg h]) (fun z j _ => rfl) (fun h => h.wi hx hO (fun j hj _ => by
      have : j = k := by omega
      subst this
      exact hg)) (by
      unfold g_fv
      rw [hty]
      show g_n (g_i (g_wi M a (k : Int) x) a (k : Int)) = g_n x
      rw [g_i_wi, if_pos ⟨rfl, rfl⟩]) kk
theorem r_putR {o : Option Nat} {kz : Int} (hd : decode (q_code y) pc = .ok (.putfield idx, 3)) (hq : q_fld (q_own y) idx = some (ci, k, ns)) (hk : k < q_N ci) (hf : (q_fit (q_Ty ci k) (va_rf o) && q_fin (q_own y) (q_ini y) ci k ns) = true) (hty : g_isR (q_Ty ci k) = true) (hkz : (k : Int) = kz) (hO : g_O M a ci) (kk : g_Run d y (pc + 3) lv st (g_wr M a kz o) Q) : g_Run d y pc lv (va_rf o :: .ref a :: st) M Q :=
  by
    subst hkz
    exact g_putf (M1 := g_wr M a (k : Int) o) hd hq hk hf hO rfl (fun z j _ => rfl) (fun z j h => by rw [g_r_wr, if_neg h]) (fun h => h.wr _ _ _) (by
      unfold g_fv
      rw [hty]
      show va_rf (g_r (g_wr M a (k : Int) o) a (k : Int)) = va_rf o
      rw [g_r_wr, if_pos ⟨rfl, rfl⟩]) kk
  /-! rows -/
theorem g_slN (h : (a % 2 == 0) = true) : q_sl a = none := by
  unfold q_sl
  rw [show (a % 4 == 3) = false by simp at h ⊢; omega]
  rfl
theorem r_alen (hd : decode (q_code y) pc = .ok (.arraylength, 1)) (hA : g_A M a t n) (kk : g_Run d y (pc + 1) lv (g_n n :: st) M Q) : g_Run d y pc lv (.ref a :: st) M Q :=
  g_st0 hd rfl rfl (fun lv' E _ hE => by
    obtain ⟨m, h1, rfl⟩ := hE.alen hA
    obtain ⟨m2, h2, -⟩ := hA
    show q_el ((q_sl a).bind _) ((q_alen E a).bind _) = _
    rw [g_slN (hE.at h2).1, h1]
    show some (pc + 1, lv', Value.int (Int32.ofNat m) :: st, E, 0, 0) = some (pc + 1, lv', Value.int (Int32.ofInt (m : Int)) :: st, E, 0, 0)
    rw [Int32.ofInt_eq_ofNat]) kk
theorem g_inI {m : Nat} (hx : g_InR x) (h0 : 0 ≤ x) (h1 : x < (m : Int)) : q_in (Int32.ofInt x) m = true := by
  unfold q_in
  rw [g_clamp hx, g_of0]
  simp only [Bool.and_eq_true, Bool.not_eq_true', decide_eq_false_iff_not, decide_eq_true_eq]
  exact ⟨by rw [g_ofLt hx g_R0]; omega, by omega⟩
theorem r_bald (hd : decode (q_code y) pc = .ok (.baload, 1)) (ht : t = 0 ∨ t = 2) (hA : g_A M a t n) (hx : g_InR x) (h0 : 0 ≤ x) (h1 : x < n) (kk : g_Run d y (pc + 1) lv (g_n (g_i M a x) :: st) M Q) : g_Run d y pc lv (g_n x :: .ref a :: st) M Q :=
  g_st0 hd rfl rfl (fun lv' E _ hE => by
    obtain ⟨m, L, -, h2, h3, h4, h5⟩ := hE.arr hA (by omega)
    show q_el ((q_sl a).bind _) ((q_arr E a).bind _) = _
    rw [g_slN (hE.at h4).1, h2]
    show q_if ((t == 0 || t == 2) && q_in (Int32.ofInt x) m) (some (pc + 1, lv', Value.int (q_lk L (Int32.ofInt x).toNatClampNeg) :: st, E, 0, 0)) = _
    rw [g_inI hx h0 (by omega), show (t == 0 || t == 2) = true by rcases ht with rfl | rfl <;> rfl, g_clamp hx, h5, show ((x.toNat : Nat) : Int) = x by omega]
    rfl) kk
theorem r_iald (hd : decode (q_code y) pc = .ok (.iaload, 1)) (hA : g_A M a 1 n) (hx : g_InR x) (h0 : 0 ≤ x) (h1 : x < n) (kk : g_Run d y (pc + 1) lv (g_n (g_i M a x) :: st) M Q) : g_Run d y pc lv (g_n x :: .ref a :: st) M Q :=
  g_st0 hd rfl rfl (fun lv' E _ hE => by
    obtain ⟨m, L, -, h2, h3, h4, h5⟩ := hE.arr hA (by omega)
    show (q_arr E a).bind _ = _
    rw [h2]
    show q_if ((1 : Nat) == 1 && q_in (Int32.ofInt x) m) (some (pc + 1, lv', Value.int (q_lk L (Int32.ofInt x).toNatClampNeg) :: st, E, 0, 0)) = _
    rw [g_inI hx h0 (by omega), g_clamp hx, h5, show ((x.toNat : Nat) : Int) = x by omega]
    rfl) kk
theorem r_aald (hd : decode (q_code y) pc = .ok (.aaload, 1)) (ht : 3 ≤ t) (hA : g_A M a t n) (hx : g_InR x) (h0 : 0 ≤ x) (h1 : x < n) (hv : g_r M a x = some b) (kk : g_Run d y (pc + 1) lv (.ref b :: st) M Q) : g_Run d y pc lv (g_n x :: .ref a :: st) M Q :=
  g_st0 hd rfl rfl (fun lv' E _ hE => by
    obtain ⟨m, L, -, h2, h3, h4, h5⟩ := hE.arrR hA ht
    show (q_arrR E a).bind _ = _
    rw [h2]
    show q_if (q_rt t && q_in (Int32.ofInt x) m) (some (pc + 1, lv', va_rf (q_lr L (Int32.ofInt x).toNatClampNeg) :: st, E, 0, 0)) = _
    rw [g_inI hx h0 (by omega), g_clamp hx, h5, show ((x.toNat : Nat) : Int) = x by omega, hv, show q_rt t = true by
      unfold q_rt
      rcases (show t = 3 ∨ t = 4 ∨ t = 5 by omega) with rfl | rfl | rfl <;> rfl]
    rfl) kk
theorem g_A1 {M M1 : g_M} (h1 : M1.1 = M.1) : g_ext M M1 := fun x c h => by
  unfold g_sh at h ⊢
  rw [h1]
  exact h
theorem r_iast (hd : decode (q_code y) pc = .ok (.iastore, 1)) (hA : g_A M a 1 n) (hx : g_InR x) (h0 : 0 ≤ x) (h1 : x < n) (hu : g_InR u) (kk : g_Run d y (pc + 1) lv st (g_wi M a x u) Q) : g_Run d y pc lv (g_n u :: g_n x :: .ref a :: st) M Q :=
  g_step (M1 := g_wi M a x u) hd rfl rfl (g_A1 rfl) (fun lv' E hl hE => by
    obtain ⟨m, L, h2, h3, h4, h5, h6⟩ := hE.arr hA (by omega)
    refine ⟨lv', E.set (a / 2) (.inl (1, m, .inl ((x.toNat, Int32.ofInt u) :: L))), 0, 0, ?_, hl, ?_, Nat.zero_add _, Nat.zero_add _⟩
    · show (q_arr E a).bind _ = _
      rw [h3]
      show q_if ((1 : Nat) == 1 && q_in (Int32.ofInt x) m) _ = _
      rw [g_inI hx h0 (by omega)]
      simp only [q_fc_eq, q_nf_eq, g_clamp hx]
      rfl
    · refine hE.upd h5 rfl (fun z hz j => by rw [g_i_wi, if_neg (fun q => hz q.1)]) (fun _ _ _ => rfl) (hE.2.1.wi hu h5 (fun _ => trivial)) ⟨rfl, rfl, by omega, fun j => ?_⟩
      rw [q_lk_up, g_i_wi]
      unfold upd
      by_cases hz : j = x.toNat
      · rw [if_pos hz, if_pos ⟨rfl, by omega⟩]
      · rw [if_neg hz, if_neg (fun q => hz (by omega)), h6]) kk
theorem r_bast0 (hd : decode (q_code y) pc = .ok (.bastore, 1)) (hA : g_A M a 0 n) (hx : g_InR x) (h0 : 0 ≤ x) (h1 : x < n) (kk : g_Run d y (pc + 1) lv st (g_wi M a x (g_w8 u)) Q) : g_Run d y pc lv (g_n u :: g_n x :: .ref a :: st) M Q :=
  g_step (M1 := g_wi M a x (g_w8 u)) hd rfl rfl (g_A1 rfl) (fun lv' E hl hE => by
    obtain ⟨m, L, h2, h3, h4, h5, h6⟩ := hE.arr hA (by omega)
    refine ⟨lv', E.set (a / 2) (.inl (0, m, .inl ((x.toNat, Int32.ofInt (g_w8 u)) :: L))), 0, 0, ?_, hl, ?_, Nat.zero_add _, Nat.zero_add _⟩
    · show (q_arr E a).bind _ = _
      rw [h3]
      show q_if (((0 : Nat) == 0 || (0 : Nat) == 2) && q_in (Int32.ofInt x) m) _ = _
      rw [g_inI hx h0 (by omega)]
      have hb0 : ((0 : Nat) == 2 && q_lk L (Int32.ofInt x).toNatClampNeg == (Int32.ofInt u &&& 1)) = false := rfl
      rw [hb0]
      simp only [cond_false, q_fc_eq, q_nf_eq, g_clamp hx]
      rw [← g_w8_eq]
      rfl
    · have hw := g_w8_R u
      refine hE.upd h5 rfl (fun z hz j => by rw [g_i_wi, if_neg (fun q => hz q.1)]) (fun _ _ _ => rfl) (hE.2.1.wi ⟨by omega, by omega⟩ h5 (fun _ => hw)) ⟨rfl, rfl, by omega, fun j => ?_⟩
      rw [q_lk_up, g_i_wi]
      unfold upd
      by_cases hz : j = x.toNat
      · rw [if_pos hz, if_pos ⟨rfl, by omega⟩]
      · rw [if_neg hz, if_neg (fun q => hz (by omega)), h6]) kk
theorem g_and1 (hu : u = 0 ∨ u = 1) : (Int32.ofInt u &&& 1) = Int32.ofInt u := by rcases hu with rfl | rfl <;> rfl
theorem r_bast2 (hd : decode (q_code y) pc = .ok (.bastore, 1)) (hA : g_A M a 2 n) (hx : g_InR x) (h0 : 0 ≤ x) (h1 : x < n) (hu : u = 0 ∨ u = 1) (kk : g_Run d y (pc + 1) lv st (g_wi M a x u) Q) : g_Run d y pc lv (g_n u :: g_n x :: .ref a :: st) M Q :=
  g_step (M1 := g_wi M a x u) hd rfl rfl (g_A1 rfl) (fun lv' E hl hE => by
    obtain ⟨m, L, h2, h3, h4, h5, h6⟩ := hE.arr hA (by omega)
    have hb : ((2 : Nat) == 2 && q_lk L (Int32.ofInt x).toNatClampNeg == (Int32.ofInt u &&& 1)) = (q_lk L x.toNat == Int32.ofInt u) := by
      rw [g_and1 hu, g_clamp hx]
      rfl
    have hq : q_step (q_own y) (q_maxL y) (q_ini y) .bastore 1 pc lv' (g_n u :: g_n x :: .ref a :: st) E = some (pc + 1, lv', st, bif q_lk L x.toNat == Int32.ofInt u then E else E.set (a / 2) (.inl (2, m, .inl ((x.toNat, Int32.ofInt u) :: L))), 0, 0) := by
      show (q_arr E a).bind _ = _
      rw [h3]
      show q_if (((2 : Nat) == 0 || (2 : Nat) == 2) && q_in (Int32.ofInt x) m) _ = _
      rw [g_inI hx h0 (by omega)]
      show (bif ((2 : Nat) == 2 && q_lk L (Int32.ofInt x).toNatClampNeg == (Int32.ofInt u &&& 1)) then _ else _) = _
      rw [hb]
      cases hc : q_lk L x.toNat == Int32.ofInt u with
      | true => rfl
      | false =>
        simp only [cond_false, q_fc_eq, q_nf_eq, g_clamp hx]
        rw [g_and1 hu]
        show some (pc + 1, lv', st, E.set (a / 2) (.inl (2, m, .inl (q_upz L x.toNat (Int32.ofInt u)))), 0, 0) = _
        unfold q_upz
        rw [hc]
        rfl
    have hup : g_Rel (E.set (a / 2) (.inl (2, m, .inl ((x.toNat, Int32.ofInt u) :: L)))) (g_wi M a x u) := by
      refine hE.upd h5 rfl (fun z hz j => by rw [g_i_wi, if_neg (fun q => hz q.1)]) (fun _ _ _ => rfl) (hE.2.1.wi (by rcases hu with rfl | rfl <;> exact ⟨by decide, by decide⟩) h5 (fun _ => hu)) ⟨rfl, rfl, by omega, fun j => ?_⟩
      rw [q_lk_up, g_i_wi]
      unfold upd
      by_cases hz : j = x.toNat
      · rw [if_pos hz, if_pos ⟨rfl, by omega⟩]
      · rw [if_neg hz, if_neg (fun q => hz (by omega)), h6]
    refine ⟨lv', _, 0, 0, hq, hl, ?_, Nat.zero_add _, Nat.zero_add _⟩
    cases hc : q_lk L x.toNat == Int32.ofInt u with
    | false => exact hup
    | true =>
      have h7 : q_lk L x.toNat = Int32.ofInt u := eq_of_beq hc
      have h8 : g_i M a x = u := by
        have h9 := h6 x.toNat
        rw [h7, show ((x.toNat : Nat) : Int) = x by omega] at h9
        exact ((g_ofInj (by rcases hu with rfl | rfl <;> exact ⟨by decide, by decide⟩) (hE.2.1.1 a x)).mp h9).symm
      have h10 : g_wi M a x u = M := by
        obtain ⟨A, B, C⟩ := M
        unfold g_wi
        congr 2
        funext z j
        split
        · rename_i q
          rw [q.1, q.2]
          exact h8.symm
        · rfl
      rw [h10]
      exact hE) kk
theorem r_copy (hd : decode (q_code y) pc = .ok (.invokestatic idx, 3)) (hcl : q_cal (q_own y) idx = none) (hm : q_math (q_own y) idx = none) (hml : q_mnl (q_own y) idx = false) (ho : (q_own y == 15) = false) (hac : q_acp (q_own y) idx = true) (h8 : decide ((st.map fun v => v.category).sum ≤ 8) = true) (ht : t < 3) {n0 : Int} (hA0 : g_A M a0 t n0) (hA : g_A M a t n) {sp dp m : Int} (hsp : g_InR sp) (hdp : g_InR dp) (hm2 : g_InR m) (k1 : 0 ≤ sp) (k2 : 0 ≤ dp) (k3 : 0 ≤ m) (k4 : sp + m ≤ n0) (k5 : dp + m ≤ n) (kk : g_Run d y (pc + 3) lv st (g_cp M a0 a sp dp m) Q) : g_Run d y pc lv (g_n m :: g_n dp :: .ref a :: g_n sp :: .ref a0 :: st) M Q := by
  intro lv' E hl hE c0 s0
  obtain ⟨m0, L0, -, h03, h04, h05, h06⟩ := hE.arr hA0 ht
  obtain ⟨m1, L, h2, h3, h4, h5, h6⟩ := hE.arr hA ht
  have hcp : q_cpk (t, m0, L0) (t, m1, L) (Int32.ofInt sp) (Int32.ofInt dp) (Int32.ofInt m) = true := by
    unfold q_cpk
    simp only [Bool.and_eq_true, beq_iff_eq, decide_eq_true_eq, List.all_eq_true, List.mem_range, g_clamp hsp, g_clamp hdp, g_clamp hm2, g_of0, g_ofLt hsp g_R0, g_ofLt hdp g_R0, g_ofLt hm2 g_R0]
    refine ⟨⟨⟨⟨⟨⟨⟨trivial, ht⟩, by omega⟩, by omega⟩, by omega⟩, by omega⟩, by omega⟩, fun i _ => ?_⟩
    rw [h06]
    have hr := hE.2.1.1 a0 ((sp.toNat + i : Nat) : Int)
    have hf := hE.2.1.2 _ _ h05 ht ((sp.toNat + i : Nat) : Int)
    generalize g_i M a0 ((sp.toNat + i : Nat) : Int) = z at hr hf
    rcases (show t = 0 ∨ t = 1 ∨ t = 2 by omega) with rfl | rfl | rfl
    · have hf : -128 ≤ z ∧ z ≤ 127 := hf
      show (decide ((-128 : Int32) ≤ Int32.ofInt z) && decide (Int32.ofInt z ≤ 127)) = true
      rw [show (-128 : Int32) = Int32.ofInt (-128) from rfl, show (127 : Int32) = Int32.ofInt 127 from rfl]
      simp only [Bool.and_eq_true, decide_eq_true_eq, g_ofLe (show g_InR (-128) from ⟨by decide, by decide⟩) hr, g_ofLe hr (show g_InR 127 from ⟨by decide, by decide⟩)]
      exact hf
    · rfl
    · have hf : z = 0 ∨ z = 1 := hf
      rcases hf with rfl | rfl <;> rfl
  have hst : q_step (q_own y) (q_maxL y) (q_ini y) (.invokestatic idx) 3 pc lv' (g_n m :: g_n dp :: .ref a :: g_n sp :: .ref a0 :: st) E = some (pc + 3, lv', st, E.set (a / 2) (.inl (t, m1, .inl (q_cpy L0 L sp.toNat dp.toNat m.toNat))), 0, 0) := by
    show q_el (q_if (q_own y == 15 && idx == 9) _) (q_el ((q_math (q_own y) idx).bind _) (q_el (q_if (q_mnl (q_own y) idx) _) (q_if (q_acp (q_own y) idx) ((q_arr E a0).bind _)))) = _
    rw [ho, hm, hml, hac, h03]
    show (q_arr E a).bind _ = _
    rw [h3]
    show q_if (q_cpk (t, m0, L0) (t, m1, L) (Int32.ofInt sp) (Int32.ofInt dp) (Int32.ofInt m) && decide ((st.map fun v => v.category).sum ≤ 8)) _ = _
    rw [hcp, h8]
    simp only [q_fc_eq, g_clamp hsp, g_clamp hdp, g_clamp hm2]
    rfl
  have hup : g_Rel (E.set (a / 2) (.inl (t, m1, .inl (q_cpy L0 L sp.toNat dp.toNat m.toNat)))) (g_cp M a0 a sp dp m) := by
    refine hE.upd h5 rfl (fun z hz j => by rw [g_i_cp, if_neg (fun q => hz q.1)]) (fun _ _ _ => rfl) ⟨fun z j => ?_, fun z c hz => ?_⟩ ⟨rfl, rfl, ht, fun j => ?_⟩
    · rw [g_i_cp]
      split
      · exact hE.2.1.1 _ _
      · exact hE.2.1.1 _ _
    · have h7 := hE.2.1.2 z c hz
      by_cases hza : z = a
      · subst hza
        rw [g_sh_cp, h5] at hz
        cases hz
        intro ht2 j
        rw [g_i_cp]
        split
        · exact hE.2.1.2 _ _ h05 ht _
        · exact h7 ht2 j
      · cases c with
        | inl ci =>
          intro j hj
          rw [g_i_cp, if_neg (fun q => hza q.1)]
          exact h7 j hj
        | inr q =>
          intro ht2 j
          rw [g_i_cp, if_neg (fun q => hza q.1)]
          exact h7 ht2 j
    · rw [q_lk_cpy, g_i_cp]
      unfold va_cpy
      by_cases hz : dp.toNat ≤ j ∧ j < dp.toNat + m.toNat
      · rw [if_pos hz, if_pos ⟨rfl, by omega, by omega⟩, h06, show ((sp.toNat + (j - dp.toNat) : Nat) : Int) = sp + ((j : Int) - dp) by omega]
      · rw [if_neg hz, if_neg (fun q => hz ⟨by omega, by omega⟩), h6]
  obtain ⟨v, E', M', c1, s1, N, g1, g2, g3, g4, g5, g6⟩ := kk lv' _ hl hup c0 s0
  refine ⟨v, E', M', c1, s1, N + 1, fun F nn hF hn => ?_, g2, g3, g4, g5, g6⟩
  obtain ⟨mm, rfl⟩ : ∃ mm, nn = mm + 1 := ⟨nn - 1, by omega⟩
  have hcl2 : q_cl (q_callf F d) (q_own y) (.invokestatic idx) 3 (g_n m :: g_n dp :: .ref a :: g_n sp :: .ref a0 :: st) E = none := by
    show ((q_cal (q_own y) idx).bind _) = none
    rw [hcl]
    rfl
  have hret : q_rets (q_ret y) (.invokestatic idx) 3 (g_n m :: g_n dp :: .ref a :: g_n sp :: .ref a0 :: st) = none := rfl
  have g7 := g1 F mm (by omega) (by omega)
  unfold q_run
  simp only [q_nf_eq, hd, hret, hcl2, hst]
  exact g7
/-- a call that the machine knows itself -/
theorem g_nat {st1 : List Value} (hd : decode (q_code y) pc = .ok (.invokestatic idx, 3)) (hcl : q_cal (q_own y) idx = none) (h : ∀ (lv' : q_L) (E : q_H), q_step (q_own y) (q_maxL y) (q_ini y) (.invokestatic idx) 3 pc lv' st E = some (pc + 3, lv', st1, E, 0, 0)) (kk : g_Run d y (pc + 3) lv st1 M Q) : g_Run d y pc lv st M Q := by
  intro lv' E hl hE c0 s0
  obtain ⟨v, E', M', c1, s1, N, g1, g2, g3, g4, g5, g6⟩ := kk lv' E hl hE c0 s0
  refine ⟨v, E', M', c1, s1, N + 1, fun F nn hF hn => ?_, g2, g3, g4, g5, g6⟩
  obtain ⟨mm, rfl⟩ : ∃ mm, nn = mm + 1 := ⟨nn - 1, by omega⟩
  have hcl2 : q_cl (q_callf F d) (q_own y) (.invokestatic idx) 3 st E = none := by
    show ((q_cal (q_own y) idx).bind _) = none
    rw [hcl]
    rfl
  have hret : q_rets (q_ret y) (.invokestatic idx) 3 st = none := rfl
  have g7 := g1 F mm (by omega) (by omega)
  unfold q_run
  simp only [q_nf_eq, hd, hret, hcl2, h]
  exact g7
theorem r_max (hd : decode (q_code y) pc = .ok (.invokestatic idx, 3)) (hcl : q_cal (q_own y) idx = none) (hm : q_math (q_own y) idx = some 0) (ho : (q_own y == 15) = false) (h8 : decide ((st.map fun v => v.category).sum ≤ 8) = true) (hx : g_InR x) (hu : g_InR u) (kk : g_Run d y (pc + 3) lv (g_n (max x u) :: st) M Q) : g_Run d y pc lv (g_n u :: g_n x :: st) M Q :=
  g_nat hd hcl (fun lv' E => by
    show q_el (q_if (q_own y == 15 && idx == 9) _) (q_el ((q_math (q_own y) idx).bind _) _) = _
    rw [ho, hm]
    show q_el (q_if (decide ((st.map fun v => v.category).sum ≤ 8)) (some (pc + 3, lv', Value.int (if Int32.ofInt x < Int32.ofInt u then Int32.ofInt u else Int32.ofInt x) :: st, E, 0, 0))) _ = _
    rw [h8]
    show some (pc + 3, lv', Value.int (if Int32.ofInt x < Int32.ofInt u then Int32.ofInt u else Int32.ofInt x) :: st, E, 0, 0) = _
    by_cases h : x < u
    · rw [if_pos ((g_ofLt hx hu).mpr h), show max x u = u by omega]
      rfl
    · rw [if_neg (fun q => h ((g_ofLt hx hu).mp q)), show max x u = x by omega]
      rfl) kk
theorem r_min (hd : decode (q_code y) pc = .ok (.invokestatic idx, 3)) (hcl : q_cal (q_own y) idx = none) (hm : q_math (q_own y) idx = some 1) (ho : (q_own y == 15) = false) (h8 : decide ((st.map fun v => v.category).sum ≤ 8) = true) (hx : g_InR x) (hu : g_InR u) (kk : g_Run d y (pc + 3) lv (g_n (min x u) :: st) M Q) : g_Run d y pc lv (g_n u :: g_n x :: st) M Q :=
  g_nat hd hcl (fun lv' E => by
    show q_el (q_if (q_own y == 15 && idx == 9) _) (q_el ((q_math (q_own y) idx).bind _) _) = _
    rw [ho, hm]
    show q_el (q_if (decide ((st.map fun v => v.category).sum ≤ 8)) (some (pc + 3, lv', Value.int (if Int32.ofInt u < Int32.ofInt x then Int32.ofInt u else Int32.ofInt x) :: st, E, 0, 0))) _ = _
    rw [h8]
    show some (pc + 3, lv', Value.int (if Int32.ofInt u < Int32.ofInt x then Int32.ofInt u else Int32.ofInt x) :: st, E, 0, 0) = _
    by_cases h : u < x
    · rw [if_pos ((g_ofLt hu hx).mpr h), show min x u = u by omega]
      rfl
    · rw [if_neg (fun q => h ((g_ofLt hu hx).mp q)), show min x u = x by omega]
      rfl) kk
theorem r_minL (hd : decode (q_code y) pc = .ok (.invokestatic idx, 3)) (hcl : q_cal (q_own y) idx = none) (hm : q_math (q_own y) idx = none) (hml : q_mnl (q_own y) idx = true) (ho : (q_own y == 15) = false) (h8 : decide ((st.map fun v => v.category).sum ≤ 8) = true) (kk : g_Run d y (pc + 3) lv (.long (if Y < X then Y else X) :: st) M Q) : g_Run d y pc lv (.long Y :: .long X :: st) M Q :=
  g_nat hd hcl (fun lv' E => by
    show q_el (q_if (q_own y == 15 && idx == 9) _) (q_el ((q_math (q_own y) idx).bind _) (q_el (q_if (q_mnl (q_own y) idx) (q_if (decide ((st.map fun v => v.category).sum ≤ 8)) _)) _)) = _
    rw [ho, hm, hml, h8]
    rfl) kk
theorem g_sl_app (l : List g_S) (c : g_S) : ((l ++ [c]).map g_sz).sum = (l.map g_sz).sum + g_sz c := by
  rw [List.map_append, List.sum_append]
  simp
theorem r_newa {ty : ClassFile.ArrayType} (hd : decode (q_code y) pc = .ok (.newarray ty, 2)) (ht : q_nat ty = some t) (ht3 : t < 3) (hn : g_InR n) (h0 : 0 ≤ n) (h1 : n ≤ 134217728) (kk : g_Run d y (pc + 2) lv (.ref (2 * M.1.length) :: st) (g_nw M t n.toNat) Q) : g_Run d y pc lv (g_n n :: st) M Q := by
  have hsh : g_ext M (g_nw M t n.toNat) := fun x c h => by
    obtain ⟨h1, h2⟩ := g_sh_s h
    unfold g_sh
    rw [if_pos (by omega)]
    show (M.1 ++ [_])[x / 2]? = some c
    rw [List.getElem?_append_left (List.getElem?_eq_some_iff.mp h2).1]
    exact h2
  refine g_step (M1 := g_nw M t n.toNat) hd rfl rfl hsh (fun lv' E hl hE => ⟨lv', E ++ [.inl (t, n.toNat, .inl [])], 1, n.toNat, ?_, hl, ?_, ?_, ?_⟩) kk
  · show (q_nat ty).bind _ = _
    rw [ht]
    show q_if (decide (¬ Int32.ofInt n < 0) && decide ((Int32.ofInt n).toNatClampNeg * 4 ≤ 536870912)) _ = _
    rw [show (decide (¬ Int32.ofInt n < 0) && decide ((Int32.ofInt n).toNatClampNeg * 4 ≤ 536870912)) = true by
      simp only [Bool.and_eq_true, decide_eq_true_eq, g_clamp hn, g_of0, g_ofLt hn g_R0]
      omega]
    simp only [q_fc_eq, q_nf_eq, g_clamp hn]
    rw [hE.1]
    rfl
  · have hlen : (g_nw M t n.toNat).1.length = M.1.length + 1 := by
      show (M.1 ++ [_]).length = _
      simp
    refine ⟨by rw [List.length_append, hE.1, hlen]; rfl, ⟨fun x j => ?_, fun x c hx => ?_⟩, fun i c e k1 k2 => ?_⟩
    · show g_InR (if x = 2 * M.1.length then 0 else M.2.1 x j)
      split
      · exact g_R0
      · exact hE.2.1.1 x j
    · by_cases hz : x = 2 * M.1.length
      · subst hz
        unfold g_sh at hx
        rw [if_pos (by omega)] at hx
        have hx : (M.1 ++ [Sum.inr (t, n.toNat)])[2 * M.1.length / 2]? = some c := hx
        rw [show 2 * M.1.length / 2 = M.1.length by omega, List.getElem?_append_right (Nat.le_refl _), Nat.sub_self] at hx
        cases hx
        intro _ j
        show g_fit (q_et t) (if 2 * M.1.length = 2 * M.1.length then 0 else _)
        rw [if_pos rfl]
        rcases (show t = 0 ∨ t = 1 ∨ t = 2 by omega) with rfl | rfl | rfl
        · exact ⟨by decide, by decide⟩
        · exact trivial
        · exact Or.inl rfl
      · have hx2 : g_sh M x = some c := by
          unfold g_sh at hx ⊢
          split at hx
          · rename_i hev
            rw [if_pos hev]
            have hx : (M.1 ++ [Sum.inr (t, n.toNat)])[x / 2]? = some c := hx
            by_cases hlt : x / 2 < M.1.length
            · rwa [List.getElem?_append_left hlt] at hx
            · have h5 : x / 2 < M.1.length + 1 := by
                have := (List.getElem?_eq_some_iff.mp hx).1
                simpa using this
              omega
          · cases hx
        have h3 := hE.2.1.2 x c hx2
        cases c with
        | inl ci =>
          intro j hj
          show g_fit _ (if x = 2 * M.1.length then 0 else M.2.1 x j)
          rw [if_neg hz]
          exact h3 j hj
        | inr q =>
          intro ht2 j
          show g_fit _ (if x = 2 * M.1.length then 0 else M.2.1 x j)
          rw [if_neg hz]
          exact h3 ht2 j
    · have k1 : (M.1 ++ [Sum.inr (t, n.toNat)])[i]? = some c := k1
      by_cases hlt : i < M.1.length
      · rw [List.getElem?_append_left hlt] at k1
        rw [List.getElem?_append_left (by rw [hE.1]; exact hlt)] at k2
        exact g_cell_congr (fun k => by show (if 2 * i = 2 * M.1.length then 0 else M.2.1 (2 * i) k) = _; rw [if_neg (by omega)]; rfl) (fun k => by show (if 2 * i = 2 * M.1.length then none else M.2.2 (2 * i) k) = _; rw [if_neg (by omega)]; rfl) (hE.2.2 i c e k1 k2)
      · have h5 : i < M.1.length + 1 := by
          have := (List.getElem?_eq_some_iff.mp k1).1
          simpa using this
        have h6 : i = M.1.length := by omega
        subst h6
        rw [List.getElem?_append_right (Nat.le_refl _), Nat.sub_self] at k1
        rw [← hE.1, List.getElem?_append_right (Nat.le_refl _), Nat.sub_self] at k2
        cases k1
        cases k2
        refine ⟨rfl, rfl, ht3, fun j => ?_⟩
        show (0 : Int32) = Int32.ofInt (if 2 * M.1.length = 2 * M.1.length then 0 else _)
        rw [if_pos rfl]
        rfl
  · show 1 + M.1.length = (M.1 ++ [_]).length
    simp
    omega
  · show n.toNat + (M.1.map g_sz).sum = ((M.1 ++ [_]).map g_sz).sum
    rw [g_sl_app]
    show n.toNat + _ = _ + n.toNat
    omega
/-! texts -/
theorem r_sval (hd : decode (q_code y) pc = .ok (.getfield 9, 3)) (ho : (q_own y == 14) = true) {j : Nat} (hj : j < q_nS) (kk : g_Run d y (pc + 3) lv (.ref (4 * j + 3) :: st) M Q) : g_Run d y pc lv (.ref (4 * j + 1) :: st) M Q :=
  g_st0 hd rfl rfl (fun lv' E _ _ => by
    show q_el ((q_sget (q_own y) 9 (4 * j + 1)).bind _) _ = _
    unfold q_sget
    rw [show (q_own y == 14 && (4 * j + 1) % 4 == 1 && decide ((4 * j + 1) / 4 < q_nS)) = true by
      rw [ho, show (4 * j + 1) % 4 = 1 by omega, show (4 * j + 1) / 4 = j by omega, show decide (j < q_nS) = true by simpa using hj]
      rfl]
    rfl) kk
theorem r_scoder (hd : decode (q_code y) pc = .ok (.getfield 15, 3)) (ho : (q_own y == 14) = true) {j : Nat} (hj : j < q_nS) (kk : g_Run d y (pc + 3) lv (g_n 0 :: st) M Q) : g_Run d y pc lv (.ref (4 * j + 1) :: st) M Q :=
  g_st0 hd rfl rfl (fun lv' E _ _ => by
    show q_el ((q_sget (q_own y) 15 (4 * j + 1)).bind _) _ = _
    unfold q_sget
    rw [show (q_own y == 14 && (4 * j + 1) % 4 == 1 && decide ((4 * j + 1) / 4 < q_nS)) = true by
      rw [ho, show (4 * j + 1) % 4 = 1 by omega, show (4 * j + 1) / 4 = j by omega, show decide (j < q_nS) = true by simpa using hj]
      rfl]
    rfl) kk
theorem r_slen (hd : decode (q_code y) pc = .ok (.arraylength, 1)) {j : Nat} (hj : j < q_nS) (kk : g_Run d y (pc + 1) lv (g_n (q_sb j).length :: st) M Q) : g_Run d y pc lv (.ref (4 * j + 3) :: st) M Q :=
  g_st0 hd rfl rfl (fun lv' E _ _ => by
    show q_el ((q_sl (4 * j + 3)).bind _) _ = _
    unfold q_sl
    rw [show ((4 * j + 3) % 4 == 3 && decide ((4 * j + 3) / 4 < q_nS)) = true by
      rw [show (4 * j + 3) % 4 = 3 by omega, show (4 * j + 3) / 4 = j by omega, show decide (j < q_nS) = true by simpa using hj]
      rfl, show (4 * j + 3) / 4 = j by omega]
    show some (pc + 1, lv', Value.int (Int32.ofNat (q_sb j).length) :: st, E, 0, 0) = _
    rw [← Int32.ofInt_eq_ofNat]
    rfl) kk
theorem r_sbal (hd : decode (q_code y) pc = .ok (.baload, 1)) {j : Nat} (hj : j < q_nS) (hx : g_InR x) (h0 : 0 ≤ x) (h1 : x < (q_sb j).length) (kk : g_Run d y (pc + 1) lv (g_n ((q_sb j).getD x.toNat 0).toInt :: st) M Q) : g_Run d y pc lv (g_n x :: .ref (4 * j + 3) :: st) M Q :=
  g_st0 hd rfl rfl (fun lv' E _ _ => by
    show q_el ((q_sl (4 * j + 3)).bind _) _ = _
    unfold q_sl
    rw [show ((4 * j + 3) % 4 == 3 && decide ((4 * j + 3) / 4 < q_nS)) = true by
      rw [show (4 * j + 3) % 4 = 3 by omega, show (4 * j + 3) / 4 = j by omega, show decide (j < q_nS) = true by simpa using hj]
      rfl, show (4 * j + 3) / 4 = j by omega]
    show q_el (q_if (q_in (Int32.ofInt x) (q_sb j).length) (some (pc + 1, lv', Value.int ((q_sb j).getD (Int32.ofInt x).toNatClampNeg 0) :: st, E, 0, 0))) _ = _
    rw [g_inI hx h0 h1, g_clamp hx, g_n_toInt]
    rfl) kk
/-! calls and returns -/
theorem g_inv (hd : decode (q_code y) pc = .ok (ins, len)) (hret : q_rets (q_ret y) ins len st = none) (hc : ∀ (call : Nat → List Value → q_H → Option q_X) (E : q_H) (x : q_X), g_Rel E M → call z as E = some x → q_cl call (q_own y) ins len st E = some (x.1, r, x.2.1, x.2.2.1, x.2.2.2)) (hC : g_Call d z as M (fun v M1 => g_Run d y (pc + 3) lv (v.toList ++ r) M1 Q)) : g_Run d y pc lv st M Q := by
  intro lv' E hl hE c0 s0
  obtain ⟨v1, E1, M1, c, s, N1, k1, k2, k3, k4, k5, k6⟩ := hC E hE
  obtain ⟨v, E', M', c1, s1, N2, g1, g2, g3, g4, g5, g6⟩ := k6 lv' E1 hl k2 (c0 + c) (s0 + s)
  refine ⟨v, E', M', c1, s1, N1 + N2 + 1, fun F nn hF hn => ?_, g2, by omega, by omega, k5.tr g5, g6⟩
  obtain ⟨mm, rfl⟩ : ∃ mm, nn = mm + 1 := ⟨nn - 1, by omega⟩
  have hcl := hc (q_callf F d) E _ hE (k1 F (by omega))
  have g7 := g1 F mm (by omega) (by omega)
  unfold q_run
  simp only [q_nf_eq, hd, hret, hcl]
  exact g7
theorem r_invS (hd : decode (q_code y) pc = .ok (.invokestatic idx, 3)) (hq : q_cal (q_own y) idx = some (z, ns)) (hs : (q_stat z && decide (q_na z ≤ st.length) && decide ((r.map fun v => v.category).sum ≤ 8)) = true) (ha : (st.take (q_na z)).reverse = as) (hr : st.drop (q_na z) = r) (hC : g_Call d z as M (fun v M1 => g_Run d y (pc + 3) lv (v.toList ++ r) M1 Q)) : g_Run d y pc lv st M Q := by
  refine g_inv hd rfl (fun call E x hE hx => ?_) hC
  simp only [Bool.and_eq_true, decide_eq_true_eq] at hs
  obtain ⟨⟨h1, h2⟩, h3⟩ := hs
  show (q_cal (q_own y) idx).bind _ = _
  simp only [hq, Option.bind_some, q_nf_eq, q_fc_eq, ha, hr]
  rw [show decide (q_na z ≤ st.length) = true by simpa using h2]
  show q_if (q_stat z && decide ((r.map fun v => v.category).sum ≤ 8)) ((call z as E).map _) = _
  rw [h1, show decide ((r.map fun v => v.category).sum ≤ 8) = true by simpa using h3, hx]
  rfl
theorem g_rcvO (hO : g_O M a ci) {E : q_H} (hE : g_Rel E M) (h : (decide (ci < 13)) = true) (h2 : (ci == 14) = false) : q_rcv E a ci = true := by
  obtain ⟨fs, -, h1, -⟩ := hE.obj hO
  unfold q_rcv
  rw [h2, h, h1]
  rfl
theorem r_invV (hd : decode (q_code y) pc = .ok (.invokevirtual idx, 3)) (hq : q_cal (q_own y) idx = some (z, ns)) (hs : (!q_stat z && !q_ini z && decide (q_na z ≤ st.length) && decide ((r.map fun v => v.category).sum ≤ 8)) = true) (ha : (st.take (q_na z)).reverse = as) (hr : st.drop (q_na z) = .ref a :: r) (hO : g_O M a (q_own z)) (ho : (decide (q_own z < 13)) = true) (ho2 : (q_own z == 14) = false) (hC : g_Call d z (.ref a :: as) M (fun v M1 => g_Run d y (pc + 3) lv (v.toList ++ r) M1 Q)) : g_Run d y pc lv st M Q := by
  refine g_inv hd rfl (fun call E x hE hx => ?_) hC
  simp only [Bool.and_eq_true, decide_eq_true_eq, Bool.not_eq_true'] at hs
  obtain ⟨⟨⟨h1, h4⟩, h2⟩, h3⟩ := hs
  show (q_cal (q_own y) idx).bind _ = _
  simp only [hq, Option.bind_some, q_nf_eq, q_fc_eq, ha, hr]
  rw [show decide (q_na z ≤ st.length) = true by simpa using h2]
  show q_if (!q_stat z && (q_ini z == ((1 : Nat) == 2)) && (!q_ini z || (q_ret z).isNone) && q_rcv E a (q_own z) && decide ((r.map fun v => v.category).sum ≤ 8)) ((call z (.ref a :: as) E).map _) = _
  rw [h1, h4, g_rcvO hO hE ho ho2, show decide ((r.map fun v => v.category).sum ≤ 8) = true by simpa using h3, hx]
  rfl
/-- a call of a text's method -/
theorem r_invT (hd : decode (q_code y) pc = .ok (.invokevirtual idx, 3)) (hq : q_cal (q_own y) idx = some (z, ns)) (hs : (!q_stat z && !q_ini z && decide (q_na z ≤ st.length) && decide ((r.map fun v => v.category).sum ≤ 8)) = true) (ha : (st.take (q_na z)).reverse = as) {j : Nat} (hj : j < q_nS) (hr : st.drop (q_na z) = .ref (4 * j + 1) :: r) (ho2 : (q_own z == 14) = true) (hC : g_Call d z (.ref (4 * j + 1) :: as) M (fun v M1 => g_Run d y (pc + 3) lv (v.toList ++ r) M1 Q)) : g_Run d y pc lv st M Q := by
  refine g_inv hd rfl (fun call E x hE hx => ?_) hC
  simp only [Bool.and_eq_true, decide_eq_true_eq, Bool.not_eq_true'] at hs
  obtain ⟨⟨⟨h1, h4⟩, h2⟩, h3⟩ := hs
  have hrc : q_rcv E (4 * j + 1) (q_own z) = true := by
    unfold q_rcv
    rw [ho2]
    show ((4 * j + 1) % 4 == 1 && decide ((4 * j + 1) / 4 < q_nS)) = true
    rw [show (4 * j + 1) % 4 = 1 by omega, show (4 * j + 1) / 4 = j by omega]
    simpa using hj
  show (q_cal (q_own y) idx).bind _ = _
  simp only [hq, Option.bind_some, q_nf_eq, q_fc_eq, ha, hr]
  rw [show decide (q_na z ≤ st.length) = true by simpa using h2]
  show q_if (!q_stat z && (q_ini z == ((1 : Nat) == 2)) && (!q_ini z || (q_ret z).isNone) && q_rcv E (4 * j + 1) (q_own z) && decide ((r.map fun v => v.category).sum ≤ 8)) ((call z (.ref (4 * j + 1) :: as) E).map _) = _
  rw [h1, h4, hrc, show decide ((r.map fun v => v.category).sum ≤ 8) = true by simpa using h3, hx]
  rfl
theorem r_ret {o : Option Value} (hd : decode (q_code y) pc = .ok (ins, len)) (hr : q_rets (q_ret y) ins len st = some o) (hq : Q o M) : g_Run d y pc lv st M Q := by
  intro lv' E hl hE c0 s0
  refine ⟨o, E, M, c0, s0, 1, fun F nn hF hn => ?_, hE, rfl, rfl, g_ext.rf M, hq⟩
  obtain ⟨mm, rfl⟩ : ∃ mm, nn = mm + 1 := ⟨nn - 1, by omega⟩
  unfold q_run
  simp only [q_nf_eq, hd, hr]
theorem g_args_nd : ∀ (vs : List Value) (i : Nat), ((lv_args i vs).map (fun q => q.1)).Nodup ∧ ∀ q ∈ lv_args i vs, i ≤ q.1 := by
  intro vs
  induction vs with
  | nil => intro i; exact ⟨List.nodup_nil, fun q h => by cases h⟩
  | cons v vs ih =>
    intro i
    have hc : i + 1 ≤ (if v.category = 2 then i + 2 else i + 1) := by split <;> omega
    obtain ⟨h1, h2⟩ := ih (if v.category = 2 then i + 2 else i + 1)
    show (((i, v) :: lv_args (if v.category = 2 then i + 2 else i + 1) vs).map (fun q => q.1)).Nodup ∧ ∀ q ∈ (i, v) :: lv_args (if v.category = 2 then i + 2 else i + 1) vs, i ≤ q.1
    refine ⟨?_, fun q hq => ?_⟩
    · rw [List.map_cons, List.nodup_cons]
      refine ⟨fun hm => ?_, h1⟩
      obtain ⟨q, hq, e⟩ := List.mem_map.mp hm
      have := h2 q hq
      have e : q.1 = i := e
      omega
    · rcases List.mem_cons.mp hq with h | h
      · subst h
        exact Nat.le_refl _
      · have := h2 q h
        omega
/-- a method's contract out of its body -/
theorem r_body (h1 : (decide ((lg_sl as).length ≤ q_maxL y) && decide (as.length = q_na y + (bif q_stat y then 0 else 1))) = true) (ha : lv_args 0 as = lv) (h : g_Run d y 0 lv [] M Q) : g_Call (d + 1) y as M Q := by
  intro E hE
  subst ha
  obtain ⟨v, E', M', c1, s1, N, g1, g2, g3, g4, g5, g6⟩ := h (lv_args 0 as) E ⟨(g_args_nd as 0).1, fun _ _ h => h⟩ hE 0 0
  refine ⟨v, E', M', c1, s1, N, fun F hF => ?_, g2, by omega, by omega, g5, g6⟩
  unfold q_callf
  simp only [q_nf_eq, q_fc_eq, h1]
  exact g1 F F hF hF
/-! by what a method returns -/
def g_qI (Q : Int → g_M → Prop) : Option Value → g_M → Prop := fun v M => ∃ x, v = some (g_n x) ∧ g_InR x ∧ Q x M
def g_qL (Q : Int64 → g_M → Prop) : Option Value → g_M → Prop := fun v M => ∃ x, v = some (.long x) ∧ Q x M
def g_qR (Q : Option Nat → g_M → Prop) : Option Value → g_M → Prop := fun v M => ∃ x, v = some (va_rf x) ∧ Q x M
def g_qV (Q : g_M → Prop) : Option Value → g_M → Prop := fun v M => v = none ∧ Q M
theorem r_callI {Q1 : Int → g_M → Prop} (h : g_Call d z as M (g_qI Q1)) (kk : ∀ x M1, g_ext M M1 → g_ok M1 → g_InR x → Q1 x M1 → g_Run d y pc lv (g_n x :: r) M1 Q) : g_Call d z as M (fun v M1 => g_Run d y pc lv (v.toList ++ r) M1 Q) :=
  h.mono (fun v M1 hx q => by
    obtain ⟨x, rfl, h1, h2⟩ := q
    exact g_Run.ok (fun hok => kk x M1 hx hok h1 h2))
theorem r_callL {Q1 : Int64 → g_M → Prop} (h : g_Call d z as M (g_qL Q1)) (kk : ∀ x M1, g_ext M M1 → g_ok M1 → Q1 x M1 → g_Run d y pc lv (.long x :: r) M1 Q) : g_Call d z as M (fun v M1 => g_Run d y pc lv (v.toList ++ r) M1 Q) :=
  h.mono (fun v M1 hx q => by
    obtain ⟨x, rfl, h2⟩ := q
    exact g_Run.ok (fun hok => kk x M1 hx hok h2))
theorem r_callR {Q1 : Option Nat → g_M → Prop} (h : g_Call d z as M (g_qR Q1)) (kk : ∀ x M1, g_ext M M1 → g_ok M1 → Q1 x M1 → g_Run d y pc lv (va_rf x :: r) M1 Q) : g_Call d z as M (fun v M1 => g_Run d y pc lv (v.toList ++ r) M1 Q) :=
  h.mono (fun v M1 hx q => by
    obtain ⟨x, rfl, h2⟩ := q
    exact g_Run.ok (fun hok => kk x M1 hx hok h2))
theorem r_callV {Q1 : g_M → Prop} (h : g_Call d z as M (g_qV Q1)) (kk : ∀ M1, g_ext M M1 → g_ok M1 → Q1 M1 → g_Run d y pc lv r M1 Q) : g_Call d z as M (fun v M1 => g_Run d y pc lv (v.toList ++ r) M1 Q) :=
  h.mono (fun v M1 hx q => by
    obtain ⟨rfl, h2⟩ := q
    exact g_Run.ok (fun hok => kk M1 hx hok h2))
theorem g_zx (h : x = 0 ∨ x = 1) (hty : q_Ty ci k = .boolean) : q_fit (q_Ty ci k) (g_n x) = true ∧ g_fit (q_Ty ci k) x := by
  rw [hty]
  exact ⟨by rcases h with rfl | rfl <;> rfl, h⟩
theorem g_nar {ty : FieldType} (h : match ty with
    | .int => True
    | .boolean => x = 0 ∨ x = 1
    | _ => False) : q_nar ty (Int32.ofInt x) = true := by
  cases ty <;> first | (exact h.elim) | skip
  · rfl
  · rcases h with rfl | rfl <;> rfl
end G2
