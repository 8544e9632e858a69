section G4
variable {d y pc len k idx ns a ci t o : Nat} {lv : q_L} {st : List Value} {M M1 : g_M} {x u : Int} {X : Int64} {ini : Bool}
theorem r_retX {Q : Int → g_M → Prop} {ty : FieldType} (hd : decode (q_code y) pc = .ok (.ireturn, 1)) (hr : q_ret y = some ty) (hx : g_InR x) (hn : q_nar ty (Int32.ofInt x) = true) (h : Q x M) : g_Run d y pc lv [g_n x] M (g_qI Q) :=
  r_ret (o := some (g_n x)) hd (by
    show q_rets (q_ret y) .ireturn 1 [.int (Int32.ofInt x)] = _
    rw [hr]
    show q_if (q_nar ty (Int32.ofInt x)) _ = _
    rw [hn]
    rfl) ⟨x, rfl, hx, h⟩
theorem r_gets {Q : Option Value → g_M → Prop} (hd : decode (q_code y) pc = .ok (.getstatic 38, 3)) (ho : (q_own y == 14) = true) (kk : g_Run d y (pc + 3) lv (g_n 1 :: st) M Q) : g_Run d y pc lv st M Q :=
  g_st0 hd rfl rfl (fun lv' E _ _ => by
    show q_if (q_own y == 14 && (38 : Nat) == 38) _ = _
    rw [ho]
    rfl) kk
theorem r_ck {Q : Option Value → g_M → Prop} (hd : decode (q_code y) pc = .ok (.invokestatic 9, 3)) (hcl : q_cal (q_own y) 9 = none) (ho : (q_own y == 15) = true) (h8 : decide ((st.map fun v => v.category).sum ≤ 8) = true) (hx : g_InR x) (hu : g_InR u) (h0 : 0 ≤ x) (h1 : x < u) (kk : g_Run d y (pc + 3) lv st M Q) : g_Run d y pc lv (g_n u :: g_n x :: st) M Q :=
  g_nat hd hcl (fun lv' E => by
    show q_el (q_if (q_own y == 15 && (9 : Nat) == 9) (q_if (decide (¬ Int32.ofInt x < 0) && decide (Int32.ofInt x < Int32.ofInt u) && decide ((st.map fun v => v.category).sum ≤ 8)) (some (pc + 3, lv', st, E, 0, 0)))) _ = _
    rw [ho, h8, show (decide (¬ Int32.ofInt x < 0)) = true by rw [g_of0]; simp only [decide_eq_true_eq, g_ofLt hx g_R0]; omega, show decide (Int32.ofInt x < Int32.ofInt u) = true by simp only [decide_eq_true_eq, g_ofLt hx hu]; exact h1]
    rfl) kk
def g_i2c (x : Int) : Int := ((Int32.ofInt x).toUInt32 % 65536).toInt32.toInt
theorem r_i2c {Q : Option Value → g_M → Prop} (hd : decode (q_code y) pc = .ok (.i2c, 1)) (kk : g_Run d y (pc + 1) lv (g_n (g_i2c x) :: st) M Q) : g_Run d y pc lv (g_n x :: st) M Q :=
  g_st0 hd rfl rfl (fun lv' E _ _ => by
    show some (pc + 1, lv', Value.int ((Int32.ofInt x).toUInt32 % 65536).toInt32 :: st, E, 0, 0) = _
    unfold g_i2c
    rw [g_n_toInt]) kk
/-- numbers of 32 bits, round about -/
def g_w32 (x : Int) : Int := (Int32.ofInt x).toInt
theorem g_w32_n (x : Int) : g_n x = g_n (g_w32 x) := by
  unfold g_w32
  rw [g_n_toInt]
  rfl
theorem g_w32_of (h : g_InR x) : g_w32 x = x := g_toInt h
theorem r_iaddW {Q : Option Value → g_M → Prop} (hd : decode (q_code y) pc = .ok (.iadd, 1)) (kk : g_Run d y (pc + 1) lv (g_n (g_w32 (x + u)) :: st) M Q) : g_Run d y pc lv (g_n u :: g_n x :: st) M Q :=
  r_iadd hd (by rw [g_w32_n]; exact kk)
theorem r_isubW {Q : Option Value → g_M → Prop} (hd : decode (q_code y) pc = .ok (.isub, 1)) (kk : g_Run d y (pc + 1) lv (g_n (g_w32 (x - u)) :: st) M Q) : g_Run d y pc lv (g_n u :: g_n x :: st) M Q :=
  r_isub hd (by rw [g_w32_n]; exact kk)
end G4
