section G3
variable {d y pc len k idx ns a ci t o : Nat} {lv : q_L} {st : List Value} {M M1 : g_M} {x u : Int} {X : Int64} {ini : Bool}
theorem g_Rk (h : (decide (-2147483648 ≤ x) && decide (x ≤ 2147483647)) = true) : g_InR x := by
  simp only [Bool.and_eq_true, decide_eq_true_eq] at h
  exact h
theorem r_retI {Q : Int → g_M → Prop} (hd : decode (q_code y) pc = .ok (.ireturn, 1)) (hr : q_ret y = some .int) (hx : g_InR x) (h : Q x M) : g_Run d y pc lv [g_n x] M (g_qI Q) :=
  r_ret (o := some (g_n x)) hd (by
    show q_rets (q_ret y) .ireturn 1 [.int (Int32.ofInt x)] = _
    rw [hr]
    rfl) ⟨x, rfl, hx, h⟩
theorem r_retZ {Q : Int → g_M → Prop} (hd : decode (q_code y) pc = .ok (.ireturn, 1)) (hr : q_ret y = some .boolean) (hz : x = 0 ∨ x = 1) (h : Q x M) : g_Run d y pc lv [g_n x] M (g_qI Q) :=
  r_ret (o := some (g_n x)) hd (by
    show q_rets (q_ret y) .ireturn 1 [.int (Int32.ofInt x)] = _
    rw [hr]
    rcases hz with rfl | rfl <;> rfl) ⟨x, rfl, by rcases hz with rfl | rfl <;> exact ⟨by decide, by decide⟩, h⟩
theorem r_retV {Q : g_M → Prop} (hd : decode (q_code y) pc = .ok (.return_, 1)) (hr : q_ret y = none) (h : Q M) : g_Run d y pc lv [] M (g_qV Q) :=
  r_ret (o := none) hd (by
    show q_rets (q_ret y) .return_ 1 [] = _
    rw [hr]
    rfl) ⟨rfl, h⟩
theorem r_retL {Q : Int64 → g_M → Prop} (hd : decode (q_code y) pc = .ok (.lreturn, 1)) (hr : q_ret y = some .long) (h : Q X M) : g_Run d y pc lv [.long X] M (g_qL Q) :=
  r_ret (o := some (.long X)) hd (by
    show q_rets (q_ret y) .lreturn 1 [.long X] = _
    rw [hr]
    rfl) ⟨X, rfl, h⟩
def g_isRet (y : Nat) : Bool := match q_ret y with
  | some ty => g_isR ty
  | none => false
theorem r_retA {Q : Option Nat → g_M → Prop} (hd : decode (q_code y) pc = .ok (.areturn, 1)) (hr : g_isRet y = true) (h : Q (some a) M) : g_Run d y pc lv [.ref a] M (g_qR Q) :=
  r_ret (o := some (.ref a)) hd (by
    unfold g_isRet at hr
    show q_rets (q_ret y) .areturn 1 [.ref a] = _
    cases hq : q_ret y with
    | none => rw [hq] at hr; cases hr
    | some ty =>
      rw [hq] at hr
      cases ty <;> first | rfl | (cases hr)) ⟨some a, rfl, h⟩
theorem r_retN {Q : Option Nat → g_M → Prop} (hd : decode (q_code y) pc = .ok (.areturn, 1)) (hr : g_isRet y = true) (h : Q none M) : g_Run d y pc lv [.null] M (g_qR Q) :=
  r_ret (o := some .null) hd (by
    unfold g_isRet at hr
    show q_rets (q_ret y) .areturn 1 [.null] = _
    cases hq : q_ret y with
    | none => rw [hq] at hr; cases hr
    | some ty =>
      rw [hq] at hr
      cases ty <;> first | rfl | (cases hr)) ⟨none, rfl, h⟩
theorem g_w8_I (x : Int) : g_InR (g_w8 x) := by
  have := g_w8_R x
  exact ⟨by omega, by omega⟩
theorem g_tdiv_R (hx : g_InR x) (h : 0 < u) : g_InR (x.tdiv u) := by
  obtain ⟨h1, h2⟩ := hx
  by_cases hz : 0 ≤ x
  · have h3 : x.tdiv u ≤ x := Int.tdiv_le_self u hz
    have h4 : 0 ≤ x.tdiv u := Int.tdiv_nonneg hz (by omega)
    exact ⟨by omega, by omega⟩
  · have h5 : x.tdiv u = -((-x).tdiv u) := by rw [Int.neg_tdiv, Int.neg_neg]
    have h3 : (-x).tdiv u ≤ -x := Int.tdiv_le_self u (by omega)
    have h4 : 0 ≤ (-x).tdiv u := Int.tdiv_nonneg (by omega) (by omega)
    exact ⟨by omega, by omega⟩
theorem g_tmod_R (hx : g_InR x) (h : 0 < u) : g_InR (x.tmod u) := by
  obtain ⟨h1, h2⟩ := hx
  by_cases hz : 0 ≤ x
  · have h3 : x.tmod u ≤ x := by
      rw [Int.tmod_eq_emod_of_nonneg hz]
      have h9 := Int.mul_nonneg (a := u) (b := x / u) (by omega) (Int.ediv_nonneg hz (by omega))
      rw [Int.emod_def]
      omega
    have h4 : 0 ≤ x.tmod u := Int.tmod_nonneg u hz
    exact ⟨by omega, by omega⟩
  · have h5 : x.tmod u = -((-x).tmod u) := by rw [Int.neg_tmod, Int.neg_neg]
    have h3 : (-x).tmod u ≤ -x := by
      rw [Int.tmod_eq_emod_of_nonneg (by omega)]
      have h9 := Int.mul_nonneg (a := u) (b := -x / u) (by omega) (Int.ediv_nonneg (by omega) (by omega))
      rw [Int.emod_def]
      omega
    have h4 : 0 ≤ (-x).tmod u := Int.tmod_nonneg u (by omega)
    exact ⟨by omega, by omega⟩
theorem g_max_R (hx : g_InR x) (hu : g_InR u) : g_InR (max x u) := by
  obtain ⟨h1, h2⟩ := hx
  obtain ⟨h3, h4⟩ := hu
  exact ⟨by omega, by omega⟩
theorem g_min_R (hx : g_InR x) (hu : g_InR u) : g_InR (min x u) := by
  obtain ⟨h1, h2⟩ := hx
  obtain ⟨h3, h4⟩ := hu
  exact ⟨by omega, by omega⟩
theorem r_tableAt {Q : Option Value → g_M → Prop} {dd lo hi kk1 : Int} {offs : Array Int} (hd : decode (q_code y) pc = .ok (.tableswitch dd lo hi offs, len)) (e : x = kk1) (hx : g_InR kk1) (hp : (bif decide (kk1 < lo) || decide (hi < kk1) then q_tg pc dd else (offs[(kk1 - lo).toNat]?).bind (fun off => q_tg pc off)) = some t) (kk : g_Run d y t lv st M Q) : g_Run d y pc lv (g_n x :: st) M Q := by
  subst e
  exact r_table hd hx hp kk
theorem r_tableD {Q : Option Value → g_M → Prop} {dd lo hi : Int} {offs : Array Int} (hd : decode (q_code y) pc = .ok (.tableswitch dd lo hi offs, len)) (hx : g_InR x) (h : x < lo ∨ hi < x) (hp : q_tg pc dd = some t) (kk : g_Run d y t lv st M Q) : g_Run d y pc lv (g_n x :: st) M Q := by
  refine r_table hd hx ?_ kk
  rw [show (decide (x < lo) || decide (hi < x)) = true by simpa using h]
  exact hp
theorem r_lookupAt {Q : Option Value → g_M → Prop} {dd kk1 : Int} {ps : Array (Int × Int)} (hd : decode (q_code y) pc = .ok (.lookupswitch dd ps, len)) (e : x = kk1) (hx : g_InR kk1) (hz : ((ps.toList.zip (ps.toList.drop 1)).all (fun (a, next) => a.1 < next.1)) = true) (hp : q_tg pc (Op.lookupswitch.offset ps.toList dd kk1) = some t) (kk : g_Run d y t lv st M Q) : g_Run d y pc lv (g_n x :: st) M Q := by
  subst e
  exact r_lookup hd hx hz hp kk
theorem r_lookupD {Q : Option Value → g_M → Prop} {dd : Int} {ps : Array (Int × Int)} (hd : decode (q_code y) pc = .ok (.lookupswitch dd ps, len)) (hx : g_InR x) (hz : ((ps.toList.zip (ps.toList.drop 1)).all (fun (a, next) => a.1 < next.1)) = true) (ho : Op.lookupswitch.offset ps.toList dd x = dd) (hp : q_tg pc dd = some t) (kk : g_Run d y t lv st M Q) : g_Run d y pc lv (g_n x :: st) M Q :=
  r_lookup hd hx hz (by rw [ho]; exact hp) kk
theorem g_f0 (h : (decide (q_Ty ci k = .int) && q_fin o ini ci k ns) = true) : (q_fit (q_Ty ci k) (g_n x) && q_fin o ini ci k ns) = true := by
  simp only [Bool.and_eq_true, decide_eq_true_eq] at h
  rw [h.1, h.2]
  rfl
theorem g_fZ (hz : x = 0 ∨ x = 1) (h : (decide (q_Ty ci k = .boolean) && q_fin o ini ci k ns) = true) : (q_fit (q_Ty ci k) (g_n x) && q_fin o ini ci k ns) = true := by
  simp only [Bool.and_eq_true, decide_eq_true_eq] at h
  rw [(g_zx hz h.1).1, h.2]
  rfl
theorem g_fR {b : Option Nat} (h : q_fin o ini ci k ns = true) (hty : g_isR (q_Ty ci k) = true) : (q_fit (q_Ty ci k) (va_rf b) && q_fin o ini ci k ns) = true := by
  rw [h]
  generalize q_Ty ci k = ty at hty
  cases ty <;> first | (cases hty; done) | (cases b <;> rfl)
theorem g_extW {v j : Int} (h : M1 = g_wi M a j v) : g_ext M M1 := by
  subst h
  exact g_A1 rfl
theorem g_extR {v : Option Nat} {j : Int} (h : M1 = g_wr M a j v) : g_ext M M1 := by
  subst h
  exact g_A1 rfl
theorem g_extC {a0 : Nat} {sp dp n : Int} (h : M1 = g_cp M a0 a sp dp n) : g_ext M M1 := by
  subst h
  exact g_A1 rfl
theorem g_extN {n : Nat} (h : M1 = g_nw M t n) : g_ext M M1 := by
  subst h
  intro x c hx
  obtain ⟨h1, h2⟩ := g_sh_s hx
  unfold g_sh
  rw [if_pos (by omega)]
  show (M.1 ++ [_])[x / 2]? = some c
  rw [List.getElem?_append_left (List.getElem?_eq_some_iff.mp h2).1]
  exact h2
theorem g_A_nw {n : Nat} : g_A (g_nw M t n) (2 * M.1.length) t (n : Int) := by
  refine ⟨n, ?_, rfl⟩
  unfold g_sh
  rw [if_pos (by omega)]
  show (M.1 ++ [_])[2 * M.1.length / 2]? = _
  rw [show 2 * M.1.length / 2 = M.1.length by omega, List.getElem?_append_right (Nat.le_refl _), Nat.sub_self]
  rfl
end G3
