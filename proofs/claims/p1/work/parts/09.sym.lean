/-! symbolic steps of the pure machine: nothing made, calls by their results -/
section SYM
variable {call : Nat → List Value → q_H → Option q_X} {o nL n pc pc1 len a idx ci k ns m t j y z F d : Nat} {ini b : Bool} {cc : ByteArray} {ret : Option FieldType} {lv lv1 : q_L} {st st1 r as fs : List Value} {E E1 : q_H} {ins : Instr} {x : q_X} {v w : Value} {i u : Int32} {L : List (Nat × Int32)} {LR : List (Nat × Nat)} {off : Int} {cd : ClassFile.Cond}
theorem q_sg (hd : decode cc pc = .ok (ins, len)) (h1 : q_rets ret ins len st = none) (h2 : q_cl call o ins len st E = none) (h3 : q_step o nL ini ins len pc lv st E = some (pc1, lv1, st1, E1, 0, 0)) (kk : q_run call o nL ini cc ret n pc1 lv1 st1 E1 0 0 = some x) : q_run call o nL ini cc ret (n + 1) pc lv st E 0 0 = some x := by
  unfold q_run
  simp only [q_nf_eq, hd, h1, h2, h3]
  exact kk
theorem q_sr {v : Option Value} (hd : decode cc pc = .ok (ins, len)) (h1 : q_rets ret ins len st = some v) : q_run call o nL ini cc ret (n + 1) pc lv st E 0 0 = some (v, E, 0, 0) := by
  unfold q_run
  simp only [q_nf_eq, hd, h1]
theorem q_cg {X : Option q_X} (h1 : (decide ((lg_sl as).length ≤ q_maxL y) && decide (as.length = q_na y + (bif q_stat y then 0 else 1))) = true) (h2 : q_run (q_callf F d) (q_own y) (q_maxL y) (q_ini y) (q_code y) (q_ret y) F 0 (lv_args 0 as) [] E 0 0 = X) : q_callf F (d + 1) y as E = X := by
  unfold q_callf
  simp only [q_nf_eq, q_fc_eq, h1]
  exact h2
theorem q_ob (h : E[a / 2]? = some (.inr (ci, fs))) (hz : (a % 2 == 0) = true) : q_obj E a ci = some fs := by
  unfold q_obj q_cell
  rw [hz, h]
  simp [q_if]
theorem q_ar (h : E[a / 2]? = some (.inl (t, m, .inl L))) (hz : (a % 2 == 0) = true) : q_arr E a = some (t, m, L) := by
  unfold q_arr q_cell
  rw [hz, h]
  rfl
theorem q_aR (h : E[a / 2]? = some (.inl (t, m, .inr LR))) (hz : (a % 2 == 0) = true) : q_arrR E a = some (t, m, LR) := by
  unfold q_arrR q_cell
  rw [hz, h]
  rfl
theorem q_s_get (hd : decode cc pc = .ok (.getfield idx, 3)) (h1 : q_sget o idx a = none) (hp : pc + 3 = pc1) (h2 : q_fld o idx = some (ci, k, ns)) (h3 : q_obj E a ci = some fs) (h4 : fs[k]? = some v) (kk : q_run call o nL ini cc ret n pc1 lv (v :: st) E 0 0 = some x) : q_run call o nL ini cc ret (n + 1) pc lv (.ref a :: st) E 0 0 = some x := by
  subst hp
  refine q_sg hd rfl rfl ?_ kk
  show q_el ((q_sget o idx a).bind fun v => some (pc + 3, lv, v :: st, E, 0, 0)) ((q_fld o idx).bind fun q => (q_obj E a q.1).bind fun fs => (fs[q.2.1]?).bind fun v => some (pc + 3, lv, v :: st, E, 0, 0)) = _
  rw [h1, h2]
  show ((q_obj E a ci).bind fun fs => (fs[k]?).bind fun v => some (pc + 3, lv, v :: st, E, 0, 0)) = _
  rw [h3]
  show ((fs[k]?).bind fun v => some (pc + 3, lv, v :: st, E, 0, 0)) = _
  rw [h4]
  rfl
theorem q_s_aal (hd : decode cc pc = .ok (.aaload, 1)) (hp : pc + 1 = pc1) (h2 : q_arrR E a = some (t, m, LR)) (h3 : (q_rt t && q_in i m) = true) (h4 : va_rf (q_lr LR i.toNatClampNeg) = v) (kk : q_run call o nL ini cc ret n pc1 lv (v :: st) E 0 0 = some x) : q_run call o nL ini cc ret (n + 1) pc lv (.int i :: .ref a :: st) E 0 0 = some x := by
  subst hp
  subst h4
  refine q_sg hd rfl rfl ?_ kk
  show ((q_arrR E a).bind fun q => q_if (q_rt q.1 && q_in i q.2.1) (some (pc + 1, lv, va_rf (q_lr q.2.2 i.toNatClampNeg) :: st, E, 0, 0))) = _
  rw [h2]
  show q_if (q_rt t && q_in i m) _ = _
  rw [h3]
  rfl
theorem q_s_ial (hd : decode cc pc = .ok (.iaload, 1)) (hp : pc + 1 = pc1) (h2 : q_arr E a = some (1, m, L)) (h3 : q_in i m = true) (h4 : q_lk L i.toNatClampNeg = u) (kk : q_run call o nL ini cc ret n pc1 lv (.int u :: st) E 0 0 = some x) : q_run call o nL ini cc ret (n + 1) pc lv (.int i :: .ref a :: st) E 0 0 = some x := by
  subst hp
  subst h4
  refine q_sg hd rfl rfl ?_ kk
  show ((q_arr E a).bind fun q => q_if (q.1 == 1 && q_in i q.2.1) (some (pc + 1, lv, .int (q_lk q.2.2 i.toNatClampNeg) :: st, E, 0, 0))) = _
  rw [h2]
  show q_if (q_in i m) _ = _
  rw [h3]
  rfl
theorem q_s_put (hd : decode cc pc = .ok (.putfield idx, 3)) (hp : pc + 3 = pc1) (h2 : q_fld o idx = some (ci, k, ns)) (h3 : q_obj E a ci = some fs) (h4 : (q_fit (q_Ty ci k) v && q_fin o ini ci k ns && decide (k < fs.length)) = true) (hE : E.set (a / 2) (.inr (ci, fs.set k v)) = E1) (kk : q_run call o nL ini cc ret n pc1 lv st E1 0 0 = some x) : q_run call o nL ini cc ret (n + 1) pc lv (v :: .ref a :: st) E 0 0 = some x := by
  subst hp
  subst hE
  refine q_sg hd rfl rfl ?_ kk
  show ((q_fld o idx).bind fun q => (q_obj E a q.1).bind fun fs => q_if (q_fit (q_Ty q.1 q.2.1) v && q_fin o ini q.1 q.2.1 q.2.2 && decide (q.2.1 < fs.length)) (q_fc (fs.set q.2.1 v) fun fs1 => q_fc (E.set (a / 2) (.inr (q.1, fs1))) fun E1 => some (pc + 3, lv, st, E1, 0, 0))) = _
  rw [h2]
  show ((q_obj E a ci).bind fun fs => q_if (q_fit (q_Ty ci k) v && q_fin o ini ci k ns && decide (k < fs.length)) (q_fc (fs.set k v) fun fs1 => q_fc (E.set (a / 2) (.inr (ci, fs1))) fun E1 => some (pc + 3, lv, st, E1, 0, 0))) = _
  rw [h3]
  show q_if (q_fit (q_Ty ci k) v && q_fin o ini ci k ns && decide (k < fs.length)) _ = _
  rw [h4, q_fc_eq, q_fc_eq]
  rfl
theorem q_s_bas (hd : decode cc pc = .ok (.bastore, 1)) (hp : pc + 1 = pc1) (h2 : q_arr E a = some (0, m, L)) (h3 : q_in i m = true) (hj : i.toNatClampNeg = j) (hE : E.set (a / 2) (.inl (0, m, .inl ((j, u.toInt8.toInt32) :: L))) = E1) (kk : q_run call o nL ini cc ret n pc1 lv st E1 0 0 = some x) : q_run call o nL ini cc ret (n + 1) pc lv (.int u :: .int i :: .ref a :: st) E 0 0 = some x := by
  subst hp
  subst hj
  subst hE
  refine q_sg hd rfl rfl ?_ kk
  show ((q_arr E a).bind fun q => q_if ((q.1 == 0 || q.1 == 2) && q_in i q.2.1) (bif (q.1 == 2 && q_lk q.2.2 i.toNatClampNeg == (u &&& 1)) then some (pc + 1, lv, st, E, 0, 0) else q_fc (E.set (a / 2) (.inl (q.1, q.2.1, .inl (q_nf i.toNatClampNeg fun j => bif q.1 == 0 then (j, u.toInt8.toInt32) :: q.2.2 else q_upz q.2.2 j (u &&& 1))))) fun E1 => some (pc + 1, lv, st, E1, 0, 0))) = _
  rw [h2]
  show q_if (q_in i m) (q_fc (E.set (a / 2) (.inl (0, m, .inl (q_nf i.toNatClampNeg fun j => (j, u.toInt8.toInt32) :: L)))) fun E1 => some (pc + 1, lv, st, E1, 0, 0)) = _
  rw [h3, q_fc_eq, q_nf_eq]
  rfl
theorem q_s_ias (hd : decode cc pc = .ok (.iastore, 1)) (hp : pc + 1 = pc1) (h2 : q_arr E a = some (1, m, L)) (h3 : q_in i m = true) (hj : i.toNatClampNeg = j) (hE : E.set (a / 2) (.inl (1, m, .inl ((j, u) :: L))) = E1) (kk : q_run call o nL ini cc ret n pc1 lv st E1 0 0 = some x) : q_run call o nL ini cc ret (n + 1) pc lv (.int u :: .int i :: .ref a :: st) E 0 0 = some x := by
  subst hp
  subst hj
  subst hE
  refine q_sg hd rfl rfl ?_ kk
  show ((q_arr E a).bind fun q => q_if (q.1 == 1 && q_in i q.2.1) (q_fc (E.set (a / 2) (.inl (q.1, q.2.1, .inl (q_nf i.toNatClampNeg fun j => (j, u) :: q.2.2)))) fun E1 => some (pc + 1, lv, st, E1, 0, 0))) = _
  rw [h2]
  show q_if (q_in i m) (q_fc (E.set (a / 2) (.inl (1, m, .inl (q_nf i.toNatClampNeg fun j => (j, u) :: L)))) fun E1 => some (pc + 1, lv, st, E1, 0, 0)) = _
  rw [h3, q_fc_eq, q_nf_eq]
  rfl
theorem q_s_if (hd : decode cc pc = .ok (.ifCond cd off, 3)) (ht : q_tg pc off = some t) (hb : q_c1 cd u = b) (hp : (bif b then t else pc + 3) = pc1) (kk : q_run call o nL ini cc ret n pc1 lv st E 0 0 = some x) : q_run call o nL ini cc ret (n + 1) pc lv (.int u :: st) E 0 0 = some x := by
  subst hp
  subst hb
  refine q_sg hd rfl rfl ?_ kk
  show ((q_tg pc off).bind fun t => some (bif q_c1 cd u then t else pc + 3, lv, st, E, 0, 0)) = _
  rw [ht]
  rfl
theorem q_s_ic (hd : decode cc pc = .ok (.if_icmp cd off, 3)) (ht : q_tg pc off = some t) (hb : q_c2 cd i u = b) (hp : (bif b then t else pc + 3) = pc1) (kk : q_run call o nL ini cc ret n pc1 lv st E 0 0 = some x) : q_run call o nL ini cc ret (n + 1) pc lv (.int u :: .int i :: st) E 0 0 = some x := by
  subst hp
  subst hb
  refine q_sg hd rfl rfl ?_ kk
  show ((q_tg pc off).bind fun t => some (bif q_c2 cd i u then t else pc + 3, lv, st, E, 0, 0)) = _
  rw [ht]
  rfl
theorem q_s_tab {df lo hi : Int} {offs : Array Int} (hd : decode cc pc = .ok (.tableswitch df lo hi offs, len)) (hb : u.toInt < lo ∨ hi < u.toInt) (ht : q_tg pc df = some pc1) (kk : q_run call o nL ini cc ret n pc1 lv st E 0 0 = some x) : q_run call o nL ini cc ret (n + 1) pc lv (.int u :: st) E 0 0 = some x := by
  refine q_sg hd rfl rfl ?_ kk
  show (bif (decide (u.toInt < lo) || decide (hi < u.toInt)) then ((q_tg pc df).bind fun t => some (t, lv, st, E, 0, 0)) else ((offs[(u.toInt - lo).toNat]?).bind fun off => (q_tg pc off).bind fun t => some (t, lv, st, E, 0, 0))) = _
  rw [show (decide (u.toInt < lo) || decide (hi < u.toInt)) = true by simpa using hb, ht]
  rfl
theorem q_s_inv {v : Option Value} (hd : decode cc pc = .ok (.invokevirtual idx, 3)) (hq : q_cal o idx = some (y, z)) (hp : pc + 3 = pc1) (hn : st = as.reverse ++ .ref a :: r) (hl : q_na y = as.length) (hs : q_stat y = false) (hi : q_ini y = false) (ho : q_own y = ci) (hlt : ci < 13) (hob : q_obj E a ci = some fs) (hc : (r.map fun v => v.category).sum ≤ 8) (h3 : call y (.ref a :: as) E = some (v, E1, 0, 0)) (he : v.toList ++ r = st1) (kk : q_run call o nL ini cc ret n pc1 lv st1 E1 0 0 = some x) : q_run call o nL ini cc ret (n + 1) pc lv st E 0 0 = some x := by
  subst hp
  subst he
  have h4 : q_cl call o (.invokevirtual idx) 3 st E = some (v, r, E1, 0, 0) := by
    unfold q_cl
    show ((q_cal o idx).bind fun q => q_nf q.1 fun y => q_if (3 == 3 && decide (q_na y ≤ st.length)) (
      q_fc (st.take (q_na y)).reverse fun as => bif 1 == 0 then q_if (q_stat y && decide (((st.drop (q_na y)).map fun v => v.category).sum ≤ 8)) ((call y as E).map fun x => (x.1, st.drop (q_na y), x.2.1, x.2.2.1, x.2.2.2))
      else q_pr (st.drop (q_na y)) fun a r => q_if (!q_stat y && (q_ini y == (1 == 2)) && (!q_ini y || (q_ret y).isNone) && q_rcv E a (q_own y) && decide ((r.map fun v => v.category).sum ≤ 8)) ((call y (.ref a :: as) E).map fun x => (x.1, r, x.2.1, x.2.2.1, x.2.2.2)))) = _
    rw [hq]
    simp only [Option.bind_some, q_nf_eq, q_fc_eq]
    have e1 : st.take (q_na y) = as.reverse := by
      rw [hn, hl]
      exact List.take_left' (by simp)
    have e2 : st.drop (q_na y) = .ref a :: r := by
      rw [hn, hl]
      exact List.drop_left' (by simp)
    have e3 : q_na y ≤ st.length := by
      rw [hn, hl]
      simp
    have e4 : q_rcv E a (q_own y) = true := by
      unfold q_rcv
      rw [ho, hob]
      rw [show (ci == 14) = false by simp; omega]
      simpa using hlt
    rw [e1, e2, hs, hi, List.reverse_reverse, decide_eq_true e3]
    have e5 : (!false && false == (1 == 2) && (!false || (q_ret y).isNone) && q_rcv E a (q_own y) && decide ((r.map fun v => v.category).sum ≤ 8)) = true := by
      rw [e4, decide_eq_true hc]
      rfl
    have e6 : q_if (!false && false == (1 == 2) && (!false || (q_ret y).isNone) && q_rcv E a (q_own y) && decide ((r.map fun v => v.category).sum ≤ 8)) ((call y (.ref a :: as) E).map fun x => (x.1, r, x.2.1, x.2.2.1, x.2.2.2)) = some (v, r, E1, 0, 0) := by
      rw [e5, h3]
      rfl
    exact e6
  unfold q_run
  have h5 : q_rets ret (.invokevirtual idx) 3 st = none := rfl
  simp only [q_nf_eq, hd, h4, h5]
  exact kk
theorem q_setE_same {G : q_H} {i : Nat} {e : q_E} (h : G[i]? = some e) : G.set i e = G := by
  apply List.ext_getElem?
  intro j
  rw [List.getElem?_set]
  by_cases hj : i = j
  · subst hj
    have := (List.getElem?_eq_some_iff.mp h).1
    rw [if_pos rfl, if_pos this, h]
  · rw [if_neg hj]
end SYM
/-! the bytes at each place -/
theorem x_16_0 : decode (q_code 16) 0 = .ok (.aload_n 0, 1) := by decide +kernel
theorem x_16_1 : decode (q_code 16) 1 = .ok (.getfield 99, 3) := by decide +kernel
theorem x_16_4 : decode (q_code 16) 4 = .ok (.bipush 20, 2) := by decide +kernel
theorem x_16_6 : decode (q_code 16) 6 = .ok (.iadd, 1) := by decide +kernel
theorem x_16_7 : decode (q_code 16) 7 = .ok (.sipush 2000, 3) := by decide +kernel
theorem x_16_10 : decode (q_code 16) 10 = .ok (.if_icmp .le 5, 3) := by decide +kernel
theorem x_16_15 : decode (q_code 16) 15 = .ok (.aload_n 0, 1) := by decide +kernel
theorem x_16_16 : decode (q_code 16) 16 = .ok (.iload_n 1, 1) := by decide +kernel
theorem x_16_17 : decode (q_code 16) 17 = .ok (.invokevirtual 103, 3) := by decide +kernel
theorem x_16_20 : decode (q_code 16) 20 = .ok (.aload_n 0, 1) := by decide +kernel
theorem x_16_21 : decode (q_code 16) 21 = .ok (.iload_n 2, 1) := by decide +kernel
theorem x_16_22 : decode (q_code 16) 22 = .ok (.invokevirtual 103, 3) := by decide +kernel
theorem x_16_25 : decode (q_code 16) 25 = .ok (.aload_n 0, 1) := by decide +kernel
theorem x_16_26 : decode (q_code 16) 26 = .ok (.iload_n 3, 1) := by decide +kernel
theorem x_16_27 : decode (q_code 16) 27 = .ok (.invokevirtual 103, 3) := by decide +kernel
theorem x_16_30 : decode (q_code 16) 30 = .ok (.aload_n 0, 1) := by decide +kernel
theorem x_16_31 : decode (q_code 16) 31 = .ok (.iload 4, 2) := by decide +kernel
theorem x_16_33 : decode (q_code 16) 33 = .ok (.invokevirtual 103, 3) := by decide +kernel
theorem x_16_36 : decode (q_code 16) 36 = .ok (.aload_n 0, 1) := by decide +kernel
theorem x_16_37 : decode (q_code 16) 37 = .ok (.iload 5, 2) := by decide +kernel
theorem x_16_39 : decode (q_code 16) 39 = .ok (.invokevirtual 103, 3) := by decide +kernel
theorem x_16_42 : decode (q_code 16) 42 = .ok (.aload_n 0, 1) := by decide +kernel
theorem x_16_43 : decode (q_code 16) 43 = .ok (.getfield 99, 3) := by decide +kernel
theorem x_16_46 : decode (q_code 16) 46 = .ok (.ireturn, 1) := by decide +kernel
theorem x_17_0 : decode (q_code 17) 0 = .ok (.iconst 4, 1) := by decide +kernel
theorem x_17_1 : decode (q_code 17) 1 = .ok (.aload_n 0, 1) := by decide +kernel
theorem x_17_2 : decode (q_code 17) 2 = .ok (.getfield 99, 3) := by decide +kernel
theorem x_17_5 : decode (q_code 17) 5 = .ok (.iadd, 1) := by decide +kernel
theorem x_17_6 : decode (q_code 17) 6 = .ok (.istore_n 2, 1) := by decide +kernel
theorem x_17_7 : decode (q_code 17) 7 = .ok (.aload_n 0, 1) := by decide +kernel
theorem x_17_8 : decode (q_code 17) 8 = .ok (.getfield 16, 3) := by decide +kernel
theorem x_17_11 : decode (q_code 17) 11 = .ok (.iload_n 2, 1) := by decide +kernel
theorem x_17_12 : decode (q_code 17) 12 = .ok (.iload_n 1, 1) := by decide +kernel
theorem x_17_13 : decode (q_code 17) 13 = .ok (.bipush 24, 2) := by decide +kernel
theorem x_17_15 : decode (q_code 17) 15 = .ok (.ishr, 1) := by decide +kernel
theorem x_17_16 : decode (q_code 17) 16 = .ok (.i2b, 1) := by decide +kernel
theorem x_17_17 : decode (q_code 17) 17 = .ok (.bastore, 1) := by decide +kernel
theorem x_17_18 : decode (q_code 17) 18 = .ok (.aload_n 0, 1) := by decide +kernel
theorem x_17_19 : decode (q_code 17) 19 = .ok (.getfield 16, 3) := by decide +kernel
theorem x_17_22 : decode (q_code 17) 22 = .ok (.iload_n 2, 1) := by decide +kernel
theorem x_17_23 : decode (q_code 17) 23 = .ok (.iconst 1, 1) := by decide +kernel
theorem x_17_24 : decode (q_code 17) 24 = .ok (.iadd, 1) := by decide +kernel
theorem x_17_25 : decode (q_code 17) 25 = .ok (.iload_n 1, 1) := by decide +kernel
theorem x_17_26 : decode (q_code 17) 26 = .ok (.bipush 16, 2) := by decide +kernel
theorem x_17_28 : decode (q_code 17) 28 = .ok (.ishr, 1) := by decide +kernel
theorem x_17_29 : decode (q_code 17) 29 = .ok (.i2b, 1) := by decide +kernel
theorem x_17_30 : decode (q_code 17) 30 = .ok (.bastore, 1) := by decide +kernel
theorem x_17_31 : decode (q_code 17) 31 = .ok (.aload_n 0, 1) := by decide +kernel
theorem x_17_32 : decode (q_code 17) 32 = .ok (.getfield 16, 3) := by decide +kernel
theorem x_17_35 : decode (q_code 17) 35 = .ok (.iload_n 2, 1) := by decide +kernel
theorem x_17_36 : decode (q_code 17) 36 = .ok (.iconst 2, 1) := by decide +kernel
theorem x_17_37 : decode (q_code 17) 37 = .ok (.iadd, 1) := by decide +kernel
theorem x_17_38 : decode (q_code 17) 38 = .ok (.iload_n 1, 1) := by decide +kernel
theorem x_17_39 : decode (q_code 17) 39 = .ok (.bipush 8, 2) := by decide +kernel
theorem x_17_41 : decode (q_code 17) 41 = .ok (.ishr, 1) := by decide +kernel
theorem x_17_42 : decode (q_code 17) 42 = .ok (.i2b, 1) := by decide +kernel
theorem x_17_43 : decode (q_code 17) 43 = .ok (.bastore, 1) := by decide +kernel
theorem x_17_44 : decode (q_code 17) 44 = .ok (.aload_n 0, 1) := by decide +kernel
theorem x_17_45 : decode (q_code 17) 45 = .ok (.getfield 16, 3) := by decide +kernel
theorem x_17_48 : decode (q_code 17) 48 = .ok (.iload_n 2, 1) := by decide +kernel
theorem x_17_49 : decode (q_code 17) 49 = .ok (.iconst 3, 1) := by decide +kernel
theorem x_17_50 : decode (q_code 17) 50 = .ok (.iadd, 1) := by decide +kernel
theorem x_17_51 : decode (q_code 17) 51 = .ok (.iload_n 1, 1) := by decide +kernel
theorem x_17_52 : decode (q_code 17) 52 = .ok (.i2b, 1) := by decide +kernel
theorem x_17_53 : decode (q_code 17) 53 = .ok (.bastore, 1) := by decide +kernel
theorem x_17_54 : decode (q_code 17) 54 = .ok (.aload_n 0, 1) := by decide +kernel
theorem x_17_55 : decode (q_code 17) 55 = .ok (.dup, 1) := by decide +kernel
theorem x_17_56 : decode (q_code 17) 56 = .ok (.getfield 99, 3) := by decide +kernel
theorem x_17_59 : decode (q_code 17) 59 = .ok (.iconst 4, 1) := by decide +kernel
theorem x_17_60 : decode (q_code 17) 60 = .ok (.iadd, 1) := by decide +kernel
theorem x_17_61 : decode (q_code 17) 61 = .ok (.putfield 99, 3) := by decide +kernel
theorem x_17_64 : decode (q_code 17) 64 = .ok (.return_, 1) := by decide +kernel
theorem x_18_0 : decode (q_code 18) 0 = .ok (.iload_n 1, 1) := by decide +kernel
theorem x_18_1 : decode (q_code 18) 1 = .ok (.ifCond .lt 11, 3) := by decide +kernel
theorem x_18_4 : decode (q_code 18) 4 = .ok (.iload_n 1, 1) := by decide +kernel
theorem x_18_5 : decode (q_code 18) 5 = .ok (.aload_n 0, 1) := by decide +kernel
theorem x_18_6 : decode (q_code 18) 6 = .ok (.getfield 99, 3) := by decide +kernel
theorem x_18_9 : decode (q_code 18) 9 = .ok (.if_icmp .le 5, 3) := by decide +kernel
theorem x_18_12 : decode (q_code 18) 12 = .ok (.iconst (-1), 1) := by decide +kernel
theorem x_18_13 : decode (q_code 18) 13 = .ok (.ireturn, 1) := by decide +kernel
theorem x_21_0 : decode (q_code 21) 0 = .ok (.iload_n 1, 1) := by decide +kernel
theorem x_21_1 : decode (q_code 21) 1 = .ok (.ifCond .lt 42, 3) := by decide +kernel
theorem x_21_4 : decode (q_code 21) 4 = .ok (.iload_n 1, 1) := by decide +kernel
theorem x_21_5 : decode (q_code 21) 5 = .ok (.aload_n 0, 1) := by decide +kernel
theorem x_21_6 : decode (q_code 21) 6 = .ok (.getfield 24, 3) := by decide +kernel
theorem x_21_9 : decode (q_code 21) 9 = .ok (.getfield 178, 3) := by decide +kernel
theorem x_21_12 : decode (q_code 21) 12 = .ok (.if_icmp .ge 31, 3) := by decide +kernel
theorem x_21_43 : decode (q_code 21) 43 = .ok (.iconst (-1), 1) := by decide +kernel
theorem x_21_44 : decode (q_code 21) 44 = .ok (.ireturn, 1) := by decide +kernel
theorem x_22_0 : decode (q_code 22) 0 = .ok (.iload_n 1, 1) := by decide +kernel
theorem x_22_1 : decode (q_code 22) 1 = .ok (.tableswitch 94 0 7 #[47, 47, 57, 57, 69, 69, 81, 89], 47) := by decide +kernel
theorem x_22_95 : decode (q_code 22) 95 = .ok (.iconst (-1), 1) := by decide +kernel
theorem x_22_96 : decode (q_code 22) 96 = .ok (.ireturn, 1) := by decide +kernel
theorem x_23_0 : decode (q_code 23) 0 = .ok (.aload_n 0, 1) := by decide +kernel
theorem x_23_1 : decode (q_code 23) 1 = .ok (.iload_n 1, 1) := by decide +kernel
theorem x_23_2 : decode (q_code 23) 2 = .ok (.iload_n 2, 1) := by decide +kernel
theorem x_23_3 : decode (q_code 23) 3 = .ok (.invokevirtual 197, 3) := by decide +kernel
theorem x_23_6 : decode (q_code 23) 6 = .ok (.ifCond .eq 17, 3) := by decide +kernel
theorem x_23_23 : decode (q_code 23) 23 = .ok (.iconst 0, 1) := by decide +kernel
theorem x_23_24 : decode (q_code 23) 24 = .ok (.ireturn, 1) := by decide +kernel
theorem x_24_0 : decode (q_code 24) 0 = .ok (.aload_n 0, 1) := by decide +kernel
theorem x_24_1 : decode (q_code 24) 1 = .ok (.iload_n 1, 1) := by decide +kernel
theorem x_24_2 : decode (q_code 24) 2 = .ok (.iload_n 2, 1) := by decide +kernel
theorem x_24_3 : decode (q_code 24) 3 = .ok (.invokevirtual 197, 3) := by decide +kernel
theorem x_24_6 : decode (q_code 24) 6 = .ok (.ifCond .eq 26, 3) := by decide +kernel
theorem x_24_32 : decode (q_code 24) 32 = .ok (.iconst (-1), 1) := by decide +kernel
theorem x_24_33 : decode (q_code 24) 33 = .ok (.ireturn, 1) := by decide +kernel
theorem x_25_0 : decode (q_code 25) 0 = .ok (.aload_n 0, 1) := by decide +kernel
theorem x_25_1 : decode (q_code 25) 1 = .ok (.iload_n 1, 1) := by decide +kernel
theorem x_25_2 : decode (q_code 25) 2 = .ok (.iload_n 2, 1) := by decide +kernel
theorem x_25_3 : decode (q_code 25) 3 = .ok (.invokevirtual 197, 3) := by decide +kernel
theorem x_25_6 : decode (q_code 25) 6 = .ok (.ifCond .eq 7, 3) := by decide +kernel
theorem x_25_13 : decode (q_code 25) 13 = .ok (.iconst (-1), 1) := by decide +kernel
theorem x_25_14 : decode (q_code 25) 14 = .ok (.ireturn, 1) := by decide +kernel
theorem x_26_0 : decode (q_code 26) 0 = .ok (.iload_n 1, 1) := by decide +kernel
theorem x_26_1 : decode (q_code 26) 1 = .ok (.ifCond .eq 8, 3) := by decide +kernel
theorem x_26_4 : decode (q_code 26) 4 = .ok (.iload_n 1, 1) := by decide +kernel
theorem x_26_5 : decode (q_code 26) 5 = .ok (.iconst 1, 1) := by decide +kernel
theorem x_26_6 : decode (q_code 26) 6 = .ok (.if_icmp .ne 31, 3) := by decide +kernel
theorem x_26_9 : decode (q_code 26) 9 = .ok (.iload_n 2, 1) := by decide +kernel
theorem x_26_10 : decode (q_code 26) 10 = .ok (.ifCond .lt 27, 3) := by decide +kernel
theorem x_26_13 : decode (q_code 26) 13 = .ok (.iload_n 2, 1) := by decide +kernel
theorem x_26_14 : decode (q_code 26) 14 = .ok (.aload_n 0, 1) := by decide +kernel
theorem x_26_15 : decode (q_code 26) 15 = .ok (.getfield 83, 3) := by decide +kernel
theorem x_26_18 : decode (q_code 26) 18 = .ok (.iload_n 1, 1) := by decide +kernel
theorem x_26_19 : decode (q_code 26) 19 = .ok (.aaload, 1) := by decide +kernel
theorem x_26_20 : decode (q_code 26) 20 = .ok (.getfield 189, 3) := by decide +kernel
theorem x_26_23 : decode (q_code 26) 23 = .ok (.if_icmp .ge 14, 3) := by decide +kernel
theorem x_26_37 : decode (q_code 26) 37 = .ok (.iconst 0, 1) := by decide +kernel
theorem x_26_38 : decode (q_code 26) 38 = .ok (.ireturn, 1) := by decide +kernel
theorem x_40_0 : decode (q_code 40) 0 = .ok (.aload_n 0, 1) := by decide +kernel
theorem x_40_1 : decode (q_code 40) 1 = .ok (.getfield 1013, 3) := by decide +kernel
theorem x_40_4 : decode (q_code 40) 4 = .ok (.bipush 20, 2) := by decide +kernel
theorem x_40_6 : decode (q_code 40) 6 = .ok (.iadd, 1) := by decide +kernel
theorem x_40_7 : decode (q_code 40) 7 = .ok (.sipush 2000, 3) := by decide +kernel
theorem x_40_10 : decode (q_code 40) 10 = .ok (.if_icmp .le 5, 3) := by decide +kernel
theorem x_40_15 : decode (q_code 40) 15 = .ok (.iconst 0, 1) := by decide +kernel
theorem x_40_16 : decode (q_code 40) 16 = .ok (.istore 6, 2) := by decide +kernel
theorem x_40_18 : decode (q_code 40) 18 = .ok (.iload 6, 2) := by decide +kernel
theorem x_40_20 : decode (q_code 40) 20 = .ok (.bipush 20, 2) := by decide +kernel
theorem x_40_22 : decode (q_code 40) 22 = .ok (.if_icmp .ge 93, 3) := by decide +kernel
theorem x_40_25 : decode (q_code 40) 25 = .ok (.iload 6, 2) := by decide +kernel
theorem x_40_27 : decode (q_code 40) 27 = .ok (.iconst 4, 1) := by decide +kernel
theorem x_40_28 : decode (q_code 40) 28 = .ok (.if_icmp .ge 7, 3) := by decide +kernel
theorem x_40_31 : decode (q_code 40) 31 = .ok (.iload_n 1, 1) := by decide +kernel
theorem x_40_32 : decode (q_code 40) 32 = .ok (.goto 39, 3) := by decide +kernel
theorem x_40_35 : decode (q_code 40) 35 = .ok (.iload 6, 2) := by decide +kernel
theorem x_40_37 : decode (q_code 40) 37 = .ok (.bipush 8, 2) := by decide +kernel
theorem x_40_39 : decode (q_code 40) 39 = .ok (.if_icmp .ge 7, 3) := by decide +kernel
theorem x_40_42 : decode (q_code 40) 42 = .ok (.iload_n 2, 1) := by decide +kernel
theorem x_40_43 : decode (q_code 40) 43 = .ok (.goto 28, 3) := by decide +kernel
theorem x_40_46 : decode (q_code 40) 46 = .ok (.iload 6, 2) := by decide +kernel
theorem x_40_48 : decode (q_code 40) 48 = .ok (.bipush 12, 2) := by decide +kernel
theorem x_40_50 : decode (q_code 40) 50 = .ok (.if_icmp .ge 7, 3) := by decide +kernel
theorem x_40_53 : decode (q_code 40) 53 = .ok (.iload_n 3, 1) := by decide +kernel
theorem x_40_54 : decode (q_code 40) 54 = .ok (.goto 17, 3) := by decide +kernel
theorem x_40_57 : decode (q_code 40) 57 = .ok (.iload 6, 2) := by decide +kernel
theorem x_40_59 : decode (q_code 40) 59 = .ok (.bipush 16, 2) := by decide +kernel
theorem x_40_61 : decode (q_code 40) 61 = .ok (.if_icmp .ge 8, 3) := by decide +kernel
theorem x_40_64 : decode (q_code 40) 64 = .ok (.iload 4, 2) := by decide +kernel
theorem x_40_66 : decode (q_code 40) 66 = .ok (.goto 5, 3) := by decide +kernel
theorem x_40_69 : decode (q_code 40) 69 = .ok (.iload 5, 2) := by decide +kernel
theorem x_40_71 : decode (q_code 40) 71 = .ok (.istore 7, 2) := by decide +kernel
theorem x_40_73 : decode (q_code 40) 73 = .ok (.aload_n 0, 1) := by decide +kernel
theorem x_40_74 : decode (q_code 40) 74 = .ok (.getfield 14, 3) := by decide +kernel
theorem x_40_77 : decode (q_code 40) 77 = .ok (.aload_n 0, 1) := by decide +kernel
theorem x_40_78 : decode (q_code 40) 78 = .ok (.getfield 1013, 3) := by decide +kernel
theorem x_40_81 : decode (q_code 40) 81 = .ok (.iload 7, 2) := by decide +kernel
theorem x_40_83 : decode (q_code 40) 83 = .ok (.bipush 24, 2) := by decide +kernel
theorem x_40_85 : decode (q_code 40) 85 = .ok (.bipush 8, 2) := by decide +kernel
theorem x_40_87 : decode (q_code 40) 87 = .ok (.iload 6, 2) := by decide +kernel
theorem x_40_89 : decode (q_code 40) 89 = .ok (.iconst 4, 1) := by decide +kernel
theorem x_40_90 : decode (q_code 40) 90 = .ok (.irem, 1) := by decide +kernel
theorem x_40_91 : decode (q_code 40) 91 = .ok (.imul, 1) := by decide +kernel
theorem x_40_92 : decode (q_code 40) 92 = .ok (.isub, 1) := by decide +kernel
theorem x_40_93 : decode (q_code 40) 93 = .ok (.ishr, 1) := by decide +kernel
theorem x_40_94 : decode (q_code 40) 94 = .ok (.sipush 255, 3) := by decide +kernel
theorem x_40_97 : decode (q_code 40) 97 = .ok (.iand, 1) := by decide +kernel
theorem x_40_98 : decode (q_code 40) 98 = .ok (.iastore, 1) := by decide +kernel
theorem x_40_99 : decode (q_code 40) 99 = .ok (.aload_n 0, 1) := by decide +kernel
theorem x_40_100 : decode (q_code 40) 100 = .ok (.dup, 1) := by decide +kernel
theorem x_40_101 : decode (q_code 40) 101 = .ok (.getfield 1013, 3) := by decide +kernel
theorem x_40_104 : decode (q_code 40) 104 = .ok (.iconst 1, 1) := by decide +kernel
theorem x_40_105 : decode (q_code 40) 105 = .ok (.iadd, 1) := by decide +kernel
theorem x_40_106 : decode (q_code 40) 106 = .ok (.putfield 1013, 3) := by decide +kernel
theorem x_40_109 : decode (q_code 40) 109 = .ok (.iinc 6 1, 3) := by decide +kernel
theorem x_40_112 : decode (q_code 40) 112 = .ok (.goto (-94), 3) := by decide +kernel
theorem x_40_115 : decode (q_code 40) 115 = .ok (.aload_n 0, 1) := by decide +kernel
theorem x_40_116 : decode (q_code 40) 116 = .ok (.getfield 1013, 3) := by decide +kernel
theorem x_40_119 : decode (q_code 40) 119 = .ok (.ireturn, 1) := by decide +kernel
theorem x_41_0 : decode (q_code 41) 0 = .ok (.iload_n 1, 1) := by decide +kernel
theorem x_41_1 : decode (q_code 41) 1 = .ok (.ifCond .lt 11, 3) := by decide +kernel
theorem x_41_4 : decode (q_code 41) 4 = .ok (.iload_n 1, 1) := by decide +kernel
theorem x_41_5 : decode (q_code 41) 5 = .ok (.aload_n 0, 1) := by decide +kernel
theorem x_41_6 : decode (q_code 41) 6 = .ok (.getfield 1013, 3) := by decide +kernel
theorem x_41_9 : decode (q_code 41) 9 = .ok (.if_icmp .le 5, 3) := by decide +kernel
theorem x_41_12 : decode (q_code 41) 12 = .ok (.iconst (-1), 1) := by decide +kernel
theorem x_41_13 : decode (q_code 41) 13 = .ok (.ireturn, 1) := by decide +kernel
theorem x_56_0 : decode (q_code 56) 0 = .ok (.iload_n 1, 1) := by decide +kernel
theorem x_56_1 : decode (q_code 56) 1 = .ok (.ifCond .lt 23, 3) := by decide +kernel
theorem x_56_4 : decode (q_code 56) 4 = .ok (.iload_n 1, 1) := by decide +kernel
theorem x_56_5 : decode (q_code 56) 5 = .ok (.aload_n 0, 1) := by decide +kernel
theorem x_56_6 : decode (q_code 56) 6 = .ok (.getfield 1027, 3) := by decide +kernel
theorem x_56_9 : decode (q_code 56) 9 = .ok (.if_icmp .ge 15, 3) := by decide +kernel
theorem x_56_24 : decode (q_code 56) 24 = .ok (.iconst (-1), 1) := by decide +kernel
theorem x_56_25 : decode (q_code 56) 25 = .ok (.ireturn, 1) := by decide +kernel
theorem x_57_0 : decode (q_code 57) 0 = .ok (.iload_n 1, 1) := by decide +kernel
theorem x_57_1 : decode (q_code 57) 1 = .ok (.ifCond .eq 8, 3) := by decide +kernel
theorem x_57_4 : decode (q_code 57) 4 = .ok (.iload_n 1, 1) := by decide +kernel
theorem x_57_5 : decode (q_code 57) 5 = .ok (.iconst 1, 1) := by decide +kernel
theorem x_57_6 : decode (q_code 57) 6 = .ok (.if_icmp .ne 10, 3) := by decide +kernel
theorem x_57_16 : decode (q_code 57) 16 = .ok (.iload_n 1, 1) := by decide +kernel
theorem x_57_17 : decode (q_code 57) 17 = .ok (.iconst 2, 1) := by decide +kernel
theorem x_57_18 : decode (q_code 57) 18 = .ok (.if_icmp .eq 8, 3) := by decide +kernel
theorem x_57_21 : decode (q_code 57) 21 = .ok (.iload_n 1, 1) := by decide +kernel
theorem x_57_22 : decode (q_code 57) 22 = .ok (.iconst 3, 1) := by decide +kernel
theorem x_57_23 : decode (q_code 57) 23 = .ok (.if_icmp .ne 12, 3) := by decide +kernel
theorem x_57_35 : decode (q_code 57) 35 = .ok (.iload_n 1, 1) := by decide +kernel
theorem x_57_36 : decode (q_code 57) 36 = .ok (.bipush 6, 2) := by decide +kernel
theorem x_57_38 : decode (q_code 57) 38 = .ok (.if_icmp .ne 8, 3) := by decide +kernel
theorem x_57_46 : decode (q_code 57) 46 = .ok (.iload_n 1, 1) := by decide +kernel
theorem x_57_47 : decode (q_code 57) 47 = .ok (.bipush 7, 2) := by decide +kernel
theorem x_57_49 : decode (q_code 57) 49 = .ok (.if_icmp .ne 8, 3) := by decide +kernel
theorem x_57_57 : decode (q_code 57) 57 = .ok (.iload_n 1, 1) := by decide +kernel
theorem x_57_58 : decode (q_code 57) 58 = .ok (.iconst 4, 1) := by decide +kernel
theorem x_57_59 : decode (q_code 57) 59 = .ok (.if_icmp .eq 10, 3) := by decide +kernel
theorem x_57_62 : decode (q_code 57) 62 = .ok (.iload_n 1, 1) := by decide +kernel
theorem x_57_63 : decode (q_code 57) 63 = .ok (.iconst 5, 1) := by decide +kernel
theorem x_57_64 : decode (q_code 57) 64 = .ok (.if_icmp .eq 5, 3) := by decide +kernel
theorem x_57_67 : decode (q_code 57) 67 = .ok (.iconst (-1), 1) := by decide +kernel
theorem x_57_68 : decode (q_code 57) 68 = .ok (.ireturn, 1) := by decide +kernel
theorem x_58_0 : decode (q_code 58) 0 = .ok (.iload_n 1, 1) := by decide +kernel
theorem x_58_1 : decode (q_code 58) 1 = .ok (.ifCond .eq 8, 3) := by decide +kernel
theorem x_58_4 : decode (q_code 58) 4 = .ok (.iload_n 1, 1) := by decide +kernel
theorem x_58_5 : decode (q_code 58) 5 = .ok (.iconst 1, 1) := by decide +kernel
theorem x_58_6 : decode (q_code 58) 6 = .ok (.if_icmp .ne 21, 3) := by decide +kernel
theorem x_58_9 : decode (q_code 58) 9 = .ok (.iload_n 2, 1) := by decide +kernel
theorem x_58_10 : decode (q_code 58) 10 = .ok (.ifCond .lt 17, 3) := by decide +kernel
theorem x_58_13 : decode (q_code 58) 13 = .ok (.iload_n 2, 1) := by decide +kernel
theorem x_58_14 : decode (q_code 58) 14 = .ok (.aload_n 0, 1) := by decide +kernel
theorem x_58_15 : decode (q_code 58) 15 = .ok (.getfield 109, 3) := by decide +kernel
theorem x_58_18 : decode (q_code 58) 18 = .ok (.iload_n 1, 1) := by decide +kernel
theorem x_58_19 : decode (q_code 58) 19 = .ok (.iaload, 1) := by decide +kernel
theorem x_58_20 : decode (q_code 58) 20 = .ok (.if_icmp .ge 7, 3) := by decide +kernel
theorem x_58_27 : decode (q_code 58) 27 = .ok (.iconst 0, 1) := by decide +kernel
theorem x_58_28 : decode (q_code 58) 28 = .ok (.ireturn, 1) := by decide +kernel
theorem x_59_0 : decode (q_code 59) 0 = .ok (.aload_n 0, 1) := by decide +kernel
theorem x_59_1 : decode (q_code 59) 1 = .ok (.iload_n 1, 1) := by decide +kernel
theorem x_59_2 : decode (q_code 59) 2 = .ok (.iload_n 2, 1) := by decide +kernel
theorem x_59_3 : decode (q_code 59) 3 = .ok (.invokevirtual 1030, 3) := by decide +kernel
theorem x_59_6 : decode (q_code 59) 6 = .ok (.ifCond .eq 18, 3) := by decide +kernel
theorem x_59_24 : decode (q_code 59) 24 = .ok (.iconst 0, 1) := by decide +kernel
theorem x_59_25 : decode (q_code 59) 25 = .ok (.ireturn, 1) := by decide +kernel
theorem x_60_0 : decode (q_code 60) 0 = .ok (.aload_n 0, 1) := by decide +kernel
theorem x_60_1 : decode (q_code 60) 1 = .ok (.iload_n 1, 1) := by decide +kernel
theorem x_60_2 : decode (q_code 60) 2 = .ok (.iload_n 2, 1) := by decide +kernel
theorem x_60_3 : decode (q_code 60) 3 = .ok (.invokevirtual 1030, 3) := by decide +kernel
theorem x_60_6 : decode (q_code 60) 6 = .ok (.ifCond .eq 16, 3) := by decide +kernel
theorem x_60_22 : decode (q_code 60) 22 = .ok (.iconst (-1), 1) := by decide +kernel
theorem x_60_23 : decode (q_code 60) 23 = .ok (.ireturn, 1) := by decide +kernel
theorem x_61_0 : decode (q_code 61) 0 = .ok (.aload_n 0, 1) := by decide +kernel
theorem x_61_1 : decode (q_code 61) 1 = .ok (.iload_n 1, 1) := by decide +kernel
theorem x_61_2 : decode (q_code 61) 2 = .ok (.iload_n 2, 1) := by decide +kernel
theorem x_61_3 : decode (q_code 61) 3 = .ok (.invokevirtual 1030, 3) := by decide +kernel
theorem x_61_6 : decode (q_code 61) 6 = .ok (.ifCond .eq 36, 3) := by decide +kernel
theorem x_61_42 : decode (q_code 61) 42 = .ok (.iconst (-1), 1) := by decide +kernel
theorem x_61_43 : decode (q_code 61) 43 = .ok (.ireturn, 1) := by decide +kernel
