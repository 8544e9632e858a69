def q_step (o nL : Nat) (ini : Bool) (ins : Instr) (len pc : Nat) (lv : q_L) (st : List Value) (E : q_H) : Option (Nat × q_L × List Value × q_H × Nat × Nat) := match ins with
  | .aconst_null => q_if (len == 1) (some (pc + 1, lv, .null :: st, E, 0, 0))
  | .iconst n => q_if (len == 1) (some (pc + 1, lv, .int (Int32.ofInt n) :: st, E, 0, 0))
  | .bipush n => q_if (len == 2) (some (pc + 2, lv, .int (Int8.ofInt n).toInt32 :: st, E, 0, 0))
  | .sipush n => q_if (len == 3) (some (pc + 3, lv, .int (Int16.ofInt n).toInt32 :: st, E, 0, 0))
  | .ldc idx => q_if (len == 2) ((q_ldc o idx).bind fun v => some (pc + 2, lv, v :: st, E, 0, 0))
  | .ldc_w idx => q_if (len == 3) ((q_ldc o idx).bind fun v => some (pc + 3, lv, v :: st, E, 0, 0))
  | .iload_n k => q_if (len == 1) ((q_geti lv k.val).bind fun x => some (pc + 1, lv, .int x :: st, E, 0, 0))
  | .iload k => q_if (len == 2) ((q_geti lv k).bind fun x => some (pc + 2, lv, .int x :: st, E, 0, 0))
  | .aload_n k => q_if (len == 1) ((q_geta lv k.val).bind fun v => some (pc + 1, lv, v :: st, E, 0, 0))
  | .aload k => q_if (len == 2) ((q_geta lv k).bind fun v => some (pc + 2, lv, v :: st, E, 0, 0))
  | .istore_n k => q_if (len == 1) (q_if (decide (k.val < nL)) (q_p1 st fun x r => q_fc (q_set lv k.val (.int x)) fun lv1 => some (pc + 1, lv1, r, E, 0, 0)))
  | .istore k => q_if (len == 2) (q_if (decide (k < nL)) (q_p1 st fun x r => q_fc (q_set lv k (.int x)) fun lv1 => some (pc + 2, lv1, r, E, 0, 0)))
  | .astore_n k => q_if (len == 1) (q_if (decide (k.val < nL)) (q_pa st fun v r => q_fc (q_set lv k.val v) fun lv1 => some (pc + 1, lv1, r, E, 0, 0)))
  | .astore k => q_if (len == 2) (q_if (decide (k < nL)) (q_pa st fun v r => q_fc (q_set lv k v) fun lv1 => some (pc + 2, lv1, r, E, 0, 0)))
  | .iinc i n => q_if (len == 3) (q_if (decide (i < nL)) ((q_geti lv i).bind fun x => q_fc (q_set lv i (.int (x + Int32.ofInt n))) fun lv1 => some (pc + 3, lv1, st, E, 0, 0)))
  | .iadd => q_if (len == 1) (q_p2 st fun x y r => some (pc + 1, lv, .int (x + y) :: r, E, 0, 0))
  | .isub => q_if (len == 1) (q_p2 st fun x y r => some (pc + 1, lv, .int (x - y) :: r, E, 0, 0))
  | .imul => q_if (len == 1) (q_p2 st fun x y r => some (pc + 1, lv, .int (x * y) :: r, E, 0, 0))
  | .iand => q_if (len == 1) (q_p2 st fun x y r => some (pc + 1, lv, .int (x &&& y) :: r, E, 0, 0))
  | .ior => q_if (len == 1) (q_p2 st fun x y r => some (pc + 1, lv, .int (x ||| y) :: r, E, 0, 0))
  | .ixor => q_if (len == 1) (q_p2 st fun x y r => some (pc + 1, lv, .int (x ^^^ y) :: r, E, 0, 0))
  | .ishl => q_if (len == 1) (q_p2 st fun x y r => some (pc + 1, lv, .int (x <<< (y &&& 31)) :: r, E, 0, 0))
  | .ishr => q_if (len == 1) (q_p2 st fun x y r => some (pc + 1, lv, .int (x >>> (y &&& 31)) :: r, E, 0, 0))
  | .irem => q_if (len == 1) (q_p2 st fun x y r => q_if (!(y == 0)) (some (pc + 1, lv, .int (x - x / y * y) :: r, E, 0, 0)))
  | .idiv => q_if (len == 1) (q_p2 st fun x y r => q_if (!(y == 0)) (some (pc + 1, lv, .int (x / y) :: r, E, 0, 0)))
  | .i2b => q_if (len == 1) (q_p1 st fun x r => some (pc + 1, lv, .int x.toInt8.toInt32 :: r, E, 0, 0))
  | .dup => q_if (len == 1) (q_t1 st fun v r => some (pc + 1, lv, v :: v :: r, E, 0, 0))
  | .pop => q_if (len == 1) (q_t1 st fun v r => some (pc + 1, lv, r, E, 0, 0))
  | .dup_x1 => q_if (len == 1) (q_t1 st fun v r => q_t1 r fun w r => some (pc + 1, lv, v :: w :: v :: r, E, 0, 0))
  | .goto off => q_if (len == 3) ((q_tg pc off).bind fun t => some (t, lv, st, E, 0, 0))
  | .ifCond cd off => q_if (len == 3) (q_p1 st fun x r => (q_tg pc off).bind fun t => some (bif q_c1 cd x then t else pc + 3, lv, r, E, 0, 0))
  | .if_icmp cd off => q_if (len == 3) (q_p2 st fun x y r => (q_tg pc off).bind fun t => some (bif q_c2 cd x y then t else pc + 3, lv, r, E, 0, 0))
  | .tableswitch d lo hi offs => q_p1 st fun x r => bif (decide (x.toInt < lo) || decide (hi < x.toInt)) then ((q_tg pc d).bind fun t => some (t, lv, r, E, 0, 0)) else ((offs[(x.toInt - lo).toNat]?).bind fun off => (q_tg pc off).bind fun t => some (t, lv, r, E, 0, 0))
  | .lconst n => q_if (len == 1) (some (pc + 1, lv, .long (Int64.ofNat (n : Nat)) :: st, E, 0, 0))
  | .ldc2_w idx => q_if (len == 3) ((q_ldc2 o idx).bind fun v => some (pc + 3, lv, .long v :: st, E, 0, 0))
  | .lload_n k => q_if (len == 1) ((q_getl lv k.val).bind fun x => some (pc + 1, lv, .long x :: st, E, 0, 0))
  | .lload k => q_if (len == 2) ((q_getl lv k).bind fun x => some (pc + 2, lv, .long x :: st, E, 0, 0))
  | .lstore_n k => q_if (len == 1) (q_if (decide (k.val + 1 < nL)) (q_l1 st fun x r => q_fc (q_setl lv k.val x) fun lv1 => some (pc + 1, lv1, r, E, 0, 0)))
  | .lstore k => q_if (len == 2) (q_if (decide (k + 1 < nL)) (q_l1 st fun x r => q_fc (q_setl lv k x) fun lv1 => some (pc + 2, lv1, r, E, 0, 0)))
  | .ladd => q_if (len == 1) (q_l2 st fun x y r => some (pc + 1, lv, .long (x + y) :: r, E, 0, 0))
  | .land => q_if (len == 1) (q_l2 st fun x y r => some (pc + 1, lv, .long (x &&& y) :: r, E, 0, 0))
  | .lor => q_if (len == 1) (q_l2 st fun x y r => some (pc + 1, lv, .long (x ||| y) :: r, E, 0, 0))
  | .lxor => q_if (len == 1) (q_l2 st fun x y r => some (pc + 1, lv, .long (x ^^^ y) :: r, E, 0, 0))
  | .lcmp => q_if (len == 1) (q_l2 st fun x y r => some (pc + 1, lv, .int (lg_cmp x y) :: r, E, 0, 0))
  | .lshl => q_if (len == 1) (q_li st fun x y r => some (pc + 1, lv, .long (x <<< (y.toInt64 &&& 63)) :: r, E, 0, 0))
  | .lshr => q_if (len == 1) (q_li st fun x y r => some (pc + 1, lv, .long (x >>> (y.toInt64 &&& 63)) :: r, E, 0, 0))
  | .i2l => q_if (len == 1) (q_p1 st fun x r => some (pc + 1, lv, .long x.toInt64 :: r, E, 0, 0))
  | .l2i => q_if (len == 1) (q_l1 st fun x r => some (pc + 1, lv, .int x.toInt32 :: r, E, 0, 0))
  | .ineg => q_if (len == 1) (q_p1 st fun x r => some (pc + 1, lv, .int (-x) :: r, E, 0, 0))
  | .dup2 => q_if (len == 1) (q_t1 st fun v r => q_t1 r fun w r => some (pc + 1, lv, v :: w :: v :: w :: r, E, 0, 0))
  | .lookupswitch d ps => q_if ((ps.toList.zip (ps.toList.drop 1)).all (fun (a, next) => a.1 < next.1)) (q_p1 st fun x r => (q_tg pc (Op.lookupswitch.offset ps.toList d x.toInt)).bind fun t => some (t, lv, r, E, 0, 0))
  | .ifnull off => q_if (len == 3) (q_pa st fun v r => (q_tg pc off).bind fun t => some (bif v == .null then t else pc + 3, lv, r, E, 0, 0))
  | .ifnonnull off => q_if (len == 3) (q_pa st fun v r => (q_tg pc off).bind fun t => some (bif v == .null then pc + 3 else t, lv, r, E, 0, 0))
  | .if_acmp cd off => q_if (len == 3) (q_prr st fun u v r => q_if (decide (cd = .ne) && u % 2 == 0 && v % 2 == 0) ((q_tg pc off).bind fun t => some (bif u == v then pc + 3 else t, lv, r, E, 0, 0)))
  | .getstatic idx => q_if (len == 3) (q_if (o == 14 && idx == 38) (some (pc + 3, lv, .int 1 :: st, E, 0, 0)))
  | .i2c => q_if (len == 1) (q_p1 st fun x r => some (pc + 1, lv, .int (x.toUInt32 % 65536).toInt32 :: r, E, 0, 0))
  | .getfield idx => q_if (len == 3) (q_pr st fun a r => q_el ((q_sget o idx a).bind fun v => some (pc + 3, lv, v :: r, E, 0, 0)) ((q_fld o idx).bind fun q => (q_obj E a q.1).bind fun fs => (fs[q.2.1]?).bind fun v => some (pc + 3, lv, v :: r, E, 0, 0)))
  | .putfield idx => q_if (len == 3) (q_pv st fun v a r => (q_fld o idx).bind fun q => (q_obj E a q.1).bind fun fs => q_if (q_fit (q_Ty q.1 q.2.1) v && q_fin o ini q.1 q.2.1 q.2.2 && decide (q.2.1 < fs.length)) (q_fc (fs.set q.2.1 v) fun fs1 => q_fc (E.set (a / 2) (.inr (q.1, fs1))) fun E1 => some (pc + 3, lv, r, E1, 0, 0)))
  | .arraylength => q_if (len == 1) (q_pr st fun a r => q_el ((q_sl a).bind fun n => some (pc + 1, lv, .int (Int32.ofNat n) :: r, E, 0, 0)) ((q_alen E a).bind fun n => some (pc + 1, lv, .int (Int32.ofNat n) :: r, E, 0, 0)))
  | .baload => q_if (len == 1) (q_pir st fun i a r => q_el ((q_sl a).bind fun n => q_if (q_in i n) (some (pc + 1, lv, .int ((q_sb (a / 4)).getD i.toNatClampNeg 0) :: r, E, 0, 0))) ((q_arr E a).bind fun q => q_if ((q.1 == 0 || q.1 == 2) && q_in i q.2.1) (some (pc + 1, lv, .int (q_lk q.2.2 i.toNatClampNeg) :: r, E, 0, 0))))
  | .iaload => q_if (len == 1) (q_pir st fun i a r => (q_arr E a).bind fun q => q_if (q.1 == 1 && q_in i q.2.1) (some (pc + 1, lv, .int (q_lk q.2.2 i.toNatClampNeg) :: r, E, 0, 0)))
  | .bastore => q_if (len == 1) (q_piir st fun x i a r => (q_arr E a).bind fun q => q_if ((q.1 == 0 || q.1 == 2) && q_in i q.2.1) (bif (q.1 == 2 && q_lk q.2.2 i.toNatClampNeg == (x &&& 1)) then some (pc + 1, lv, r, E, 0, 0) else q_fc (E.set (a / 2) (.inl (q.1, q.2.1, .inl (q_nf i.toNatClampNeg fun j => bif q.1 == 0 then (j, x.toInt8.toInt32) :: q.2.2 else q_upz q.2.2 j (x &&& 1))))) fun E1 => some (pc + 1, lv, r, E1, 0, 0)))
  | .iastore => q_if (len == 1) (q_piir st fun x i a r => (q_arr E a).bind fun q => q_if (q.1 == 1 && q_in i q.2.1) (q_fc (E.set (a / 2) (.inl (q.1, q.2.1, .inl (q_nf i.toNatClampNeg fun j => (j, x) :: q.2.2)))) fun E1 => some (pc + 1, lv, r, E1, 0, 0)))
  | .aaload => q_if (len == 1) (q_pir st fun i a r => (q_arrR E a).bind fun q => q_if (q_rt q.1 && q_in i q.2.1) (some (pc + 1, lv, va_rf (q_lr q.2.2 i.toNatClampNeg) :: r, E, 0, 0)))
  | .aastore => q_if (len == 1) (q_prir st fun v i a r => (q_arrR E a).bind fun q => (q_rc q.1).bind fun ci => (q_obj E v ci).bind fun fs => q_if (q_in i q.2.1) (q_fc (E.set (a / 2) (.inl (q.1, q.2.1, .inr (q_nf i.toNatClampNeg fun j => (j, v) :: q.2.2)))) fun E1 => some (pc + 1, lv, r, E1, 0, 0)))
  | .newarray ty => q_if (len == 2) (q_p1 st fun n r => (q_nat ty).bind fun t => q_if (decide (¬ n < 0) && decide (n.toNatClampNeg * 4 ≤ 536870912)) (q_fc (E ++ [.inl (t, n.toNatClampNeg, .inl [])]) fun E1 => q_nf (2 * E.length) fun a => some (pc + 2, lv, .ref a :: r, E1, 1, n.toNatClampNeg)))
  | .anewarray idx => q_if (len == 3) (q_p1 st fun n r => (q_anew o idx).bind fun t => q_if (decide (¬ n < 0) && decide (n.toNatClampNeg * 4 ≤ 536870912)) (q_fc (E ++ [.inl (t, n.toNatClampNeg, .inr [])]) fun E1 => q_nf (2 * E.length) fun a => some (pc + 3, lv, .ref a :: r, E1, 1, n.toNatClampNeg)))
  | .new idx => q_if (len == 3) ((q_new o idx).bind fun q => q_fc ((List.range q.2).map (fun j => defaultValue (q_Ty q.1 j))) fun fs1 => q_fc (E ++ [.inr (q.1, fs1)]) fun E1 => q_nf (2 * E.length) fun a => some (pc + 3, lv, .ref a :: st, E1, 1, q.2))
  | .multianewarray idx dd => q_if (len == 4 && dd == 2 && q_mna o idx) (q_p2 st fun n k r => q_if (decide (¬ n < 0) && decide (¬ k < 0) && decide (n.toNatClampNeg * 4 ≤ 536870912) && decide (k.toNatClampNeg * 4 ≤ 536870912)) (q_fc (E ++ q_grid E n.toNatClampNeg k.toNatClampNeg) fun E1 => q_nf (2 * E.length) fun a => some (pc + 4, lv, .ref a :: r, E1, 1 + n.toNatClampNeg, n.toNatClampNeg + n.toNatClampNeg * k.toNatClampNeg)))
  | .invokestatic idx => q_if (len == 3) (q_el (q_if (o == 15 && idx == 9) (q_p2 st fun i n r => q_if (decide (¬ i < 0) && decide (i < n) && decide ((r.map fun v => v.category).sum ≤ 8)) (some (pc + 3, lv, r, E, 0, 0)))) (q_el ((q_math o idx).bind fun t => q_p2 st fun x y r => q_if (decide ((r.map fun v => v.category).sum ≤ 8)) (some (pc + 3, lv, .int (bif t == 0 then (if x < y then y else x) else (if y < x then y else x)) :: r, E, 0, 0))) (q_el (q_if (q_mnl o idx) (q_l2 st fun x y r => q_if (decide ((r.map fun v => v.category).sum ≤ 8)) (some (pc + 3, lv, .long (if y < x then y else x) :: r, E, 0, 0)))) (q_if (q_acp o idx) (q_c5 st fun n dp a sp a0 r => (q_arr E a0).bind fun q0 => (q_arr E a).bind fun q => q_if (q_cpk q0 q sp dp n && decide ((r.map fun v => v.category).sum ≤ 8)) (q_fc (E.set (a / 2) (.inl (q.1, q.2.1, .inl (q_cpy q0.2.2 q.2.2 sp.toNatClampNeg dp.toNatClampNeg n.toNatClampNeg)))) fun E1 => some (pc + 3, lv, r, E1, 0, 0)))))))
  | .invokespecial idx => q_if (len == 3) (q_if (q_oini o idx) (q_pr st fun a r => q_if (decide ((r.map fun v => v.category).sum ≤ 8)) (some (pc + 3, lv, r, E, 0, 0))))
  | _ => none
section QS
variable {p : Program} {l : Launch} {e : Env} {R : Room} {s : State} {m : MethodId} {args : Array Value} {below : List Frame} {meth : Method} {c : Code} {Q : State → Prop} {H0 : Heap} {D : va_G} {b0 : Nat} {ad : Nat → Nat} {cy : Nat → ClassId} {cc : ByteArray} {nL o : Nat} {ini : Bool}
set_option maxHeartbeats 4000000 in
set_option maxRecDepth 20000 in
theorem q_step_ok (hx : p.tables.exec = Jvm.exec) (hb : c.code = cc) (hml : c.maxLocals = nL) (hown : s.vm.findClass (q_R o) = some m.cls) (hts : ∀ w ∈ q_big, w.before args s = true) (hT : q_T ad s) (hK : va_K D vwCl (q_tys cy) s) (hR : 3 ≤ R.frames ∧ 100 ≤ R.locals) (hF : q_SF ad b0 s s.heap) (hH : H0 = s.heap) (hini : ini = true → meth.name = "<init>") {ins : Instr} {len pc : Nat} {lv lv' : q_L} {st st' : List Value} {E E' : q_H} {pc' dc ds cells slots : Nat} (hle : b0 ≤ H0.size) (hdg : decode cc pc = .ok (ins, len)) (h : q_step o nL ini ins len pc lv st E = some (pc', lv', st', E', dc, ds)) (hc : cells + dc ≤ R.cells) (hs : slots + ds ≤ R.slots) (kk : q_G p l e R s m args below meth c Q H0 D b0 ad cy nL pc' lv' st' E' (cells + dc) (slots + ds)) : q_G p l e R s m args below meth c Q H0 D b0 ad cy nL pc lv st E cells slots := by
  subst hH
  unfold q_step at h
  split at h
  · have e1 := eq_of_beq (q_if_s h).1
    replace h := (q_if_s h).2
    subst e1
    cases h
    exact fun ls H locs hl hw hS => lv_null hx hb hdg (kk ls H locs hl hw hS)
  · have e1 := eq_of_beq (q_if_s h).1
    replace h := (q_if_s h).2
    subst e1
    cases h
    exact fun ls H locs hl hw hS => lv_iconst hx hb hdg rfl (kk ls H locs hl hw hS)
  · have e1 := eq_of_beq (q_if_s h).1
    replace h := (q_if_s h).2
    subst e1
    cases h
    exact fun ls H locs hl hw hS => lv_bipush hx hb hdg rfl (kk ls H locs hl hw hS)
  · have e1 := eq_of_beq (q_if_s h).1
    replace h := (q_if_s h).2
    subst e1
    cases h
    exact fun ls H locs hl hw hS => lv_sipush hx hb hdg rfl (kk ls H locs hl hw hS)
  · have e1 := eq_of_beq (q_if_s h).1
    replace h := (q_if_s h).2
    subst e1
    obtain ⟨v, hv, h⟩ := q_bind_s h
    cases h
    exact fun ls H locs hl hw hS => q_ldc_ok (F := q_rho b0 ad) hx hb hown hts hT rfl hdg hv (kk ls H locs hl hw hS)
  · have e1 := eq_of_beq (q_if_s h).1
    replace h := (q_if_s h).2
    subst e1
    obtain ⟨v, hv, h⟩ := q_bind_s h
    cases h
    exact fun ls H locs hl hw hS => q_ldcW_ok (F := q_rho b0 ad) hx hb hown hts hT rfl hdg hv (kk ls H locs hl hw hS)
  · have e1 := eq_of_beq (q_if_s h).1
    replace h := (q_if_s h).2
    subst e1
    obtain ⟨x, hv, h⟩ := q_bind_s h
    cases h
    exact fun ls H locs hl hw hS => lv_iload_n hx hb hdg rfl (q_geti_s hv hl) (kk ls H locs hl hw hS)
  · have e1 := eq_of_beq (q_if_s h).1
    replace h := (q_if_s h).2
    subst e1
    obtain ⟨x, hv, h⟩ := q_bind_s h
    cases h
    exact fun ls H locs hl hw hS => lv_iload hx hb hdg (q_geti_s hv hl) (kk ls H locs hl hw hS)
  · have e1 := eq_of_beq (q_if_s h).1
    replace h := (q_if_s h).2
    subst e1
    obtain ⟨v, hv, h⟩ := q_bind_s h
    cases h
    intro ls H locs hl hw hS
    rcases q_geta_s hv hl with ⟨rfl, g⟩ | ⟨a, rfl, g⟩
    · exact lv_aload_nN hx hb hdg rfl g (kk ls H locs hl hw hS)
    · exact lv_aload_n hx hb hdg rfl g (kk ls H locs hl hw hS)
  · have e1 := eq_of_beq (q_if_s h).1
    replace h := (q_if_s h).2
    subst e1
    obtain ⟨v, hv, h⟩ := q_bind_s h
    cases h
    intro ls H locs hl hw hS
    rcases q_geta_s hv hl with ⟨rfl, g⟩ | ⟨a, rfl, g⟩
    · exact lv_aloadN hx hb hdg g (kk ls H locs hl hw hS)
    · exact lv_aload hx hb hdg g (kk ls H locs hl hw hS)
  · have e1 := eq_of_beq (q_if_s h).1
    replace h := (q_if_s h).2
    subst e1
    obtain ⟨e2, h⟩ := q_if_s h
    obtain ⟨x, r, rfl, h⟩ := q_p1_s h
    simp only [q_fc_eq, q_nf_eq] at h
    cases h
    exact fun ls H locs hl hw hS => lv_istore_n hx hb hdg rfl hl (of_decide_eq_true e2) (q_set_ml (q_rho b0 ad) lv _ (.int x)).symm (fun ls hl => kk ls H locs hl hw hS)
  · have e1 := eq_of_beq (q_if_s h).1
    replace h := (q_if_s h).2
    subst e1
    obtain ⟨e2, h⟩ := q_if_s h
    obtain ⟨x, r, rfl, h⟩ := q_p1_s h
    simp only [q_fc_eq, q_nf_eq] at h
    cases h
    exact fun ls H locs hl hw hS => lv_istore hx hb hdg hl (of_decide_eq_true e2) (q_set_ml (q_rho b0 ad) lv _ (.int x)).symm (fun ls hl => kk ls H locs hl hw hS)
  · have e1 := eq_of_beq (q_if_s h).1
    replace h := (q_if_s h).2
    subst e1
    obtain ⟨e2, h⟩ := q_if_s h
    obtain ⟨v, r, rfl, hv, h⟩ := q_pa_s h
    simp only [q_fc_eq, q_nf_eq] at h
    cases h
    intro ls H locs hl hw hS
    rcases hv with rfl | ⟨a, rfl⟩
    · exact lv_astore_nN hx hb hdg rfl hl (of_decide_eq_true e2) (q_set_ml (q_rho b0 ad) lv _ .null).symm (fun ls hl => kk ls H locs hl hw hS)
    · exact lv_astore_n hx hb hdg rfl hl (of_decide_eq_true e2) (q_set_ml (q_rho b0 ad) lv _ (.ref a)).symm (fun ls hl => kk ls H locs hl hw hS)
  · have e1 := eq_of_beq (q_if_s h).1
    replace h := (q_if_s h).2
    subst e1
    obtain ⟨e2, h⟩ := q_if_s h
    obtain ⟨v, r, rfl, hv, h⟩ := q_pa_s h
    simp only [q_fc_eq, q_nf_eq] at h
    cases h
    intro ls H locs hl hw hS
    rcases hv with rfl | ⟨a, rfl⟩
    · exact lv_astoreN hx hb hdg hl (of_decide_eq_true e2) (q_set_ml (q_rho b0 ad) lv _ .null).symm (fun ls hl => kk ls H locs hl hw hS)
    · exact lv_astore hx hb hdg hl (of_decide_eq_true e2) (q_set_ml (q_rho b0 ad) lv _ (.ref a)).symm (fun ls hl => kk ls H locs hl hw hS)
  · rename_i i n
    have e1 := eq_of_beq (q_if_s h).1
    replace h := (q_if_s h).2
    subst e1
    obtain ⟨e2, h⟩ := q_if_s h
    obtain ⟨x, hv, h⟩ := q_bind_s h
    simp only [q_fc_eq, q_nf_eq] at h
    cases h
    intro ls H locs hl hw hS
    obtain ⟨k, hk⟩ := q_geti_k hv
    exact lv_iinc hx hb hdg hl (k := k) (q_ml_get hk) rfl (of_decide_eq_true e2) (q_set_ml (q_rho b0 ad) lv i (.int (x + Int32.ofInt n))).symm (fun ls hl => kk ls H locs hl hw hS)
  · have e1 := eq_of_beq (q_if_s h).1
    replace h := (q_if_s h).2
    subst e1
    obtain ⟨x, y, r, rfl, h⟩ := q_p2_s h
    cases h
    exact fun ls H locs hl hw hS => lv_iadd hx hb hdg (kk ls H locs hl hw hS)
  · have e1 := eq_of_beq (q_if_s h).1
    replace h := (q_if_s h).2
    subst e1
    obtain ⟨x, y, r, rfl, h⟩ := q_p2_s h
    cases h
    exact fun ls H locs hl hw hS => lv_isub hx hb hdg (kk ls H locs hl hw hS)
  · have e1 := eq_of_beq (q_if_s h).1
    replace h := (q_if_s h).2
    subst e1
    obtain ⟨x, y, r, rfl, h⟩ := q_p2_s h
    cases h
    exact fun ls H locs hl hw hS => lv_imul hx hb hdg (kk ls H locs hl hw hS)
  · have e1 := eq_of_beq (q_if_s h).1
    replace h := (q_if_s h).2
    subst e1
    obtain ⟨x, y, r, rfl, h⟩ := q_p2_s h
    cases h
    exact fun ls H locs hl hw hS => lv_iand hx hb hdg (kk ls H locs hl hw hS)
  · have e1 := eq_of_beq (q_if_s h).1
    replace h := (q_if_s h).2
    subst e1
    obtain ⟨x, y, r, rfl, h⟩ := q_p2_s h
    cases h
    exact fun ls H locs hl hw hS => lv_ior hx hb hdg (kk ls H locs hl hw hS)
  · have e1 := eq_of_beq (q_if_s h).1
    replace h := (q_if_s h).2
    subst e1
    obtain ⟨x, y, r, rfl, h⟩ := q_p2_s h
    cases h
    exact fun ls H locs hl hw hS => lv_ixor hx hb hdg (kk ls H locs hl hw hS)
  · have e1 := eq_of_beq (q_if_s h).1
    replace h := (q_if_s h).2
    subst e1
    obtain ⟨x, y, r, rfl, h⟩ := q_p2_s h
    cases h
    exact fun ls H locs hl hw hS => lv_ishl hx hb hdg (kk ls H locs hl hw hS)
  · have e1 := eq_of_beq (q_if_s h).1
    replace h := (q_if_s h).2
    subst e1
    obtain ⟨x, y, r, rfl, h⟩ := q_p2_s h
    cases h
    exact fun ls H locs hl hw hS => lv_ishr hx hb hdg (kk ls H locs hl hw hS)
  · have e1 := eq_of_beq (q_if_s h).1
    replace h := (q_if_s h).2
    subst e1
    obtain ⟨x, y, r, rfl, h⟩ := q_p2_s h
    obtain ⟨e2, h⟩ := q_if_s h
    cases h
    exact fun ls H locs hl hw hS => lv_irem hx hb hdg (by simpa using e2) (kk ls H locs hl hw hS)
  · have e1 := eq_of_beq (q_if_s h).1
    replace h := (q_if_s h).2
    subst e1
    obtain ⟨x, y, r, rfl, h⟩ := q_p2_s h
    obtain ⟨e2, h⟩ := q_if_s h
    cases h
    exact fun ls H locs hl hw hS => lv_idiv hx hb hdg (by simpa using e2) (kk ls H locs hl hw hS)
  · have e1 := eq_of_beq (q_if_s h).1
    replace h := (q_if_s h).2
    subst e1
    obtain ⟨x, r, rfl, h⟩ := q_p1_s h
    cases h
    exact fun ls H locs hl hw hS => lv_i2b hx hb hdg rfl (kk ls H locs hl hw hS)
  · have e1 := eq_of_beq (q_if_s h).1
    replace h := (q_if_s h).2
    subst e1
    obtain ⟨v, r, rfl, hv, h⟩ := q_t1_s h
    cases h
    exact fun ls H locs hl hw hS => lv_dup hx hb hdg (q_v_cat hv) (kk ls H locs hl hw hS)
  · have e1 := eq_of_beq (q_if_s h).1
    replace h := (q_if_s h).2
    subst e1
    obtain ⟨v, r, rfl, hv, h⟩ := q_t1_s h
    cases h
    exact fun ls H locs hl hw hS => lv_pop hx hb hdg (q_v_cat hv) (kk ls H locs hl hw hS)
  · have e1 := eq_of_beq (q_if_s h).1
    replace h := (q_if_s h).2
    subst e1
    obtain ⟨v, r, rfl, hv, h⟩ := q_t1_s h
    obtain ⟨w, r, rfl, hw2, h⟩ := q_t1_s h
    cases h
    exact fun ls H locs hl hw hS => lv_dup_x1 hx hb hdg (q_v_cat hv) (q_v_cat hw2) (kk ls H locs hl hw hS)
  · have e1 := eq_of_beq (q_if_s h).1
    replace h := (q_if_s h).2
    subst e1
    obtain ⟨t, ht, h⟩ := q_bind_s h
    cases h
    exact fun ls H locs hl hw hS => lv_goto hx hb hdg (q_tg_s ht) (kk ls H locs hl hw hS)
  · rename_i cd off
    have e1 := eq_of_beq (q_if_s h).1
    replace h := (q_if_s h).2
    subst e1
    obtain ⟨x, r, rfl, h⟩ := q_p1_s h
    obtain ⟨t, ht, h⟩ := q_bind_s h
    cases h
    intro ls H locs hl hw hS
    cases cd
    · refine lv_if_eq hx hb hdg (q_tg_s ht) (fun g => ?_) (fun g => ?_)
      · have e3 : q_c1 .eq x = true := by simpa [q_c1] using g
        rw [e3] at kk
        exact kk ls H locs hl hw hS
      · have e3 : q_c1 .eq x = false := by simpa [q_c1] using g
        rw [e3] at kk
        exact kk ls H locs hl hw hS
    · refine lv_if_ne hx hb hdg (q_tg_s ht) (fun g => ?_) (fun g => ?_)
      · have e3 : q_c1 .ne x = true := by simpa [q_c1] using g
        rw [e3] at kk
        exact kk ls H locs hl hw hS
      · have e3 : q_c1 .ne x = false := by simpa [q_c1] using g
        rw [e3] at kk
        exact kk ls H locs hl hw hS
    · refine lv_if_lt hx hb hdg (q_tg_s ht) (fun g => ?_) (fun g => ?_)
      · have e3 : q_c1 .lt x = true := by simpa [q_c1] using g
        rw [e3] at kk
        exact kk ls H locs hl hw hS
      · have e3 : q_c1 .lt x = false := by simpa [q_c1] using g
        rw [e3] at kk
        exact kk ls H locs hl hw hS
    · refine lv_if_ge hx hb hdg (q_tg_s ht) (fun g => ?_) (fun g => ?_)
      · have e3 : q_c1 .ge x = true := by simpa [q_c1] using g
        rw [e3] at kk
        exact kk ls H locs hl hw hS
      · have e3 : q_c1 .ge x = false := by simpa [q_c1] using g
        rw [e3] at kk
        exact kk ls H locs hl hw hS
    · refine lv_if_gt hx hb hdg (q_tg_s ht) (fun g => ?_) (fun g => ?_)
      · have e3 : q_c1 .gt x = true := by simpa [q_c1] using g
        rw [e3] at kk
        exact kk ls H locs hl hw hS
      · have e3 : q_c1 .gt x = false := by simpa [q_c1] using g
        rw [e3] at kk
        exact kk ls H locs hl hw hS
    · refine lv_if_le hx hb hdg (q_tg_s ht) (fun g => ?_) (fun g => ?_)
      · have e3 : q_c1 .le x = true := by simpa [q_c1] using g
        rw [e3] at kk
        exact kk ls H locs hl hw hS
      · have e3 : q_c1 .le x = false := by simpa [q_c1] using g
        rw [e3] at kk
        exact kk ls H locs hl hw hS
  · rename_i cd off
    have e1 := eq_of_beq (q_if_s h).1
    replace h := (q_if_s h).2
    subst e1
    obtain ⟨x, y, r, rfl, h⟩ := q_p2_s h
    obtain ⟨t, ht, h⟩ := q_bind_s h
    cases h
    intro ls H locs hl hw hS
    cases cd
    · refine lv_icmp_eq hx hb hdg (q_tg_s ht) (fun g => ?_) (fun g => ?_)
      · have e3 : q_c2 .eq x y = true := by simpa [q_c2] using g
        rw [e3] at kk
        exact kk ls H locs hl hw hS
      · have e3 : q_c2 .eq x y = false := by simpa [q_c2] using g
        rw [e3] at kk
        exact kk ls H locs hl hw hS
    · refine lv_icmp_ne hx hb hdg (q_tg_s ht) (fun g => ?_) (fun g => ?_)
      · have e3 : q_c2 .ne x y = true := by simpa [q_c2] using g
        rw [e3] at kk
        exact kk ls H locs hl hw hS
      · have e3 : q_c2 .ne x y = false := by simpa [q_c2] using g
        rw [e3] at kk
        exact kk ls H locs hl hw hS
    · refine lv_icmp_lt hx hb hdg (q_tg_s ht) (fun g => ?_) (fun g => ?_)
      · have e3 : q_c2 .lt x y = true := by simpa [q_c2] using g
        rw [e3] at kk
        exact kk ls H locs hl hw hS
      · have e3 : q_c2 .lt x y = false := by simpa [q_c2] using g
        rw [e3] at kk
        exact kk ls H locs hl hw hS
    · refine lv_icmp_ge hx hb hdg (q_tg_s ht) (fun g => ?_) (fun g => ?_)
      · have e3 : q_c2 .ge x y = true := by simpa [q_c2] using g
        rw [e3] at kk
        exact kk ls H locs hl hw hS
      · have e3 : q_c2 .ge x y = false := by simpa [q_c2] using g
        rw [e3] at kk
        exact kk ls H locs hl hw hS
    · refine lv_icmp_gt hx hb hdg (q_tg_s ht) (fun g => ?_) (fun g => ?_)
      · have e3 : q_c2 .gt x y = true := by simpa [q_c2] using g
        rw [e3] at kk
        exact kk ls H locs hl hw hS
      · have e3 : q_c2 .gt x y = false := by simpa [q_c2] using g
        rw [e3] at kk
        exact kk ls H locs hl hw hS
    · refine lv_icmp_le hx hb hdg (q_tg_s ht) (fun g => ?_) (fun g => ?_)
      · have e3 : q_c2 .le x y = true := by simpa [q_c2] using g
        rw [e3] at kk
        exact kk ls H locs hl hw hS
      · have e3 : q_c2 .le x y = false := by simpa [q_c2] using g
        rw [e3] at kk
        exact kk ls H locs hl hw hS
  · rename_i d lo hi offs
    obtain ⟨x, r, rfl, h2⟩ := q_p1_s h
    by_cases g : x.toInt < lo ∨ hi < x.toInt
    · rw [show (decide (x.toInt < lo) || decide (hi < x.toInt)) = true by simpa using g] at h2
      obtain ⟨t, ht, h⟩ := q_bind_s (show _ = some _ from h2)
      cases h
      exact fun ls H locs hl hw hS => lv_tableOut hx hb hdg g (q_tg_s ht) (kk ls H locs hl hw hS)
    · rw [show (decide (x.toInt < lo) || decide (hi < x.toInt)) = false by simpa [not_or] using g] at h2
      obtain ⟨off, ho, h⟩ := q_bind_s (show _ = some _ from h2)
      obtain ⟨t, ht, h⟩ := q_bind_s h
      cases h
      exact fun ls H locs hl hw hS => lv_tableIn hx hb hdg (fun q => g (Or.inl q)) (fun q => g (Or.inr q)) ho (q_tg_s ht) (kk ls H locs hl hw hS)
  · have e1 := eq_of_beq (q_if_s h).1
    replace h := (q_if_s h).2
    subst e1
    cases h
    exact fun ls H locs hl hw hS => lv_lconst hx hb hdg rfl (kk ls H locs hl hw hS)
  · have e1 := eq_of_beq (q_if_s h).1
    replace h := (q_if_s h).2
    subst e1
    obtain ⟨v, hv, h⟩ := q_bind_s h
    cases h
    exact fun ls H locs hl hw hS => lv_ldc2 hx hb hown (hts _ (q_ldc2_ok hv)) hdg (kk ls H locs hl hw hS)
  · have e1 := eq_of_beq (q_if_s h).1
    replace h := (q_if_s h).2
    subst e1
    obtain ⟨x, hv, h⟩ := q_bind_s h
    cases h
    exact fun ls H locs hl hw hS => lv_lload_n hx hb hdg rfl (q_getl_s hv hl) (kk ls H locs hl hw hS)
  · have e1 := eq_of_beq (q_if_s h).1
    replace h := (q_if_s h).2
    subst e1
    obtain ⟨x, hv, h⟩ := q_bind_s h
    cases h
    exact fun ls H locs hl hw hS => lv_lload hx hb hdg (q_getl_s hv hl) (kk ls H locs hl hw hS)
  · have e1 := eq_of_beq (q_if_s h).1
    replace h := (q_if_s h).2
    subst e1
    obtain ⟨e2, h⟩ := q_if_s h
    obtain ⟨x, r, rfl, h⟩ := q_l1_s h
    simp only [q_fc_eq, q_nf_eq] at h
    cases h
    exact fun ls H locs hl hw hS => lv_lstore_n hx hb hdg rfl hl (of_decide_eq_true e2) (q_setl_ml (q_rho b0 ad) lv _ x).symm (fun ls hl => kk ls H locs hl hw hS)
  · have e1 := eq_of_beq (q_if_s h).1
    replace h := (q_if_s h).2
    subst e1
    obtain ⟨e2, h⟩ := q_if_s h
    obtain ⟨x, r, rfl, h⟩ := q_l1_s h
    simp only [q_fc_eq, q_nf_eq] at h
    cases h
    exact fun ls H locs hl hw hS => lv_lstore hx hb hdg hl (of_decide_eq_true e2) (q_setl_ml (q_rho b0 ad) lv _ x).symm (fun ls hl => kk ls H locs hl hw hS)
  · have e1 := eq_of_beq (q_if_s h).1
    replace h := (q_if_s h).2
    subst e1
    obtain ⟨x, y, r, rfl, h⟩ := q_l2_s h
    cases h
    exact fun ls H locs hl hw hS => lv_ladd hx hb hdg (kk ls H locs hl hw hS)
  · have e1 := eq_of_beq (q_if_s h).1
    replace h := (q_if_s h).2
    subst e1
    obtain ⟨x, y, r, rfl, h⟩ := q_l2_s h
    cases h
    exact fun ls H locs hl hw hS => lv_land hx hb hdg (kk ls H locs hl hw hS)
  · have e1 := eq_of_beq (q_if_s h).1
    replace h := (q_if_s h).2
    subst e1
    obtain ⟨x, y, r, rfl, h⟩ := q_l2_s h
    cases h
    exact fun ls H locs hl hw hS => lv_lor hx hb hdg (kk ls H locs hl hw hS)
  · have e1 := eq_of_beq (q_if_s h).1
    replace h := (q_if_s h).2
    subst e1
    obtain ⟨x, y, r, rfl, h⟩ := q_l2_s h
    cases h
    exact fun ls H locs hl hw hS => lv_lxor hx hb hdg (kk ls H locs hl hw hS)
  · have e1 := eq_of_beq (q_if_s h).1
    replace h := (q_if_s h).2
    subst e1
    obtain ⟨x, y, r, rfl, h⟩ := q_l2_s h
    cases h
    exact fun ls H locs hl hw hS => W.lcmp hx hb hdg (kk ls H locs hl hw hS)
  · have e1 := eq_of_beq (q_if_s h).1
    replace h := (q_if_s h).2
    subst e1
    obtain ⟨x, y, r, rfl, h⟩ := q_li_s h
    cases h
    exact fun ls H locs hl hw hS => lv_lshl hx hb hdg rfl (kk ls H locs hl hw hS)
  · have e1 := eq_of_beq (q_if_s h).1
    replace h := (q_if_s h).2
    subst e1
    obtain ⟨x, y, r, rfl, h⟩ := q_li_s h
    cases h
    exact fun ls H locs hl hw hS => lv_lshr hx hb hdg rfl (kk ls H locs hl hw hS)
  · have e1 := eq_of_beq (q_if_s h).1
    replace h := (q_if_s h).2
    subst e1
    obtain ⟨x, r, rfl, h⟩ := q_p1_s h
    cases h
    exact fun ls H locs hl hw hS => lv_i2l hx hb hdg rfl (kk ls H locs hl hw hS)
  · have e1 := eq_of_beq (q_if_s h).1
    replace h := (q_if_s h).2
    subst e1
    obtain ⟨x, r, rfl, h⟩ := q_l1_s h
    cases h
    exact fun ls H locs hl hw hS => lv_l2i hx hb hdg rfl (kk ls H locs hl hw hS)
  · have e1 := eq_of_beq (q_if_s h).1
    replace h := (q_if_s h).2
    subst e1
    obtain ⟨x, r, rfl, h⟩ := q_p1_s h
    cases h
    exact fun ls H locs hl hw hS => lv_ineg hx hb hdg (kk ls H locs hl hw hS)
  · have e1 := eq_of_beq (q_if_s h).1
    replace h := (q_if_s h).2
    subst e1
    obtain ⟨v, r, rfl, hv, h⟩ := q_t1_s h
    obtain ⟨w, r, rfl, hw2, h⟩ := q_t1_s h
    cases h
    exact fun ls H locs hl hw hS => lv_dup2_11 hx hb hdg (q_v_cat hv) (q_v_cat hw2) (kk ls H locs hl hw hS)
  · rename_i d ps
    have e1 := (q_if_s h).1
    replace h := (q_if_s h).2
    obtain ⟨x, r, rfl, h⟩ := q_p1_s h
    obtain ⟨t, ht, h⟩ := q_bind_s h
    cases h
    exact fun ls H locs hl hw hS => lv_lookup hx hb hdg e1 rfl (q_tg_s ht) (kk ls H locs hl hw hS)
  · have e1 := eq_of_beq (q_if_s h).1
    replace h := (q_if_s h).2
    subst e1
    obtain ⟨v, r, rfl, hv, h⟩ := q_pa_s h
    obtain ⟨t, ht, h⟩ := q_bind_s h
    cases h
    intro ls H locs hl hw hS
    rcases hv with rfl | ⟨a, rfl⟩
    · exact lv_ifnullN hx hb hdg (q_tg_s ht) (kk ls H locs hl hw hS)
    · exact lv_ifnull hx hb hdg (kk ls H locs hl hw hS)
  · have e1 := eq_of_beq (q_if_s h).1
    replace h := (q_if_s h).2
    subst e1
    obtain ⟨v, r, rfl, hv, h⟩ := q_pa_s h
    obtain ⟨t, ht, h⟩ := q_bind_s h
    cases h
    intro ls H locs hl hw hS
    rcases hv with rfl | ⟨a, rfl⟩
    · exact lv_ifnonnullN hx hb hdg (kk ls H locs hl hw hS)
    · exact lv_ifnonnull hx hb hdg (q_tg_s ht) (kk ls H locs hl hw hS)
  · rename_i cd off
    have e1 := eq_of_beq (q_if_s h).1
    replace h := (q_if_s h).2
    subst e1
    obtain ⟨u, v, r, rfl, h⟩ := q_prr_s h
    have e2 := (q_if_s h).1
    have h3 := (q_if_s h).2
    clear h
    simp only [Bool.and_eq_true, decide_eq_true_eq, beq_iff_eq] at e2
    obtain ⟨⟨rfl, e3⟩, e4⟩ := e2
    obtain ⟨t, ht, h⟩ := q_bind_s h3
    cases h
    intro ls H locs hl hw hS
    refine lv_acmp_ne (rx := some (q_rho b0 ad v)) (ry := some (q_rho b0 ad u)) hx hb hdg (q_tg_s ht) (fun g => ?_) (fun g => ?_)
    · rw [show (u == v) = false by simpa using fun (h : u = v) => g (by rw [h])] at kk
      exact kk ls H locs hl hw hS
    · rw [show (u == v) = true by
        have g := Option.some.inj g
        unfold q_rho at g
        rw [if_pos e3, if_pos e4] at g
        simp only [beq_iff_eq]
        have g1 : b0 + (v : Nat) / 2 = b0 + (u : Nat) / 2 := g
        have g2 : (u : Nat) % 2 = 0 := e3
        have g3 : (v : Nat) % 2 = 0 := e4
        exact (show @Eq Nat u v by omega)] at kk
      exact kk ls H locs hl hw hS
  · have e1 := eq_of_beq (q_if_s h).1
    replace h := (q_if_s h).2
    subst e1
    have e2 := (q_if_s h).1
    replace h := (q_if_s h).2
    cases h
    exact fun ls H locs hl hw hS => q_cs_ok hx hb hown hts hF e2 hdg hS (kk ls H locs hl hw hS)
  · have e1 := eq_of_beq (q_if_s h).1
    replace h := (q_if_s h).2
    subst e1
    obtain ⟨x, r, rfl, h⟩ := q_p1_s h
    cases h
    exact fun ls H locs hl hw hS => lv_i2c hx hb hdg rfl (kk ls H locs hl hw hS)
  · have e1 := eq_of_beq (q_if_s h).1
    replace h := (q_if_s h).2
    subst e1
    obtain ⟨a, r, rfl, h⟩ := q_pr_s h
    rcases q_el_s h with h | h
    · obtain ⟨v, hv, h⟩ := q_bind_s h
      cases h
      exact fun ls H locs hl hw hS => q_sget_ok hx hb hown hts hF hv hdg hS (kk ls H locs hl hw hS)
    obtain ⟨q, hq, h⟩ := q_bind_s h
    obtain ⟨fs, hf, h⟩ := q_bind_s h
    obtain ⟨v, hv, h⟩ := q_bind_s h
    cases h
    exact fun ls H locs hl hw hS => q_get_ok hx hb hown hts hT hK hq hf hv hdg hw (kk ls H locs hl hw hS)
  · have e1 := eq_of_beq (q_if_s h).1
    replace h := (q_if_s h).2
    subst e1
    obtain ⟨v, a, r, rfl, h⟩ := q_pv_s h
    obtain ⟨q, hq, h⟩ := q_bind_s h
    obtain ⟨fs, hf, h⟩ := q_bind_s h
    obtain ⟨e2, h⟩ := q_if_s h
    simp only [q_fc_eq, q_nf_eq] at h
    cases h
    exact fun ls H locs hl hw hS => q_put_ok hx hb hown hts hT hK hini hq hf e2 hdg hw hS (fun H locs hw hS => kk ls H locs hl hw hS)
  · have e1 := eq_of_beq (q_if_s h).1
    replace h := (q_if_s h).2
    subst e1
    obtain ⟨a, r, rfl, h⟩ := q_pr_s h
    rcases q_el_s h with h | h
    · obtain ⟨v, hv, h⟩ := q_bind_s h
      cases h
      exact fun ls H locs hl hw hS => q_slen_ok hx hb hF hv hdg hS (kk ls H locs hl hw hS)
    obtain ⟨n, hn, h⟩ := q_bind_s h
    cases h
    exact fun ls H locs hl hw hS => q_alen_ok hx hb hK hn hdg hw (kk ls H locs hl hw hS)
  · have e1 := eq_of_beq (q_if_s h).1
    replace h := (q_if_s h).2
    subst e1
    obtain ⟨i, a, r, rfl, h⟩ := q_pir_s h
    rcases q_el_s h with h | h
    · obtain ⟨v, hv, h⟩ := q_bind_s h
      have e4 := (q_if_s h).1
      replace h := (q_if_s h).2
      cases h
      exact fun ls H locs hl hw hS => q_sbyte_ok hx hb hF hv e4 hdg hS (kk ls H locs hl hw hS)
    obtain ⟨q, hq, h⟩ := q_bind_s h
    obtain ⟨e2, h⟩ := q_if_s h
    cases h
    exact fun ls H locs hl hw hS => q_bald_ok hx hb hK hq e2 hdg hw (kk ls H locs hl hw hS)
  · have e1 := eq_of_beq (q_if_s h).1
    replace h := (q_if_s h).2
    subst e1
    obtain ⟨i, a, r, rfl, h⟩ := q_pir_s h
    obtain ⟨q, hq, h⟩ := q_bind_s h
    obtain ⟨e2, h⟩ := q_if_s h
    cases h
    exact fun ls H locs hl hw hS => q_iald_ok hx hb hK hq e2 hdg hw (kk ls H locs hl hw hS)
  · have e1 := eq_of_beq (q_if_s h).1
    replace h := (q_if_s h).2
    subst e1
    obtain ⟨x, i, a, r, rfl, h⟩ := q_piir_s h
    obtain ⟨q, hq, h⟩ := q_bind_s h
    obtain ⟨e2, h⟩ := q_if_s h
    by_cases g : (q.1 == 2 && q_lk q.2.2 i.toNatClampNeg == (x &&& 1)) = true
    · rw [g] at h
      have h3 := Option.some.inj (show some _ = some _ from h)
      cases h3
      exact fun ls H locs hl hw hS => q_bast_ok hx hb hK hq e2 hdg hw hS (fun H locs hw hS => kk ls H locs hl (by rw [q_bast_same hq g] at hw; exact hw) hS)
    rw [show (q.1 == 2 && q_lk q.2.2 i.toNatClampNeg == (x &&& 1)) = false by simpa using g] at h
    replace h : _ = some _ := (show q_fc _ _ = some _ from h)
    simp only [q_fc_eq, q_nf_eq] at h
    cases h
    exact fun ls H locs hl hw hS => q_bast_ok hx hb hK hq e2 hdg hw hS (fun H locs hw hS => kk ls H locs hl hw hS)
  · have e1 := eq_of_beq (q_if_s h).1
    replace h := (q_if_s h).2
    subst e1
    obtain ⟨x, i, a, r, rfl, h⟩ := q_piir_s h
    obtain ⟨q, hq, h⟩ := q_bind_s h
    obtain ⟨e2, h⟩ := q_if_s h
    simp only [q_fc_eq, q_nf_eq] at h
    cases h
    exact fun ls H locs hl hw hS => q_iast_ok hx hb hK hq e2 hdg hw hS (fun H locs hw hS => kk ls H locs hl hw hS)
  · have e1 := eq_of_beq (q_if_s h).1
    replace h := (q_if_s h).2
    subst e1
    obtain ⟨i, a, r, rfl, h⟩ := q_pir_s h
    obtain ⟨q, hq, h⟩ := q_bind_s h
    obtain ⟨e2, h⟩ := q_if_s h
    cases h
    exact fun ls H locs hl hw hS => q_aald_ok hx hb hK hq e2 hdg hw (kk ls H locs hl hw hS)
  · have e1 := eq_of_beq (q_if_s h).1
    replace h := (q_if_s h).2
    subst e1
    obtain ⟨v, i, a, r, rfl, h⟩ := q_prir_s h
    obtain ⟨q, hq, h⟩ := q_bind_s h
    obtain ⟨ci, hci, h⟩ := q_bind_s h
    obtain ⟨fs, hf, h⟩ := q_bind_s h
    obtain ⟨e2, h⟩ := q_if_s h
    simp only [q_fc_eq, q_nf_eq] at h
    cases h
    exact fun ls H locs hl hw hS => q_aast_ok hx hb hK hq hci hf e2 hdg hw hS (fun H locs hw hS => kk ls H locs hl hw hS)
  · have e1 := eq_of_beq (q_if_s h).1
    replace h := (q_if_s h).2
    subst e1
    obtain ⟨n, r, rfl, h⟩ := q_p1_s h
    obtain ⟨t, ht, h⟩ := q_bind_s h
    obtain ⟨e2, h⟩ := q_if_s h
    simp only [q_fc_eq, q_nf_eq] at h
    cases h
    exact fun ls H locs hl hw hS => q_newa_ok hx hb hts hK ht e2 hc hs hdg hw hS (fun H locs hw hS => kk ls H locs hl hw hS)
  · have e1 := eq_of_beq (q_if_s h).1
    replace h := (q_if_s h).2
    subst e1
    obtain ⟨n, r, rfl, h⟩ := q_p1_s h
    obtain ⟨t, ht, h⟩ := q_bind_s h
    obtain ⟨e2, h⟩ := q_if_s h
    simp only [q_fc_eq, q_nf_eq] at h
    cases h
    exact fun ls H locs hl hw hS => q_newr_ok hx hb hown hts hT hK ht e2 hc hs hdg hw hS (fun H locs hw hS => kk ls H locs hl hw hS)
  · have e1 := eq_of_beq (q_if_s h).1
    replace h := (q_if_s h).2
    subst e1
    obtain ⟨q, hq, h⟩ := q_bind_s h
    simp only [q_fc_eq, q_nf_eq] at h
    cases h
    exact fun ls H locs hl hw hS => q_new_ok hx hb hown hts hK hq hc hs hdg hw hS (fun H locs hw hS => kk ls H locs hl hw hS)
  · have e1 := (q_if_s h).1
    replace h := (q_if_s h).2
    simp only [Bool.and_eq_true, beq_iff_eq] at e1
    obtain ⟨⟨e0, e4⟩, e3⟩ := e1
    subst e0
    subst e4
    obtain ⟨n, k, r, rfl, h⟩ := q_p2_s h
    have e2 := (q_if_s h).1
    replace h := (q_if_s h).2
    simp only [q_fc_eq, q_nf_eq] at h
    cases h
    exact fun ls H locs hl hw hS => q_mna_ok hx hb hown hts hT hK e3 e2 hc hs hdg hw hS (fun H locs hw hS => kk ls H locs hl hw hS)
  · have e1 := eq_of_beq (q_if_s h).1
    replace h := (q_if_s h).2
    subst e1
    rcases q_el_s h with h | h
    · have e4 := (q_if_s h).1
      replace h := (q_if_s h).2
      obtain ⟨i, n, r, rfl, h⟩ := q_p2_s h
      have e5 := (q_if_s h).1
      replace h := (q_if_s h).2
      cases h
      exact fun ls H locs hl hw hS => q_ck_ok (y0 := .tt) hx hb hml hown hts hF e4 e5 hR hc hs hl.1 hdg hS (kk ls H locs hl hw hS)
    rcases q_el_s h with h | h
    · obtain ⟨t, ht, h⟩ := q_bind_s h
      obtain ⟨x, y, r, rfl, h⟩ := q_p2_s h
      have e2 := (q_if_s h).1
      replace h := (q_if_s h).2
      cases h
      exact fun ls H locs hl hw hS => q_math_ok (F := q_rho b0 ad) hx hb (hml.trans hl.1.symm) hown hts ht hR hc hs (of_decide_eq_true e2) hdg (kk ls H locs hl hw hS)
    rcases q_el_s h with h | h
    · have e4 := (q_if_s h).1
      replace h := (q_if_s h).2
      obtain ⟨x, y, r, rfl, h⟩ := q_l2_s h
      have e2 := (q_if_s h).1
      replace h := (q_if_s h).2
      cases h
      exact fun ls H locs hl hw hS => q_mnl_ok (F := q_rho b0 ad) hx hb (hml.trans hl.1.symm) hown hts e4 hR hc hs (of_decide_eq_true e2) hdg (kk ls H locs hl hw hS)
    have e4 := (q_if_s h).1
    replace h := (q_if_s h).2
    obtain ⟨n, dp, a, sp, a0, r, rfl, h⟩ := q_c5_s h
    obtain ⟨q0, hq0, h⟩ := q_bind_s h
    obtain ⟨q, hq, h⟩ := q_bind_s h
    have e2 := (q_if_s h).1
    replace h := (q_if_s h).2
    simp only [q_fc_eq, q_nf_eq] at h
    cases h
    exact fun ls H locs hl hw hS => q_copy_ok hx hb (hml.trans hl.1.symm) hown hts hK e4 hR hq0 hq e2 hdg hw hS (fun H locs hw hS => kk ls H locs hl hw hS)
  · have e1 := eq_of_beq (q_if_s h).1
    replace h := (q_if_s h).2
    subst e1
    obtain ⟨e2, h⟩ := q_if_s h
    obtain ⟨a, r, rfl, h⟩ := q_pr_s h
    obtain ⟨e3, h⟩ := q_if_s h
    cases h
    exact fun ls H locs hl hw hS => q_oini_ok (F := q_rho b0 ad) hx hb (hml.trans hl.1.symm) hown hts e2 hR (of_decide_eq_true e3) hdg (kk ls H locs hl hw hS)
  · cases h
end QS
