/-! the run of a method, calls through 'call' -/
def q_rets (ret : Option FieldType) (ins : Instr) (len : Nat) (st : List Value) : Option (Option Value) := match ins with
  | .return_ => q_if (len == 1) (match ret, st with
    | none, [] => some none
    | _, _ => none)
  | .ireturn => q_if (len == 1) (match ret, st with
    | some ty, [.int x] => q_if (q_nar ty x) (some (some (.int x)))
    | _, _ => none)
  | .areturn => q_if (len == 1) (match ret, st with
    | some (.object _), [.ref a] => some (some (.ref a))
    | some (.object _), [.null] => some (some .null)
    | some (.array _), [.ref a] => some (some (.ref a))
    | some (.array _), [.null] => some (some .null)
    | _, _ => none)
  | .lreturn => q_if (len == 1) (match ret, st with
    | some .long, [.long x] => some (some (.long x))
    | _, _ => none)
  | _ => none
abbrev q_X : Type := Option Value × q_H × Nat × Nat
/-- calls: kind 0 static, 1 virtual, 2 special -/
def q_kind (ins : Instr) : Option (Nat × Nat) := match ins with
  | .invokestatic i => some (0, i)
  | .invokevirtual i => some (1, i)
  | .invokespecial i => some (2, i)
  | _ => none
def q_cl (call : Nat → List Value → q_H → Option q_X) (o : Nat) (ins : Instr) (len : Nat) (st : List Value) (E : q_H) : Option (Option Value × List Value × q_H × Nat × Nat) :=
  (q_kind ins).bind fun ki => (q_cal o ki.2).bind fun q => q_nf q.1 fun y => q_if (len == 3 && decide (q_na y ≤ st.length)) (
    q_fc (st.take (q_na y)).reverse fun as => bif ki.1 == 0 then q_if (q_stat y && decide (((st.drop (q_na y)).map fun v => v.category).sum ≤ 8)) ((call y as E).map fun x => (x.1, st.drop (q_na y), x.2.1, x.2.2.1, x.2.2.2))
    else q_pr (st.drop (q_na y)) fun a r => q_if (!q_stat y && (q_ini y == (ki.1 == 2)) && (!q_ini y || (q_ret y).isNone) && q_rcv E a (q_own y) && decide ((r.map fun v => v.category).sum ≤ 8)) ((call y (.ref a :: as) E).map fun x => (x.1, r, x.2.1, x.2.2.1, x.2.2.2)))
def q_run (call : Nat → List Value → q_H → Option q_X) (o nL : Nat) (ini : Bool) (cc : ByteArray) (ret : Option FieldType) : Nat → Nat → q_L → List Value → q_H → Nat → Nat → Option q_X
  | 0, _, _, _, _, _, _ => none
  | n + 1, pc1, lv, st, E, c1, s1 => q_nf pc1 fun pc => q_nf c1 fun c0 => q_nf s1 fun s0 => match decode cc pc with
    | .error _ => none
    | .ok (ins, len) => match q_rets ret ins len st with
      | some v => some (v, E, c0, s0)
      | none => match q_cl call o ins len st E with
        | some (v, r, E1, dc, ds) => q_run call o nL ini cc ret n (pc + 3) lv (v.toList ++ r) E1 (c0 + dc) (s0 + ds)
        | none => match q_step o nL ini ins len pc lv st E with
          | some (pc1, lv1, st1, E1, dc, ds) => q_run call o nL ini cc ret n pc1 lv1 st1 E1 (c0 + dc) (s0 + ds)
          | none => none
theorem q_run_mono {call : Nat → List Value → q_H → Option q_X} {o nL : Nat} {ini : Bool} {cc : ByteArray} {ret : Option FieldType} {x : q_X} : ∀ (n pc : Nat) (lv : q_L) (st : List Value) (E : q_H) (c0 s0 : Nat), q_run call o nL ini cc ret n pc lv st E c0 s0 = some x → c0 ≤ x.2.2.1 ∧ s0 ≤ x.2.2.2 := by
  intro n
  induction n with
  | zero => intro pc lv st E c0 s0 h; cases h
  | succ n ih =>
    intro pc lv st E c0 s0 h
    unfold q_run at h
    simp only [q_nf_eq] at h
    split at h
    · cases h
    · split at h
      · cases h
        exact ⟨Nat.le_refl _, Nat.le_refl _⟩
      · split at h
        · have := ih _ _ _ _ _ _ h
          omega
        · split at h
          · have := ih _ _ _ _ _ _ h
            omega
          · cases h
/-- a call of method y, d levels deep at most, each of F steps at most -/
def q_callf (F : Nat) : Nat → Nat → List Value → q_H → Option q_X
  | 0, _, _, _ => none
  | d + 1, y, as, E => q_if (decide ((lg_sl as).length ≤ q_maxL y) && decide (as.length = q_na y + (bif q_stat y then 0 else 1))) (q_fc (lv_args 0 as) fun lv => q_nf (q_own y) fun o => q_nf (q_maxL y) fun nL => q_run (q_callf F d) o nL (q_ini y) (q_code y) (q_ret y) F 0 lv [] E 0 0)
/-! its meaning: contracts -/
def q_wsm (y : Nat) : List Cond := .code (q_y y) (q_code y) (q_maxL y) (q_ret y) :: q_big
def q_rm (d mc ms : Nat) : Room := { frames := d + 3, cells := mc, slots := ms, locals := 40 * d + 100 }
def q_Pre (D : va_G) (b0 : Nat) (ad : Nat → Nat) (cy : Nat → ClassId) (E : q_H) (U : State) : Prop := q_W D b0 (q_c (q_rho b0 ad) cy) E U.heap ∧ va_K D vwCl (q_tys cy) U ∧ q_T ad U ∧ q_SF ad b0 U U.heap
def q_Qc (D : va_G) (b0 : Nat) (ad : Nat → Nat) (cy : Nat → ClassId) (v : Option Value) (E : q_H) : Array Value → State → Outcome → State → Prop := fun _ st oc t => oc = .returned (v.map (q_v (q_rho b0 ad))) ∧ q_W D b0 (q_c (q_rho b0 ad) cy) E t.heap ∧ va_F (fun q => b0 ≤ q) st t
def q_Met (l : Launch) (D : va_G) (b0 : Nat) (ad : Nat → Nat) (cy : Nat → ClassId) (d y : Nat) (as : List Value) (E : q_H) (x : q_X) : Prop :=
  Met l (q_y y) (q_wsm y) (q_rm d x.2.2.1 x.2.2.2) (va_Pc (as.map (q_v (q_rho b0 ad))) (q_Pre D b0 ad cy E)) (q_Qc D b0 ad cy x.1 x.2.1) x.2.2.1 x.2.2.2 (fun q => b0 ≤ q)
theorem q_T.warm {ad : Nat → Nat} {s U : State} (hW : s.WarmedH U.vm) (h : q_T ad s) : q_T ad U := by
  obtain ⟨h1, h2, h3, h4, h7⟩ := h
  refine ⟨fun w hw => ?_, fun q hq => vk_R.warm hW (h2 q hq), va_AO.moved hW.alike h3, va_AO.moved hW.alike h4, q_AOA.moved hW.alike h7⟩
  have h5 := h1 w hw
  have h6 := (List.mem_filter.mp hw).2
  unfold q_isN at h6
  split at h6
  · exact va_Nw.warmF hW h5
  · exact va_Nw.warmM hW h5
  · cases h6
theorem q_T.same {ad : Nat → Nat} {s U : State} (hv : U.vm = s.vm) (h : q_T ad s) : q_T ad U := by
  obtain ⟨h1, h2, h3, h4, h7⟩ := h
  have ha : s.vm.Alike U.vm := by rw [hv]; exact Vm.Alike.refl _
  refine ⟨fun w hw => ?_, fun q hq => vk_R.same hv (h2 q hq), va_AO.moved ha h3, va_AO.moved ha h4, q_AOA.moved ha h7⟩
  have h5 := h1 w hw
  have h6 := (List.mem_filter.mp hw).2
  unfold q_isN at h6
  split at h6
  · exact va_Nw.same rfl hv.symm h5
  · exact va_Nw.same rfl hv.symm h5
  · cases h6
theorem q_blind {D : va_G} {b0 : Nat} {ad : Nat → Nat} {cy : Nat → ClassId} {E : q_H} {vs : List Value} : FrameBlind (va_Pc vs (q_Pre D b0 ad cy E)) := fun a U g mk h => by
  obtain ⟨h0, h1, h2, h3, h4⟩ := h
  exact ⟨h0, h1, va_K.moved (u := U) (U := U.calling g mk a) (Vm.Alike.refl U.vm) h2, q_T.same (s := U) (U := U.calling g mk a) rfl h3, q_SF.moved (u := U) (U := U.calling g mk a) (Vm.Alike.refl U.vm) h4⟩
theorem q_GoodIn (y y' : Nat) (h : q_mOK y') : GoodIn (q_wsm y) (q_wsm y') := by
  intro w hw
  rcases List.mem_cons.mp hw with rfl | hw
  · exact ⟨List.mem_cons_of_mem _ (q_mem h.2.1 rfl), good_of_word rfl⟩
  · exact ⟨List.mem_cons_of_mem _ hw, good_of_word (List.mem_filter.mp hw).2⟩
section QR
variable {p : Program} {l : Launch} {e : Env} {R : Room} {s : State} {m : MethodId} {args : Array Value} {below : List Frame} {meth : Method} {c : Code} {Q : State → Prop} {H0 H : Heap} {D : va_G} {b0 : Nat} {ad : Nat → Nat} {cy : Nat → ClassId} {cc : ByteArray} {nL o : Nat} {locs : List Loc} {cells slots : Nat} {ls : Array Slot} {pc : Nat} {E E' : q_H}
theorem q_after {v : Option Value} {A : Array Value} {mc ms : Nat} {st0 rest : List Value} (hr : va_Run p l e R s m args below meth c H locs cells slots mc ms (F0 m pc ls st0) rest (q_Qc D b0 ad cy v E' A) (fun q => b0 ≤ q)) (hS : va_S (fun q => b0 ≤ q) H0 H locs) (kk : ∀ (H1 : Heap) (locs1 : List Loc), q_W D b0 (q_c (q_rho b0 ad) cy) E' H1 → va_S (fun q => b0 ≤ q) H0 H1 locs1 → W p l e R s m args below meth c H1 locs1 (cells + mc) (slots + ms) Q (F0 m (pc + 3) ls ((v.map (q_v (q_rho b0 ad))).toList ++ rest))) : W p l e R s m args below meth c H locs cells slots Q (F0 m pc ls st0) := by
  intro T hT X
  obtain ⟨w, st₀, t, T', L, h0, X', hL, e1, e2, ⟨hv, hb, hz, hk⟩, st⟩ := hr T hT X
  cases hv
  rw [h0] at hz hk
  obtain ⟨t2, a1, b1⟩ := kk T'.heap (locs ++ L) (by rw [e1]; exact hb)
    ⟨Nat.le_trans hS.1 (by rw [e1]; exact hz), fun q h1 h2 => by rw [e1, hk q (Nat.lt_of_lt_of_le h1 hS.1) h2]; exact hS.2.1 q h1 h2, fun q hq => by
      rcases List.mem_append.mp hq with h | h
      · exact hS.2.2 q h
      · exact hL q h⟩ T' rfl X'
  exact ⟨t2, st t2 a1, b1⟩
theorem q_ret_ok {ret : Option FieldType} {v : Option Value} {ins : Instr} {len : Nat} {st : List Value} (hx : p.tables.exec = Jvm.exec) (hb : c.code = cc) (hr : meth.sig.returnType = ret) (hlocks : meth.locks = false) (hdg : decode cc pc = .ok (ins, len)) (h : q_rets ret ins len st = some v) (hw : q_W D b0 (q_c (q_rho b0 ad) cy) E H) (hS : va_S (fun q => b0 ≤ q) s.heap H locs) : W p l e R s m args below meth c H locs cells slots (MQ below (q_Qc D b0 ad cy v E) args s cells slots (fun q => b0 ≤ q)) (F0 m pc ls (st.map (q_v (q_rho b0 ad)))) := by
  have hq : ∀ (u : Option Value), u = v.map (q_v (q_rho b0 ad)) → ∀ t : State, t.heap = H → s.WarmedH t.vm → q_Qc D b0 ad cy v E args s (.returned u) t := fun u hu t ht _ => ⟨by rw [hu], by rw [ht]; exact hw, hS.F ht⟩
  unfold q_rets at h
  split at h
  · have e1 := eq_of_beq (q_if_s h).1
    replace h := (q_if_s h).2
    subst e1
    split at h
    · cases h
      exact W.vret hx hb hr (hq none rfl) hS.2.2 hdg hlocks
    · cases h
  · have e1 := eq_of_beq (q_if_s h).1
    replace h := (q_if_s h).2
    subst e1
    split at h
    · have e2 := (q_if_s h).1
      replace h := (q_if_s h).2
      cases h
      rename_i ty x
      exact W.zret hx hb hr (q_nar_s e2) (hq _ rfl) hS.2.2 hdg hlocks
    · cases h
  · have e1 := eq_of_beq (q_if_s h).1
    replace h := (q_if_s h).2
    subst e1
    split at h
    · cases h
      exact W.aret hx hb hr (Or.inl ⟨_, rfl⟩) (Or.inr ⟨_, rfl⟩) (hq _ rfl) hS.2.2 hdg hlocks
    · cases h
      exact W.aret hx hb hr (Or.inl ⟨_, rfl⟩) (Or.inl rfl) (hq _ rfl) hS.2.2 hdg hlocks
    · cases h
      exact W.aret hx hb hr (Or.inr ⟨_, rfl⟩) (Or.inr ⟨_, rfl⟩) (hq _ rfl) hS.2.2 hdg hlocks
    · cases h
      exact W.aret hx hb hr (Or.inr ⟨_, rfl⟩) (Or.inl rfl) (hq _ rfl) hS.2.2 hdg hlocks
    · cases h
  · have e1 := eq_of_beq (q_if_s h).1
    replace h := (q_if_s h).2
    subst e1
    split at h
    · cases h
      exact W.lret hx hb hr (hq _ rfl) hS.2.2 hdg hlocks
    · cases h
  · cases h
theorem q_pre {y d : Nat} {as : List Value} {x : q_X} (hK : va_K D vwCl (q_tys cy) s) (hT : q_T ad s) (hF : q_SF ad b0 s s.heap) (hS : va_S (fun q => b0 ≤ q) s.heap H locs) (hw : q_W D b0 (q_c (q_rho b0 ad) cy) E H) : PreS s H (va_Pc (as.map (q_v (q_rho b0 ad))) (q_Pre D b0 ad cy E)) (as.map (q_v (q_rho b0 ad))) :=
  ⟨q_blind, fun U hU hW => ⟨rfl, by rw [hU]; exact hw, va_K.moved hW.alike hK, hT.warm hW, by rw [hU]; exact (hF.kept hS.2.1).moved hW.alike⟩⟩
theorem q_cl_ok {y0 d dc ds : Nat} {call : Nat → List Value → q_H → Option q_X} {ins : Instr} {len : Nat} {st rest : List Value} {v : Option Value} {lv : q_L} (hx : p.tables.exec = Jvm.exec) (hb : c.code = q_code y0) (hml : c.maxLocals = q_maxL y0) (hown : s.vm.findClass (q_R (q_own y0)) = some m.cls) (hts : ∀ w ∈ q_wsm y0, w.before args s = true) (hT : q_T ad s) (hK : va_K D vwCl (q_tys cy) s) (hcall : ∀ y as E x, q_mOK y → call y as E = some x → q_Met l D b0 ad cy d y as E x) (hF : q_SF ad b0 s s.heap) (hH : H0 = s.heap) (hRf : R.frames = d + 4) (hRl : R.locals = 40 * (d + 1) + 100) (hdg : decode (q_code y0) pc = .ok (ins, len)) (h : q_cl call (q_own y0) ins len st E = some (v, rest, E', dc, ds)) (hc : cells + dc ≤ R.cells) (hs : slots + ds ≤ R.slots) (hw : q_W D b0 (q_c (q_rho b0 ad) cy) E H) (hl : lv_has ls (q_maxL y0) (q_ml (q_rho b0 ad) lv)) (hS : va_S (fun q => b0 ≤ q) H0 H locs) (kk : ∀ (H1 : Heap) (locs1 : List Loc), q_W D b0 (q_c (q_rho b0 ad) cy) E' H1 → va_S (fun q => b0 ≤ q) H0 H1 locs1 → W p l e R s m args below meth c H1 locs1 (cells + dc) (slots + ds) Q (F0 m (pc + 3) ls ((v.toList ++ rest).map (q_v (q_rho b0 ad))))) : W p l e R s m args below meth c H locs cells slots Q (F0 m pc ls (st.map (q_v (q_rho b0 ad)))) := by
  subst hH
  have htb : ∀ w ∈ q_big, w.before args s = true := fun w h => hts w (List.mem_cons_of_mem _ h)
  have kk2 : ∀ (H1 : Heap) (locs1 : List Loc), q_W D b0 (q_c (q_rho b0 ad) cy) E' H1 → va_S (fun q => b0 ≤ q) s.heap H1 locs1 → W p l e R s m args below meth c H1 locs1 (cells + dc) (slots + ds) Q (F0 m (pc + 3) ls ((v.map (q_v (q_rho b0 ad))).toList ++ rest.map (q_v (q_rho b0 ad)))) := fun H1 locs1 a b => by
    have := kk H1 locs1 a b
    rw [List.map_append] at this
    cases v <;> exact this
  unfold q_cl at h
  obtain ⟨ki, hki, hA⟩ := q_bind_s h
  clear h
  obtain ⟨q, hq, hB⟩ := q_bind_s hA
  clear hA
  simp only [q_nf_eq, q_fc_eq] at hB
  have e1 := (q_if_s hB).1
  have h := (q_if_s hB).2
  clear hB
  simp only [Bool.and_eq_true, beq_iff_eq, decide_eq_true_eq] at e1
  obtain ⟨e1, hlen⟩ := e1
  subst e1
  obtain ⟨hm, hlink⟩ := q_cal_s hq
  obtain ⟨m1, m2, m3, m4, m5, m6, m7, m8, m9, m10⟩ := id hm
  have hini : (Cond.initialized (q_y q.1).cls).before args s = true := htb _ (q_mem m4 rfl)
  have hG := q_GoodIn y0 q.1 hm
  have hst : st = (st.take (q_na q.1)).reverse.reverse ++ st.drop (q_na q.1) := by rw [List.reverse_reverse, List.take_append_drop]
  have hln : ((st.take (q_na q.1)).reverse.map (q_v (q_rho b0 ad))).length = q_na q.1 := by
    rw [List.length_map, List.length_reverse, List.length_take]
    omega
  by_cases hk0 : (ki.1 == 0) = true
  · rw [hk0] at h
    obtain ⟨ki1, ki2⟩ := ki
    have e0 : ki1 = 0 := by simpa using hk0
    subst e0
    have e2 := (q_if_s (show q_if _ _ = some _ from h)).1
    have h2 := (q_if_s (show q_if _ _ = some _ from h)).2
    simp only [Bool.and_eq_true, decide_eq_true_eq] at e2
    obtain ⟨e2, e3⟩ := e2
    obtain ⟨x, hx1, hx2⟩ := Option.map_eq_some_iff.mp h2
    cases hx2
    have hM := hcall _ _ _ _ hm hx1
    have hd : decode (q_code y0) pc = .ok (.invokestatic ki2, 3) := by
      cases ins <;> first | (cases hki; done) | skip
      all_goals cases hki
      exact hdg
    have hstk : (F0 m pc ls (st.map (q_v (q_rho b0 ad)))).stack = ((st.take (q_na q.1)).reverse.map (q_v (q_rho b0 ad))).reverse ++ (st.drop (q_na q.1)).map (q_v (q_rho b0 ad)) := by
      show st.map _ = _
      rw [← List.map_reverse, List.reverse_reverse, ← List.map_append, List.take_append_drop]
    have h8 : 2 * (F0 m pc ls (st.map (q_v (q_rho b0 ad)))).monitorRoom + (((st.drop (q_na q.1)).map (q_v (q_rho b0 ad))).map fun v => v.category).sum ≤ 8 := by
      rw [q_sum_cat]
      show 2 * 0 + _ ≤ 8
      omega
    rcases hlink with ⟨hz, hl2⟩ | ⟨hz, hl2⟩
    · exact q_after (va_runS (As := (st.take (q_na q.1)).reverse.map (q_v (q_rho b0 ad))) ⟨hx, hb, hml, hown, hts⟩ hM ⟨callB_of (q_na q.1) hts hG rfl rfl rfl hini (htb _ (q_mem hl2 rfl)) m9 ⟨by rw [hRf]; exact Nat.le_refl _, by rw [hRl]; show 8 + (_ + 11) + (40 * d + 100) ≤ _; omega⟩, htb _ (q_mem (m5 e2) rfl)⟩ (q_pre (y := q.1) (d := d) (x := x) hK hT hF hS hw) rfl hln hl.1 hstk h8 hd ⟨hc, hs⟩) hS kk2
    · exact q_after (va_runSN (As := (st.take (q_na q.1)).reverse.map (q_v (q_rho b0 ad))) ⟨hx, hb, hml, hown, hts⟩ hM ⟨va_cnB (q_na q.1) hts hG rfl rfl rfl (hT.1 _ (q_memN hl2 rfl)) hini m9 ⟨by rw [hRf]; exact Nat.le_refl _, by rw [hRl]; show 8 + (_ + 11) + (40 * d + 100) ≤ _; omega⟩, htb _ (q_mem (m5 e2) rfl), trivial⟩ (q_pre (y := q.1) (d := d) (x := x) hK hT hF hS hw) rfl hln hl.1 hstk h8 hd ⟨hc, hs⟩) hS kk2
  · have hk1 : (ki.1 == 0) = false := by simpa using hk0
    rw [hk1] at h
    obtain ⟨a, r, hr, h2⟩ := q_pr_s (show q_pr _ _ = some _ from h)
    have e2 := (q_if_s h2).1
    have h3 := (q_if_s h2).2
    simp only [Bool.and_eq_true, Bool.not_eq_true', decide_eq_true_eq, beq_iff_eq, Bool.or_eq_true] at e2
    obtain ⟨⟨⟨⟨e2, e3⟩, e4⟩, e5⟩, e6⟩ := e2
    obtain ⟨x, hx1, hx2⟩ := Option.map_eq_some_iff.mp h3
    cases hx2
    have hM := hcall _ _ _ _ hm hx1
    have hra : q_v (q_rho b0 ad) (.ref a) = .ref (q_rho b0 ad a) := rfl
    have hM2 : Met l (q_y q.1) (q_wsm q.1) (q_rm d x.2.2.1 x.2.2.2) (va_Pc (.ref (q_rho b0 ad a) :: (st.take (q_na q.1)).reverse.map (q_v (q_rho b0 ad))) (q_Pre D b0 ad cy E)) (q_Qc D b0 ad cy x.1 x.2.1) x.2.2.1 x.2.2.2 (fun q => b0 ≤ q) := by
      rw [← hra]
      exact hM
    have hstk : (F0 m pc ls (st.map (q_v (q_rho b0 ad)))).stack = ((st.take (q_na q.1)).reverse.map (q_v (q_rho b0 ad))).reverse ++ .ref (q_rho b0 ad a) :: rest.map (q_v (q_rho b0 ad)) := by
      show st.map _ = _
      rw [← List.map_reverse, List.reverse_reverse, ← hra, ← List.map_cons, ← hr, ← List.map_append, List.take_append_drop]
    have h8 : 2 * (F0 m pc ls (st.map (q_v (q_rho b0 ad)))).monitorRoom + ((rest.map (q_v (q_rho b0 ad))).map fun v => v.category).sum ≤ 8 := by
      rw [q_sum_cat]
      show 2 * 0 + _ ≤ 8
      omega
    have hpre : PreS s H (va_Pc (.ref (q_rho b0 ad a) :: (st.take (q_na q.1)).reverse.map (q_v (q_rho b0 ad))) (q_Pre D b0 ad cy E)) (.ref (q_rho b0 ad a) :: (st.take (q_na q.1)).reverse.map (q_v (q_rho b0 ad))) :=
      ⟨q_blind, fun U hU hW => ⟨rfl, by rw [hU]; exact hw, va_K.moved hW.alike hK, hT.warm hW, by rw [hU]; exact (hF.kept hS.2.1).moved hW.alike⟩⟩
    have hrecv : ∃ cellB : Cell, H[q_rho b0 ad a]? = some cellB ∧ cellB.vm.isStatics = false ∧ s.vm.findClass (q_y q.1).cls = some cellB.cls := by
      unfold q_rcv at e5
      by_cases ho : q_own q.1 = 14
      · rw [ho] at e5
        have e5 : (a % 4 == 1 && decide (a / 4 < q_nS)) = true := e5
        simp only [Bool.and_eq_true, beq_iff_eq, decide_eq_true_eq] at e5
        obtain ⟨cell, z1, z2, z3, z4⟩ := (hF.2.2 _ e5.2).1
        have z5 : q_rho b0 ad a = ad (2 * (a / 4)) := Value.ref.inj (q_sref (b0 := b0) (ad := ad) e5.1)
        rw [z5, m3, ho]
        refine ⟨cell, ?_, z2, z3⟩
        rw [hS.2.1 _ (Array.getElem?_eq_some_iff.mp z1).1 z4]
        exact z1
      · rw [show (q_own q.1 == 14) = false by simpa using ho] at e5
        have e5 : (decide (q_own q.1 < 13) && (q_obj E a (q_own q.1)).isSome) = true := e5
        simp only [Bool.and_eq_true, decide_eq_true_eq] at e5
        obtain ⟨fs, hf⟩ := Option.isSome_iff_exists.mp e5.2
        obtain ⟨g1, g2⟩ := q_obj_s hf
        rw [m3, Value.ref.inj (q_ref0 (b0 := b0) (ad := ad) g1)]
        exact va_recv hK hw.2 (q_vw _ e5.1) (q_ws_at (b0 := b0) (G := q_c (q_rho b0 ad) cy) g2)
    have hR1 : (q_rm d x.2.2.1 x.2.2.2).frames + 1 ≤ R.frames ∧ 8 + (q_maxL q.1 + 11) + (q_rm d x.2.2.1 x.2.2.2).locals ≤ R.locals := ⟨by rw [hRf]; exact Nat.le_refl _, by rw [hRl]; show 8 + (_ + 11) + (40 * d + 100) ≤ _; omega⟩
    have hcase : (q_ini q.1 = false ∧ decode (q_code y0) pc = .ok (.invokevirtual ki.2, 3)) ∨ (q_ini q.1 = true ∧ decode (q_code y0) pc = .ok (.invokespecial ki.2, 3)) := by
      cases ins <;> first | (cases hki; done) | skip
      all_goals cases hki
      · exact Or.inr ⟨by simpa using e3, hdg⟩
      · exact absurd rfl hk0
      · exact Or.inl ⟨by simpa using e3, hdg⟩
    rcases hcase with ⟨hi, hd⟩ | ⟨hi, hd⟩
    · rcases hlink with ⟨hz, hl2⟩ | ⟨hz, hl2⟩
      · exact q_after (va_runV (C := (q_y q.1).cls) ⟨hx, hb, hml, hown, hts⟩ hM2 ⟨callB_of (q_na q.1) hts hG rfl rfl rfl hini (htb _ (q_mem hl2 rfl)) m9 hR1, htb _ (q_mem (m6 e2) rfl), htb _ (q_mem (m7 e2 hi) rfl)⟩ ⟨hpre.1, hrecv, hpre.2⟩ rfl hln hl.1 hstk h8 hd ⟨hc, hs⟩) hS kk2
      · exact q_after (va_runVN (C := (q_y q.1).cls) ⟨hx, hb, hml, hown, hts⟩ hM2 ⟨va_cnB (q_na q.1) hts hG rfl rfl rfl (hT.1 _ (q_memN hl2 rfl)) hini m9 hR1, htb _ (q_mem (m6 e2) rfl), htb _ (q_mem (m7 e2 hi) rfl)⟩ ⟨hpre.1, hrecv, hpre.2⟩ rfl hln hl.1 hstk h8 hd ⟨hc, hs⟩) hS kk2
    · have hrn : q_ret q.1 = none := by
        rcases e4 with e4 | e4
        · rw [hi] at e4
          cases e4
        · simpa using e4
      have hwm : q_wsm q.1 = Cond.code (q_y q.1) (q_code q.1) (q_maxL q.1) none :: q_big := by unfold q_wsm; rw [hrn]
      rcases hlink with ⟨hz, hl2⟩ | ⟨hz, hl2⟩
      · exact q_after (va_runI ⟨hx, hb, hml, hown, hts⟩ hM2 ⟨callB_of (q_na q.1) hts hG hwm rfl rfl hini (htb _ (q_mem hl2 rfl)) m9 hR1, m8 hi, htb _ (q_mem (m6 e2) rfl)⟩ hpre rfl hln hl.1 hstk h8 hd ⟨hc, hs⟩) hS kk2
      · exact q_after (va_runIN ⟨hx, hb, hml, hown, hts⟩ hM2 ⟨va_cnB (q_na q.1) hts hG hwm rfl rfl (hT.1 _ (q_memN hl2 rfl)) hini m9 hR1, m8 hi, htb _ (q_mem (m6 e2) rfl)⟩ hpre rfl hln hl.1 hstk h8 hd ⟨hc, hs⟩) hS kk2
theorem q_run_ok {y0 d : Nat} {call : Nat → List Value → q_H → Option q_X} (hx : p.tables.exec = Jvm.exec) (hb : c.code = q_code y0) (hml : c.maxLocals = q_maxL y0) (hr : meth.sig.returnType = q_ret y0) (hlocks : meth.locks = false) (hown : s.vm.findClass (q_R (q_own y0)) = some m.cls) (hts : ∀ w ∈ q_wsm y0, w.before args s = true) (hT : q_T ad s) (hK : va_K D vwCl (q_tys cy) s) (hF : q_SF ad b0 s s.heap) (hini : q_ini y0 = true → meth.name = "<init>") (hle : b0 ≤ s.heap.size) (hcall : ∀ y as E x, q_mOK y → call y as E = some x → q_Met l D b0 ad cy d y as E x) {v : Option Value} {mc ms : Nat} : ∀ (n pc : Nat) (lv : q_L) (st : List Value) (E : q_H) (cells slots : Nat), q_run call (q_own y0) (q_maxL y0) (q_ini y0) (q_code y0) (q_ret y0) n pc lv st E cells slots = some (v, E', mc, ms) → q_G p l e (q_rm (d + 1) mc ms) s m args below meth c (MQ below (q_Qc D b0 ad cy v E') args s mc ms (fun q => b0 ≤ q)) s.heap D b0 ad cy (q_maxL y0) pc lv st E cells slots := by
  have htb : ∀ w ∈ q_big, w.before args s = true := fun w h => hts w (List.mem_cons_of_mem _ h)
  intro n
  induction n with
  | zero =>
    intro pc lv st E cells slots h
    cases h
  | succ n ih =>
    intro pc lv st E cells slots h
    unfold q_run at h
    simp only [q_nf_eq] at h
    split at h
    · cases h
    · rename_i ins len hd
      split at h
      · rename_i w hr1
        cases h
        intro ls H locs hl hw hS
        exact q_ret_ok hx hb hr hlocks hd hr1 hw hS
      · rename_i hr1
        split at h
        · rename_i zv zr zE zc zs hc1
          have hm := q_run_mono _ _ _ _ _ _ _ h
          intro ls H locs hl hw hS
          refine q_cl_ok (R := q_rm (d + 1) mc ms) hx hb hml hown hts hT hK hcall hF rfl rfl rfl hd hc1 hm.1 hm.2 hw hl hS fun H1 locs1 hw1 hS1 => ?_
          exact ih _ _ _ _ _ _ h ls H1 locs1 hl hw1 hS1
        · rename_i hc1
          split at h
          · rename_i zp zl zt zE zc zs hs1
            have hm := q_run_mono _ _ _ _ _ _ _ h
            exact q_step_ok (R := q_rm (d + 1) mc ms) (o := q_own y0) hx hb hml hown htb hT hK ⟨by show 3 ≤ d + 4; omega, by show 100 ≤ 40 * (d + 1) + 100; omega⟩ hF rfl hini hle hd hs1 hm.1 hm.2 (ih _ _ _ _ _ _ h)
          · cases h
end QR
/-! the calls -/
theorem q_args_ml (F : Nat → Nat) : ∀ (vs : List Value) (i : Nat), lv_args i (vs.map (q_v F)) = q_ml F (lv_args i vs) := by
  intro vs
  induction vs with
  | nil => intro i; rfl
  | cons v vs ih =>
    intro i
    show (i, q_v F v) :: lv_args _ _ = (i, q_v F v) :: q_ml F (lv_args _ vs)
    rw [q_v_cat (F := F) (v := v) rfl, ih]
theorem q_sl_len (F : Nat → Nat) : ∀ (vs : List Value), (lg_sl (vs.map (q_v F))).length = (lg_sl vs).length := by
  intro vs
  induction vs with
  | nil => rfl
  | cons v vs ih =>
    unfold lg_sl at ih ⊢
    simp only [List.map_cons, List.flatMap_cons, List.length_append, ih]
    rw [q_v_cat (F := F) (v := v) rfl]
    split <;> rfl
set_option maxHeartbeats 1000000 in
theorem q_call_ok (l : Launch) (D : va_G) (b0 : Nat) (ad : Nat → Nat) (cy : Nat → ClassId) (F : Nat) : ∀ (d y : Nat) (as : List Value) (E : q_H) (x : q_X), q_mOK y → q_callf F d y as E = some x → q_Met l D b0 ad cy d y as E x := by
  intro d
  induction d with
  | zero =>
    intro y as E x _ h
    cases h
  | succ d ih =>
    intro y as E x hm h
    unfold q_callf at h
    have e1 := (q_if_s h).1
    replace h := (q_if_s h).2
    simp only [q_nf_eq, q_fc_eq] at h
    simp only [Bool.and_eq_true, decide_eq_true_eq] at e1
    obtain ⟨v, E', mc, ms⟩ := x
    refine Met.ofW (cc := q_code y) (maxL := q_maxL y) (ret := q_ret y) hm.1 rfl ?_
    intro p e s m args below meth c s₁ B hml hv
    obtain ⟨rfl, hw, hK, hT, hF⟩ := hv
    have hts := atoms_spec (ws := q_wsm y) B.pre
    have hown : s.vm.findClass (q_R (q_own y)) = some m.cls := by
      rw [← hm.2.2.1]
      exact findClass_of_methodNamed B.named
    have hini : q_ini y = true → meth.name = "<init>" := fun h => ((name_of_methodNamed B.named B.method).1).trans (hm.2.2.2.2.2.2.2.1 h)
    have hle : b0 ≤ s.heap.size := by rw [hw.1]; exact Nat.le_add_right _ _
    have hG := q_run_ok (p := p) (l := l) (e := e) (s := s) (m := m) (args := (as.map (q_v (q_rho b0 ad))).toArray) (below := below) (meth := meth) (c := c) (y0 := y) (d := d) (mc := mc) (ms := ms) (cy := cy) (D := D) B.exec B.bytes hml B.returns B.notSynchronized hown hts hT hK hF hini hle (fun y' as' E1 x' h1 h2 => ih y' as' E1 x' h1 h2) F 0 _ _ _ 0 0 h
    have hl := lv_entry (as.map (q_v (q_rho b0 ad))) (n := q_maxL y) (by rw [q_sl_len]; exact e1.1)
    rw [q_args_ml] at hl
    rw [lg_entry_eq]
    exact hG _ _ _ hl hw va_S.rf
