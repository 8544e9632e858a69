/-! the run of a method, calls through 'call' -/
def q_rets (ret : Option FieldType) (ins : Instr) (len : Nat) (st : List Value) : Option (Option Value) := match ins with
  | .return_ => q_if (len == 1) (match ret, st with
    | none, [] => some none
    | _, _ => none)
  | .ireturn => q_if (len == 1) (match ret, st with
    | some ty, [.int x] => q_if (q_fit ty (.int x)) (some (some (.int x)))
    | _, _ => none)
  | .areturn => q_if (len == 1) (match ret, st with
    | some (.object _), [.ref a] => some (some (.ref a))
    | some (.object _), [.null] => some (some .null)
    | some (.array _), [.ref a] => some (some (.ref a))
    | some (.array _), [.null] => some (some .null)
    | _, _ => none)
  | _ => none
abbrev q_X : Type := Option Value × q_H × Nat × Nat
/-- calls: kind 0 static, 1 virtual, 2 special -/
def q_kind (ins : Instr) : Option (Nat × Nat) := match ins with
  | .invokestatic i => some (0, i)
  | .invokevirtual i => some (1, i)
  | .invokespecial i => some (2, i)
  | _ => none
def q_cl (call : Nat → List Value → q_H → Option q_X) (o : Nat) (ins : Instr) (len : Nat) (st : List Value) (E : q_H) : Option (Option Value × List Value × q_H × Nat × Nat) :=
  (q_kind ins).bind fun ki => (q_cal o ki.2).bind fun q => q_if (len == 3 && decide (q_na q.1 ≤ st.length)) (
    bif ki.1 == 0 then q_if (q_stat q.1 && decide (((st.drop (q_na q.1)).map fun v => v.category).sum ≤ 8)) ((call q.1 (st.take (q_na q.1)).reverse E).map fun x => (x.1, st.drop (q_na q.1), x.2.1, x.2.2.1, x.2.2.2))
    else q_pr (st.drop (q_na q.1)) fun a r => q_if (!q_stat q.1 && (q_ini q.1 == (ki.1 == 2)) && (q_obj E a (q_own q.1)).isSome && decide ((r.map fun v => v.category).sum ≤ 8)) ((call q.1 (.ref a :: (st.take (q_na q.1)).reverse) E).map fun x => (x.1, r, x.2.1, x.2.2.1, x.2.2.2)))
def q_run (call : Nat → List Value → q_H → Option q_X) (o nL : Nat) (ini : Bool) (cc : ByteArray) (ret : Option FieldType) : Nat → Nat → q_L → List Value → q_H → Option q_X
  | 0, _, _, _, _ => none
  | n + 1, pc, lv, st, E => match decode cc pc with
    | .error _ => none
    | .ok (ins, len) => match q_rets ret ins len st with
      | some v => some (v, E, 0, 0)
      | none => match q_cl call o ins len st E with
        | some y => (q_run call o nL ini cc ret n (pc + 3) lv (y.1.toList ++ y.2.1) y.2.2.1).map fun x => (x.1, x.2.1, y.2.2.2.1 + x.2.2.1, y.2.2.2.2 + x.2.2.2)
        | none => match q_step o nL ini ins len pc lv st E with
          | some y => (q_run call o nL ini cc ret n y.1 y.2.1 y.2.2.1 y.2.2.2.1).map fun x => (x.1, x.2.1, y.2.2.2.2.1 + x.2.2.1, y.2.2.2.2.2 + x.2.2.2)
          | none => none
/-- a call of method y, d levels deep at most, each of F steps at most -/
def q_callf (F : Nat) : Nat → Nat → List Value → q_H → Option q_X
  | 0, _, _, _ => none
  | d + 1, y, as, E => q_if (decide ((lg_sl as).length ≤ q_maxL y) && decide (as.length = q_na y + (bif q_stat y then 0 else 1))) (q_run (q_callf F d) (q_own y) (q_maxL y) (q_ini y) (q_code y) (q_ret y) F 0 (lv_args 0 as) [] E)
/-! its meaning: contracts -/
def q_wsm (y : Nat) : List Cond := .code (q_y y) (q_code y) (q_maxL y) (q_ret y) :: q_big
def q_rm (d mc ms : Nat) : Room := { frames := d, cells := mc, slots := ms, locals := 40 * d }
def q_Pre (D : va_G) (b0 : Nat) (ad : Nat → Nat) (cy : Nat → ClassId) (E : q_H) (U : State) : Prop := q_W D b0 (q_c (q_rho b0 ad) cy) E U.heap ∧ va_K D vwCl (q_tys cy) U ∧ q_T ad U
def q_Qc (D : va_G) (b0 : Nat) (ad : Nat → Nat) (cy : Nat → ClassId) (v : Option Value) (E : q_H) : Array Value → State → Outcome → State → Prop := fun _ st oc t => oc = .returned (v.map (q_v (q_rho b0 ad))) ∧ q_W D b0 (q_c (q_rho b0 ad) cy) E t.heap ∧ va_F (fun q => b0 ≤ q) st t
def q_Met (l : Launch) (D : va_G) (b0 : Nat) (ad : Nat → Nat) (cy : Nat → ClassId) (d y : Nat) (as : List Value) (E : q_H) (x : q_X) : Prop :=
  Met l (q_y y) (q_wsm y) (q_rm d x.2.2.1 x.2.2.2) (va_Pc (as.map (q_v (q_rho b0 ad))) (q_Pre D b0 ad cy E)) (q_Qc D b0 ad cy x.1 x.2.1) x.2.2.1 x.2.2.2 (fun q => b0 ≤ q)
theorem q_T.warm {ad : Nat → Nat} {s U : State} (hW : s.WarmedH U.vm) (h : q_T ad s) : q_T ad U := by
  obtain ⟨h1, h2, h3, h4⟩ := h
  refine ⟨fun w hw => ?_, fun q hq => vk_R.warm hW (h2 q hq), va_AO.moved hW.alike h3, va_AO.moved hW.alike h4⟩
  have h5 := h1 w hw
  have h6 := (List.mem_filter.mp hw).2
  unfold q_isN at h6
  split at h6
  · exact va_Nw.warmF hW h5
  · exact va_Nw.warmM hW h5
  · cases h6
theorem q_T.same {ad : Nat → Nat} {s U : State} (hv : U.vm = s.vm) (h : q_T ad s) : q_T ad U := by
  obtain ⟨h1, h2, h3, h4⟩ := h
  have ha : s.vm.Alike U.vm := by rw [hv]; exact Vm.Alike.refl _
  refine ⟨fun w hw => ?_, fun q hq => vk_R.same hv (h2 q hq), va_AO.moved ha h3, va_AO.moved ha h4⟩
  have h5 := h1 w hw
  have h6 := (List.mem_filter.mp hw).2
  unfold q_isN at h6
  split at h6
  · exact va_Nw.same rfl hv.symm h5
  · exact va_Nw.same rfl hv.symm h5
  · cases h6
theorem q_blind {D : va_G} {b0 : Nat} {ad : Nat → Nat} {cy : Nat → ClassId} {E : q_H} {vs : List Value} : FrameBlind (va_Pc vs (q_Pre D b0 ad cy E)) := fun a U g mk h => by
  obtain ⟨h0, h1, h2, h3⟩ := h
  exact ⟨h0, h1, va_K.moved (u := U) (U := U.calling g mk a) (Vm.Alike.refl U.vm) h2, q_T.same (s := U) (U := U.calling g mk a) rfl h3⟩
theorem q_GoodIn (y y' : Nat) (h : q_mOK y') : GoodIn (q_wsm y) (q_wsm y') := by
  intro w hw
  rcases List.mem_cons.mp hw with rfl | hw
  · exact ⟨List.mem_cons_of_mem _ (q_mem h.2.1 rfl), good_of_word rfl⟩
  · exact ⟨List.mem_cons_of_mem _ hw, good_of_word (List.mem_filter.mp hw).2⟩
