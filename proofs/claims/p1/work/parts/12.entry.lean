/-! THE CLAIM OUT OF ONE WALK OF THE LAW'S BODY. Your part is whole_start (and what it stands on); all else here is the same for every law, but numbers. -/
def R_law : String := "DocumentHouseLaw"
def lw_P (b : Addr) (xs : List Int32) (args : Array Value) (s : State) : Prop := args = #[.ref b] ∧ s.IntsAt b xs ∧ xs.length ≤ 6 ∧ (Jvm.Cond.and given_1 narrow_1).before args s = true
def lw_Q (_ : Array Value) (s : State) (o : Outcome) (t : State) : Prop := o = .returned (some (.int 1)) ∧ Framed s o t [] 396798 7911856
def lw_Z (below : List Frame) (a : Array Value) (s : State) : State → Prop := fun t => ∃ o, t.status = .running ∧ Ended t below o ∧ lw_Q a s o t
/-- the law's own end, with 1 on the stack, nothing written that was there before, its room as the claim has it -/
theorem lw_ret {p : Program} {l : Launch} {e : Env} {s : State} {m : MethodId} {below : List Frame} {meth : Method} {c : Code} {b : Nat} (hx : p.tables.exec = Jvm.exec) (hb : c.code = code) (hr : meth.sig.returnType = ret) (hlocks : meth.locks = false) {pc : Nat} {H : Heap} {ls : Array Slot} (hdg : decode code pc = .ok (.ireturn, 1)) : W p l e room_1 s m #[Value.ref b] below meth c H [] 396798 7911856 (lw_Z below #[Value.ref b] s) (F0 m pc ls [.int 1]) := by
  intro T hT X
  obtain ⟨fs, hret, hrun, hended, hW, hframe⟩ := X.leave (v := some (.int 1)) (hlocks := hlocks) (fun h => by rw [hr] at h; cases h)
  have hmeth' : T.vm.method? m = some meth := X.method'
  refine ⟨T.setFrames fs, ?_, .returned (some (.int 1)), hrun, hended, rfl, ⟨_, rfl⟩, hW, hframe⟩
  jvm_step X.here [X.here.top, hx, hb, hdg, hmeth', hr, ret, narrow_b1]
  (try refine ⟨rfl, ?_⟩); (try refine ⟨rfl, ?_⟩)
  first | (intro acts; rw [hret _ acts rfl rfl rfl]) | rw [hret _ _ rfl rfl rfl]
  exact Steps.refl _
/-- what holds at the law's entry: the machine, the code, the tables' words (any of lw_tbl by 'hts w (by decide +kernel)'), the script of L ints xs at the cell b, what the Statement gives of the start (any of its parts by flat_of_before) -/
def lw_At (p : Program) (s : State) (m : MethodId) (meth : Method) (c : Code) (b L : Nat) (xs : Nat → Int32) : Prop :=
  p.tables.exec = Jvm.exec ∧ c.code = code ∧ meth.sig.returnType = ret ∧ c.maxLocals = 4 ∧ s.vm.findClass R_law = some m.cls ∧ (∀ w ∈ lw_tbl, w.before #[Value.ref b] s = true) ∧ va_X b L xs s s.heap ∧ b < s.heap.size ∧ meth.locks = false ∧ (Jvm.Cond.and given_1 narrow_1).before #[Value.ref b] s = true
/-! the law's entry: what the Statement gives of the start, in the pure machine's words -/
theorem l_known {s : State} {args : Array Value} (hts : ∀ w ∈ q_big, w.before args s = true) : ∃ (f : Nat → ClassId) (g : Nat → Nat → Nat), ∀ ci, ci < 13 → u_Kn s (q_R ci) (q_TX ci) (q_N ci) (f ci) (g ci) := by
  have h0 : ∀ ci, ci < 13 → ∃ (cC : ClassId) (iS : Nat → Nat), u_Kn s (q_R ci) (q_TX ci) (q_N ci) cC iS := fun ci h => u_known (ws := q_big) hts (q_lay_big h) (hts _ (q_mem (q_inst _ h) rfl))
  obtain ⟨c0, i0, -⟩ := h0 0 (by decide)
  have h1 : ∀ ci, ∃ q : ClassId × (Nat → Nat), ci < 13 → u_Kn s (q_R ci) (q_TX ci) (q_N ci) q.1 q.2 := by
    intro ci
    by_cases h : ci < 13
    · obtain ⟨a, b, hab⟩ := h0 ci h
      exact ⟨(a, b), fun _ => hab⟩
    · exact ⟨(c0, i0), fun h2 => absurd h2 h⟩
  obtain ⟨f, hf⟩ := Classical.skolem.mp h1
  exact ⟨fun ci => (f ci).1, fun ci => (f ci).2, hf⟩
theorem l_arr {s : State} {args : Array Value} {ty : FieldType} (h : (Cond.arrayClass ty).before args s = true) : ∃ c : ClassId, ArrOfT s c ty ∧ s.vm.findClass ("[" ++ ty.toString) = some c := by
  obtain ⟨c, k, comp, h1, h2, h3⟩ := Cond.arrayClass_spec h
  exact ⟨c, fun n z => ⟨(fun k h => by cases h), k, h2, comp, h3⟩, h1⟩
theorem l_arq {s : State} {args : Array Value} {C : String} (h : (Cond.arrayOver (.object C)).before args s = true) : ∃ c : ClassId, ArrOfT s c (.object C) ∧ va_RA s c (.object C) := by
  obtain ⟨comp, c, k, h1, -, h3, h4, h5⟩ := Cond.arrayOver_spec h
  exact ⟨c, fun n z => ⟨(fun k h => by cases h), k, h3, comp, h4⟩, k, comp, h3, h4, h1, h5⟩
theorem l_aoa {s : State} {args : Array Value} (h : (Cond.arrayOver (.array .int)).before args s = true) : ∃ c : ClassId, ArrOfT s c (.array .int) ∧ s.vm.findClass ("[" ++ (FieldType.array .int).toString) = some c := by
  simp only [Cond.before, Cond.holds, Cond.value, beq_iff_eq] at h
  cases hc : s.vm.findClass (FieldType.array .int).toString with
  | none => simp [hc] at h
  | some comp =>
    simp only [hc, Option.bind_some, Option.bind_eq_some_iff, Option.map_eq_some_iff] at h
    obtain ⟨c, hi, k, hk, hb⟩ := h
    obtain ⟨hlt, hp, -⟩ := Array.findIdx?_eq_some_iff_getElem.mp hi
    have hkk : s.vm.classes[c] = k := (Array.getElem?_eq_some_iff.mp hk).2
    rw [hkk] at hp
    cases hkind : k.kind with
    | array component ty =>
      rw [hkind] at hb hp
      simp at hb hp
      exact ⟨c, fun n z => ⟨(fun k h => by cases h), k, hk, comp, by rw [hkind, hp, hb.1]⟩, hb.2⟩
    | _ => rw [hkind] at hb; simp at hb
theorem l_K {s : State} {args : Array Value} (hts : ∀ w ∈ lw_tbl, w.before args s = true) : ∃ (D : va_G) (cy : Nat → ClassId), va_K D vwCl (q_tys cy) s := by
  have htb : ∀ w ∈ q_big, w.before args s = true := fun w h => hts w (List.mem_filter.mp h).1
  obtain ⟨f, g, h1⟩ := l_known htb
  obtain ⟨c0, a0, b0⟩ := l_arr (hts _ q_acB)
  obtain ⟨c1, a1, b1⟩ := l_arr (hts _ q_acI)
  obtain ⟨c2, a2, b2⟩ := l_arr (hts _ q_acZ)
  obtain ⟨c3, a3, b3⟩ := l_arq (hts (.arrayOver (.object "DocumentHouse$Index")) (q_lwt (i := 322) (by decide +kernel)))
  obtain ⟨c4, a4, b4⟩ := l_arq (hts (.arrayOver (.object "DocumentHouse$Shelf")) (q_lwt (i := 312) (by decide +kernel)))
  obtain ⟨c5, a5, b5⟩ := l_aoa (hts (.arrayOver (.array .int)) (q_lwt (i := 217) (by decide +kernel)))
  refine ⟨(f, g), fun k => match k with
    | 0 => c0
    | 1 => c1
    | 2 => c2
    | 3 => c3
    | 4 => c4
    | _ => c5, ?_, ?_⟩
  · intro c q hq
    have hc : c < 13 := (List.getElem?_eq_some_iff.mp hq).1
    rw [q_vw c hc] at hq
    cases hq
    exact h1 c hc
  · intro k q hk
    match k, hk with
    | 0, hk => cases hk; exact ⟨a0, b0⟩
    | 1, hk => cases hk; exact ⟨a1, b1⟩
    | 2, hk => cases hk; exact ⟨a2, b2⟩
    | 3, hk => cases hk; exact ⟨a3, b3⟩
    | 4, hk => cases hk; exact ⟨a4, b4⟩
    | 5, hk => cases hk; exact ⟨a5, b5⟩
    | k + 6, hk => simp [q_tys] at hk
theorem l_str0 {s : State} {args : Array Value} {A : Nat → Prop} (hg : (Jvm.Cond.and given_1 narrow_1).before args s = true) (hA : ∀ a : Nat, a < s.heap.size → ¬ A a) : ∃ k v : Nat, (Term.string "DocumentHouse" 181).eval args s none [] s = some (.ref k) ∧ va_O "java/lang/String" k A s s.heap ∧ va_OF "java/lang/String" "coder" "B" (.int 0) k A s s.heap ∧ va_OF "java/lang/String" "value" "[B" (.ref v) k A s s.heap ∧ va_T .byte v (q_sb 0).length (fun i => .int ((q_sb 0).getD i 0)) A s s.heap := by
  have hs := flat_of_before _ hg
  obtain ⟨adK, adV, h1, h2⟩ := vk_Sof (args := args) (s := s) (N := 1) (tm := fun _ => Term.string "DocumentHouse" 181) (len := [5]) (byt := [q_sb 0]) (A := A) (fun i hi => by
    rw [show i = 0 by omega]
    decide) (fun i hi => hs (.exactly (.string "DocumentHouse" 181) "java/lang/String") (by decide +kernel)) (fun i hi => hs (.eq (.field (.string "DocumentHouse" 181) "java/lang/String" "coder" "B") (.int 0)) (by decide +kernel)) (fun i hi => hs (.arrayOf (.field (.string "DocumentHouse" 181) "java/lang/String" "value" "[B") .byte) (by decide +kernel)) (fun i hi => by
    rw [show i = 0 by omega]
    exact hs (.eq (.length (.field (.string "DocumentHouse" 181) "java/lang/String" "value" "[B")) (.int 5)) (by decide +kernel)) (fun i hi j hj => by
    rw [show i = 0 by omega] at hj ⊢
    have hj : j < 5 := hj
    match j, hj with
    | 0, _ => exact hs (.eq (.elem (.field (.string "DocumentHouse" 181) "java/lang/String" "value" "[B") (.int 0)) (.int 102)) (by decide +kernel)
    | 1, _ => exact hs (.eq (.elem (.field (.string "DocumentHouse" 181) "java/lang/String" "value" "[B") (.int 1)) (.int 97)) (by decide +kernel)
    | 2, _ => exact hs (.eq (.elem (.field (.string "DocumentHouse" 181) "java/lang/String" "value" "[B") (.int 2)) (.int 117)) (by decide +kernel)
    | 3, _ => exact hs (.eq (.elem (.field (.string "DocumentHouse" 181) "java/lang/String" "value" "[B") (.int 3)) (.int 108)) (by decide +kernel)
    | 4, _ => exact hs (.eq (.elem (.field (.string "DocumentHouse" 181) "java/lang/String" "value" "[B") (.int 4)) (.int 116)) (by decide +kernel)
    | i + 5, h => exact absurd h (by omega)) (fun i j hi hj h => absurd (show i = j by omega) h) hA
  obtain ⟨g1, g2, g3, g4⟩ := h1.1 0 (by decide)
  exact ⟨adK 0, adV 0, h2 0 (by decide), g1, g2, g3, g4⟩
theorem l_str1 {s : State} {args : Array Value} {A : Nat → Prop} (hg : (Jvm.Cond.and given_1 narrow_1).before args s = true) (hA : ∀ a : Nat, a < s.heap.size → ¬ A a) : ∃ k v : Nat, (Term.string "DocumentHouse" 186).eval args s none [] s = some (.ref k) ∧ va_O "java/lang/String" k A s s.heap ∧ va_OF "java/lang/String" "coder" "B" (.int 0) k A s s.heap ∧ va_OF "java/lang/String" "value" "[B" (.ref v) k A s s.heap ∧ va_T .byte v (q_sb 1).length (fun i => .int ((q_sb 1).getD i 0)) A s s.heap := by
  have hs := flat_of_before _ hg
  obtain ⟨adK, adV, h1, h2⟩ := vk_Sof (args := args) (s := s) (N := 1) (tm := fun _ => Term.string "DocumentHouse" 186) (len := [5]) (byt := [q_sb 1]) (A := A) (fun i hi => by
    rw [show i = 0 by omega]
    decide) (fun i hi => hs (.exactly (.string "DocumentHouse" 186) "java/lang/String") (by decide +kernel)) (fun i hi => hs (.eq (.field (.string "DocumentHouse" 186) "java/lang/String" "coder" "B") (.int 0)) (by decide +kernel)) (fun i hi => hs (.arrayOf (.field (.string "DocumentHouse" 186) "java/lang/String" "value" "[B") .byte) (by decide +kernel)) (fun i hi => by
    rw [show i = 0 by omega]
    exact hs (.eq (.length (.field (.string "DocumentHouse" 186) "java/lang/String" "value" "[B")) (.int 5)) (by decide +kernel)) (fun i hi j hj => by
    rw [show i = 0 by omega] at hj ⊢
    have hj : j < 5 := hj
    match j, hj with
    | 0, _ => exact hs (.eq (.elem (.field (.string "DocumentHouse" 186) "java/lang/String" "value" "[B") (.int 0)) (.int 112)) (by decide +kernel)
    | 1, _ => exact hs (.eq (.elem (.field (.string "DocumentHouse" 186) "java/lang/String" "value" "[B") (.int 1)) (.int 108)) (by decide +kernel)
    | 2, _ => exact hs (.eq (.elem (.field (.string "DocumentHouse" 186) "java/lang/String" "value" "[B") (.int 2)) (.int 97)) (by decide +kernel)
    | 3, _ => exact hs (.eq (.elem (.field (.string "DocumentHouse" 186) "java/lang/String" "value" "[B") (.int 3)) (.int 99)) (by decide +kernel)
    | 4, _ => exact hs (.eq (.elem (.field (.string "DocumentHouse" 186) "java/lang/String" "value" "[B") (.int 4)) (.int 101)) (by decide +kernel)
    | i + 5, h => exact absurd h (by omega)) (fun i j hi hj h => absurd (show i = j by omega) h) hA
  obtain ⟨g1, g2, g3, g4⟩ := h1.1 0 (by decide)
  exact ⟨adK 0, adV 0, h2 0 (by decide), g1, g2, g3, g4⟩
theorem l_str2 {s : State} {args : Array Value} {A : Nat → Prop} (hg : (Jvm.Cond.and given_1 narrow_1).before args s = true) (hA : ∀ a : Nat, a < s.heap.size → ¬ A a) : ∃ k v : Nat, (Term.string "DocumentHouseModel" 1025).eval args s none [] s = some (.ref k) ∧ va_O "java/lang/String" k A s s.heap ∧ va_OF "java/lang/String" "coder" "B" (.int 0) k A s s.heap ∧ va_OF "java/lang/String" "value" "[B" (.ref v) k A s s.heap ∧ va_T .byte v (q_sb 2).length (fun i => .int ((q_sb 2).getD i 0)) A s s.heap := by
  have hs := flat_of_before _ hg
  obtain ⟨adK, adV, h1, h2⟩ := vk_Sof (args := args) (s := s) (N := 1) (tm := fun _ => Term.string "DocumentHouseModel" 1025) (len := [5]) (byt := [q_sb 2]) (A := A) (fun i hi => by
    rw [show i = 0 by omega]
    decide) (fun i hi => hs (.exactly (.string "DocumentHouseModel" 1025) "java/lang/String") (by decide +kernel)) (fun i hi => hs (.eq (.field (.string "DocumentHouseModel" 1025) "java/lang/String" "coder" "B") (.int 0)) (by decide +kernel)) (fun i hi => hs (.arrayOf (.field (.string "DocumentHouseModel" 1025) "java/lang/String" "value" "[B") .byte) (by decide +kernel)) (fun i hi => by
    rw [show i = 0 by omega]
    exact hs (.eq (.length (.field (.string "DocumentHouseModel" 1025) "java/lang/String" "value" "[B")) (.int 5)) (by decide +kernel)) (fun i hi j hj => by
    rw [show i = 0 by omega] at hj ⊢
    have hj : j < 5 := hj
    match j, hj with
    | 0, _ => exact hs (.eq (.elem (.field (.string "DocumentHouseModel" 1025) "java/lang/String" "value" "[B") (.int 0)) (.int 102)) (by decide +kernel)
    | 1, _ => exact hs (.eq (.elem (.field (.string "DocumentHouseModel" 1025) "java/lang/String" "value" "[B") (.int 1)) (.int 97)) (by decide +kernel)
    | 2, _ => exact hs (.eq (.elem (.field (.string "DocumentHouseModel" 1025) "java/lang/String" "value" "[B") (.int 2)) (.int 117)) (by decide +kernel)
    | 3, _ => exact hs (.eq (.elem (.field (.string "DocumentHouseModel" 1025) "java/lang/String" "value" "[B") (.int 3)) (.int 108)) (by decide +kernel)
    | 4, _ => exact hs (.eq (.elem (.field (.string "DocumentHouseModel" 1025) "java/lang/String" "value" "[B") (.int 4)) (.int 116)) (by decide +kernel)
    | i + 5, h => exact absurd h (by omega)) (fun i j hi hj h => absurd (show i = j by omega) h) hA
  obtain ⟨g1, g2, g3, g4⟩ := h1.1 0 (by decide)
  exact ⟨adK 0, adV 0, h2 0 (by decide), g1, g2, g3, g4⟩
theorem l_str3 {s : State} {args : Array Value} {A : Nat → Prop} (hg : (Jvm.Cond.and given_1 narrow_1).before args s = true) (hA : ∀ a : Nat, a < s.heap.size → ¬ A a) : ∃ k v : Nat, (Term.string "DocumentHouseModel" 1026).eval args s none [] s = some (.ref k) ∧ va_O "java/lang/String" k A s s.heap ∧ va_OF "java/lang/String" "coder" "B" (.int 0) k A s s.heap ∧ va_OF "java/lang/String" "value" "[B" (.ref v) k A s s.heap ∧ va_T .byte v (q_sb 3).length (fun i => .int ((q_sb 3).getD i 0)) A s s.heap := by
  have hs := flat_of_before _ hg
  obtain ⟨adK, adV, h1, h2⟩ := vk_Sof (args := args) (s := s) (N := 1) (tm := fun _ => Term.string "DocumentHouseModel" 1026) (len := [5]) (byt := [q_sb 3]) (A := A) (fun i hi => by
    rw [show i = 0 by omega]
    decide) (fun i hi => hs (.exactly (.string "DocumentHouseModel" 1026) "java/lang/String") (by decide +kernel)) (fun i hi => hs (.eq (.field (.string "DocumentHouseModel" 1026) "java/lang/String" "coder" "B") (.int 0)) (by decide +kernel)) (fun i hi => hs (.arrayOf (.field (.string "DocumentHouseModel" 1026) "java/lang/String" "value" "[B") .byte) (by decide +kernel)) (fun i hi => by
    rw [show i = 0 by omega]
    exact hs (.eq (.length (.field (.string "DocumentHouseModel" 1026) "java/lang/String" "value" "[B")) (.int 5)) (by decide +kernel)) (fun i hi j hj => by
    rw [show i = 0 by omega] at hj ⊢
    have hj : j < 5 := hj
    match j, hj with
    | 0, _ => exact hs (.eq (.elem (.field (.string "DocumentHouseModel" 1026) "java/lang/String" "value" "[B") (.int 0)) (.int 112)) (by decide +kernel)
    | 1, _ => exact hs (.eq (.elem (.field (.string "DocumentHouseModel" 1026) "java/lang/String" "value" "[B") (.int 1)) (.int 108)) (by decide +kernel)
    | 2, _ => exact hs (.eq (.elem (.field (.string "DocumentHouseModel" 1026) "java/lang/String" "value" "[B") (.int 2)) (.int 97)) (by decide +kernel)
    | 3, _ => exact hs (.eq (.elem (.field (.string "DocumentHouseModel" 1026) "java/lang/String" "value" "[B") (.int 3)) (.int 99)) (by decide +kernel)
    | 4, _ => exact hs (.eq (.elem (.field (.string "DocumentHouseModel" 1026) "java/lang/String" "value" "[B") (.int 4)) (.int 101)) (by decide +kernel)
    | i + 5, h => exact absurd h (by omega)) (fun i j hi hj h => absurd (show i = j by omega) h) hA
  obtain ⟨g1, g2, g3, g4⟩ := h1.1 0 (by decide)
  exact ⟨adK 0, adV 0, h2 0 (by decide), g1, g2, g3, g4⟩
theorem l_at {s : State} {args : Array Value} (hts : ∀ w ∈ lw_tbl, w.before args s = true) (hg : (Jvm.Cond.and given_1 narrow_1).before args s = true) : ∃ ad : Nat → Nat, q_T ad s ∧ q_SF ad s.heap.size s s.heap := by
  have hs := flat_of_before _ hg
  have hA : ∀ a : Nat, a < s.heap.size → ¬ (fun q => s.heap.size ≤ q) a := fun a h => Nat.not_le.mpr h
  obtain ⟨k0, v0, e0, a0, b0, c0, d0⟩ := l_str0 hg hA
  obtain ⟨k1, v1, e1, a1, b1, c1, d1⟩ := l_str1 hg hA
  obtain ⟨k2, v2, e2, a2, b2, c2, d2⟩ := l_str2 hg hA
  obtain ⟨k3, v3, e3, a3, b3, c3, d3⟩ := l_str3 hg hA
  refine ⟨fun i => match i with
    | 0 => k0
    | 1 => v0
    | 2 => k1
    | 3 => v1
    | 4 => k2
    | 5 => v2
    | 6 => k3
    | _ => v3, ⟨fun w hw => ?_, fun q hq => ?_, va_AO.of (hts (.arrayOver (.object "DocumentHouse$Index")) (q_lwt (i := 322) (by decide +kernel))), va_AO.of (hts (.arrayOver (.object "DocumentHouse$Shelf")) (q_lwt (i := 312) (by decide +kernel))), hts (.arrayOver (.array .int)) (q_lwt (i := 217) (by decide +kernel))⟩, ?_, ?_, ?_⟩
  · have h1 := (List.mem_filter.mp hw).1
    have h2 := (List.mem_filter.mp hw).2
    unfold q_isN at h2
    split at h2
    · exact va_Nw.of rfl (hts _ h1)
    · exact va_Nw.of rfl (hts _ h1)
    · cases h2
  · have h3 : q = ("DocumentHouse", 181, "fault", 0) ∨ q = ("DocumentHouse", 186, "place", 2) ∨ q = ("DocumentHouseModel", 1025, "fault", 4) ∨ q = ("DocumentHouseModel", 1026, "place", 6) := by
      simpa [q_strs] using hq
    rcases h3 with rfl | rfl | rfl | rfl
    · exact vk_R.of (hts (.stringRef "DocumentHouse" 181 "fault") (q_lwt (i := 1672) (by decide +kernel))) e0
    · exact vk_R.of (hts (.stringRef "DocumentHouse" 186 "place") (q_lwt (i := 1673) (by decide +kernel))) e1
    · exact vk_R.of (hts (.stringRef "DocumentHouseModel" 1025 "fault") (q_lwt (i := 2838) (by decide +kernel))) e2
    · exact vk_R.of (hts (.stringRef "DocumentHouseModel" 1026 "place") (q_lwt (i := 2839) (by decide +kernel))) e3
  · exact va_Zof (hts (.laysStatic "java/lang/String" "COMPACT_STRINGS" "Z") (q_lwt (i := 676) (by decide +kernel))) (hts (.initialized "java/lang/String") (q_lwt (i := 16) (by decide +kernel))) (va_eqi (hs (.eq (.static "java/lang/String" "COMPACT_STRINGS" "Z") (.int 1)) (by decide +kernel))) hA
  · exact va_Zqof (hts (.laysStatic "jdk/internal/util/Preconditions" "SIOOBE_FORMATTER" "Ljava/util/function/BiFunction;") (q_lwt (i := 692) (by decide +kernel))) (hts (.initialized "jdk/internal/util/Preconditions") (q_lwt (i := 18) (by decide +kernel))) (hs (.isRef (.static "jdk/internal/util/Preconditions" "SIOOBE_FORMATTER" "Ljava/util/function/BiFunction;")) (by decide +kernel)) hA
  · intro j hj
    match j, hj with
    | 0, _ => exact ⟨a0, b0, c0, d0⟩
    | 1, _ => exact ⟨a1, b1, c1, d1⟩
    | 2, _ => exact ⟨a2, b2, c2, d2⟩
    | 3, _ => exact ⟨a3, b3, c3, d3⟩
    | j + 4, h => exact absurd h (by unfold q_nS; omega)
