/-! the law's entry: what the Statement gives of the start, in the pure machine's words -/
theorem l_known {s : State} {args : Array Value} (hts : ∀ w ∈ q_big, w.before args s = true) : ∃ (f : Nat → ClassId) (g : Nat → Nat → Nat), ∀ ci, ci < 13 → u_Kn s (q_R ci) (q_TX ci) (q_N ci) (f ci) (g ci) := by
  have h0 : ∀ ci, ci < 13 → ∃ (cC : ClassId) (iS : Nat → Nat), u_Kn s (q_R ci) (q_TX ci) (q_N ci) cC iS := fun ci h => u_known (ws := q_big) hts (q_lay_big h) (hts _ (q_mem (q_inst _ h) rfl))
  obtain ⟨c0, i0, -⟩ := h0 0 (by decide)
  have h1 : ∀ ci, ∃ q : ClassId × (Nat → Nat), ci < 13 → u_Kn s (q_R ci) (q_TX ci) (q_N ci) q.1 q.2 := by
    intro ci
    by_cases h : ci < 13
    · obtain ⟨a, b, hab⟩ := h0 ci h
      exact ⟨(a, b), fun _ => hab⟩
    · exact ⟨(c0, i0), fun h2 => absurd h2 h⟩
  obtain ⟨f, hf⟩ := Classical.skolem.mp h1
  exact ⟨fun ci => (f ci).1, fun ci => (f ci).2, hf⟩
theorem l_arr {s : State} {args : Array Value} {ty : FieldType} (h : (Cond.arrayClass ty).before args s = true) : ∃ c : ClassId, ArrOfT s c ty ∧ s.vm.findClass ("[" ++ ty.toString) = some c := by
  obtain ⟨c, k, comp, h1, h2, h3⟩ := Cond.arrayClass_spec h
  exact ⟨c, fun n z => ⟨(fun k h => by cases h), k, h2, comp, h3⟩, h1⟩
theorem l_arq {s : State} {args : Array Value} {C : String} (h : (Cond.arrayOver (.object C)).before args s = true) : ∃ c : ClassId, ArrOfT s c (.object C) ∧ va_RA s c (.object C) := by
  obtain ⟨comp, c, k, h1, -, h3, h4, h5⟩ := Cond.arrayOver_spec h
  exact ⟨c, fun n z => ⟨(fun k h => by cases h), k, h3, comp, h4⟩, k, comp, h3, h4, h1, h5⟩
theorem l_aoa {s : State} {args : Array Value} (h : (Cond.arrayOver (.array .int)).before args s = true) : ∃ c : ClassId, ArrOfT s c (.array .int) ∧ s.vm.findClass ("[" ++ (FieldType.array .int).toString) = some c := by
  simp only [Cond.before, Cond.holds, Cond.value, beq_iff_eq] at h
  cases hc : s.vm.findClass (FieldType.array .int).toString with
  | none => simp [hc] at h
  | some comp =>
    simp only [hc, Option.bind_some, Option.bind_eq_some_iff, Option.map_eq_some_iff] at h
    obtain ⟨c, hi, k, hk, hb⟩ := h
    obtain ⟨hlt, hp, -⟩ := Array.findIdx?_eq_some_iff_getElem.mp hi
    have hkk : s.vm.classes[c] = k := (Array.getElem?_eq_some_iff.mp hk).2
    rw [hkk] at hp
    cases hkind : k.kind with
    | array component ty =>
      rw [hkind] at hb hp
      simp at hb hp
      exact ⟨c, fun n z => ⟨(fun k h => by cases h), k, hk, comp, by rw [hkind, hp, hb.1]⟩, hb.2⟩
    | _ => rw [hkind] at hb; simp at hb
theorem l_K {s : State} {args : Array Value} (hts : ∀ w ∈ lw_tbl, w.before args s = true) : ∃ (D : va_G) (cy : Nat → ClassId), va_K D vwCl (q_tys cy) s := by
  have htb : ∀ w ∈ q_big, w.before args s = true := fun w h => hts w (List.mem_filter.mp h).1
  obtain ⟨f, g, h1⟩ := l_known htb
  obtain ⟨c0, a0, b0⟩ := l_arr (hts _ q_acB)
  obtain ⟨c1, a1, b1⟩ := l_arr (hts _ q_acI)
  obtain ⟨c2, a2, b2⟩ := l_arr (hts _ q_acZ)
  obtain ⟨c3, a3, b3⟩ := l_arq (hts (.arrayOver (.object "DocumentHouse$Index")) (q_lw2 (i := 82) rfl))
  obtain ⟨c4, a4, b4⟩ := l_arq (hts (.arrayOver (.object "DocumentHouse$Shelf")) (q_lw2 (i := 72) rfl))
  obtain ⟨c5, a5, b5⟩ := l_aoa (hts (.arrayOver (.array .int)) (q_lw1 (i := 217) rfl))
  refine ⟨(f, g), fun k => match k with
    | 0 => c0
    | 1 => c1
    | 2 => c2
    | 3 => c3
    | 4 => c4
    | _ => c5, ?_, ?_⟩
  · intro c q hq
    have hc : c < 13 := (List.getElem?_eq_some_iff.mp hq).1
    rw [q_vw c hc] at hq
    cases hq
    exact h1 c hc
  · intro k q hk
    match k, hk with
    | 0, hk => cases hk; exact ⟨a0, b0⟩
    | 1, hk => cases hk; exact ⟨a1, b1⟩
    | 2, hk => cases hk; exact ⟨a2, b2⟩
    | 3, hk => cases hk; exact ⟨a3, b3⟩
    | 4, hk => cases hk; exact ⟨a4, b4⟩
    | 5, hk => cases hk; exact ⟨a5, b5⟩
    | k + 6, hk => simp [q_tys] at hk
/-- which texts -/
def zq_o (j : Nat) : String × Nat := match q_strs[j]? with
  | some q => (q.1, q.2.1)
  | none => ("", 0)
theorem zq_all {s : State} {args : Array Value} {A : Nat → Prop} (hT : zq_G.before args s = true) (hA : ∀ a : Nat, a < s.heap.size → ¬ A a) : ∀ j, j < 142 → ∃ q, zq_P s args A (zq_o j).1 (zq_o j).2 j q
  | 0, _ => zq_t0 hT hA
  | 1, _ => zq_t1 hT hA
  | 2, _ => zq_t2 hT hA
  | 3, _ => zq_t3 hT hA
  | 4, _ => zq_t4 hT hA
  | 5, _ => zq_t5 hT hA
  | 6, _ => zq_t6 hT hA
  | 7, _ => zq_t7 hT hA
  | 8, _ => zq_t8 hT hA
  | 9, _ => zq_t9 hT hA
  | 10, _ => zq_t10 hT hA
  | 11, _ => zq_t11 hT hA
  | 12, _ => zq_t12 hT hA
  | 13, _ => zq_t13 hT hA
  | 14, _ => zq_t14 hT hA
  | 15, _ => zq_t15 hT hA
  | 16, _ => zq_t16 hT hA
  | 17, _ => zq_t17 hT hA
  | 18, _ => zq_t18 hT hA
  | 19, _ => zq_t19 hT hA
  | 20, _ => zq_t20 hT hA
  | 21, _ => zq_t21 hT hA
  | 22, _ => zq_t22 hT hA
  | 23, _ => zq_t23 hT hA
  | 24, _ => zq_t24 hT hA
  | 25, _ => zq_t25 hT hA
  | 26, _ => zq_t26 hT hA
  | 27, _ => zq_t27 hT hA
  | 28, _ => zq_t28 hT hA
  | 29, _ => zq_t29 hT hA
  | 30, _ => zq_t30 hT hA
  | 31, _ => zq_t31 hT hA
  | 32, _ => zq_t32 hT hA
  | 33, _ => zq_t33 hT hA
  | 34, _ => zq_t34 hT hA
  | 35, _ => zq_t35 hT hA
  | 36, _ => zq_t36 hT hA
  | 37, _ => zq_t37 hT hA
  | 38, _ => zq_t38 hT hA
  | 39, _ => zq_t39 hT hA
  | 40, _ => zq_t40 hT hA
  | 41, _ => zq_t41 hT hA
  | 42, _ => zq_t42 hT hA
  | 43, _ => zq_t43 hT hA
  | 44, _ => zq_t44 hT hA
  | 45, _ => zq_t45 hT hA
  | 46, _ => zq_t46 hT hA
  | 47, _ => zq_t47 hT hA
  | 48, _ => zq_t48 hT hA
  | 49, _ => zq_t49 hT hA
  | 50, _ => zq_t50 hT hA
  | 51, _ => zq_t51 hT hA
  | 52, _ => zq_t52 hT hA
  | 53, _ => zq_t53 hT hA
  | 54, _ => zq_t54 hT hA
  | 55, _ => zq_t55 hT hA
  | 56, _ => zq_t56 hT hA
  | 57, _ => zq_t57 hT hA
  | 58, _ => zq_t58 hT hA
  | 59, _ => zq_t59 hT hA
  | 60, _ => zq_t60 hT hA
  | 61, _ => zq_t61 hT hA
  | 62, _ => zq_t62 hT hA
  | 63, _ => zq_t63 hT hA
  | 64, _ => zq_t64 hT hA
  | 65, _ => zq_t65 hT hA
  | 66, _ => zq_t66 hT hA
  | 67, _ => zq_t67 hT hA
  | 68, _ => zq_t68 hT hA
  | 69, _ => zq_t69 hT hA
  | 70, _ => zq_t70 hT hA
  | 71, _ => zq_t71 hT hA
  | 72, _ => zq_t72 hT hA
  | 73, _ => zq_t73 hT hA
  | 74, _ => zq_t74 hT hA
  | 75, _ => zq_t75 hT hA
  | 76, _ => zq_t76 hT hA
  | 77, _ => zq_t77 hT hA
  | 78, _ => zq_t78 hT hA
  | 79, _ => zq_t79 hT hA
  | 80, _ => zq_t80 hT hA
  | 81, _ => zq_t81 hT hA
  | 82, _ => zq_t82 hT hA
  | 83, _ => zq_t83 hT hA
  | 84, _ => zq_t84 hT hA
  | 85, _ => zq_t85 hT hA
  | 86, _ => zq_t86 hT hA
  | 87, _ => zq_t87 hT hA
  | 88, _ => zq_t88 hT hA
  | 89, _ => zq_t89 hT hA
  | 90, _ => zq_t90 hT hA
  | 91, _ => zq_t91 hT hA
  | 92, _ => zq_t92 hT hA
  | 93, _ => zq_t93 hT hA
  | 94, _ => zq_t94 hT hA
  | 95, _ => zq_t95 hT hA
  | 96, _ => zq_t96 hT hA
  | 97, _ => zq_t97 hT hA
  | 98, _ => zq_t98 hT hA
  | 99, _ => zq_t99 hT hA
  | 100, _ => zq_t100 hT hA
  | 101, _ => zq_t101 hT hA
  | 102, _ => zq_t102 hT hA
  | 103, _ => zq_t103 hT hA
  | 104, _ => zq_t104 hT hA
  | 105, _ => zq_t105 hT hA
  | 106, _ => zq_t106 hT hA
  | 107, _ => zq_t107 hT hA
  | 108, _ => zq_t108 hT hA
  | 109, _ => zq_t109 hT hA
  | 110, _ => zq_t110 hT hA
  | 111, _ => zq_t111 hT hA
  | 112, _ => zq_t112 hT hA
  | 113, _ => zq_t113 hT hA
  | 114, _ => zq_t114 hT hA
  | 115, _ => zq_t115 hT hA
  | 116, _ => zq_t116 hT hA
  | 117, _ => zq_t117 hT hA
  | 118, _ => zq_t118 hT hA
  | 119, _ => zq_t119 hT hA
  | 120, _ => zq_t120 hT hA
  | 121, _ => zq_t121 hT hA
  | 122, _ => zq_t122 hT hA
  | 123, _ => zq_t123 hT hA
  | 124, _ => zq_t124 hT hA
  | 125, _ => zq_t125 hT hA
  | 126, _ => zq_t126 hT hA
  | 127, _ => zq_t127 hT hA
  | 128, _ => zq_t128 hT hA
  | 129, _ => zq_t129 hT hA
  | 130, _ => zq_t130 hT hA
  | 131, _ => zq_t131 hT hA
  | 132, _ => zq_t132 hT hA
  | 133, _ => zq_t133 hT hA
  | 134, _ => zq_t134 hT hA
  | 135, _ => zq_t135 hT hA
  | 136, _ => zq_t136 hT hA
  | 137, _ => zq_t137 hT hA
  | 138, _ => zq_t138 hT hA
  | 139, _ => zq_t139 hT hA
  | 140, _ => zq_t140 hT hA
  | 141, _ => zq_t141 hT hA
  | j + 142, h => absurd h (by omega)
def zq_L {α : Type} (P : α → Prop) : List α → Prop
  | [] => True
  | a :: l => P a ∧ zq_L P l
theorem zq_Ls {α : Type} {P : α → Prop} : ∀ l : List α, zq_L P l → ∀ a ∈ l, P a
  | [], _, a, h => absurd h (by simp)
  | b :: l, h, a, ha => by
    rcases List.mem_cons.mp ha with e | e
    · rw [e]
      exact h.1
    · exact zq_Ls l h.2 a e
def zq_ad (f : Nat → Nat × Nat) (i : Nat) : Nat := if i % 2 = 0 then (f (i / 2)).1 else (f (i / 2)).2
theorem zq_ad0 (f : Nat → Nat × Nat) (j : Nat) : zq_ad f (2 * j) = (f j).1 := by
  unfold zq_ad
  rw [if_pos (Nat.mul_mod_right 2 j), Nat.mul_div_cancel_left _ (by decide)]
theorem zq_ad1 (f : Nat → Nat × Nat) (j : Nat) : zq_ad f (2 * j + 1) = (f j).2 := by
  unfold zq_ad
  rw [if_neg (by omega), show (2 * j + 1) / 2 = j by omega]
theorem zq_r0 {s : State} {args : Array Value} {f : Nat → Nat × Nat} (hts : ∀ w ∈ lw_tbl, w.before args s = true) (he : ∀ j, j < 142 → (Term.string (zq_o j).1 (zq_o j).2).eval args s none [] s = some (.ref (f j).1)) : ∀ q, q_strs[0]? = some q → vk_R q.1 q.2.1 q.2.2.1 (zq_ad f q.2.2.2) s := fun q hq => by
  have e : ("DocumentHouse", 245, "insert", 0) = q := Option.some.inj hq
  have h : (Term.string "DocumentHouse" 245).eval args s none [] s = some (.ref (f 0).1) := he 0 (by decide)
  rw [← e]
  show vk_R "DocumentHouse" 245 "insert" (zq_ad f 0) s
  rw [show zq_ad f 0 = (f 0).1 from zq_ad0 f 0]
  exact vk_R.of (hts (.stringRef "DocumentHouse" 245 "insert") (q_lw3 (i := 183) rfl)) h
theorem zq_r1 {s : State} {args : Array Value} {f : Nat → Nat × Nat} (hts : ∀ w ∈ lw_tbl, w.before args s = true) (he : ∀ j, j < 142 → (Term.string (zq_o j).1 (zq_o j).2).eval args s none [] s = some (.ref (f j).1)) : ∀ q, q_strs[1]? = some q → vk_R q.1 q.2.1 q.2.2.1 (zq_ad f q.2.2.2) s := fun q hq => by
  have e : ("DocumentHouse", 249, "find", 2) = q := Option.some.inj hq
  have h : (Term.string "DocumentHouse" 249).eval args s none [] s = some (.ref (f 1).1) := he 1 (by decide)
  rw [← e]
  show vk_R "DocumentHouse" 249 "find" (zq_ad f 2) s
  rw [show zq_ad f 2 = (f 1).1 from zq_ad0 f 1]
  exact vk_R.of (hts (.stringRef "DocumentHouse" 249 "find") (q_lw3 (i := 235) rfl)) h
theorem zq_r2 {s : State} {args : Array Value} {f : Nat → Nat × Nat} (hts : ∀ w ∈ lw_tbl, w.before args s = true) (he : ∀ j, j < 142 → (Term.string (zq_o j).1 (zq_o j).2).eval args s none [] s = some (.ref (f j).1)) : ∀ q, q_strs[2]? = some q → vk_R q.1 q.2.1 q.2.2.1 (zq_ad f q.2.2.2) s := fun q hq => by
  have e : ("DocumentHouse", 250, "count", 4) = q := Option.some.inj hq
  have h : (Term.string "DocumentHouse" 250).eval args s none [] s = some (.ref (f 2).1) := he 2 (by decide)
  rw [← e]
  show vk_R "DocumentHouse" 250 "count" (zq_ad f 4) s
  rw [show zq_ad f 4 = (f 2).1 from zq_ad0 f 2]
  exact vk_R.of (hts (.stringRef "DocumentHouse" 250 "count") (q_lw3 (i := 236) rfl)) h
theorem zq_r3 {s : State} {args : Array Value} {f : Nat → Nat × Nat} (hts : ∀ w ∈ lw_tbl, w.before args s = true) (he : ∀ j, j < 142 → (Term.string (zq_o j).1 (zq_o j).2).eval args s none [] s = some (.ref (f j).1)) : ∀ q, q_strs[3]? = some q → vk_R q.1 q.2.1 q.2.2.1 (zq_ad f q.2.2.2) s := fun q hq => by
  have e : ("DocumentHouse", 251, "update", 6) = q := Option.some.inj hq
  have h : (Term.string "DocumentHouse" 251).eval args s none [] s = some (.ref (f 3).1) := he 3 (by decide)
  rw [← e]
  show vk_R "DocumentHouse" 251 "update" (zq_ad f 6) s
  rw [show zq_ad f 6 = (f 3).1 from zq_ad0 f 3]
  exact vk_R.of (hts (.stringRef "DocumentHouse" 251 "update") (q_lw3 (i := 237) rfl)) h
theorem zq_r4 {s : State} {args : Array Value} {f : Nat → Nat × Nat} (hts : ∀ w ∈ lw_tbl, w.before args s = true) (he : ∀ j, j < 142 → (Term.string (zq_o j).1 (zq_o j).2).eval args s none [] s = some (.ref (f j).1)) : ∀ q, q_strs[4]? = some q → vk_R q.1 q.2.1 q.2.2.1 (zq_ad f q.2.2.2) s := fun q hq => by
  have e : ("DocumentHouse", 252, "delete", 8) = q := Option.some.inj hq
  have h : (Term.string "DocumentHouse" 252).eval args s none [] s = some (.ref (f 4).1) := he 4 (by decide)
  rw [← e]
  show vk_R "DocumentHouse" 252 "delete" (zq_ad f 8) s
  rw [show zq_ad f 8 = (f 4).1 from zq_ad0 f 4]
  exact vk_R.of (hts (.stringRef "DocumentHouse" 252 "delete") (q_lw3 (i := 238) rfl)) h
theorem zq_r5 {s : State} {args : Array Value} {f : Nat → Nat × Nat} (hts : ∀ w ∈ lw_tbl, w.before args s = true) (he : ∀ j, j < 142 → (Term.string (zq_o j).1 (zq_o j).2).eval args s none [] s = some (.ref (f j).1)) : ∀ q, q_strs[5]? = some q → vk_R q.1 q.2.1 q.2.2.1 (zq_ad f q.2.2.2) s := fun q hq => by
  have e : ("DocumentHouse", 253, "index", 10) = q := Option.some.inj hq
  have h : (Term.string "DocumentHouse" 253).eval args s none [] s = some (.ref (f 5).1) := he 5 (by decide)
  rw [← e]
  show vk_R "DocumentHouse" 253 "index" (zq_ad f 10) s
  rw [show zq_ad f 10 = (f 5).1 from zq_ad0 f 5]
  exact vk_R.of (hts (.stringRef "DocumentHouse" 253 "index") (q_lw3 (i := 239) rfl)) h
theorem zq_r6 {s : State} {args : Array Value} {f : Nat → Nat × Nat} (hts : ∀ w ∈ lw_tbl, w.before args s = true) (he : ∀ j, j < 142 → (Term.string (zq_o j).1 (zq_o j).2).eval args s none [] s = some (.ref (f j).1)) : ∀ q, q_strs[6]? = some q → vk_R q.1 q.2.1 q.2.2.1 (zq_ad f q.2.2.2) s := fun q hq => by
  have e : ("DocumentHouse", 255, "drop", 12) = q := Option.some.inj hq
  have h : (Term.string "DocumentHouse" 255).eval args s none [] s = some (.ref (f 6).1) := he 6 (by decide)
  rw [← e]
  show vk_R "DocumentHouse" 255 "drop" (zq_ad f 12) s
  rw [show zq_ad f 12 = (f 6).1 from zq_ad0 f 6]
  exact vk_R.of (hts (.stringRef "DocumentHouse" 255 "drop") (q_lw4 (i := 0) rfl)) h
theorem zq_r7 {s : State} {args : Array Value} {f : Nat → Nat × Nat} (hts : ∀ w ∈ lw_tbl, w.before args s = true) (he : ∀ j, j < 142 → (Term.string (zq_o j).1 (zq_o j).2).eval args s none [] s = some (.ref (f j).1)) : ∀ q, q_strs[7]? = some q → vk_R q.1 q.2.1 q.2.2.1 (zq_ad f q.2.2.2) s := fun q hq => by
  have e : ("DocumentHouse", 256, "pipeline", 14) = q := Option.some.inj hq
  have h : (Term.string "DocumentHouse" 256).eval args s none [] s = some (.ref (f 7).1) := he 7 (by decide)
  rw [← e]
  show vk_R "DocumentHouse" 256 "pipeline" (zq_ad f 14) s
  rw [show zq_ad f 14 = (f 7).1 from zq_ad0 f 7]
  exact vk_R.of (hts (.stringRef "DocumentHouse" 256 "pipeline") (q_lw4 (i := 1) rfl)) h
theorem zq_r8 {s : State} {args : Array Value} {f : Nat → Nat × Nat} (hts : ∀ w ∈ lw_tbl, w.before args s = true) (he : ∀ j, j < 142 → (Term.string (zq_o j).1 (zq_o j).2).eval args s none [] s = some (.ref (f j).1)) : ∀ q, q_strs[8]? = some q → vk_R q.1 q.2.1 q.2.2.1 (zq_ad f q.2.2.2) s := fun q hq => by
  have e : ("DocumentHouse", 257, "explain", 16) = q := Option.some.inj hq
  have h : (Term.string "DocumentHouse" 257).eval args s none [] s = some (.ref (f 8).1) := he 8 (by decide)
  rw [← e]
  show vk_R "DocumentHouse" 257 "explain" (zq_ad f 16) s
  rw [show zq_ad f 16 = (f 8).1 from zq_ad0 f 8]
  exact vk_R.of (hts (.stringRef "DocumentHouse" 257 "explain") (q_lw4 (i := 2) rfl)) h
theorem zq_r9 {s : State} {args : Array Value} {f : Nat → Nat × Nat} (hts : ∀ w ∈ lw_tbl, w.before args s = true) (he : ∀ j, j < 142 → (Term.string (zq_o j).1 (zq_o j).2).eval args s none [] s = some (.ref (f j).1)) : ∀ q, q_strs[9]? = some q → vk_R q.1 q.2.1 q.2.2.1 (zq_ad f q.2.2.2) s := fun q hq => by
  have e : ("DocumentHouse", 258, "shape", 18) = q := Option.some.inj hq
  have h : (Term.string "DocumentHouse" 258).eval args s none [] s = some (.ref (f 9).1) := he 9 (by decide)
  rw [← e]
  show vk_R "DocumentHouse" 258 "shape" (zq_ad f 18) s
  rw [show zq_ad f 18 = (f 9).1 from zq_ad0 f 9]
  exact vk_R.of (hts (.stringRef "DocumentHouse" 258 "shape") (q_lw4 (i := 3) rfl)) h
theorem zq_r10 {s : State} {args : Array Value} {f : Nat → Nat × Nat} (hts : ∀ w ∈ lw_tbl, w.before args s = true) (he : ∀ j, j < 142 → (Term.string (zq_o j).1 (zq_o j).2).eval args s none [] s = some (.ref (f j).1)) : ∀ q, q_strs[10]? = some q → vk_R q.1 q.2.1 q.2.2.1 (zq_ad f q.2.2.2) s := fun q hq => by
  have e : ("DocumentHouse", 263, "shelf", 20) = q := Option.some.inj hq
  have h : (Term.string "DocumentHouse" 263).eval args s none [] s = some (.ref (f 10).1) := he 10 (by decide)
  rw [← e]
  show vk_R "DocumentHouse" 263 "shelf" (zq_ad f 20) s
  rw [show zq_ad f 20 = (f 10).1 from zq_ad0 f 10]
  exact vk_R.of (hts (.stringRef "DocumentHouse" 263 "shelf") (q_lw4 (i := 54) rfl)) h
theorem zq_r11 {s : State} {args : Array Value} {f : Nat → Nat × Nat} (hts : ∀ w ∈ lw_tbl, w.before args s = true) (he : ∀ j, j < 142 → (Term.string (zq_o j).1 (zq_o j).2).eval args s none [] s = some (.ref (f j).1)) : ∀ q, q_strs[11]? = some q → vk_R q.1 q.2.1 q.2.2.1 (zq_ad f q.2.2.2) s := fun q hq => by
  have e : ("DocumentHouse", 279, "change", 22) = q := Option.some.inj hq
  have h : (Term.string "DocumentHouse" 279).eval args s none [] s = some (.ref (f 11).1) := he 11 (by decide)
  rw [← e]
  show vk_R "DocumentHouse" 279 "change" (zq_ad f 22) s
  rw [show zq_ad f 22 = (f 11).1 from zq_ad0 f 11]
  exact vk_R.of (hts (.stringRef "DocumentHouse" 279 "change") (q_lw4 (i := 62) rfl)) h
theorem zq_r12 {s : State} {args : Array Value} {f : Nat → Nat × Nat} (hts : ∀ w ∈ lw_tbl, w.before args s = true) (he : ∀ j, j < 142 → (Term.string (zq_o j).1 (zq_o j).2).eval args s none [] s = some (.ref (f j).1)) : ∀ q, q_strs[12]? = some q → vk_R q.1 q.2.1 q.2.2.1 (zq_ad f q.2.2.2) s := fun q hq => by
  have e : ("DocumentHouse", 280, "down", 24) = q := Option.some.inj hq
  have h : (Term.string "DocumentHouse" 280).eval args s none [] s = some (.ref (f 12).1) := he 12 (by decide)
  rw [← e]
  show vk_R "DocumentHouse" 280 "down" (zq_ad f 24) s
  rw [show zq_ad f 24 = (f 12).1 from zq_ad0 f 12]
  exact vk_R.of (hts (.stringRef "DocumentHouse" 280 "down") (q_lw4 (i := 67) rfl)) h
theorem zq_r13 {s : State} {args : Array Value} {f : Nat → Nat × Nat} (hts : ∀ w ∈ lw_tbl, w.before args s = true) (he : ∀ j, j < 142 → (Term.string (zq_o j).1 (zq_o j).2).eval args s none [] s = some (.ref (f j).1)) : ∀ q, q_strs[13]? = some q → vk_R q.1 q.2.1 q.2.2.1 (zq_ad f q.2.2.2) s := fun q hq => by
  have e : ("DocumentHouse", 305, "number", 26) = q := Option.some.inj hq
  have h : (Term.string "DocumentHouse" 305).eval args s none [] s = some (.ref (f 13).1) := he 13 (by decide)
  rw [← e]
  show vk_R "DocumentHouse" 305 "number" (zq_ad f 26) s
  rw [show zq_ad f 26 = (f 13).1 from zq_ad0 f 13]
  exact vk_R.of (hts (.stringRef "DocumentHouse" 305 "number") (q_lw4 (i := 204) rfl)) h
theorem zq_r14 {s : State} {args : Array Value} {f : Nat → Nat × Nat} (hts : ∀ w ∈ lw_tbl, w.before args s = true) (he : ∀ j, j < 142 → (Term.string (zq_o j).1 (zq_o j).2).eval args s none [] s = some (.ref (f j).1)) : ∀ q, q_strs[14]? = some q → vk_R q.1 q.2.1 q.2.2.1 (zq_ad f q.2.2.2) s := fun q hq => by
  have e : ("DocumentHouse$Filter", 63, "$and", 28) = q := Option.some.inj hq
  have h : (Term.string "DocumentHouse$Filter" 63).eval args s none [] s = some (.ref (f 14).1) := he 14 (by decide)
  rw [← e]
  show vk_R "DocumentHouse$Filter" 63 "$and" (zq_ad f 28) s
  rw [show zq_ad f 28 = (f 14).1 from zq_ad0 f 14]
  exact vk_R.of (hts (.stringRef "DocumentHouse$Filter" 63 "$and") (q_lw5 (i := 11) rfl)) h
theorem zq_r15 {s : State} {args : Array Value} {f : Nat → Nat × Nat} (hts : ∀ w ∈ lw_tbl, w.before args s = true) (he : ∀ j, j < 142 → (Term.string (zq_o j).1 (zq_o j).2).eval args s none [] s = some (.ref (f j).1)) : ∀ q, q_strs[15]? = some q → vk_R q.1 q.2.1 q.2.2.1 (zq_ad f q.2.2.2) s := fun q hq => by
  have e : ("DocumentHouse$Filter", 65, "$or", 30) = q := Option.some.inj hq
  have h : (Term.string "DocumentHouse$Filter" 65).eval args s none [] s = some (.ref (f 15).1) := he 15 (by decide)
  rw [← e]
  show vk_R "DocumentHouse$Filter" 65 "$or" (zq_ad f 30) s
  rw [show zq_ad f 30 = (f 15).1 from zq_ad0 f 15]
  exact vk_R.of (hts (.stringRef "DocumentHouse$Filter" 65 "$or") (q_lw5 (i := 13) rfl)) h
theorem zq_r16 {s : State} {args : Array Value} {f : Nat → Nat × Nat} (hts : ∀ w ∈ lw_tbl, w.before args s = true) (he : ∀ j, j < 142 → (Term.string (zq_o j).1 (zq_o j).2).eval args s none [] s = some (.ref (f j).1)) : ∀ q, q_strs[16]? = some q → vk_R q.1 q.2.1 q.2.2.1 (zq_ad f q.2.2.2) s := fun q hq => by
  have e : ("DocumentHouse$Filter", 67, "$nor", 32) = q := Option.some.inj hq
  have h : (Term.string "DocumentHouse$Filter" 67).eval args s none [] s = some (.ref (f 16).1) := he 16 (by decide)
  rw [← e]
  show vk_R "DocumentHouse$Filter" 67 "$nor" (zq_ad f 32) s
  rw [show zq_ad f 32 = (f 16).1 from zq_ad0 f 16]
  exact vk_R.of (hts (.stringRef "DocumentHouse$Filter" 67 "$nor") (q_lw5 (i := 14) rfl)) h
theorem zq_r17 {s : State} {args : Array Value} {f : Nat → Nat × Nat} (hts : ∀ w ∈ lw_tbl, w.before args s = true) (he : ∀ j, j < 142 → (Term.string (zq_o j).1 (zq_o j).2).eval args s none [] s = some (.ref (f j).1)) : ∀ q, q_strs[17]? = some q → vk_R q.1 q.2.1 q.2.2.1 (zq_ad f q.2.2.2) s := fun q hq => by
  have e : ("DocumentHouse$Filter", 35, "$eq", 34) = q := Option.some.inj hq
  have h : (Term.string "DocumentHouse$Filter" 35).eval args s none [] s = some (.ref (f 17).1) := he 17 (by decide)
  rw [← e]
  show vk_R "DocumentHouse$Filter" 35 "$eq" (zq_ad f 34) s
  rw [show zq_ad f 34 = (f 17).1 from zq_ad0 f 17]
  exact vk_R.of (hts (.stringRef "DocumentHouse$Filter" 35 "$eq") (q_lw5 (i := 42) rfl)) h
theorem zq_r18 {s : State} {args : Array Value} {f : Nat → Nat × Nat} (hts : ∀ w ∈ lw_tbl, w.before args s = true) (he : ∀ j, j < 142 → (Term.string (zq_o j).1 (zq_o j).2).eval args s none [] s = some (.ref (f j).1)) : ∀ q, q_strs[18]? = some q → vk_R q.1 q.2.1 q.2.2.1 (zq_ad f q.2.2.2) s := fun q hq => by
  have e : ("DocumentHouse$Filter", 41, "$ne", 36) = q := Option.some.inj hq
  have h : (Term.string "DocumentHouse$Filter" 41).eval args s none [] s = some (.ref (f 18).1) := he 18 (by decide)
  rw [← e]
  show vk_R "DocumentHouse$Filter" 41 "$ne" (zq_ad f 36) s
  rw [show zq_ad f 36 = (f 18).1 from zq_ad0 f 18]
  exact vk_R.of (hts (.stringRef "DocumentHouse$Filter" 41 "$ne") (q_lw5 (i := 43) rfl)) h
theorem zq_r19 {s : State} {args : Array Value} {f : Nat → Nat × Nat} (hts : ∀ w ∈ lw_tbl, w.before args s = true) (he : ∀ j, j < 142 → (Term.string (zq_o j).1 (zq_o j).2).eval args s none [] s = some (.ref (f j).1)) : ∀ q, q_strs[19]? = some q → vk_R q.1 q.2.1 q.2.2.1 (zq_ad f q.2.2.2) s := fun q hq => by
  have e : ("DocumentHouse$Filter", 43, "$in", 38) = q := Option.some.inj hq
  have h : (Term.string "DocumentHouse$Filter" 43).eval args s none [] s = some (.ref (f 19).1) := he 19 (by decide)
  rw [← e]
  show vk_R "DocumentHouse$Filter" 43 "$in" (zq_ad f 38) s
  rw [show zq_ad f 38 = (f 19).1 from zq_ad0 f 19]
  exact vk_R.of (hts (.stringRef "DocumentHouse$Filter" 43 "$in") (q_lw5 (i := 44) rfl)) h
theorem zq_r20 {s : State} {args : Array Value} {f : Nat → Nat × Nat} (hts : ∀ w ∈ lw_tbl, w.before args s = true) (he : ∀ j, j < 142 → (Term.string (zq_o j).1 (zq_o j).2).eval args s none [] s = some (.ref (f j).1)) : ∀ q, q_strs[20]? = some q → vk_R q.1 q.2.1 q.2.2.1 (zq_ad f q.2.2.2) s := fun q hq => by
  have e : ("DocumentHouse$Filter", 45, "$nin", 40) = q := Option.some.inj hq
  have h : (Term.string "DocumentHouse$Filter" 45).eval args s none [] s = some (.ref (f 20).1) := he 20 (by decide)
  rw [← e]
  show vk_R "DocumentHouse$Filter" 45 "$nin" (zq_ad f 40) s
  rw [show zq_ad f 40 = (f 20).1 from zq_ad0 f 20]
  exact vk_R.of (hts (.stringRef "DocumentHouse$Filter" 45 "$nin") (q_lw5 (i := 45) rfl)) h
theorem zq_r21 {s : State} {args : Array Value} {f : Nat → Nat × Nat} (hts : ∀ w ∈ lw_tbl, w.before args s = true) (he : ∀ j, j < 142 → (Term.string (zq_o j).1 (zq_o j).2).eval args s none [] s = some (.ref (f j).1)) : ∀ q, q_strs[21]? = some q → vk_R q.1 q.2.1 q.2.2.1 (zq_ad f q.2.2.2) s := fun q hq => by
  have e : ("DocumentHouse$Filter", 47, "$lt", 42) = q := Option.some.inj hq
  have h : (Term.string "DocumentHouse$Filter" 47).eval args s none [] s = some (.ref (f 21).1) := he 21 (by decide)
  rw [← e]
  show vk_R "DocumentHouse$Filter" 47 "$lt" (zq_ad f 42) s
  rw [show zq_ad f 42 = (f 21).1 from zq_ad0 f 21]
  exact vk_R.of (hts (.stringRef "DocumentHouse$Filter" 47 "$lt") (q_lw5 (i := 46) rfl)) h
theorem zq_r22 {s : State} {args : Array Value} {f : Nat → Nat × Nat} (hts : ∀ w ∈ lw_tbl, w.before args s = true) (he : ∀ j, j < 142 → (Term.string (zq_o j).1 (zq_o j).2).eval args s none [] s = some (.ref (f j).1)) : ∀ q, q_strs[22]? = some q → vk_R q.1 q.2.1 q.2.2.1 (zq_ad f q.2.2.2) s := fun q hq => by
  have e : ("DocumentHouse$Filter", 49, "$lte", 44) = q := Option.some.inj hq
  have h : (Term.string "DocumentHouse$Filter" 49).eval args s none [] s = some (.ref (f 22).1) := he 22 (by decide)
  rw [← e]
  show vk_R "DocumentHouse$Filter" 49 "$lte" (zq_ad f 44) s
  rw [show zq_ad f 44 = (f 22).1 from zq_ad0 f 22]
  exact vk_R.of (hts (.stringRef "DocumentHouse$Filter" 49 "$lte") (q_lw5 (i := 47) rfl)) h
theorem zq_r23 {s : State} {args : Array Value} {f : Nat → Nat × Nat} (hts : ∀ w ∈ lw_tbl, w.before args s = true) (he : ∀ j, j < 142 → (Term.string (zq_o j).1 (zq_o j).2).eval args s none [] s = some (.ref (f j).1)) : ∀ q, q_strs[23]? = some q → vk_R q.1 q.2.1 q.2.2.1 (zq_ad f q.2.2.2) s := fun q hq => by
  have e : ("DocumentHouse$Filter", 51, "$gt", 46) = q := Option.some.inj hq
  have h : (Term.string "DocumentHouse$Filter" 51).eval args s none [] s = some (.ref (f 23).1) := he 23 (by decide)
  rw [← e]
  show vk_R "DocumentHouse$Filter" 51 "$gt" (zq_ad f 46) s
  rw [show zq_ad f 46 = (f 23).1 from zq_ad0 f 23]
  exact vk_R.of (hts (.stringRef "DocumentHouse$Filter" 51 "$gt") (q_lw5 (i := 48) rfl)) h
theorem zq_r24 {s : State} {args : Array Value} {f : Nat → Nat × Nat} (hts : ∀ w ∈ lw_tbl, w.before args s = true) (he : ∀ j, j < 142 → (Term.string (zq_o j).1 (zq_o j).2).eval args s none [] s = some (.ref (f j).1)) : ∀ q, q_strs[24]? = some q → vk_R q.1 q.2.1 q.2.2.1 (zq_ad f q.2.2.2) s := fun q hq => by
  have e : ("DocumentHouse$Filter", 53, "$gte", 48) = q := Option.some.inj hq
  have h : (Term.string "DocumentHouse$Filter" 53).eval args s none [] s = some (.ref (f 24).1) := he 24 (by decide)
  rw [← e]
  show vk_R "DocumentHouse$Filter" 53 "$gte" (zq_ad f 48) s
  rw [show zq_ad f 48 = (f 24).1 from zq_ad0 f 24]
  exact vk_R.of (hts (.stringRef "DocumentHouse$Filter" 53 "$gte") (q_lw5 (i := 49) rfl)) h
theorem zq_r25 {s : State} {args : Array Value} {f : Nat → Nat × Nat} (hts : ∀ w ∈ lw_tbl, w.before args s = true) (he : ∀ j, j < 142 → (Term.string (zq_o j).1 (zq_o j).2).eval args s none [] s = some (.ref (f j).1)) : ∀ q, q_strs[25]? = some q → vk_R q.1 q.2.1 q.2.2.1 (zq_ad f q.2.2.2) s := fun q hq => by
  have e : ("DocumentHouse$Filter", 55, "$exists", 50) = q := Option.some.inj hq
  have h : (Term.string "DocumentHouse$Filter" 55).eval args s none [] s = some (.ref (f 25).1) := he 25 (by decide)
  rw [← e]
  show vk_R "DocumentHouse$Filter" 55 "$exists" (zq_ad f 50) s
  rw [show zq_ad f 50 = (f 25).1 from zq_ad0 f 25]
  exact vk_R.of (hts (.stringRef "DocumentHouse$Filter" 55 "$exists") (q_lw5 (i := 50) rfl)) h
theorem zq_r26 {s : State} {args : Array Value} {f : Nat → Nat × Nat} (hts : ∀ w ∈ lw_tbl, w.before args s = true) (he : ∀ j, j < 142 → (Term.string (zq_o j).1 (zq_o j).2).eval args s none [] s = some (.ref (f j).1)) : ∀ q, q_strs[26]? = some q → vk_R q.1 q.2.1 q.2.2.1 (zq_ad f q.2.2.2) s := fun q hq => by
  have e : ("DocumentHouse$Filter", 57, "$size", 52) = q := Option.some.inj hq
  have h : (Term.string "DocumentHouse$Filter" 57).eval args s none [] s = some (.ref (f 26).1) := he 26 (by decide)
  rw [← e]
  show vk_R "DocumentHouse$Filter" 57 "$size" (zq_ad f 52) s
  rw [show zq_ad f 52 = (f 26).1 from zq_ad0 f 26]
  exact vk_R.of (hts (.stringRef "DocumentHouse$Filter" 57 "$size") (q_lw5 (i := 51) rfl)) h
theorem zq_r27 {s : State} {args : Array Value} {f : Nat → Nat × Nat} (hts : ∀ w ∈ lw_tbl, w.before args s = true) (he : ∀ j, j < 142 → (Term.string (zq_o j).1 (zq_o j).2).eval args s none [] s = some (.ref (f j).1)) : ∀ q, q_strs[27]? = some q → vk_R q.1 q.2.1 q.2.2.1 (zq_ad f q.2.2.2) s := fun q hq => by
  have e : ("DocumentHouse$Filter", 59, "$elem", 54) = q := Option.some.inj hq
  have h : (Term.string "DocumentHouse$Filter" 59).eval args s none [] s = some (.ref (f 27).1) := he 27 (by decide)
  rw [← e]
  show vk_R "DocumentHouse$Filter" 59 "$elem" (zq_ad f 54) s
  rw [show zq_ad f 54 = (f 27).1 from zq_ad0 f 27]
  exact vk_R.of (hts (.stringRef "DocumentHouse$Filter" 59 "$elem") (q_lw5 (i := 52) rfl)) h
theorem zq_r28 {s : State} {args : Array Value} {f : Nat → Nat × Nat} (hts : ∀ w ∈ lw_tbl, w.before args s = true) (he : ∀ j, j < 142 → (Term.string (zq_o j).1 (zq_o j).2).eval args s none [] s = some (.ref (f j).1)) : ∀ q, q_strs[28]? = some q → vk_R q.1 q.2.1 q.2.2.1 (zq_ad f q.2.2.2) s := fun q hq => by
  have e : ("DocumentHouse$Filter", 61, "$not", 56) = q := Option.some.inj hq
  have h : (Term.string "DocumentHouse$Filter" 61).eval args s none [] s = some (.ref (f 28).1) := he 28 (by decide)
  rw [← e]
  show vk_R "DocumentHouse$Filter" 61 "$not" (zq_ad f 56) s
  rw [show zq_ad f 56 = (f 28).1 from zq_ad0 f 28]
  exact vk_R.of (hts (.stringRef "DocumentHouse$Filter" 61 "$not") (q_lw5 (i := 53) rfl)) h
theorem zq_r29 {s : State} {args : Array Value} {f : Nat → Nat × Nat} (hts : ∀ w ∈ lw_tbl, w.before args s = true) (he : ∀ j, j < 142 → (Term.string (zq_o j).1 (zq_o j).2).eval args s none [] s = some (.ref (f j).1)) : ∀ q, q_strs[29]? = some q → vk_R q.1 q.2.1 q.2.2.1 (zq_ad f q.2.2.2) s := fun q hq => by
  have e : ("DocumentHouse", 319, "many", 58) = q := Option.some.inj hq
  have h : (Term.string "DocumentHouse" 319).eval args s none [] s = some (.ref (f 29).1) := he 29 (by decide)
  rw [← e]
  show vk_R "DocumentHouse" 319 "many" (zq_ad f 58) s
  rw [show zq_ad f 58 = (f 29).1 from zq_ad0 f 29]
  exact vk_R.of (hts (.stringRef "DocumentHouse" 319 "many") (q_lw5 (i := 126) rfl)) h
theorem zq_r30 {s : State} {args : Array Value} {f : Nat → Nat × Nat} (hts : ∀ w ∈ lw_tbl, w.before args s = true) (he : ∀ j, j < 142 → (Term.string (zq_o j).1 (zq_o j).2).eval args s none [] s = some (.ref (f j).1)) : ∀ q, q_strs[30]? = some q → vk_R q.1 q.2.1 q.2.2.1 (zq_ad f q.2.2.2) s := fun q hq => by
  have e : ("DocumentHouse", 321, "found", 60) = q := Option.some.inj hq
  have h : (Term.string "DocumentHouse" 321).eval args s none [] s = some (.ref (f 30).1) := he 30 (by decide)
  rw [← e]
  show vk_R "DocumentHouse" 321 "found" (zq_ad f 60) s
  rw [show zq_ad f 60 = (f 30).1 from zq_ad0 f 30]
  exact vk_R.of (hts (.stringRef "DocumentHouse" 321 "found") (q_lw5 (i := 127) rfl)) h
theorem zq_r31 {s : State} {args : Array Value} {f : Nat → Nat × Nat} (hts : ∀ w ∈ lw_tbl, w.before args s = true) (he : ∀ j, j < 142 → (Term.string (zq_o j).1 (zq_o j).2).eval args s none [] s = some (.ref (f j).1)) : ∀ q, q_strs[31]? = some q → vk_R q.1 q.2.1 q.2.2.1 (zq_ad f q.2.2.2) s := fun q hq => by
  have e : ("DocumentHouse", 329, "is", 62) = q := Option.some.inj hq
  have h : (Term.string "DocumentHouse" 329).eval args s none [] s = some (.ref (f 31).1) := he 31 (by decide)
  rw [← e]
  show vk_R "DocumentHouse" 329 "is" (zq_ad f 62) s
  rw [show zq_ad f 62 = (f 31).1 from zq_ad0 f 31]
  exact vk_R.of (hts (.stringRef "DocumentHouse" 329 "is") (q_lw5 (i := 134) rfl)) h
theorem zq_r32 {s : State} {args : Array Value} {f : Nat → Nat × Nat} (hts : ∀ w ∈ lw_tbl, w.before args s = true) (he : ∀ j, j < 142 → (Term.string (zq_o j).1 (zq_o j).2).eval args s none [] s = some (.ref (f j).1)) : ∀ q, q_strs[32]? = some q → vk_R q.1 q.2.1 q.2.2.1 (zq_ad f q.2.2.2) s := fun q hq => by
  have e : ("DocumentHouse$Change", 36, "$set", 64) = q := Option.some.inj hq
  have h : (Term.string "DocumentHouse$Change" 36).eval args s none [] s = some (.ref (f 32).1) := he 32 (by decide)
  rw [← e]
  show vk_R "DocumentHouse$Change" 36 "$set" (zq_ad f 64) s
  rw [show zq_ad f 64 = (f 32).1 from zq_ad0 f 32]
  exact vk_R.of (hts (.stringRef "DocumentHouse$Change" 36 "$set") (q_lw5 (i := 171) rfl)) h
theorem zq_r33 {s : State} {args : Array Value} {f : Nat → Nat × Nat} (hts : ∀ w ∈ lw_tbl, w.before args s = true) (he : ∀ j, j < 142 → (Term.string (zq_o j).1 (zq_o j).2).eval args s none [] s = some (.ref (f j).1)) : ∀ q, q_strs[33]? = some q → vk_R q.1 q.2.1 q.2.2.1 (zq_ad f q.2.2.2) s := fun q hq => by
  have e : ("DocumentHouse$Change", 44, "$unset", 66) = q := Option.some.inj hq
  have h : (Term.string "DocumentHouse$Change" 44).eval args s none [] s = some (.ref (f 33).1) := he 33 (by decide)
  rw [← e]
  show vk_R "DocumentHouse$Change" 44 "$unset" (zq_ad f 66) s
  rw [show zq_ad f 66 = (f 33).1 from zq_ad0 f 33]
  exact vk_R.of (hts (.stringRef "DocumentHouse$Change" 44 "$unset") (q_lw5 (i := 173) rfl)) h
theorem zq_r34 {s : State} {args : Array Value} {f : Nat → Nat × Nat} (hts : ∀ w ∈ lw_tbl, w.before args s = true) (he : ∀ j, j < 142 → (Term.string (zq_o j).1 (zq_o j).2).eval args s none [] s = some (.ref (f j).1)) : ∀ q, q_strs[34]? = some q → vk_R q.1 q.2.1 q.2.2.1 (zq_ad f q.2.2.2) s := fun q hq => by
  have e : ("DocumentHouse$Change", 46, "$inc", 68) = q := Option.some.inj hq
  have h : (Term.string "DocumentHouse$Change" 46).eval args s none [] s = some (.ref (f 34).1) := he 34 (by decide)
  rw [← e]
  show vk_R "DocumentHouse$Change" 46 "$inc" (zq_ad f 68) s
  rw [show zq_ad f 68 = (f 34).1 from zq_ad0 f 34]
  exact vk_R.of (hts (.stringRef "DocumentHouse$Change" 46 "$inc") (q_lw5 (i := 174) rfl)) h
theorem zq_r35 {s : State} {args : Array Value} {f : Nat → Nat × Nat} (hts : ∀ w ∈ lw_tbl, w.before args s = true) (he : ∀ j, j < 142 → (Term.string (zq_o j).1 (zq_o j).2).eval args s none [] s = some (.ref (f j).1)) : ∀ q, q_strs[35]? = some q → vk_R q.1 q.2.1 q.2.2.1 (zq_ad f q.2.2.2) s := fun q hq => by
  have e : ("DocumentHouse$Change", 48, "$push", 70) = q := Option.some.inj hq
  have h : (Term.string "DocumentHouse$Change" 48).eval args s none [] s = some (.ref (f 35).1) := he 35 (by decide)
  rw [← e]
  show vk_R "DocumentHouse$Change" 48 "$push" (zq_ad f 70) s
  rw [show zq_ad f 70 = (f 35).1 from zq_ad0 f 35]
  exact vk_R.of (hts (.stringRef "DocumentHouse$Change" 48 "$push") (q_lw5 (i := 175) rfl)) h
theorem zq_r36 {s : State} {args : Array Value} {f : Nat → Nat × Nat} (hts : ∀ w ∈ lw_tbl, w.before args s = true) (he : ∀ j, j < 142 → (Term.string (zq_o j).1 (zq_o j).2).eval args s none [] s = some (.ref (f j).1)) : ∀ q, q_strs[36]? = some q → vk_R q.1 q.2.1 q.2.2.1 (zq_ad f q.2.2.2) s := fun q hq => by
  have e : ("DocumentHouse$Change", 50, "$pull", 72) = q := Option.some.inj hq
  have h : (Term.string "DocumentHouse$Change" 50).eval args s none [] s = some (.ref (f 36).1) := he 36 (by decide)
  rw [← e]
  show vk_R "DocumentHouse$Change" 50 "$pull" (zq_ad f 72) s
  rw [show zq_ad f 72 = (f 36).1 from zq_ad0 f 36]
  exact vk_R.of (hts (.stringRef "DocumentHouse$Change" 50 "$pull") (q_lw5 (i := 176) rfl)) h
theorem zq_r37 {s : State} {args : Array Value} {f : Nat → Nat × Nat} (hts : ∀ w ∈ lw_tbl, w.before args s = true) (he : ∀ j, j < 142 → (Term.string (zq_o j).1 (zq_o j).2).eval args s none [] s = some (.ref (f j).1)) : ∀ q, q_strs[37]? = some q → vk_R q.1 q.2.1 q.2.2.1 (zq_ad f q.2.2.2) s := fun q hq => by
  have e : ("DocumentHouse$Change", 52, "$addToSet", 74) = q := Option.some.inj hq
  have h : (Term.string "DocumentHouse$Change" 52).eval args s none [] s = some (.ref (f 37).1) := he 37 (by decide)
  rw [← e]
  show vk_R "DocumentHouse$Change" 52 "$addToSet" (zq_ad f 74) s
  rw [show zq_ad f 74 = (f 37).1 from zq_ad0 f 37]
  exact vk_R.of (hts (.stringRef "DocumentHouse$Change" 52 "$addToSet") (q_lw5 (i := 177) rfl)) h
theorem zq_r38 {s : State} {args : Array Value} {f : Nat → Nat × Nat} (hts : ∀ w ∈ lw_tbl, w.before args s = true) (he : ∀ j, j < 142 → (Term.string (zq_o j).1 (zq_o j).2).eval args s none [] s = some (.ref (f j).1)) : ∀ q, q_strs[38]? = some q → vk_R q.1 q.2.1 q.2.2.1 (zq_ad f q.2.2.2) s := fun q hq => by
  have e : ("DocumentHouse", 368, "changed", 76) = q := Option.some.inj hq
  have h : (Term.string "DocumentHouse" 368).eval args s none [] s = some (.ref (f 38).1) := he 38 (by decide)
  rw [← e]
  show vk_R "DocumentHouse" 368 "changed" (zq_ad f 76) s
  rw [show zq_ad f 76 = (f 38).1 from zq_ad0 f 38]
  exact vk_R.of (hts (.stringRef "DocumentHouse" 368 "changed") (q_lw6 (i := 93) rfl)) h
theorem zq_r39 {s : State} {args : Array Value} {f : Nat → Nat × Nat} (hts : ∀ w ∈ lw_tbl, w.before args s = true) (he : ∀ j, j < 142 → (Term.string (zq_o j).1 (zq_o j).2).eval args s none [] s = some (.ref (f j).1)) : ∀ q, q_strs[39]? = some q → vk_R q.1 q.2.1 q.2.2.1 (zq_ad f q.2.2.2) s := fun q hq => by
  have e : ("DocumentHouse", 384, "dropped", 78) = q := Option.some.inj hq
  have h : (Term.string "DocumentHouse" 384).eval args s none [] s = some (.ref (f 39).1) := he 39 (by decide)
  rw [← e]
  show vk_R "DocumentHouse" 384 "dropped" (zq_ad f 78) s
  rw [show zq_ad f 78 = (f 39).1 from zq_ad0 f 39]
  exact vk_R.of (hts (.stringRef "DocumentHouse" 384 "dropped") (q_lw6 (i := 135) rfl)) h
theorem zq_r40 {s : State} {args : Array Value} {f : Nat → Nat × Nat} (hts : ∀ w ∈ lw_tbl, w.before args s = true) (he : ∀ j, j < 142 → (Term.string (zq_o j).1 (zq_o j).2).eval args s none [] s = some (.ref (f j).1)) : ∀ q, q_strs[40]? = some q → vk_R q.1 q.2.1 q.2.2.1 (zq_ad f q.2.2.2) s := fun q hq => by
  have e : ("DocumentHouse$Stages", 108, "$match", 80) = q := Option.some.inj hq
  have h : (Term.string "DocumentHouse$Stages" 108).eval args s none [] s = some (.ref (f 40).1) := he 40 (by decide)
  rw [← e]
  show vk_R "DocumentHouse$Stages" 108 "$match" (zq_ad f 80) s
  rw [show zq_ad f 80 = (f 40).1 from zq_ad0 f 40]
  exact vk_R.of (hts (.stringRef "DocumentHouse$Stages" 108 "$match") (q_lw6 (i := 156) rfl)) h
theorem zq_r41 {s : State} {args : Array Value} {f : Nat → Nat × Nat} (hts : ∀ w ∈ lw_tbl, w.before args s = true) (he : ∀ j, j < 142 → (Term.string (zq_o j).1 (zq_o j).2).eval args s none [] s = some (.ref (f j).1)) : ∀ q, q_strs[41]? = some q → vk_R q.1 q.2.1 q.2.2.1 (zq_ad f q.2.2.2) s := fun q hq => by
  have e : ("DocumentHouse$Stages", 123, "$project", 82) = q := Option.some.inj hq
  have h : (Term.string "DocumentHouse$Stages" 123).eval args s none [] s = some (.ref (f 41).1) := he 41 (by decide)
  rw [← e]
  show vk_R "DocumentHouse$Stages" 123 "$project" (zq_ad f 82) s
  rw [show zq_ad f 82 = (f 41).1 from zq_ad0 f 41]
  exact vk_R.of (hts (.stringRef "DocumentHouse$Stages" 123 "$project") (q_lw6 (i := 171) rfl)) h
theorem zq_r42 {s : State} {args : Array Value} {f : Nat → Nat × Nat} (hts : ∀ w ∈ lw_tbl, w.before args s = true) (he : ∀ j, j < 142 → (Term.string (zq_o j).1 (zq_o j).2).eval args s none [] s = some (.ref (f j).1)) : ∀ q, q_strs[42]? = some q → vk_R q.1 q.2.1 q.2.2.1 (zq_ad f q.2.2.2) s := fun q hq => by
  have e : ("DocumentHouse$Stages", 125, "$unwind", 84) = q := Option.some.inj hq
  have h : (Term.string "DocumentHouse$Stages" 125).eval args s none [] s = some (.ref (f 42).1) := he 42 (by decide)
  rw [← e]
  show vk_R "DocumentHouse$Stages" 125 "$unwind" (zq_ad f 84) s
  rw [show zq_ad f 84 = (f 42).1 from zq_ad0 f 42]
  exact vk_R.of (hts (.stringRef "DocumentHouse$Stages" 125 "$unwind") (q_lw6 (i := 172) rfl)) h
theorem zq_r43 {s : State} {args : Array Value} {f : Nat → Nat × Nat} (hts : ∀ w ∈ lw_tbl, w.before args s = true) (he : ∀ j, j < 142 → (Term.string (zq_o j).1 (zq_o j).2).eval args s none [] s = some (.ref (f j).1)) : ∀ q, q_strs[43]? = some q → vk_R q.1 q.2.1 q.2.2.1 (zq_ad f q.2.2.2) s := fun q hq => by
  have e : ("DocumentHouse$Stages", 127, "$group", 86) = q := Option.some.inj hq
  have h : (Term.string "DocumentHouse$Stages" 127).eval args s none [] s = some (.ref (f 43).1) := he 43 (by decide)
  rw [← e]
  show vk_R "DocumentHouse$Stages" 127 "$group" (zq_ad f 86) s
  rw [show zq_ad f 86 = (f 43).1 from zq_ad0 f 43]
  exact vk_R.of (hts (.stringRef "DocumentHouse$Stages" 127 "$group") (q_lw6 (i := 173) rfl)) h
theorem zq_r44 {s : State} {args : Array Value} {f : Nat → Nat × Nat} (hts : ∀ w ∈ lw_tbl, w.before args s = true) (he : ∀ j, j < 142 → (Term.string (zq_o j).1 (zq_o j).2).eval args s none [] s = some (.ref (f j).1)) : ∀ q, q_strs[44]? = some q → vk_R q.1 q.2.1 q.2.2.1 (zq_ad f q.2.2.2) s := fun q hq => by
  have e : ("DocumentHouse$Stages", 129, "$sort", 88) = q := Option.some.inj hq
  have h : (Term.string "DocumentHouse$Stages" 129).eval args s none [] s = some (.ref (f 44).1) := he 44 (by decide)
  rw [← e]
  show vk_R "DocumentHouse$Stages" 129 "$sort" (zq_ad f 88) s
  rw [show zq_ad f 88 = (f 44).1 from zq_ad0 f 44]
  exact vk_R.of (hts (.stringRef "DocumentHouse$Stages" 129 "$sort") (q_lw6 (i := 174) rfl)) h
theorem zq_r45 {s : State} {args : Array Value} {f : Nat → Nat × Nat} (hts : ∀ w ∈ lw_tbl, w.before args s = true) (he : ∀ j, j < 142 → (Term.string (zq_o j).1 (zq_o j).2).eval args s none [] s = some (.ref (f j).1)) : ∀ q, q_strs[45]? = some q → vk_R q.1 q.2.1 q.2.2.1 (zq_ad f q.2.2.2) s := fun q hq => by
  have e : ("DocumentHouse$Stages", 131, "$skip", 90) = q := Option.some.inj hq
  have h : (Term.string "DocumentHouse$Stages" 131).eval args s none [] s = some (.ref (f 45).1) := he 45 (by decide)
  rw [← e]
  show vk_R "DocumentHouse$Stages" 131 "$skip" (zq_ad f 90) s
  rw [show zq_ad f 90 = (f 45).1 from zq_ad0 f 45]
  exact vk_R.of (hts (.stringRef "DocumentHouse$Stages" 131 "$skip") (q_lw6 (i := 175) rfl)) h
theorem zq_r46 {s : State} {args : Array Value} {f : Nat → Nat × Nat} (hts : ∀ w ∈ lw_tbl, w.before args s = true) (he : ∀ j, j < 142 → (Term.string (zq_o j).1 (zq_o j).2).eval args s none [] s = some (.ref (f j).1)) : ∀ q, q_strs[46]? = some q → vk_R q.1 q.2.1 q.2.2.1 (zq_ad f q.2.2.2) s := fun q hq => by
  have e : ("DocumentHouse$Stages", 133, "$limit", 92) = q := Option.some.inj hq
  have h : (Term.string "DocumentHouse$Stages" 133).eval args s none [] s = some (.ref (f 46).1) := he 46 (by decide)
  rw [← e]
  show vk_R "DocumentHouse$Stages" 133 "$limit" (zq_ad f 92) s
  rw [show zq_ad f 92 = (f 46).1 from zq_ad0 f 46]
  exact vk_R.of (hts (.stringRef "DocumentHouse$Stages" 133 "$limit") (q_lw6 (i := 176) rfl)) h
theorem zq_r47 {s : State} {args : Array Value} {f : Nat → Nat × Nat} (hts : ∀ w ∈ lw_tbl, w.before args s = true) (he : ∀ j, j < 142 → (Term.string (zq_o j).1 (zq_o j).2).eval args s none [] s = some (.ref (f j).1)) : ∀ q, q_strs[47]? = some q → vk_R q.1 q.2.1 q.2.2.1 (zq_ad f q.2.2.2) s := fun q hq => by
  have e : ("DocumentHouse$Stages", 135, "$lookup", 94) = q := Option.some.inj hq
  have h : (Term.string "DocumentHouse$Stages" 135).eval args s none [] s = some (.ref (f 47).1) := he 47 (by decide)
  rw [← e]
  show vk_R "DocumentHouse$Stages" 135 "$lookup" (zq_ad f 94) s
  rw [show zq_ad f 94 = (f 47).1 from zq_ad0 f 47]
  exact vk_R.of (hts (.stringRef "DocumentHouse$Stages" 135 "$lookup") (q_lw6 (i := 177) rfl)) h
theorem zq_r48 {s : State} {args : Array Value} {f : Nat → Nat × Nat} (hts : ∀ w ∈ lw_tbl, w.before args s = true) (he : ∀ j, j < 142 → (Term.string (zq_o j).1 (zq_o j).2).eval args s none [] s = some (.ref (f j).1)) : ∀ q, q_strs[48]? = some q → vk_R q.1 q.2.1 q.2.2.1 (zq_ad f q.2.2.2) s := fun q hq => by
  have e : ("DocumentHouse$Stages", 305, "by", 96) = q := Option.some.inj hq
  have h : (Term.string "DocumentHouse$Stages" 305).eval args s none [] s = some (.ref (f 48).1) := he 48 (by decide)
  rw [← e]
  show vk_R "DocumentHouse$Stages" 305 "by" (zq_ad f 96) s
  rw [show zq_ad f 96 = (f 48).1 from zq_ad0 f 48]
  exact vk_R.of (hts (.stringRef "DocumentHouse$Stages" 305 "by") (q_lw7 (i := 25) rfl)) h
theorem zq_r49 {s : State} {args : Array Value} {f : Nat → Nat × Nat} (hts : ∀ w ∈ lw_tbl, w.before args s = true) (he : ∀ j, j < 142 → (Term.string (zq_o j).1 (zq_o j).2).eval args s none [] s = some (.ref (f j).1)) : ∀ q, q_strs[49]? = some q → vk_R q.1 q.2.1 q.2.2.1 (zq_ad f q.2.2.2) s := fun q hq => by
  have e : ("DocumentHouse$Stages", 289, "$count", 98) = q := Option.some.inj hq
  have h : (Term.string "DocumentHouse$Stages" 289).eval args s none [] s = some (.ref (f 49).1) := he 49 (by decide)
  rw [← e]
  show vk_R "DocumentHouse$Stages" 289 "$count" (zq_ad f 98) s
  rw [show zq_ad f 98 = (f 49).1 from zq_ad0 f 49]
  exact vk_R.of (hts (.stringRef "DocumentHouse$Stages" 289 "$count") (q_lw7 (i := 29) rfl)) h
theorem zq_r50 {s : State} {args : Array Value} {f : Nat → Nat × Nat} (hts : ∀ w ∈ lw_tbl, w.before args s = true) (he : ∀ j, j < 142 → (Term.string (zq_o j).1 (zq_o j).2).eval args s none [] s = some (.ref (f j).1)) : ∀ q, q_strs[50]? = some q → vk_R q.1 q.2.1 q.2.2.1 (zq_ad f q.2.2.2) s := fun q hq => by
  have e : ("DocumentHouse$Stages", 291, "$sum", 100) = q := Option.some.inj hq
  have h : (Term.string "DocumentHouse$Stages" 291).eval args s none [] s = some (.ref (f 50).1) := he 50 (by decide)
  rw [← e]
  show vk_R "DocumentHouse$Stages" 291 "$sum" (zq_ad f 100) s
  rw [show zq_ad f 100 = (f 50).1 from zq_ad0 f 50]
  exact vk_R.of (hts (.stringRef "DocumentHouse$Stages" 291 "$sum") (q_lw7 (i := 30) rfl)) h
theorem zq_r51 {s : State} {args : Array Value} {f : Nat → Nat × Nat} (hts : ∀ w ∈ lw_tbl, w.before args s = true) (he : ∀ j, j < 142 → (Term.string (zq_o j).1 (zq_o j).2).eval args s none [] s = some (.ref (f j).1)) : ∀ q, q_strs[51]? = some q → vk_R q.1 q.2.1 q.2.2.1 (zq_ad f q.2.2.2) s := fun q hq => by
  have e : ("DocumentHouse$Stages", 293, "$min", 102) = q := Option.some.inj hq
  have h : (Term.string "DocumentHouse$Stages" 293).eval args s none [] s = some (.ref (f 51).1) := he 51 (by decide)
  rw [← e]
  show vk_R "DocumentHouse$Stages" 293 "$min" (zq_ad f 102) s
  rw [show zq_ad f 102 = (f 51).1 from zq_ad0 f 51]
  exact vk_R.of (hts (.stringRef "DocumentHouse$Stages" 293 "$min") (q_lw7 (i := 31) rfl)) h
theorem zq_r52 {s : State} {args : Array Value} {f : Nat → Nat × Nat} (hts : ∀ w ∈ lw_tbl, w.before args s = true) (he : ∀ j, j < 142 → (Term.string (zq_o j).1 (zq_o j).2).eval args s none [] s = some (.ref (f j).1)) : ∀ q, q_strs[52]? = some q → vk_R q.1 q.2.1 q.2.2.1 (zq_ad f q.2.2.2) s := fun q hq => by
  have e : ("DocumentHouse$Stages", 295, "$max", 104) = q := Option.some.inj hq
  have h : (Term.string "DocumentHouse$Stages" 295).eval args s none [] s = some (.ref (f 52).1) := he 52 (by decide)
  rw [← e]
  show vk_R "DocumentHouse$Stages" 295 "$max" (zq_ad f 104) s
  rw [show zq_ad f 104 = (f 52).1 from zq_ad0 f 52]
  exact vk_R.of (hts (.stringRef "DocumentHouse$Stages" 295 "$max") (q_lw7 (i := 32) rfl)) h
theorem zq_r53 {s : State} {args : Array Value} {f : Nat → Nat × Nat} (hts : ∀ w ∈ lw_tbl, w.before args s = true) (he : ∀ j, j < 142 → (Term.string (zq_o j).1 (zq_o j).2).eval args s none [] s = some (.ref (f j).1)) : ∀ q, q_strs[53]? = some q → vk_R q.1 q.2.1 q.2.2.1 (zq_ad f q.2.2.2) s := fun q hq => by
  have e : ("DocumentHouse$Stages", 297, "$first", 106) = q := Option.some.inj hq
  have h : (Term.string "DocumentHouse$Stages" 297).eval args s none [] s = some (.ref (f 53).1) := he 53 (by decide)
  rw [← e]
  show vk_R "DocumentHouse$Stages" 297 "$first" (zq_ad f 106) s
  rw [show zq_ad f 106 = (f 53).1 from zq_ad0 f 53]
  exact vk_R.of (hts (.stringRef "DocumentHouse$Stages" 297 "$first") (q_lw7 (i := 33) rfl)) h
theorem zq_r54 {s : State} {args : Array Value} {f : Nat → Nat × Nat} (hts : ∀ w ∈ lw_tbl, w.before args s = true) (he : ∀ j, j < 142 → (Term.string (zq_o j).1 (zq_o j).2).eval args s none [] s = some (.ref (f j).1)) : ∀ q, q_strs[54]? = some q → vk_R q.1 q.2.1 q.2.2.1 (zq_ad f q.2.2.2) s := fun q hq => by
  have e : ("DocumentHouse$Stages", 299, "$last", 108) = q := Option.some.inj hq
  have h : (Term.string "DocumentHouse$Stages" 299).eval args s none [] s = some (.ref (f 54).1) := he 54 (by decide)
  rw [← e]
  show vk_R "DocumentHouse$Stages" 299 "$last" (zq_ad f 108) s
  rw [show zq_ad f 108 = (f 54).1 from zq_ad0 f 54]
  exact vk_R.of (hts (.stringRef "DocumentHouse$Stages" 299 "$last") (q_lw7 (i := 34) rfl)) h
theorem zq_r55 {s : State} {args : Array Value} {f : Nat → Nat × Nat} (hts : ∀ w ∈ lw_tbl, w.before args s = true) (he : ∀ j, j < 142 → (Term.string (zq_o j).1 (zq_o j).2).eval args s none [] s = some (.ref (f j).1)) : ∀ q, q_strs[55]? = some q → vk_R q.1 q.2.1 q.2.2.1 (zq_ad f q.2.2.2) s := fun q hq => by
  have e : ("DocumentHouse$Stages", 301, "$push", 110) = q := Option.some.inj hq
  have h : (Term.string "DocumentHouse$Stages" 301).eval args s none [] s = some (.ref (f 55).1) := he 55 (by decide)
  rw [← e]
  show vk_R "DocumentHouse$Stages" 301 "$push" (zq_ad f 110) s
  rw [show zq_ad f 110 = (f 55).1 from zq_ad0 f 55]
  exact vk_R.of (hts (.stringRef "DocumentHouse$Stages" 301 "$push") (q_lw7 (i := 35) rfl)) h
theorem zq_r56 {s : State} {args : Array Value} {f : Nat → Nat × Nat} (hts : ∀ w ∈ lw_tbl, w.before args s = true) (he : ∀ j, j < 142 → (Term.string (zq_o j).1 (zq_o j).2).eval args s none [] s = some (.ref (f j).1)) : ∀ q, q_strs[56]? = some q → vk_R q.1 q.2.1 q.2.2.1 (zq_ad f q.2.2.2) s := fun q hq => by
  have e : ("DocumentHouse$Stages", 303, "$addToSet", 112) = q := Option.some.inj hq
  have h : (Term.string "DocumentHouse$Stages" 303).eval args s none [] s = some (.ref (f 56).1) := he 56 (by decide)
  rw [← e]
  show vk_R "DocumentHouse$Stages" 303 "$addToSet" (zq_ad f 112) s
  rw [show zq_ad f 112 = (f 56).1 from zq_ad0 f 56]
  exact vk_R.of (hts (.stringRef "DocumentHouse$Stages" 303 "$addToSet") (q_lw7 (i := 36) rfl)) h
theorem zq_r57 {s : State} {args : Array Value} {f : Nat → Nat × Nat} (hts : ∀ w ∈ lw_tbl, w.before args s = true) (he : ∀ j, j < 142 → (Term.string (zq_o j).1 (zq_o j).2).eval args s none [] s = some (.ref (f j).1)) : ∀ q, q_strs[57]? = some q → vk_R q.1 q.2.1 q.2.2.1 (zq_ad f q.2.2.2) s := fun q hq => by
  have e : ("DocumentHouse$Stages", 390, "here", 114) = q := Option.some.inj hq
  have h : (Term.string "DocumentHouse$Stages" 390).eval args s none [] s = some (.ref (f 57).1) := he 57 (by decide)
  rw [← e]
  show vk_R "DocumentHouse$Stages" 390 "here" (zq_ad f 114) s
  rw [show zq_ad f 114 = (f 57).1 from zq_ad0 f 57]
  exact vk_R.of (hts (.stringRef "DocumentHouse$Stages" 390 "here") (q_lw7 (i := 110) rfl)) h
theorem zq_r58 {s : State} {args : Array Value} {f : Nat → Nat × Nat} (hts : ∀ w ∈ lw_tbl, w.before args s = true) (he : ∀ j, j < 142 → (Term.string (zq_o j).1 (zq_o j).2).eval args s none [] s = some (.ref (f j).1)) : ∀ q, q_strs[58]? = some q → vk_R q.1 q.2.1 q.2.2.1 (zq_ad f q.2.2.2) s := fun q hq => by
  have e : ("DocumentHouse$Stages", 392, "there", 116) = q := Option.some.inj hq
  have h : (Term.string "DocumentHouse$Stages" 392).eval args s none [] s = some (.ref (f 58).1) := he 58 (by decide)
  rw [← e]
  show vk_R "DocumentHouse$Stages" 392 "there" (zq_ad f 116) s
  rw [show zq_ad f 116 = (f 58).1 from zq_ad0 f 58]
  exact vk_R.of (hts (.stringRef "DocumentHouse$Stages" 392 "there") (q_lw7 (i := 111) rfl)) h
theorem zq_r59 {s : State} {args : Array Value} {f : Nat → Nat × Nat} (hts : ∀ w ∈ lw_tbl, w.before args s = true) (he : ∀ j, j < 142 → (Term.string (zq_o j).1 (zq_o j).2).eval args s none [] s = some (.ref (f j).1)) : ∀ q, q_strs[59]? = some q → vk_R q.1 q.2.1 q.2.2.1 (zq_ad f q.2.2.2) s := fun q hq => by
  have e : ("DocumentHouse$Stages", 394, "as", 118) = q := Option.some.inj hq
  have h : (Term.string "DocumentHouse$Stages" 394).eval args s none [] s = some (.ref (f 59).1) := he 59 (by decide)
  rw [← e]
  show vk_R "DocumentHouse$Stages" 394 "as" (zq_ad f 118) s
  rw [show zq_ad f 118 = (f 59).1 from zq_ad0 f 59]
  exact vk_R.of (hts (.stringRef "DocumentHouse$Stages" 394 "as") (q_lw7 (i := 112) rfl)) h
theorem zq_r60 {s : State} {args : Array Value} {f : Nat → Nat × Nat} (hts : ∀ w ∈ lw_tbl, w.before args s = true) (he : ∀ j, j < 142 → (Term.string (zq_o j).1 (zq_o j).2).eval args s none [] s = some (.ref (f j).1)) : ∀ q, q_strs[60]? = some q → vk_R q.1 q.2.1 q.2.2.1 (zq_ad f q.2.2.2) s := fun q hq => by
  have e : ("DocumentHouse$Bounds", 130, "$and", 120) = q := Option.some.inj hq
  have h : (Term.string "DocumentHouse$Bounds" 130).eval args s none [] s = some (.ref (f 60).1) := he 60 (by decide)
  rw [← e]
  show vk_R "DocumentHouse$Bounds" 130 "$and" (zq_ad f 120) s
  rw [show zq_ad f 120 = (f 60).1 from zq_ad0 f 60]
  exact vk_R.of (hts (.stringRef "DocumentHouse$Bounds" 130 "$and") (q_lw7 (i := 135) rfl)) h
theorem zq_r61 {s : State} {args : Array Value} {f : Nat → Nat × Nat} (hts : ∀ w ∈ lw_tbl, w.before args s = true) (he : ∀ j, j < 142 → (Term.string (zq_o j).1 (zq_o j).2).eval args s none [] s = some (.ref (f j).1)) : ∀ q, q_strs[61]? = some q → vk_R q.1 q.2.1 q.2.2.1 (zq_ad f q.2.2.2) s := fun q hq => by
  have e : ("DocumentHouse$Bounds", 100, "$elem", 122) = q := Option.some.inj hq
  have h : (Term.string "DocumentHouse$Bounds" 100).eval args s none [] s = some (.ref (f 61).1) := he 61 (by decide)
  rw [← e]
  show vk_R "DocumentHouse$Bounds" 100 "$elem" (zq_ad f 122) s
  rw [show zq_ad f 122 = (f 61).1 from zq_ad0 f 61]
  exact vk_R.of (hts (.stringRef "DocumentHouse$Bounds" 100 "$elem") (q_lw7 (i := 169) rfl)) h
theorem zq_r62 {s : State} {args : Array Value} {f : Nat → Nat × Nat} (hts : ∀ w ∈ lw_tbl, w.before args s = true) (he : ∀ j, j < 142 → (Term.string (zq_o j).1 (zq_o j).2).eval args s none [] s = some (.ref (f j).1)) : ∀ q, q_strs[62]? = some q → vk_R q.1 q.2.1 q.2.2.1 (zq_ad f q.2.2.2) s := fun q hq => by
  have e : ("DocumentHouse", 463, "rank", 124) = q := Option.some.inj hq
  have h : (Term.string "DocumentHouse" 463).eval args s none [] s = some (.ref (f 62).1) := he 62 (by decide)
  rw [← e]
  show vk_R "DocumentHouse" 463 "rank" (zq_ad f 124) s
  rw [show zq_ad f 124 = (f 62).1 from zq_ad0 f 62]
  exact vk_R.of (hts (.stringRef "DocumentHouse" 463 "rank") (q_lw7 (i := 211) rfl)) h
theorem zq_r63 {s : State} {args : Array Value} {f : Nat → Nat × Nat} (hts : ∀ w ∈ lw_tbl, w.before args s = true) (he : ∀ j, j < 142 → (Term.string (zq_o j).1 (zq_o j).2).eval args s none [] s = some (.ref (f j).1)) : ∀ q, q_strs[63]? = some q → vk_R q.1 q.2.1 q.2.2.1 (zq_ad f q.2.2.2) s := fun q hq => by
  have e : ("DocumentHouse", 464, "ranges", 126) = q := Option.some.inj hq
  have h : (Term.string "DocumentHouse" 464).eval args s none [] s = some (.ref (f 63).1) := he 63 (by decide)
  rw [← e]
  show vk_R "DocumentHouse" 464 "ranges" (zq_ad f 126) s
  rw [show zq_ad f 126 = (f 63).1 from zq_ad0 f 63]
  exact vk_R.of (hts (.stringRef "DocumentHouse" 464 "ranges") (q_lw7 (i := 212) rfl)) h
theorem zq_r64 {s : State} {args : Array Value} {f : Nat → Nat × Nat} (hts : ∀ w ∈ lw_tbl, w.before args s = true) (he : ∀ j, j < 142 → (Term.string (zq_o j).1 (zq_o j).2).eval args s none [] s = some (.ref (f j).1)) : ∀ q, q_strs[64]? = some q → vk_R q.1 q.2.1 q.2.2.1 (zq_ad f q.2.2.2) s := fun q hq => by
  have e : ("DocumentHouse", 465, "looked", 128) = q := Option.some.inj hq
  have h : (Term.string "DocumentHouse" 465).eval args s none [] s = some (.ref (f 64).1) := he 64 (by decide)
  rw [← e]
  show vk_R "DocumentHouse" 465 "looked" (zq_ad f 128) s
  rw [show zq_ad f 128 = (f 64).1 from zq_ad0 f 64]
  exact vk_R.of (hts (.stringRef "DocumentHouse" 465 "looked") (q_lw7 (i := 213) rfl)) h
theorem zq_r65 {s : State} {args : Array Value} {f : Nat → Nat × Nat} (hts : ∀ w ∈ lw_tbl, w.before args s = true) (he : ∀ j, j < 142 → (Term.string (zq_o j).1 (zq_o j).2).eval args s none [] s = some (.ref (f j).1)) : ∀ q, q_strs[65]? = some q → vk_R q.1 q.2.1 q.2.2.1 (zq_ad f q.2.2.2) s := fun q hq => by
  have e : ("DocumentHouse", 394, "entries", 130) = q := Option.some.inj hq
  have h : (Term.string "DocumentHouse" 394).eval args s none [] s = some (.ref (f 65).1) := he 65 (by decide)
  rw [← e]
  show vk_R "DocumentHouse" 394 "entries" (zq_ad f 130) s
  rw [show zq_ad f 130 = (f 65).1 from zq_ad0 f 65]
  exact vk_R.of (hts (.stringRef "DocumentHouse" 394 "entries") (q_lw7 (i := 218) rfl)) h
theorem zq_r66 {s : State} {args : Array Value} {f : Nat → Nat × Nat} (hts : ∀ w ∈ lw_tbl, w.before args s = true) (he : ∀ j, j < 142 → (Term.string (zq_o j).1 (zq_o j).2).eval args s none [] s = some (.ref (f j).1)) : ∀ q, q_strs[66]? = some q → vk_R q.1 q.2.1 q.2.2.1 (zq_ad f q.2.2.2) s := fun q hq => by
  have e : ("DocumentHouse", 400, "levels", 132) = q := Option.some.inj hq
  have h : (Term.string "DocumentHouse" 400).eval args s none [] s = some (.ref (f 66).1) := he 66 (by decide)
  rw [← e]
  show vk_R "DocumentHouse" 400 "levels" (zq_ad f 132) s
  rw [show zq_ad f 132 = (f 66).1 from zq_ad0 f 66]
  exact vk_R.of (hts (.stringRef "DocumentHouse" 400 "levels") (q_lw7 (i := 219) rfl)) h
theorem zq_r67 {s : State} {args : Array Value} {f : Nat → Nat × Nat} (hts : ∀ w ∈ lw_tbl, w.before args s = true) (he : ∀ j, j < 142 → (Term.string (zq_o j).1 (zq_o j).2).eval args s none [] s = some (.ref (f j).1)) : ∀ q, q_strs[67]? = some q → vk_R q.1 q.2.1 q.2.2.1 (zq_ad f q.2.2.2) s := fun q hq => by
  have e : ("DocumentHouse", 404, "leaves", 134) = q := Option.some.inj hq
  have h : (Term.string "DocumentHouse" 404).eval args s none [] s = some (.ref (f 67).1) := he 67 (by decide)
  rw [← e]
  show vk_R "DocumentHouse" 404 "leaves" (zq_ad f 134) s
  rw [show zq_ad f 134 = (f 67).1 from zq_ad0 f 67]
  exact vk_R.of (hts (.stringRef "DocumentHouse" 404 "leaves") (q_lw7 (i := 224) rfl)) h
theorem zq_r68 {s : State} {args : Array Value} {f : Nat → Nat × Nat} (hts : ∀ w ∈ lw_tbl, w.before args s = true) (he : ∀ j, j < 142 → (Term.string (zq_o j).1 (zq_o j).2).eval args s none [] s = some (.ref (f j).1)) : ∀ q, q_strs[68]? = some q → vk_R q.1 q.2.1 q.2.2.1 (zq_ad f q.2.2.2) s := fun q hq => by
  have e : ("DocumentHouse", 408, "nodes", 136) = q := Option.some.inj hq
  have h : (Term.string "DocumentHouse" 408).eval args s none [] s = some (.ref (f 68).1) := he 68 (by decide)
  rw [← e]
  show vk_R "DocumentHouse" 408 "nodes" (zq_ad f 136) s
  rw [show zq_ad f 136 = (f 68).1 from zq_ad0 f 68]
  exact vk_R.of (hts (.stringRef "DocumentHouse" 408 "nodes") (q_lw7 (i := 225) rfl)) h
theorem zq_r69 {s : State} {args : Array Value} {f : Nat → Nat × Nat} (hts : ∀ w ∈ lw_tbl, w.before args s = true) (he : ∀ j, j < 142 → (Term.string (zq_o j).1 (zq_o j).2).eval args s none [] s = some (.ref (f j).1)) : ∀ q, q_strs[69]? = some q → vk_R q.1 q.2.1 q.2.2.1 (zq_ad f q.2.2.2) s := fun q hq => by
  have e : ("DocumentHouse", 412, "first", 138) = q := Option.some.inj hq
  have h : (Term.string "DocumentHouse" 412).eval args s none [] s = some (.ref (f 69).1) := he 69 (by decide)
  rw [← e]
  show vk_R "DocumentHouse" 412 "first" (zq_ad f 138) s
  rw [show zq_ad f 138 = (f 69).1 from zq_ad0 f 69]
  exact vk_R.of (hts (.stringRef "DocumentHouse" 412 "first") (q_lw7 (i := 226) rfl)) h
theorem zq_r70 {s : State} {args : Array Value} {f : Nat → Nat × Nat} (hts : ∀ w ∈ lw_tbl, w.before args s = true) (he : ∀ j, j < 142 → (Term.string (zq_o j).1 (zq_o j).2).eval args s none [] s = some (.ref (f j).1)) : ∀ q, q_strs[70]? = some q → vk_R q.1 q.2.1 q.2.2.1 (zq_ad f q.2.2.2) s := fun q hq => by
  have e : ("DocumentHouse", 416, "second", 140) = q := Option.some.inj hq
  have h : (Term.string "DocumentHouse" 416).eval args s none [] s = some (.ref (f 70).1) := he 70 (by decide)
  rw [← e]
  show vk_R "DocumentHouse" 416 "second" (zq_ad f 140) s
  rw [show zq_ad f 140 = (f 70).1 from zq_ad0 f 70]
  exact vk_R.of (hts (.stringRef "DocumentHouse" 416 "second") (q_lw7 (i := 227) rfl)) h
theorem zq_r71 {s : State} {args : Array Value} {f : Nat → Nat × Nat} (hts : ∀ w ∈ lw_tbl, w.before args s = true) (he : ∀ j, j < 142 → (Term.string (zq_o j).1 (zq_o j).2).eval args s none [] s = some (.ref (f j).1)) : ∀ q, q_strs[71]? = some q → vk_R q.1 q.2.1 q.2.2.1 (zq_ad f q.2.2.2) s := fun q hq => by
  have e : ("DocumentHouse", 181, "fault", 142) = q := Option.some.inj hq
  have h : (Term.string "DocumentHouse" 181).eval args s none [] s = some (.ref (f 71).1) := he 71 (by decide)
  rw [← e]
  show vk_R "DocumentHouse" 181 "fault" (zq_ad f 142) s
  rw [show zq_ad f 142 = (f 71).1 from zq_ad0 f 71]
  exact vk_R.of (hts (.stringRef "DocumentHouse" 181 "fault") (q_lw7 (i := 232) rfl)) h
theorem zq_r72 {s : State} {args : Array Value} {f : Nat → Nat × Nat} (hts : ∀ w ∈ lw_tbl, w.before args s = true) (he : ∀ j, j < 142 → (Term.string (zq_o j).1 (zq_o j).2).eval args s none [] s = some (.ref (f j).1)) : ∀ q, q_strs[72]? = some q → vk_R q.1 q.2.1 q.2.2.1 (zq_ad f q.2.2.2) s := fun q hq => by
  have e : ("DocumentHouse", 186, "place", 144) = q := Option.some.inj hq
  have h : (Term.string "DocumentHouse" 186).eval args s none [] s = some (.ref (f 72).1) := he 72 (by decide)
  rw [← e]
  show vk_R "DocumentHouse" 186 "place" (zq_ad f 144) s
  rw [show zq_ad f 144 = (f 72).1 from zq_ad0 f 72]
  exact vk_R.of (hts (.stringRef "DocumentHouse" 186 "place") (q_lw7 (i := 233) rfl)) h
theorem zq_r73 {s : State} {args : Array Value} {f : Nat → Nat × Nat} (hts : ∀ w ∈ lw_tbl, w.before args s = true) (he : ∀ j, j < 142 → (Term.string (zq_o j).1 (zq_o j).2).eval args s none [] s = some (.ref (f j).1)) : ∀ q, q_strs[73]? = some q → vk_R q.1 q.2.1 q.2.2.1 (zq_ad f q.2.2.2) s := fun q hq => by
  have e : ("DocumentHouseModel", 873, "insert", 146) = q := Option.some.inj hq
  have h : (Term.string "DocumentHouseModel" 873).eval args s none [] s = some (.ref (f 73).1) := he 73 (by decide)
  rw [← e]
  show vk_R "DocumentHouseModel" 873 "insert" (zq_ad f 146) s
  rw [show zq_ad f 146 = (f 73).1 from zq_ad0 f 73]
  exact vk_R.of (hts (.stringRef "DocumentHouseModel" 873 "insert") (q_lw9 (i := 148) rfl)) h
theorem zq_r74 {s : State} {args : Array Value} {f : Nat → Nat × Nat} (hts : ∀ w ∈ lw_tbl, w.before args s = true) (he : ∀ j, j < 142 → (Term.string (zq_o j).1 (zq_o j).2).eval args s none [] s = some (.ref (f j).1)) : ∀ q, q_strs[74]? = some q → vk_R q.1 q.2.1 q.2.2.1 (zq_ad f q.2.2.2) s := fun q hq => by
  have e : ("DocumentHouseModel", 875, "find", 148) = q := Option.some.inj hq
  have h : (Term.string "DocumentHouseModel" 875).eval args s none [] s = some (.ref (f 74).1) := he 74 (by decide)
  rw [← e]
  show vk_R "DocumentHouseModel" 875 "find" (zq_ad f 148) s
  rw [show zq_ad f 148 = (f 74).1 from zq_ad0 f 74]
  exact vk_R.of (hts (.stringRef "DocumentHouseModel" 875 "find") (q_lw9 (i := 159) rfl)) h
theorem zq_r75 {s : State} {args : Array Value} {f : Nat → Nat × Nat} (hts : ∀ w ∈ lw_tbl, w.before args s = true) (he : ∀ j, j < 142 → (Term.string (zq_o j).1 (zq_o j).2).eval args s none [] s = some (.ref (f j).1)) : ∀ q, q_strs[75]? = some q → vk_R q.1 q.2.1 q.2.2.1 (zq_ad f q.2.2.2) s := fun q hq => by
  have e : ("DocumentHouseModel", 876, "count", 150) = q := Option.some.inj hq
  have h : (Term.string "DocumentHouseModel" 876).eval args s none [] s = some (.ref (f 75).1) := he 75 (by decide)
  rw [← e]
  show vk_R "DocumentHouseModel" 876 "count" (zq_ad f 150) s
  rw [show zq_ad f 150 = (f 75).1 from zq_ad0 f 75]
  exact vk_R.of (hts (.stringRef "DocumentHouseModel" 876 "count") (q_lw9 (i := 160) rfl)) h
theorem zq_r76 {s : State} {args : Array Value} {f : Nat → Nat × Nat} (hts : ∀ w ∈ lw_tbl, w.before args s = true) (he : ∀ j, j < 142 → (Term.string (zq_o j).1 (zq_o j).2).eval args s none [] s = some (.ref (f j).1)) : ∀ q, q_strs[76]? = some q → vk_R q.1 q.2.1 q.2.2.1 (zq_ad f q.2.2.2) s := fun q hq => by
  have e : ("DocumentHouseModel", 877, "update", 152) = q := Option.some.inj hq
  have h : (Term.string "DocumentHouseModel" 877).eval args s none [] s = some (.ref (f 76).1) := he 76 (by decide)
  rw [← e]
  show vk_R "DocumentHouseModel" 877 "update" (zq_ad f 152) s
  rw [show zq_ad f 152 = (f 76).1 from zq_ad0 f 76]
  exact vk_R.of (hts (.stringRef "DocumentHouseModel" 877 "update") (q_lw9 (i := 161) rfl)) h
theorem zq_r77 {s : State} {args : Array Value} {f : Nat → Nat × Nat} (hts : ∀ w ∈ lw_tbl, w.before args s = true) (he : ∀ j, j < 142 → (Term.string (zq_o j).1 (zq_o j).2).eval args s none [] s = some (.ref (f j).1)) : ∀ q, q_strs[77]? = some q → vk_R q.1 q.2.1 q.2.2.1 (zq_ad f q.2.2.2) s := fun q hq => by
  have e : ("DocumentHouseModel", 879, "delete", 154) = q := Option.some.inj hq
  have h : (Term.string "DocumentHouseModel" 879).eval args s none [] s = some (.ref (f 77).1) := he 77 (by decide)
  rw [← e]
  show vk_R "DocumentHouseModel" 879 "delete" (zq_ad f 154) s
  rw [show zq_ad f 154 = (f 77).1 from zq_ad0 f 77]
  exact vk_R.of (hts (.stringRef "DocumentHouseModel" 879 "delete") (q_lw9 (i := 162) rfl)) h
theorem zq_r78 {s : State} {args : Array Value} {f : Nat → Nat × Nat} (hts : ∀ w ∈ lw_tbl, w.before args s = true) (he : ∀ j, j < 142 → (Term.string (zq_o j).1 (zq_o j).2).eval args s none [] s = some (.ref (f j).1)) : ∀ q, q_strs[78]? = some q → vk_R q.1 q.2.1 q.2.2.1 (zq_ad f q.2.2.2) s := fun q hq => by
  have e : ("DocumentHouseModel", 881, "explain", 156) = q := Option.some.inj hq
  have h : (Term.string "DocumentHouseModel" 881).eval args s none [] s = some (.ref (f 78).1) := he 78 (by decide)
  rw [← e]
  show vk_R "DocumentHouseModel" 881 "explain" (zq_ad f 156) s
  rw [show zq_ad f 156 = (f 78).1 from zq_ad0 f 78]
  exact vk_R.of (hts (.stringRef "DocumentHouseModel" 881 "explain") (q_lw9 (i := 163) rfl)) h
theorem zq_r79 {s : State} {args : Array Value} {f : Nat → Nat × Nat} (hts : ∀ w ∈ lw_tbl, w.before args s = true) (he : ∀ j, j < 142 → (Term.string (zq_o j).1 (zq_o j).2).eval args s none [] s = some (.ref (f j).1)) : ∀ q, q_strs[79]? = some q → vk_R q.1 q.2.1 q.2.2.1 (zq_ad f q.2.2.2) s := fun q hq => by
  have e : ("DocumentHouseModel", 889, "drop", 158) = q := Option.some.inj hq
  have h : (Term.string "DocumentHouseModel" 889).eval args s none [] s = some (.ref (f 79).1) := he 79 (by decide)
  rw [← e]
  show vk_R "DocumentHouseModel" 889 "drop" (zq_ad f 158) s
  rw [show zq_ad f 158 = (f 79).1 from zq_ad0 f 79]
  exact vk_R.of (hts (.stringRef "DocumentHouseModel" 889 "drop") (q_lw9 (i := 164) rfl)) h
theorem zq_r80 {s : State} {args : Array Value} {f : Nat → Nat × Nat} (hts : ∀ w ∈ lw_tbl, w.before args s = true) (he : ∀ j, j < 142 → (Term.string (zq_o j).1 (zq_o j).2).eval args s none [] s = some (.ref (f j).1)) : ∀ q, q_strs[80]? = some q → vk_R q.1 q.2.1 q.2.2.1 (zq_ad f q.2.2.2) s := fun q hq => by
  have e : ("DocumentHouseModel", 891, "shape", 160) = q := Option.some.inj hq
  have h : (Term.string "DocumentHouseModel" 891).eval args s none [] s = some (.ref (f 80).1) := he 80 (by decide)
  rw [← e]
  show vk_R "DocumentHouseModel" 891 "shape" (zq_ad f 160) s
  rw [show zq_ad f 160 = (f 80).1 from zq_ad0 f 80]
  exact vk_R.of (hts (.stringRef "DocumentHouseModel" 891 "shape") (q_lw9 (i := 165) rfl)) h
theorem zq_r81 {s : State} {args : Array Value} {f : Nat → Nat × Nat} (hts : ∀ w ∈ lw_tbl, w.before args s = true) (he : ∀ j, j < 142 → (Term.string (zq_o j).1 (zq_o j).2).eval args s none [] s = some (.ref (f j).1)) : ∀ q, q_strs[81]? = some q → vk_R q.1 q.2.1 q.2.2.1 (zq_ad f q.2.2.2) s := fun q hq => by
  have e : ("DocumentHouseModel", 893, "pipeline", 162) = q := Option.some.inj hq
  have h : (Term.string "DocumentHouseModel" 893).eval args s none [] s = some (.ref (f 81).1) := he 81 (by decide)
  rw [← e]
  show vk_R "DocumentHouseModel" 893 "pipeline" (zq_ad f 162) s
  rw [show zq_ad f 162 = (f 81).1 from zq_ad0 f 81]
  exact vk_R.of (hts (.stringRef "DocumentHouseModel" 893 "pipeline") (q_lw9 (i := 170) rfl)) h
theorem zq_r82 {s : State} {args : Array Value} {f : Nat → Nat × Nat} (hts : ∀ w ∈ lw_tbl, w.before args s = true) (he : ∀ j, j < 142 → (Term.string (zq_o j).1 (zq_o j).2).eval args s none [] s = some (.ref (f j).1)) : ∀ q, q_strs[82]? = some q → vk_R q.1 q.2.1 q.2.2.1 (zq_ad f q.2.2.2) s := fun q hq => by
  have e : ("DocumentHouseModel", 895, "index", 164) = q := Option.some.inj hq
  have h : (Term.string "DocumentHouseModel" 895).eval args s none [] s = some (.ref (f 82).1) := he 82 (by decide)
  rw [← e]
  show vk_R "DocumentHouseModel" 895 "index" (zq_ad f 164) s
  rw [show zq_ad f 164 = (f 82).1 from zq_ad0 f 82]
  exact vk_R.of (hts (.stringRef "DocumentHouseModel" 895 "index") (q_lw9 (i := 171) rfl)) h
theorem zq_r83 {s : State} {args : Array Value} {f : Nat → Nat × Nat} (hts : ∀ w ∈ lw_tbl, w.before args s = true) (he : ∀ j, j < 142 → (Term.string (zq_o j).1 (zq_o j).2).eval args s none [] s = some (.ref (f j).1)) : ∀ q, q_strs[83]? = some q → vk_R q.1 q.2.1 q.2.2.1 (zq_ad f q.2.2.2) s := fun q hq => by
  have e : ("DocumentHouseModel", 871, "shelf", 166) = q := Option.some.inj hq
  have h : (Term.string "DocumentHouseModel" 871).eval args s none [] s = some (.ref (f 83).1) := he 83 (by decide)
  rw [← e]
  show vk_R "DocumentHouseModel" 871 "shelf" (zq_ad f 166) s
  rw [show zq_ad f 166 = (f 83).1 from zq_ad0 f 83]
  exact vk_R.of (hts (.stringRef "DocumentHouseModel" 871 "shelf") (q_lw9 (i := 232) rfl)) h
theorem zq_r84 {s : State} {args : Array Value} {f : Nat → Nat × Nat} (hts : ∀ w ∈ lw_tbl, w.before args s = true) (he : ∀ j, j < 142 → (Term.string (zq_o j).1 (zq_o j).2).eval args s none [] s = some (.ref (f j).1)) : ∀ q, q_strs[84]? = some q → vk_R q.1 q.2.1 q.2.2.1 (zq_ad f q.2.2.2) s := fun q hq => by
  have e : ("DocumentHouseModel", 903, "change", 168) = q := Option.some.inj hq
  have h : (Term.string "DocumentHouseModel" 903).eval args s none [] s = some (.ref (f 84).1) := he 84 (by decide)
  rw [← e]
  show vk_R "DocumentHouseModel" 903 "change" (zq_ad f 168) s
  rw [show zq_ad f 168 = (f 84).1 from zq_ad0 f 84]
  exact vk_R.of (hts (.stringRef "DocumentHouseModel" 903 "change") (q_lw9 (i := 233) rfl)) h
theorem zq_r85 {s : State} {args : Array Value} {f : Nat → Nat × Nat} (hts : ∀ w ∈ lw_tbl, w.before args s = true) (he : ∀ j, j < 142 → (Term.string (zq_o j).1 (zq_o j).2).eval args s none [] s = some (.ref (f j).1)) : ∀ q, q_strs[85]? = some q → vk_R q.1 q.2.1 q.2.2.1 (zq_ad f q.2.2.2) s := fun q hq => by
  have e : ("DocumentHouseModel", 908, "down", 170) = q := Option.some.inj hq
  have h : (Term.string "DocumentHouseModel" 908).eval args s none [] s = some (.ref (f 85).1) := he 85 (by decide)
  rw [← e]
  show vk_R "DocumentHouseModel" 908 "down" (zq_ad f 170) s
  rw [show zq_ad f 170 = (f 85).1 from zq_ad0 f 85]
  exact vk_R.of (hts (.stringRef "DocumentHouseModel" 908 "down") (q_lw9 (i := 238) rfl)) h
theorem zq_r86 {s : State} {args : Array Value} {f : Nat → Nat × Nat} (hts : ∀ w ∈ lw_tbl, w.before args s = true) (he : ∀ j, j < 142 → (Term.string (zq_o j).1 (zq_o j).2).eval args s none [] s = some (.ref (f j).1)) : ∀ q, q_strs[86]? = some q → vk_R q.1 q.2.1 q.2.2.1 (zq_ad f q.2.2.2) s := fun q hq => by
  have e : ("DocumentHouseModel", 976, "dropped", 172) = q := Option.some.inj hq
  have h : (Term.string "DocumentHouseModel" 976).eval args s none [] s = some (.ref (f 86).1) := he 86 (by decide)
  rw [← e]
  show vk_R "DocumentHouseModel" 976 "dropped" (zq_ad f 172) s
  rw [show zq_ad f 172 = (f 86).1 from zq_ad0 f 86]
  exact vk_R.of (hts (.stringRef "DocumentHouseModel" 976 "dropped") (q_lw10 (i := 30) rfl)) h
theorem zq_r87 {s : State} {args : Array Value} {f : Nat → Nat × Nat} (hts : ∀ w ∈ lw_tbl, w.before args s = true) (he : ∀ j, j < 142 → (Term.string (zq_o j).1 (zq_o j).2).eval args s none [] s = some (.ref (f j).1)) : ∀ q, q_strs[87]? = some q → vk_R q.1 q.2.1 q.2.2.1 (zq_ad f q.2.2.2) s := fun q hq => by
  have e : ("DocumentHouseModel", 982, "entries", 174) = q := Option.some.inj hq
  have h : (Term.string "DocumentHouseModel" 982).eval args s none [] s = some (.ref (f 87).1) := he 87 (by decide)
  rw [← e]
  show vk_R "DocumentHouseModel" 982 "entries" (zq_ad f 174) s
  rw [show zq_ad f 174 = (f 87).1 from zq_ad0 f 87]
  exact vk_R.of (hts (.stringRef "DocumentHouseModel" 982 "entries") (q_lw10 (i := 39) rfl)) h
theorem zq_r88 {s : State} {args : Array Value} {f : Nat → Nat × Nat} (hts : ∀ w ∈ lw_tbl, w.before args s = true) (he : ∀ j, j < 142 → (Term.string (zq_o j).1 (zq_o j).2).eval args s none [] s = some (.ref (f j).1)) : ∀ q, q_strs[88]? = some q → vk_R q.1 q.2.1 q.2.2.1 (zq_ad f q.2.2.2) s := fun q hq => by
  have e : ("DocumentHouseModel", 984, "levels", 176) = q := Option.some.inj hq
  have h : (Term.string "DocumentHouseModel" 984).eval args s none [] s = some (.ref (f 88).1) := he 88 (by decide)
  rw [← e]
  show vk_R "DocumentHouseModel" 984 "levels" (zq_ad f 176) s
  rw [show zq_ad f 176 = (f 88).1 from zq_ad0 f 88]
  exact vk_R.of (hts (.stringRef "DocumentHouseModel" 984 "levels") (q_lw10 (i := 44) rfl)) h
theorem zq_r89 {s : State} {args : Array Value} {f : Nat → Nat × Nat} (hts : ∀ w ∈ lw_tbl, w.before args s = true) (he : ∀ j, j < 142 → (Term.string (zq_o j).1 (zq_o j).2).eval args s none [] s = some (.ref (f j).1)) : ∀ q, q_strs[89]? = some q → vk_R q.1 q.2.1 q.2.2.1 (zq_ad f q.2.2.2) s := fun q hq => by
  have e : ("DocumentHouseModel", 988, "leaves", 178) = q := Option.some.inj hq
  have h : (Term.string "DocumentHouseModel" 988).eval args s none [] s = some (.ref (f 89).1) := he 89 (by decide)
  rw [← e]
  show vk_R "DocumentHouseModel" 988 "leaves" (zq_ad f 178) s
  rw [show zq_ad f 178 = (f 89).1 from zq_ad0 f 89]
  exact vk_R.of (hts (.stringRef "DocumentHouseModel" 988 "leaves") (q_lw10 (i := 57) rfl)) h
theorem zq_r90 {s : State} {args : Array Value} {f : Nat → Nat × Nat} (hts : ∀ w ∈ lw_tbl, w.before args s = true) (he : ∀ j, j < 142 → (Term.string (zq_o j).1 (zq_o j).2).eval args s none [] s = some (.ref (f j).1)) : ∀ q, q_strs[90]? = some q → vk_R q.1 q.2.1 q.2.2.1 (zq_ad f q.2.2.2) s := fun q hq => by
  have e : ("DocumentHouseModel", 992, "nodes", 180) = q := Option.some.inj hq
  have h : (Term.string "DocumentHouseModel" 992).eval args s none [] s = some (.ref (f 90).1) := he 90 (by decide)
  rw [← e]
  show vk_R "DocumentHouseModel" 992 "nodes" (zq_ad f 180) s
  rw [show zq_ad f 180 = (f 90).1 from zq_ad0 f 90]
  exact vk_R.of (hts (.stringRef "DocumentHouseModel" 992 "nodes") (q_lw10 (i := 62) rfl)) h
theorem zq_r91 {s : State} {args : Array Value} {f : Nat → Nat × Nat} (hts : ∀ w ∈ lw_tbl, w.before args s = true) (he : ∀ j, j < 142 → (Term.string (zq_o j).1 (zq_o j).2).eval args s none [] s = some (.ref (f j).1)) : ∀ q, q_strs[91]? = some q → vk_R q.1 q.2.1 q.2.2.1 (zq_ad f q.2.2.2) s := fun q hq => by
  have e : ("DocumentHouseModel", 993, "first", 182) = q := Option.some.inj hq
  have h : (Term.string "DocumentHouseModel" 993).eval args s none [] s = some (.ref (f 91).1) := he 91 (by decide)
  rw [← e]
  show vk_R "DocumentHouseModel" 993 "first" (zq_ad f 182) s
  rw [show zq_ad f 182 = (f 91).1 from zq_ad0 f 91]
  exact vk_R.of (hts (.stringRef "DocumentHouseModel" 993 "first") (q_lw10 (i := 63) rfl)) h
theorem zq_r92 {s : State} {args : Array Value} {f : Nat → Nat × Nat} (hts : ∀ w ∈ lw_tbl, w.before args s = true) (he : ∀ j, j < 142 → (Term.string (zq_o j).1 (zq_o j).2).eval args s none [] s = some (.ref (f j).1)) : ∀ q, q_strs[92]? = some q → vk_R q.1 q.2.1 q.2.2.1 (zq_ad f q.2.2.2) s := fun q hq => by
  have e : ("DocumentHouseModel", 994, "second", 184) = q := Option.some.inj hq
  have h : (Term.string "DocumentHouseModel" 994).eval args s none [] s = some (.ref (f 92).1) := he 92 (by decide)
  rw [← e]
  show vk_R "DocumentHouseModel" 994 "second" (zq_ad f 184) s
  rw [show zq_ad f 184 = (f 92).1 from zq_ad0 f 92]
  exact vk_R.of (hts (.stringRef "DocumentHouseModel" 994 "second") (q_lw10 (i := 64) rfl)) h
theorem zq_r93 {s : State} {args : Array Value} {f : Nat → Nat × Nat} (hts : ∀ w ∈ lw_tbl, w.before args s = true) (he : ∀ j, j < 142 → (Term.string (zq_o j).1 (zq_o j).2).eval args s none [] s = some (.ref (f j).1)) : ∀ q, q_strs[93]? = some q → vk_R q.1 q.2.1 q.2.2.1 (zq_ad f q.2.2.2) s := fun q hq => by
  have e : ("DocumentHouseModel", 1005, "$match", 186) = q := Option.some.inj hq
  have h : (Term.string "DocumentHouseModel" 1005).eval args s none [] s = some (.ref (f 93).1) := he 93 (by decide)
  rw [← e]
  show vk_R "DocumentHouseModel" 1005 "$match" (zq_ad f 186) s
  rw [show zq_ad f 186 = (f 93).1 from zq_ad0 f 93]
  exact vk_R.of (hts (.stringRef "DocumentHouseModel" 1005 "$match") (q_lw10 (i := 220) rfl)) h
theorem zq_r94 {s : State} {args : Array Value} {f : Nat → Nat × Nat} (hts : ∀ w ∈ lw_tbl, w.before args s = true) (he : ∀ j, j < 142 → (Term.string (zq_o j).1 (zq_o j).2).eval args s none [] s = some (.ref (f j).1)) : ∀ q, q_strs[94]? = some q → vk_R q.1 q.2.1 q.2.2.1 (zq_ad f q.2.2.2) s := fun q hq => by
  have e : ("DocumentHouseModel", 323, "$and", 188) = q := Option.some.inj hq
  have h : (Term.string "DocumentHouseModel" 323).eval args s none [] s = some (.ref (f 94).1) := he 94 (by decide)
  rw [← e]
  show vk_R "DocumentHouseModel" 323 "$and" (zq_ad f 188) s
  rw [show zq_ad f 188 = (f 94).1 from zq_ad0 f 94]
  exact vk_R.of (hts (.stringRef "DocumentHouseModel" 323 "$and") (q_lw11 (i := 5) rfl)) h
theorem zq_r95 {s : State} {args : Array Value} {f : Nat → Nat × Nat} (hts : ∀ w ∈ lw_tbl, w.before args s = true) (he : ∀ j, j < 142 → (Term.string (zq_o j).1 (zq_o j).2).eval args s none [] s = some (.ref (f j).1)) : ∀ q, q_strs[95]? = some q → vk_R q.1 q.2.1 q.2.2.1 (zq_ad f q.2.2.2) s := fun q hq => by
  have e : ("DocumentHouseModel", 329, "$or", 190) = q := Option.some.inj hq
  have h : (Term.string "DocumentHouseModel" 329).eval args s none [] s = some (.ref (f 95).1) := he 95 (by decide)
  rw [← e]
  show vk_R "DocumentHouseModel" 329 "$or" (zq_ad f 190) s
  rw [show zq_ad f 190 = (f 95).1 from zq_ad0 f 95]
  exact vk_R.of (hts (.stringRef "DocumentHouseModel" 329 "$or") (q_lw11 (i := 6) rfl)) h
theorem zq_r96 {s : State} {args : Array Value} {f : Nat → Nat × Nat} (hts : ∀ w ∈ lw_tbl, w.before args s = true) (he : ∀ j, j < 142 → (Term.string (zq_o j).1 (zq_o j).2).eval args s none [] s = some (.ref (f j).1)) : ∀ q, q_strs[96]? = some q → vk_R q.1 q.2.1 q.2.2.1 (zq_ad f q.2.2.2) s := fun q hq => by
  have e : ("DocumentHouseModel", 331, "$nor", 192) = q := Option.some.inj hq
  have h : (Term.string "DocumentHouseModel" 331).eval args s none [] s = some (.ref (f 96).1) := he 96 (by decide)
  rw [← e]
  show vk_R "DocumentHouseModel" 331 "$nor" (zq_ad f 192) s
  rw [show zq_ad f 192 = (f 96).1 from zq_ad0 f 96]
  exact vk_R.of (hts (.stringRef "DocumentHouseModel" 331 "$nor") (q_lw11 (i := 7) rfl)) h
theorem zq_r97 {s : State} {args : Array Value} {f : Nat → Nat × Nat} (hts : ∀ w ∈ lw_tbl, w.before args s = true) (he : ∀ j, j < 142 → (Term.string (zq_o j).1 (zq_o j).2).eval args s none [] s = some (.ref (f j).1)) : ∀ q, q_strs[97]? = some q → vk_R q.1 q.2.1 q.2.2.1 (zq_ad f q.2.2.2) s := fun q hq => by
  have e : ("DocumentHouseModel", 363, "$eq", 194) = q := Option.some.inj hq
  have h : (Term.string "DocumentHouseModel" 363).eval args s none [] s = some (.ref (f 97).1) := he 97 (by decide)
  rw [← e]
  show vk_R "DocumentHouseModel" 363 "$eq" (zq_ad f 194) s
  rw [show zq_ad f 194 = (f 97).1 from zq_ad0 f 97]
  exact vk_R.of (hts (.stringRef "DocumentHouseModel" 363 "$eq") (q_lw11 (i := 24) rfl)) h
theorem zq_r98 {s : State} {args : Array Value} {f : Nat → Nat × Nat} (hts : ∀ w ∈ lw_tbl, w.before args s = true) (he : ∀ j, j < 142 → (Term.string (zq_o j).1 (zq_o j).2).eval args s none [] s = some (.ref (f j).1)) : ∀ q, q_strs[98]? = some q → vk_R q.1 q.2.1 q.2.2.1 (zq_ad f q.2.2.2) s := fun q hq => by
  have e : ("DocumentHouseModel", 365, "$ne", 196) = q := Option.some.inj hq
  have h : (Term.string "DocumentHouseModel" 365).eval args s none [] s = some (.ref (f 98).1) := he 98 (by decide)
  rw [← e]
  show vk_R "DocumentHouseModel" 365 "$ne" (zq_ad f 196) s
  rw [show zq_ad f 196 = (f 98).1 from zq_ad0 f 98]
  exact vk_R.of (hts (.stringRef "DocumentHouseModel" 365 "$ne") (q_lw11 (i := 25) rfl)) h
theorem zq_r99 {s : State} {args : Array Value} {f : Nat → Nat × Nat} (hts : ∀ w ∈ lw_tbl, w.before args s = true) (he : ∀ j, j < 142 → (Term.string (zq_o j).1 (zq_o j).2).eval args s none [] s = some (.ref (f j).1)) : ∀ q, q_strs[99]? = some q → vk_R q.1 q.2.1 q.2.2.1 (zq_ad f q.2.2.2) s := fun q hq => by
  have e : ("DocumentHouseModel", 367, "$in", 198) = q := Option.some.inj hq
  have h : (Term.string "DocumentHouseModel" 367).eval args s none [] s = some (.ref (f 99).1) := he 99 (by decide)
  rw [← e]
  show vk_R "DocumentHouseModel" 367 "$in" (zq_ad f 198) s
  rw [show zq_ad f 198 = (f 99).1 from zq_ad0 f 99]
  exact vk_R.of (hts (.stringRef "DocumentHouseModel" 367 "$in") (q_lw11 (i := 26) rfl)) h
theorem zq_r100 {s : State} {args : Array Value} {f : Nat → Nat × Nat} (hts : ∀ w ∈ lw_tbl, w.before args s = true) (he : ∀ j, j < 142 → (Term.string (zq_o j).1 (zq_o j).2).eval args s none [] s = some (.ref (f j).1)) : ∀ q, q_strs[100]? = some q → vk_R q.1 q.2.1 q.2.2.1 (zq_ad f q.2.2.2) s := fun q hq => by
  have e : ("DocumentHouseModel", 369, "$nin", 200) = q := Option.some.inj hq
  have h : (Term.string "DocumentHouseModel" 369).eval args s none [] s = some (.ref (f 100).1) := he 100 (by decide)
  rw [← e]
  show vk_R "DocumentHouseModel" 369 "$nin" (zq_ad f 200) s
  rw [show zq_ad f 200 = (f 100).1 from zq_ad0 f 100]
  exact vk_R.of (hts (.stringRef "DocumentHouseModel" 369 "$nin") (q_lw11 (i := 27) rfl)) h
theorem zq_r101 {s : State} {args : Array Value} {f : Nat → Nat × Nat} (hts : ∀ w ∈ lw_tbl, w.before args s = true) (he : ∀ j, j < 142 → (Term.string (zq_o j).1 (zq_o j).2).eval args s none [] s = some (.ref (f j).1)) : ∀ q, q_strs[101]? = some q → vk_R q.1 q.2.1 q.2.2.1 (zq_ad f q.2.2.2) s := fun q hq => by
  have e : ("DocumentHouseModel", 371, "$lt", 202) = q := Option.some.inj hq
  have h : (Term.string "DocumentHouseModel" 371).eval args s none [] s = some (.ref (f 101).1) := he 101 (by decide)
  rw [← e]
  show vk_R "DocumentHouseModel" 371 "$lt" (zq_ad f 202) s
  rw [show zq_ad f 202 = (f 101).1 from zq_ad0 f 101]
  exact vk_R.of (hts (.stringRef "DocumentHouseModel" 371 "$lt") (q_lw11 (i := 28) rfl)) h
theorem zq_r102 {s : State} {args : Array Value} {f : Nat → Nat × Nat} (hts : ∀ w ∈ lw_tbl, w.before args s = true) (he : ∀ j, j < 142 → (Term.string (zq_o j).1 (zq_o j).2).eval args s none [] s = some (.ref (f j).1)) : ∀ q, q_strs[102]? = some q → vk_R q.1 q.2.1 q.2.2.1 (zq_ad f q.2.2.2) s := fun q hq => by
  have e : ("DocumentHouseModel", 373, "$lte", 204) = q := Option.some.inj hq
  have h : (Term.string "DocumentHouseModel" 373).eval args s none [] s = some (.ref (f 102).1) := he 102 (by decide)
  rw [← e]
  show vk_R "DocumentHouseModel" 373 "$lte" (zq_ad f 204) s
  rw [show zq_ad f 204 = (f 102).1 from zq_ad0 f 102]
  exact vk_R.of (hts (.stringRef "DocumentHouseModel" 373 "$lte") (q_lw11 (i := 29) rfl)) h
theorem zq_r103 {s : State} {args : Array Value} {f : Nat → Nat × Nat} (hts : ∀ w ∈ lw_tbl, w.before args s = true) (he : ∀ j, j < 142 → (Term.string (zq_o j).1 (zq_o j).2).eval args s none [] s = some (.ref (f j).1)) : ∀ q, q_strs[103]? = some q → vk_R q.1 q.2.1 q.2.2.1 (zq_ad f q.2.2.2) s := fun q hq => by
  have e : ("DocumentHouseModel", 375, "$gt", 206) = q := Option.some.inj hq
  have h : (Term.string "DocumentHouseModel" 375).eval args s none [] s = some (.ref (f 103).1) := he 103 (by decide)
  rw [← e]
  show vk_R "DocumentHouseModel" 375 "$gt" (zq_ad f 206) s
  rw [show zq_ad f 206 = (f 103).1 from zq_ad0 f 103]
  exact vk_R.of (hts (.stringRef "DocumentHouseModel" 375 "$gt") (q_lw11 (i := 30) rfl)) h
theorem zq_r104 {s : State} {args : Array Value} {f : Nat → Nat × Nat} (hts : ∀ w ∈ lw_tbl, w.before args s = true) (he : ∀ j, j < 142 → (Term.string (zq_o j).1 (zq_o j).2).eval args s none [] s = some (.ref (f j).1)) : ∀ q, q_strs[104]? = some q → vk_R q.1 q.2.1 q.2.2.1 (zq_ad f q.2.2.2) s := fun q hq => by
  have e : ("DocumentHouseModel", 377, "$gte", 208) = q := Option.some.inj hq
  have h : (Term.string "DocumentHouseModel" 377).eval args s none [] s = some (.ref (f 104).1) := he 104 (by decide)
  rw [← e]
  show vk_R "DocumentHouseModel" 377 "$gte" (zq_ad f 208) s
  rw [show zq_ad f 208 = (f 104).1 from zq_ad0 f 104]
  exact vk_R.of (hts (.stringRef "DocumentHouseModel" 377 "$gte") (q_lw11 (i := 31) rfl)) h
theorem zq_r105 {s : State} {args : Array Value} {f : Nat → Nat × Nat} (hts : ∀ w ∈ lw_tbl, w.before args s = true) (he : ∀ j, j < 142 → (Term.string (zq_o j).1 (zq_o j).2).eval args s none [] s = some (.ref (f j).1)) : ∀ q, q_strs[105]? = some q → vk_R q.1 q.2.1 q.2.2.1 (zq_ad f q.2.2.2) s := fun q hq => by
  have e : ("DocumentHouseModel", 379, "$exists", 210) = q := Option.some.inj hq
  have h : (Term.string "DocumentHouseModel" 379).eval args s none [] s = some (.ref (f 105).1) := he 105 (by decide)
  rw [← e]
  show vk_R "DocumentHouseModel" 379 "$exists" (zq_ad f 210) s
  rw [show zq_ad f 210 = (f 105).1 from zq_ad0 f 105]
  exact vk_R.of (hts (.stringRef "DocumentHouseModel" 379 "$exists") (q_lw11 (i := 32) rfl)) h
theorem zq_r106 {s : State} {args : Array Value} {f : Nat → Nat × Nat} (hts : ∀ w ∈ lw_tbl, w.before args s = true) (he : ∀ j, j < 142 → (Term.string (zq_o j).1 (zq_o j).2).eval args s none [] s = some (.ref (f j).1)) : ∀ q, q_strs[106]? = some q → vk_R q.1 q.2.1 q.2.2.1 (zq_ad f q.2.2.2) s := fun q hq => by
  have e : ("DocumentHouseModel", 381, "$size", 212) = q := Option.some.inj hq
  have h : (Term.string "DocumentHouseModel" 381).eval args s none [] s = some (.ref (f 106).1) := he 106 (by decide)
  rw [← e]
  show vk_R "DocumentHouseModel" 381 "$size" (zq_ad f 212) s
  rw [show zq_ad f 212 = (f 106).1 from zq_ad0 f 106]
  exact vk_R.of (hts (.stringRef "DocumentHouseModel" 381 "$size") (q_lw11 (i := 33) rfl)) h
theorem zq_r107 {s : State} {args : Array Value} {f : Nat → Nat × Nat} (hts : ∀ w ∈ lw_tbl, w.before args s = true) (he : ∀ j, j < 142 → (Term.string (zq_o j).1 (zq_o j).2).eval args s none [] s = some (.ref (f j).1)) : ∀ q, q_strs[107]? = some q → vk_R q.1 q.2.1 q.2.2.1 (zq_ad f q.2.2.2) s := fun q hq => by
  have e : ("DocumentHouseModel", 383, "$elem", 214) = q := Option.some.inj hq
  have h : (Term.string "DocumentHouseModel" 383).eval args s none [] s = some (.ref (f 107).1) := he 107 (by decide)
  rw [← e]
  show vk_R "DocumentHouseModel" 383 "$elem" (zq_ad f 214) s
  rw [show zq_ad f 214 = (f 107).1 from zq_ad0 f 107]
  exact vk_R.of (hts (.stringRef "DocumentHouseModel" 383 "$elem") (q_lw11 (i := 34) rfl)) h
theorem zq_r108 {s : State} {args : Array Value} {f : Nat → Nat × Nat} (hts : ∀ w ∈ lw_tbl, w.before args s = true) (he : ∀ j, j < 142 → (Term.string (zq_o j).1 (zq_o j).2).eval args s none [] s = some (.ref (f j).1)) : ∀ q, q_strs[108]? = some q → vk_R q.1 q.2.1 q.2.2.1 (zq_ad f q.2.2.2) s := fun q hq => by
  have e : ("DocumentHouseModel", 385, "$not", 216) = q := Option.some.inj hq
  have h : (Term.string "DocumentHouseModel" 385).eval args s none [] s = some (.ref (f 108).1) := he 108 (by decide)
  rw [← e]
  show vk_R "DocumentHouseModel" 385 "$not" (zq_ad f 216) s
  rw [show zq_ad f 216 = (f 108).1 from zq_ad0 f 108]
  exact vk_R.of (hts (.stringRef "DocumentHouseModel" 385 "$not") (q_lw11 (i := 35) rfl)) h
theorem zq_r109 {s : State} {args : Array Value} {f : Nat → Nat × Nat} (hts : ∀ w ∈ lw_tbl, w.before args s = true) (he : ∀ j, j < 142 → (Term.string (zq_o j).1 (zq_o j).2).eval args s none [] s = some (.ref (f j).1)) : ∀ q, q_strs[109]? = some q → vk_R q.1 q.2.1 q.2.2.1 (zq_ad f q.2.2.2) s := fun q hq => by
  have e : ("DocumentHouseModel", 554, "$project", 218) = q := Option.some.inj hq
  have h : (Term.string "DocumentHouseModel" 554).eval args s none [] s = some (.ref (f 109).1) := he 109 (by decide)
  rw [← e]
  show vk_R "DocumentHouseModel" 554 "$project" (zq_ad f 218) s
  rw [show zq_ad f 218 = (f 109).1 from zq_ad0 f 109]
  exact vk_R.of (hts (.stringRef "DocumentHouseModel" 554 "$project") (q_lw11 (i := 84) rfl)) h
theorem zq_r110 {s : State} {args : Array Value} {f : Nat → Nat × Nat} (hts : ∀ w ∈ lw_tbl, w.before args s = true) (he : ∀ j, j < 142 → (Term.string (zq_o j).1 (zq_o j).2).eval args s none [] s = some (.ref (f j).1)) : ∀ q, q_strs[110]? = some q → vk_R q.1 q.2.1 q.2.2.1 (zq_ad f q.2.2.2) s := fun q hq => by
  have e : ("DocumentHouseModel", 559, "$unwind", 220) = q := Option.some.inj hq
  have h : (Term.string "DocumentHouseModel" 559).eval args s none [] s = some (.ref (f 110).1) := he 110 (by decide)
  rw [← e]
  show vk_R "DocumentHouseModel" 559 "$unwind" (zq_ad f 220) s
  rw [show zq_ad f 220 = (f 110).1 from zq_ad0 f 110]
  exact vk_R.of (hts (.stringRef "DocumentHouseModel" 559 "$unwind") (q_lw11 (i := 101) rfl)) h
theorem zq_r111 {s : State} {args : Array Value} {f : Nat → Nat × Nat} (hts : ∀ w ∈ lw_tbl, w.before args s = true) (he : ∀ j, j < 142 → (Term.string (zq_o j).1 (zq_o j).2).eval args s none [] s = some (.ref (f j).1)) : ∀ q, q_strs[111]? = some q → vk_R q.1 q.2.1 q.2.2.1 (zq_ad f q.2.2.2) s := fun q hq => by
  have e : ("DocumentHouseModel", 564, "$group", 222) = q := Option.some.inj hq
  have h : (Term.string "DocumentHouseModel" 564).eval args s none [] s = some (.ref (f 111).1) := he 111 (by decide)
  rw [← e]
  show vk_R "DocumentHouseModel" 564 "$group" (zq_ad f 222) s
  rw [show zq_ad f 222 = (f 111).1 from zq_ad0 f 111]
  exact vk_R.of (hts (.stringRef "DocumentHouseModel" 564 "$group") (q_lw11 (i := 102) rfl)) h
theorem zq_r112 {s : State} {args : Array Value} {f : Nat → Nat × Nat} (hts : ∀ w ∈ lw_tbl, w.before args s = true) (he : ∀ j, j < 142 → (Term.string (zq_o j).1 (zq_o j).2).eval args s none [] s = some (.ref (f j).1)) : ∀ q, q_strs[112]? = some q → vk_R q.1 q.2.1 q.2.2.1 (zq_ad f q.2.2.2) s := fun q hq => by
  have e : ("DocumentHouseModel", 598, "by", 224) = q := Option.some.inj hq
  have h : (Term.string "DocumentHouseModel" 598).eval args s none [] s = some (.ref (f 112).1) := he 112 (by decide)
  rw [← e]
  show vk_R "DocumentHouseModel" 598 "by" (zq_ad f 224) s
  rw [show zq_ad f 224 = (f 112).1 from zq_ad0 f 112]
  exact vk_R.of (hts (.stringRef "DocumentHouseModel" 598 "by") (q_lw11 (i := 107) rfl)) h
theorem zq_r113 {s : State} {args : Array Value} {f : Nat → Nat × Nat} (hts : ∀ w ∈ lw_tbl, w.before args s = true) (he : ∀ j, j < 142 → (Term.string (zq_o j).1 (zq_o j).2).eval args s none [] s = some (.ref (f j).1)) : ∀ q, q_strs[113]? = some q → vk_R q.1 q.2.1 q.2.2.1 (zq_ad f q.2.2.2) s := fun q hq => by
  have e : ("DocumentHouseModel", 586, "$sum", 226) = q := Option.some.inj hq
  have h : (Term.string "DocumentHouseModel" 586).eval args s none [] s = some (.ref (f 113).1) := he 113 (by decide)
  rw [← e]
  show vk_R "DocumentHouseModel" 586 "$sum" (zq_ad f 226) s
  rw [show zq_ad f 226 = (f 113).1 from zq_ad0 f 113]
  exact vk_R.of (hts (.stringRef "DocumentHouseModel" 586 "$sum") (q_lw11 (i := 112) rfl)) h
theorem zq_r114 {s : State} {args : Array Value} {f : Nat → Nat × Nat} (hts : ∀ w ∈ lw_tbl, w.before args s = true) (he : ∀ j, j < 142 → (Term.string (zq_o j).1 (zq_o j).2).eval args s none [] s = some (.ref (f j).1)) : ∀ q, q_strs[114]? = some q → vk_R q.1 q.2.1 q.2.2.1 (zq_ad f q.2.2.2) s := fun q hq => by
  have e : ("DocumentHouseModel", 588, "$min", 228) = q := Option.some.inj hq
  have h : (Term.string "DocumentHouseModel" 588).eval args s none [] s = some (.ref (f 114).1) := he 114 (by decide)
  rw [← e]
  show vk_R "DocumentHouseModel" 588 "$min" (zq_ad f 228) s
  rw [show zq_ad f 228 = (f 114).1 from zq_ad0 f 114]
  exact vk_R.of (hts (.stringRef "DocumentHouseModel" 588 "$min") (q_lw11 (i := 113) rfl)) h
theorem zq_r115 {s : State} {args : Array Value} {f : Nat → Nat × Nat} (hts : ∀ w ∈ lw_tbl, w.before args s = true) (he : ∀ j, j < 142 → (Term.string (zq_o j).1 (zq_o j).2).eval args s none [] s = some (.ref (f j).1)) : ∀ q, q_strs[115]? = some q → vk_R q.1 q.2.1 q.2.2.1 (zq_ad f q.2.2.2) s := fun q hq => by
  have e : ("DocumentHouseModel", 590, "$max", 230) = q := Option.some.inj hq
  have h : (Term.string "DocumentHouseModel" 590).eval args s none [] s = some (.ref (f 115).1) := he 115 (by decide)
  rw [← e]
  show vk_R "DocumentHouseModel" 590 "$max" (zq_ad f 230) s
  rw [show zq_ad f 230 = (f 115).1 from zq_ad0 f 115]
  exact vk_R.of (hts (.stringRef "DocumentHouseModel" 590 "$max") (q_lw11 (i := 114) rfl)) h
theorem zq_r116 {s : State} {args : Array Value} {f : Nat → Nat × Nat} (hts : ∀ w ∈ lw_tbl, w.before args s = true) (he : ∀ j, j < 142 → (Term.string (zq_o j).1 (zq_o j).2).eval args s none [] s = some (.ref (f j).1)) : ∀ q, q_strs[116]? = some q → vk_R q.1 q.2.1 q.2.2.1 (zq_ad f q.2.2.2) s := fun q hq => by
  have e : ("DocumentHouseModel", 592, "$first", 232) = q := Option.some.inj hq
  have h : (Term.string "DocumentHouseModel" 592).eval args s none [] s = some (.ref (f 116).1) := he 116 (by decide)
  rw [← e]
  show vk_R "DocumentHouseModel" 592 "$first" (zq_ad f 232) s
  rw [show zq_ad f 232 = (f 116).1 from zq_ad0 f 116]
  exact vk_R.of (hts (.stringRef "DocumentHouseModel" 592 "$first") (q_lw11 (i := 115) rfl)) h
theorem zq_r117 {s : State} {args : Array Value} {f : Nat → Nat × Nat} (hts : ∀ w ∈ lw_tbl, w.before args s = true) (he : ∀ j, j < 142 → (Term.string (zq_o j).1 (zq_o j).2).eval args s none [] s = some (.ref (f j).1)) : ∀ q, q_strs[117]? = some q → vk_R q.1 q.2.1 q.2.2.1 (zq_ad f q.2.2.2) s := fun q hq => by
  have e : ("DocumentHouseModel", 594, "$last", 234) = q := Option.some.inj hq
  have h : (Term.string "DocumentHouseModel" 594).eval args s none [] s = some (.ref (f 117).1) := he 117 (by decide)
  rw [← e]
  show vk_R "DocumentHouseModel" 594 "$last" (zq_ad f 234) s
  rw [show zq_ad f 234 = (f 117).1 from zq_ad0 f 117]
  exact vk_R.of (hts (.stringRef "DocumentHouseModel" 594 "$last") (q_lw11 (i := 116) rfl)) h
theorem zq_r118 {s : State} {args : Array Value} {f : Nat → Nat × Nat} (hts : ∀ w ∈ lw_tbl, w.before args s = true) (he : ∀ j, j < 142 → (Term.string (zq_o j).1 (zq_o j).2).eval args s none [] s = some (.ref (f j).1)) : ∀ q, q_strs[118]? = some q → vk_R q.1 q.2.1 q.2.2.1 (zq_ad f q.2.2.2) s := fun q hq => by
  have e : ("DocumentHouseModel", 435, "$push", 236) = q := Option.some.inj hq
  have h : (Term.string "DocumentHouseModel" 435).eval args s none [] s = some (.ref (f 118).1) := he 118 (by decide)
  rw [← e]
  show vk_R "DocumentHouseModel" 435 "$push" (zq_ad f 236) s
  rw [show zq_ad f 236 = (f 118).1 from zq_ad0 f 118]
  exact vk_R.of (hts (.stringRef "DocumentHouseModel" 435 "$push") (q_lw11 (i := 117) rfl)) h
theorem zq_r119 {s : State} {args : Array Value} {f : Nat → Nat × Nat} (hts : ∀ w ∈ lw_tbl, w.before args s = true) (he : ∀ j, j < 142 → (Term.string (zq_o j).1 (zq_o j).2).eval args s none [] s = some (.ref (f j).1)) : ∀ q, q_strs[119]? = some q → vk_R q.1 q.2.1 q.2.2.1 (zq_ad f q.2.2.2) s := fun q hq => by
  have e : ("DocumentHouseModel", 439, "$addToSet", 238) = q := Option.some.inj hq
  have h : (Term.string "DocumentHouseModel" 439).eval args s none [] s = some (.ref (f 119).1) := he 119 (by decide)
  rw [← e]
  show vk_R "DocumentHouseModel" 439 "$addToSet" (zq_ad f 238) s
  rw [show zq_ad f 238 = (f 119).1 from zq_ad0 f 119]
  exact vk_R.of (hts (.stringRef "DocumentHouseModel" 439 "$addToSet") (q_lw11 (i := 118) rfl)) h
theorem zq_r120 {s : State} {args : Array Value} {f : Nat → Nat × Nat} (hts : ∀ w ∈ lw_tbl, w.before args s = true) (he : ∀ j, j < 142 → (Term.string (zq_o j).1 (zq_o j).2).eval args s none [] s = some (.ref (f j).1)) : ∀ q, q_strs[120]? = some q → vk_R q.1 q.2.1 q.2.2.1 (zq_ad f q.2.2.2) s := fun q hq => by
  have e : ("DocumentHouseModel", 596, "$count", 240) = q := Option.some.inj hq
  have h : (Term.string "DocumentHouseModel" 596).eval args s none [] s = some (.ref (f 120).1) := he 120 (by decide)
  rw [← e]
  show vk_R "DocumentHouseModel" 596 "$count" (zq_ad f 240) s
  rw [show zq_ad f 240 = (f 120).1 from zq_ad0 f 120]
  exact vk_R.of (hts (.stringRef "DocumentHouseModel" 596 "$count") (q_lw11 (i := 119) rfl)) h
theorem zq_r121 {s : State} {args : Array Value} {f : Nat → Nat × Nat} (hts : ∀ w ∈ lw_tbl, w.before args s = true) (he : ∀ j, j < 142 → (Term.string (zq_o j).1 (zq_o j).2).eval args s none [] s = some (.ref (f j).1)) : ∀ q, q_strs[121]? = some q → vk_R q.1 q.2.1 q.2.2.1 (zq_ad f q.2.2.2) s := fun q hq => by
  have e : ("DocumentHouseModel", 569, "$sort", 242) = q := Option.some.inj hq
  have h : (Term.string "DocumentHouseModel" 569).eval args s none [] s = some (.ref (f 121).1) := he 121 (by decide)
  rw [← e]
  show vk_R "DocumentHouseModel" 569 "$sort" (zq_ad f 242) s
  rw [show zq_ad f 242 = (f 121).1 from zq_ad0 f 121]
  exact vk_R.of (hts (.stringRef "DocumentHouseModel" 569 "$sort") (q_lw11 (i := 120) rfl)) h
theorem zq_r122 {s : State} {args : Array Value} {f : Nat → Nat × Nat} (hts : ∀ w ∈ lw_tbl, w.before args s = true) (he : ∀ j, j < 142 → (Term.string (zq_o j).1 (zq_o j).2).eval args s none [] s = some (.ref (f j).1)) : ∀ q, q_strs[122]? = some q → vk_R q.1 q.2.1 q.2.2.1 (zq_ad f q.2.2.2) s := fun q hq => by
  have e : ("DocumentHouseModel", 574, "$skip", 244) = q := Option.some.inj hq
  have h : (Term.string "DocumentHouseModel" 574).eval args s none [] s = some (.ref (f 122).1) := he 122 (by decide)
  rw [← e]
  show vk_R "DocumentHouseModel" 574 "$skip" (zq_ad f 244) s
  rw [show zq_ad f 244 = (f 122).1 from zq_ad0 f 122]
  exact vk_R.of (hts (.stringRef "DocumentHouseModel" 574 "$skip") (q_lw11 (i := 126) rfl)) h
theorem zq_r123 {s : State} {args : Array Value} {f : Nat → Nat × Nat} (hts : ∀ w ∈ lw_tbl, w.before args s = true) (he : ∀ j, j < 142 → (Term.string (zq_o j).1 (zq_o j).2).eval args s none [] s = some (.ref (f j).1)) : ∀ q, q_strs[123]? = some q → vk_R q.1 q.2.1 q.2.2.1 (zq_ad f q.2.2.2) s := fun q hq => by
  have e : ("DocumentHouseModel", 576, "$limit", 246) = q := Option.some.inj hq
  have h : (Term.string "DocumentHouseModel" 576).eval args s none [] s = some (.ref (f 123).1) := he 123 (by decide)
  rw [← e]
  show vk_R "DocumentHouseModel" 576 "$limit" (zq_ad f 246) s
  rw [show zq_ad f 246 = (f 123).1 from zq_ad0 f 123]
  exact vk_R.of (hts (.stringRef "DocumentHouseModel" 576 "$limit") (q_lw11 (i := 127) rfl)) h
theorem zq_r124 {s : State} {args : Array Value} {f : Nat → Nat × Nat} (hts : ∀ w ∈ lw_tbl, w.before args s = true) (he : ∀ j, j < 142 → (Term.string (zq_o j).1 (zq_o j).2).eval args s none [] s = some (.ref (f j).1)) : ∀ q, q_strs[124]? = some q → vk_R q.1 q.2.1 q.2.2.1 (zq_ad f q.2.2.2) s := fun q hq => by
  have e : ("DocumentHouseModel", 578, "$lookup", 248) = q := Option.some.inj hq
  have h : (Term.string "DocumentHouseModel" 578).eval args s none [] s = some (.ref (f 124).1) := he 124 (by decide)
  rw [← e]
  show vk_R "DocumentHouseModel" 578 "$lookup" (zq_ad f 248) s
  rw [show zq_ad f 248 = (f 124).1 from zq_ad0 f 124]
  exact vk_R.of (hts (.stringRef "DocumentHouseModel" 578 "$lookup") (q_lw11 (i := 128) rfl)) h
theorem zq_r125 {s : State} {args : Array Value} {f : Nat → Nat × Nat} (hts : ∀ w ∈ lw_tbl, w.before args s = true) (he : ∀ j, j < 142 → (Term.string (zq_o j).1 (zq_o j).2).eval args s none [] s = some (.ref (f j).1)) : ∀ q, q_strs[125]? = some q → vk_R q.1 q.2.1 q.2.2.1 (zq_ad f q.2.2.2) s := fun q hq => by
  have e : ("DocumentHouseModel", 605, "here", 250) = q := Option.some.inj hq
  have h : (Term.string "DocumentHouseModel" 605).eval args s none [] s = some (.ref (f 125).1) := he 125 (by decide)
  rw [← e]
  show vk_R "DocumentHouseModel" 605 "here" (zq_ad f 250) s
  rw [show zq_ad f 250 = (f 125).1 from zq_ad0 f 125]
  exact vk_R.of (hts (.stringRef "DocumentHouseModel" 605 "here") (q_lw11 (i := 133) rfl)) h
theorem zq_r126 {s : State} {args : Array Value} {f : Nat → Nat × Nat} (hts : ∀ w ∈ lw_tbl, w.before args s = true) (he : ∀ j, j < 142 → (Term.string (zq_o j).1 (zq_o j).2).eval args s none [] s = some (.ref (f j).1)) : ∀ q, q_strs[126]? = some q → vk_R q.1 q.2.1 q.2.2.1 (zq_ad f q.2.2.2) s := fun q hq => by
  have e : ("DocumentHouseModel", 607, "there", 252) = q := Option.some.inj hq
  have h : (Term.string "DocumentHouseModel" 607).eval args s none [] s = some (.ref (f 126).1) := he 126 (by decide)
  rw [← e]
  show vk_R "DocumentHouseModel" 607 "there" (zq_ad f 252) s
  rw [show zq_ad f 252 = (f 126).1 from zq_ad0 f 126]
  exact vk_R.of (hts (.stringRef "DocumentHouseModel" 607 "there") (q_lw11 (i := 134) rfl)) h
theorem zq_r127 {s : State} {args : Array Value} {f : Nat → Nat × Nat} (hts : ∀ w ∈ lw_tbl, w.before args s = true) (he : ∀ j, j < 142 → (Term.string (zq_o j).1 (zq_o j).2).eval args s none [] s = some (.ref (f j).1)) : ∀ q, q_strs[127]? = some q → vk_R q.1 q.2.1 q.2.2.1 (zq_ad f q.2.2.2) s := fun q hq => by
  have e : ("DocumentHouseModel", 608, "as", 254) = q := Option.some.inj hq
  have h : (Term.string "DocumentHouseModel" 608).eval args s none [] s = some (.ref (f 127).1) := he 127 (by decide)
  rw [← e]
  show vk_R "DocumentHouseModel" 608 "as" (zq_ad f 254) s
  rw [show zq_ad f 254 = (f 127).1 from zq_ad0 f 127]
  exact vk_R.of (hts (.stringRef "DocumentHouseModel" 608 "as") (q_lw11 (i := 135) rfl)) h
theorem zq_r128 {s : State} {args : Array Value} {f : Nat → Nat × Nat} (hts : ∀ w ∈ lw_tbl, w.before args s = true) (he : ∀ j, j < 142 → (Term.string (zq_o j).1 (zq_o j).2).eval args s none [] s = some (.ref (f j).1)) : ∀ q, q_strs[128]? = some q → vk_R q.1 q.2.1 q.2.2.1 (zq_ad f q.2.2.2) s := fun q hq => by
  have e : ("DocumentHouseModel", 943, "many", 256) = q := Option.some.inj hq
  have h : (Term.string "DocumentHouseModel" 943).eval args s none [] s = some (.ref (f 128).1) := he 128 (by decide)
  rw [← e]
  show vk_R "DocumentHouseModel" 943 "many" (zq_ad f 256) s
  rw [show zq_ad f 256 = (f 128).1 from zq_ad0 f 128]
  exact vk_R.of (hts (.stringRef "DocumentHouseModel" 943 "many") (q_lw12 (i := 25) rfl)) h
theorem zq_r129 {s : State} {args : Array Value} {f : Nat → Nat × Nat} (hts : ∀ w ∈ lw_tbl, w.before args s = true) (he : ∀ j, j < 142 → (Term.string (zq_o j).1 (zq_o j).2).eval args s none [] s = some (.ref (f j).1)) : ∀ q, q_strs[129]? = some q → vk_R q.1 q.2.1 q.2.2.1 (zq_ad f q.2.2.2) s := fun q hq => by
  have e : ("DocumentHouseModel", 958, "found", 258) = q := Option.some.inj hq
  have h : (Term.string "DocumentHouseModel" 958).eval args s none [] s = some (.ref (f 129).1) := he 129 (by decide)
  rw [← e]
  show vk_R "DocumentHouseModel" 958 "found" (zq_ad f 258) s
  rw [show zq_ad f 258 = (f 129).1 from zq_ad0 f 129]
  exact vk_R.of (hts (.stringRef "DocumentHouseModel" 958 "found") (q_lw12 (i := 26) rfl)) h
theorem zq_r130 {s : State} {args : Array Value} {f : Nat → Nat × Nat} (hts : ∀ w ∈ lw_tbl, w.before args s = true) (he : ∀ j, j < 142 → (Term.string (zq_o j).1 (zq_o j).2).eval args s none [] s = some (.ref (f j).1)) : ∀ q, q_strs[130]? = some q → vk_R q.1 q.2.1 q.2.2.1 (zq_ad f q.2.2.2) s := fun q hq => by
  have e : ("DocumentHouseModel", 959, "number", 260) = q := Option.some.inj hq
  have h : (Term.string "DocumentHouseModel" 959).eval args s none [] s = some (.ref (f 130).1) := he 130 (by decide)
  rw [← e]
  show vk_R "DocumentHouseModel" 959 "number" (zq_ad f 260) s
  rw [show zq_ad f 260 = (f 130).1 from zq_ad0 f 130]
  exact vk_R.of (hts (.stringRef "DocumentHouseModel" 959 "number") (q_lw12 (i := 31) rfl)) h
theorem zq_r131 {s : State} {args : Array Value} {f : Nat → Nat × Nat} (hts : ∀ w ∈ lw_tbl, w.before args s = true) (he : ∀ j, j < 142 → (Term.string (zq_o j).1 (zq_o j).2).eval args s none [] s = some (.ref (f j).1)) : ∀ q, q_strs[131]? = some q → vk_R q.1 q.2.1 q.2.2.1 (zq_ad f q.2.2.2) s := fun q hq => by
  have e : ("DocumentHouseModel", 1001, "rank", 262) = q := Option.some.inj hq
  have h : (Term.string "DocumentHouseModel" 1001).eval args s none [] s = some (.ref (f 131).1) := he 131 (by decide)
  rw [← e]
  show vk_R "DocumentHouseModel" 1001 "rank" (zq_ad f 262) s
  rw [show zq_ad f 262 = (f 131).1 from zq_ad0 f 131]
  exact vk_R.of (hts (.stringRef "DocumentHouseModel" 1001 "rank") (q_lw12 (i := 98) rfl)) h
theorem zq_r132 {s : State} {args : Array Value} {f : Nat → Nat × Nat} (hts : ∀ w ∈ lw_tbl, w.before args s = true) (he : ∀ j, j < 142 → (Term.string (zq_o j).1 (zq_o j).2).eval args s none [] s = some (.ref (f j).1)) : ∀ q, q_strs[132]? = some q → vk_R q.1 q.2.1 q.2.2.1 (zq_ad f q.2.2.2) s := fun q hq => by
  have e : ("DocumentHouseModel", 1002, "ranges", 264) = q := Option.some.inj hq
  have h : (Term.string "DocumentHouseModel" 1002).eval args s none [] s = some (.ref (f 132).1) := he 132 (by decide)
  rw [← e]
  show vk_R "DocumentHouseModel" 1002 "ranges" (zq_ad f 264) s
  rw [show zq_ad f 264 = (f 132).1 from zq_ad0 f 132]
  exact vk_R.of (hts (.stringRef "DocumentHouseModel" 1002 "ranges") (q_lw12 (i := 99) rfl)) h
theorem zq_r133 {s : State} {args : Array Value} {f : Nat → Nat × Nat} (hts : ∀ w ∈ lw_tbl, w.before args s = true) (he : ∀ j, j < 142 → (Term.string (zq_o j).1 (zq_o j).2).eval args s none [] s = some (.ref (f j).1)) : ∀ q, q_strs[133]? = some q → vk_R q.1 q.2.1 q.2.2.1 (zq_ad f q.2.2.2) s := fun q hq => by
  have e : ("DocumentHouseModel", 1003, "looked", 266) = q := Option.some.inj hq
  have h : (Term.string "DocumentHouseModel" 1003).eval args s none [] s = some (.ref (f 133).1) := he 133 (by decide)
  rw [← e]
  show vk_R "DocumentHouseModel" 1003 "looked" (zq_ad f 266) s
  rw [show zq_ad f 266 = (f 133).1 from zq_ad0 f 133]
  exact vk_R.of (hts (.stringRef "DocumentHouseModel" 1003 "looked") (q_lw12 (i := 100) rfl)) h
theorem zq_r134 {s : State} {args : Array Value} {f : Nat → Nat × Nat} (hts : ∀ w ∈ lw_tbl, w.before args s = true) (he : ∀ j, j < 142 → (Term.string (zq_o j).1 (zq_o j).2).eval args s none [] s = some (.ref (f j).1)) : ∀ q, q_strs[134]? = some q → vk_R q.1 q.2.1 q.2.2.1 (zq_ad f q.2.2.2) s := fun q hq => by
  have e : ("DocumentHouseModel", 429, "$set", 268) = q := Option.some.inj hq
  have h : (Term.string "DocumentHouseModel" 429).eval args s none [] s = some (.ref (f 134).1) := he 134 (by decide)
  rw [← e]
  show vk_R "DocumentHouseModel" 429 "$set" (zq_ad f 268) s
  rw [show zq_ad f 268 = (f 134).1 from zq_ad0 f 134]
  exact vk_R.of (hts (.stringRef "DocumentHouseModel" 429 "$set") (q_lw12 (i := 113) rfl)) h
theorem zq_r135 {s : State} {args : Array Value} {f : Nat → Nat × Nat} (hts : ∀ w ∈ lw_tbl, w.before args s = true) (he : ∀ j, j < 142 → (Term.string (zq_o j).1 (zq_o j).2).eval args s none [] s = some (.ref (f j).1)) : ∀ q, q_strs[135]? = some q → vk_R q.1 q.2.1 q.2.2.1 (zq_ad f q.2.2.2) s := fun q hq => by
  have e : ("DocumentHouseModel", 431, "$unset", 270) = q := Option.some.inj hq
  have h : (Term.string "DocumentHouseModel" 431).eval args s none [] s = some (.ref (f 135).1) := he 135 (by decide)
  rw [← e]
  show vk_R "DocumentHouseModel" 431 "$unset" (zq_ad f 270) s
  rw [show zq_ad f 270 = (f 135).1 from zq_ad0 f 135]
  exact vk_R.of (hts (.stringRef "DocumentHouseModel" 431 "$unset") (q_lw12 (i := 114) rfl)) h
theorem zq_r136 {s : State} {args : Array Value} {f : Nat → Nat × Nat} (hts : ∀ w ∈ lw_tbl, w.before args s = true) (he : ∀ j, j < 142 → (Term.string (zq_o j).1 (zq_o j).2).eval args s none [] s = some (.ref (f j).1)) : ∀ q, q_strs[136]? = some q → vk_R q.1 q.2.1 q.2.2.1 (zq_ad f q.2.2.2) s := fun q hq => by
  have e : ("DocumentHouseModel", 433, "$inc", 272) = q := Option.some.inj hq
  have h : (Term.string "DocumentHouseModel" 433).eval args s none [] s = some (.ref (f 136).1) := he 136 (by decide)
  rw [← e]
  show vk_R "DocumentHouseModel" 433 "$inc" (zq_ad f 272) s
  rw [show zq_ad f 272 = (f 136).1 from zq_ad0 f 136]
  exact vk_R.of (hts (.stringRef "DocumentHouseModel" 433 "$inc") (q_lw12 (i := 115) rfl)) h
theorem zq_r137 {s : State} {args : Array Value} {f : Nat → Nat × Nat} (hts : ∀ w ∈ lw_tbl, w.before args s = true) (he : ∀ j, j < 142 → (Term.string (zq_o j).1 (zq_o j).2).eval args s none [] s = some (.ref (f j).1)) : ∀ q, q_strs[137]? = some q → vk_R q.1 q.2.1 q.2.2.1 (zq_ad f q.2.2.2) s := fun q hq => by
  have e : ("DocumentHouseModel", 437, "$pull", 274) = q := Option.some.inj hq
  have h : (Term.string "DocumentHouseModel" 437).eval args s none [] s = some (.ref (f 137).1) := he 137 (by decide)
  rw [← e]
  show vk_R "DocumentHouseModel" 437 "$pull" (zq_ad f 274) s
  rw [show zq_ad f 274 = (f 137).1 from zq_ad0 f 137]
  exact vk_R.of (hts (.stringRef "DocumentHouseModel" 437 "$pull") (q_lw12 (i := 116) rfl)) h
theorem zq_r138 {s : State} {args : Array Value} {f : Nat → Nat × Nat} (hts : ∀ w ∈ lw_tbl, w.before args s = true) (he : ∀ j, j < 142 → (Term.string (zq_o j).1 (zq_o j).2).eval args s none [] s = some (.ref (f j).1)) : ∀ q, q_strs[138]? = some q → vk_R q.1 q.2.1 q.2.2.1 (zq_ad f q.2.2.2) s := fun q hq => by
  have e : ("DocumentHouseModel", 973, "changed", 276) = q := Option.some.inj hq
  have h : (Term.string "DocumentHouseModel" 973).eval args s none [] s = some (.ref (f 138).1) := he 138 (by decide)
  rw [← e]
  show vk_R "DocumentHouseModel" 973 "changed" (zq_ad f 276) s
  rw [show zq_ad f 276 = (f 138).1 from zq_ad0 f 138]
  exact vk_R.of (hts (.stringRef "DocumentHouseModel" 973 "changed") (q_lw12 (i := 188) rfl)) h
theorem zq_r139 {s : State} {args : Array Value} {f : Nat → Nat × Nat} (hts : ∀ w ∈ lw_tbl, w.before args s = true) (he : ∀ j, j < 142 → (Term.string (zq_o j).1 (zq_o j).2).eval args s none [] s = some (.ref (f j).1)) : ∀ q, q_strs[139]? = some q → vk_R q.1 q.2.1 q.2.2.1 (zq_ad f q.2.2.2) s := fun q hq => by
  have e : ("DocumentHouseModel", 960, "is", 278) = q := Option.some.inj hq
  have h : (Term.string "DocumentHouseModel" 960).eval args s none [] s = some (.ref (f 139).1) := he 139 (by decide)
  rw [← e]
  show vk_R "DocumentHouseModel" 960 "is" (zq_ad f 278) s
  rw [show zq_ad f 278 = (f 139).1 from zq_ad0 f 139]
  exact vk_R.of (hts (.stringRef "DocumentHouseModel" 960 "is") (q_lw12 (i := 193) rfl)) h
theorem zq_r140 {s : State} {args : Array Value} {f : Nat → Nat × Nat} (hts : ∀ w ∈ lw_tbl, w.before args s = true) (he : ∀ j, j < 142 → (Term.string (zq_o j).1 (zq_o j).2).eval args s none [] s = some (.ref (f j).1)) : ∀ q, q_strs[140]? = some q → vk_R q.1 q.2.1 q.2.2.1 (zq_ad f q.2.2.2) s := fun q hq => by
  have e : ("DocumentHouseModel", 1025, "fault", 280) = q := Option.some.inj hq
  have h : (Term.string "DocumentHouseModel" 1025).eval args s none [] s = some (.ref (f 140).1) := he 140 (by decide)
  rw [← e]
  show vk_R "DocumentHouseModel" 1025 "fault" (zq_ad f 280) s
  rw [show zq_ad f 280 = (f 140).1 from zq_ad0 f 140]
  exact vk_R.of (hts (.stringRef "DocumentHouseModel" 1025 "fault") (q_lw12 (i := 198) rfl)) h
theorem zq_r141 {s : State} {args : Array Value} {f : Nat → Nat × Nat} (hts : ∀ w ∈ lw_tbl, w.before args s = true) (he : ∀ j, j < 142 → (Term.string (zq_o j).1 (zq_o j).2).eval args s none [] s = some (.ref (f j).1)) : ∀ q, q_strs[141]? = some q → vk_R q.1 q.2.1 q.2.2.1 (zq_ad f q.2.2.2) s := fun q hq => by
  have e : ("DocumentHouseModel", 1026, "place", 282) = q := Option.some.inj hq
  have h : (Term.string "DocumentHouseModel" 1026).eval args s none [] s = some (.ref (f 141).1) := he 141 (by decide)
  rw [← e]
  show vk_R "DocumentHouseModel" 1026 "place" (zq_ad f 282) s
  rw [show zq_ad f 282 = (f 141).1 from zq_ad0 f 141]
  exact vk_R.of (hts (.stringRef "DocumentHouseModel" 1026 "place") (q_lw12 (i := 199) rfl)) h
theorem zq_ra {s : State} {args : Array Value} {f : Nat → Nat × Nat} (hts : ∀ w ∈ lw_tbl, w.before args s = true) (he : ∀ j, j < 142 → (Term.string (zq_o j).1 (zq_o j).2).eval args s none [] s = some (.ref (f j).1)) : ∀ j, j < 142 → ∀ q, q_strs[j]? = some q → vk_R q.1 q.2.1 q.2.2.1 (zq_ad f q.2.2.2) s
  | 0, _ => zq_r0 hts he
  | 1, _ => zq_r1 hts he
  | 2, _ => zq_r2 hts he
  | 3, _ => zq_r3 hts he
  | 4, _ => zq_r4 hts he
  | 5, _ => zq_r5 hts he
  | 6, _ => zq_r6 hts he
  | 7, _ => zq_r7 hts he
  | 8, _ => zq_r8 hts he
  | 9, _ => zq_r9 hts he
  | 10, _ => zq_r10 hts he
  | 11, _ => zq_r11 hts he
  | 12, _ => zq_r12 hts he
  | 13, _ => zq_r13 hts he
  | 14, _ => zq_r14 hts he
  | 15, _ => zq_r15 hts he
  | 16, _ => zq_r16 hts he
  | 17, _ => zq_r17 hts he
  | 18, _ => zq_r18 hts he
  | 19, _ => zq_r19 hts he
  | 20, _ => zq_r20 hts he
  | 21, _ => zq_r21 hts he
  | 22, _ => zq_r22 hts he
  | 23, _ => zq_r23 hts he
  | 24, _ => zq_r24 hts he
  | 25, _ => zq_r25 hts he
  | 26, _ => zq_r26 hts he
  | 27, _ => zq_r27 hts he
  | 28, _ => zq_r28 hts he
  | 29, _ => zq_r29 hts he
  | 30, _ => zq_r30 hts he
  | 31, _ => zq_r31 hts he
  | 32, _ => zq_r32 hts he
  | 33, _ => zq_r33 hts he
  | 34, _ => zq_r34 hts he
  | 35, _ => zq_r35 hts he
  | 36, _ => zq_r36 hts he
  | 37, _ => zq_r37 hts he
  | 38, _ => zq_r38 hts he
  | 39, _ => zq_r39 hts he
  | 40, _ => zq_r40 hts he
  | 41, _ => zq_r41 hts he
  | 42, _ => zq_r42 hts he
  | 43, _ => zq_r43 hts he
  | 44, _ => zq_r44 hts he
  | 45, _ => zq_r45 hts he
  | 46, _ => zq_r46 hts he
  | 47, _ => zq_r47 hts he
  | 48, _ => zq_r48 hts he
  | 49, _ => zq_r49 hts he
  | 50, _ => zq_r50 hts he
  | 51, _ => zq_r51 hts he
  | 52, _ => zq_r52 hts he
  | 53, _ => zq_r53 hts he
  | 54, _ => zq_r54 hts he
  | 55, _ => zq_r55 hts he
  | 56, _ => zq_r56 hts he
  | 57, _ => zq_r57 hts he
  | 58, _ => zq_r58 hts he
  | 59, _ => zq_r59 hts he
  | 60, _ => zq_r60 hts he
  | 61, _ => zq_r61 hts he
  | 62, _ => zq_r62 hts he
  | 63, _ => zq_r63 hts he
  | 64, _ => zq_r64 hts he
  | 65, _ => zq_r65 hts he
  | 66, _ => zq_r66 hts he
  | 67, _ => zq_r67 hts he
  | 68, _ => zq_r68 hts he
  | 69, _ => zq_r69 hts he
  | 70, _ => zq_r70 hts he
  | 71, _ => zq_r71 hts he
  | 72, _ => zq_r72 hts he
  | 73, _ => zq_r73 hts he
  | 74, _ => zq_r74 hts he
  | 75, _ => zq_r75 hts he
  | 76, _ => zq_r76 hts he
  | 77, _ => zq_r77 hts he
  | 78, _ => zq_r78 hts he
  | 79, _ => zq_r79 hts he
  | 80, _ => zq_r80 hts he
  | 81, _ => zq_r81 hts he
  | 82, _ => zq_r82 hts he
  | 83, _ => zq_r83 hts he
  | 84, _ => zq_r84 hts he
  | 85, _ => zq_r85 hts he
  | 86, _ => zq_r86 hts he
  | 87, _ => zq_r87 hts he
  | 88, _ => zq_r88 hts he
  | 89, _ => zq_r89 hts he
  | 90, _ => zq_r90 hts he
  | 91, _ => zq_r91 hts he
  | 92, _ => zq_r92 hts he
  | 93, _ => zq_r93 hts he
  | 94, _ => zq_r94 hts he
  | 95, _ => zq_r95 hts he
  | 96, _ => zq_r96 hts he
  | 97, _ => zq_r97 hts he
  | 98, _ => zq_r98 hts he
  | 99, _ => zq_r99 hts he
  | 100, _ => zq_r100 hts he
  | 101, _ => zq_r101 hts he
  | 102, _ => zq_r102 hts he
  | 103, _ => zq_r103 hts he
  | 104, _ => zq_r104 hts he
  | 105, _ => zq_r105 hts he
  | 106, _ => zq_r106 hts he
  | 107, _ => zq_r107 hts he
  | 108, _ => zq_r108 hts he
  | 109, _ => zq_r109 hts he
  | 110, _ => zq_r110 hts he
  | 111, _ => zq_r111 hts he
  | 112, _ => zq_r112 hts he
  | 113, _ => zq_r113 hts he
  | 114, _ => zq_r114 hts he
  | 115, _ => zq_r115 hts he
  | 116, _ => zq_r116 hts he
  | 117, _ => zq_r117 hts he
  | 118, _ => zq_r118 hts he
  | 119, _ => zq_r119 hts he
  | 120, _ => zq_r120 hts he
  | 121, _ => zq_r121 hts he
  | 122, _ => zq_r122 hts he
  | 123, _ => zq_r123 hts he
  | 124, _ => zq_r124 hts he
  | 125, _ => zq_r125 hts he
  | 126, _ => zq_r126 hts he
  | 127, _ => zq_r127 hts he
  | 128, _ => zq_r128 hts he
  | 129, _ => zq_r129 hts he
  | 130, _ => zq_r130 hts he
  | 131, _ => zq_r131 hts he
  | 132, _ => zq_r132 hts he
  | 133, _ => zq_r133 hts he
  | 134, _ => zq_r134 hts he
  | 135, _ => zq_r135 hts he
  | 136, _ => zq_r136 hts he
  | 137, _ => zq_r137 hts he
  | 138, _ => zq_r138 hts he
  | 139, _ => zq_r139 hts he
  | 140, _ => zq_r140 hts he
  | 141, _ => zq_r141 hts he
  | j + 142, h => absurd h (by omega)
theorem zq_len : q_strs.length = 142 := by decide +kernel
set_option maxHeartbeats 8000000 in
set_option maxRecDepth 10000 in
theorem l_at {s : State} {args : Array Value} (hts : ∀ w ∈ lw_tbl, w.before args s = true) (hg : (Jvm.Cond.and given_1 narrow_1).before args s = true) : ∃ ad : Nat → Nat, q_T ad s ∧ q_SF ad s.heap.size s s.heap := by
  have hA : ∀ a : Nat, a < s.heap.size → ¬ (fun q => s.heap.size ≤ q) a := fun a h => Nat.not_le.mpr h
  have h0 : ∀ j, ∃ q, j < 142 → zq_P s args (fun q => s.heap.size ≤ q) (zq_o j).1 (zq_o j).2 j q := fun j => by
    by_cases hj : j < 142
    · obtain ⟨q, hq⟩ := zq_all hg hA j hj
      exact ⟨q, fun _ => hq⟩
    · exact ⟨(0, 0), fun h => absurd h hj⟩
  obtain ⟨f, hf⟩ := Classical.skolem.mp h0
  have he : ∀ j, j < 142 → (Term.string (zq_o j).1 (zq_o j).2).eval args s none [] s = some (.ref (f j).1) := fun j hj => (hf j hj).1
  refine ⟨zq_ad f, ⟨fun w hw => ?_, fun q hq => ?_, va_AO.of (hts (.arrayOver (.object "DocumentHouse$Index")) (q_lw2 (i := 82) rfl)), va_AO.of (hts (.arrayOver (.object "DocumentHouse$Shelf")) (q_lw2 (i := 72) rfl)), hts (.arrayOver (.array .int)) (q_lw1 (i := 217) rfl)⟩, ?_, ?_, fun j hj => ?_⟩
  · have h1 := (List.mem_filter.mp hw).1
    have h2 := (List.mem_filter.mp hw).2
    unfold q_isN at h2
    split at h2
    · exact va_Nw.of rfl (hts _ h1)
    · exact va_Nw.of rfl (hts _ h1)
    · cases h2
  · obtain ⟨j, hj⟩ := List.mem_iff_getElem?.mp hq
    have hlt : j < 142 := by
      rw [← zq_len]
      exact (List.getElem?_eq_some_iff.mp hj).1
    exact zq_ra hts he j hlt q hj
  · exact va_Zof (hts (.laysStatic "java/lang/String" "COMPACT_STRINGS" "Z") (q_lw3 (i := 196) rfl)) (hts (.initialized "java/lang/String") (q_lw1 (i := 16) rfl)) (va_eqi (zq_s [true, false, false, false, false, false, false, false, false, false, true, true] zq_G (.eq (.static "java/lang/String" "COMPACT_STRINGS" "Z") (.int 1)) hg rfl)) hA
  · exact va_Zqof (hts (.laysStatic "jdk/internal/util/Preconditions" "SIOOBE_FORMATTER" "Ljava/util/function/BiFunction;") (q_lw3 (i := 212) rfl)) (hts (.initialized "jdk/internal/util/Preconditions") (q_lw1 (i := 18) rfl)) (zq_s [true, false, false, false, false, false, false, false, false, true, false] zq_G (.isRef (.static "jdk/internal/util/Preconditions" "SIOOBE_FORMATTER" "Ljava/util/function/BiFunction;")) hg rfl) hA
  · rw [zq_ad0, zq_ad1]
    exact (hf j hj).2
