/-! TREES OF THE CLASS: a child with too few is mended -/
section NFX
variable {E : Type}
theorem N_fix_0 {h : Nat} {A B : List (N_i E (h + 1))} {x : N_i E (h + 1)} (h4 : 4 ≤ x.2.length) : N_fix h A x B = A ++ x :: B := if_pos h4
theorem N_fix_1 {h : Nat} {A0 B : List (N_i E (h + 1))} {a x : N_i E (h + 1)} (h4 : x.2.length < 4) (ha : 4 < a.2.length) : N_fix h (A0 ++ [a]) x B = A0 ++ (N_bl h a x ++ B) := by
  unfold N_fix
  rw [if_neg (by omega), List.getLast?_concat, List.dropLast_concat]
  cases B with
  | nil =>
    show (if 4 < a.2.length then A0 ++ N_bl h a x else A0 ++ [N_mg h a x]) = _
    rw [if_pos ha, List.append_nil]
  | cons b B0 =>
    show (if 4 < a.2.length then A0 ++ (N_bl h a x ++ b :: B0) else _) = _
    rw [if_pos ha]
theorem N_fix_2 {h : Nat} {A B0 : List (N_i E (h + 1))} {x b : N_i E (h + 1)} (h4 : x.2.length < 4) (ha : ∀ a, A.getLast? = some a → a.2.length ≤ 4) (hb : 4 < b.2.length) : N_fix h A x (b :: B0) = A ++ (N_br h x b ++ B0) := by
  unfold N_fix
  rw [if_neg (by omega)]
  rcases List.eq_nil_or_concat A with hA | ⟨A0, a, hA⟩
  · subst hA
    show (if 4 < b.2.length then N_br h x b ++ B0 else N_mg h x b :: B0) = _
    rw [if_pos hb]
    rfl
  · rw [List.concat_eq_append] at hA
    subst hA
    have := ha a (List.getLast?_concat)
    rw [List.getLast?_concat, List.dropLast_concat]
    show (if 4 < a.2.length then A0 ++ (N_bl h a x ++ b :: B0) else if 4 < b.2.length then (A0 ++ [a]) ++ (N_br h x b ++ B0) else A0 ++ N_mg h a x :: b :: B0) = _
    rw [if_neg (by omega), if_pos hb]
theorem N_fix_3 {h : Nat} {A0 B : List (N_i E (h + 1))} {a x : N_i E (h + 1)} (h4 : x.2.length < 4) (ha : a.2.length ≤ 4) (hb : ∀ b, B.head? = some b → b.2.length ≤ 4) : N_fix h (A0 ++ [a]) x B = A0 ++ ([N_mg h a x] ++ B) := by
  unfold N_fix
  rw [if_neg (by omega), List.getLast?_concat, List.dropLast_concat]
  cases B with
  | nil =>
    show (if 4 < a.2.length then A0 ++ N_bl h a x else A0 ++ [N_mg h a x]) = _
    rw [if_neg (by omega), List.append_nil]
  | cons b B0 =>
    have := hb b rfl
    show (if 4 < a.2.length then A0 ++ (N_bl h a x ++ b :: B0) else if 4 < b.2.length then (A0 ++ [a]) ++ (N_br h x b ++ B0) else A0 ++ N_mg h a x :: b :: B0) = _
    rw [if_neg (by omega), if_neg (by omega)]
    rfl
theorem N_fix_4 {h : Nat} {B0 : List (N_i E (h + 1))} {x b : N_i E (h + 1)} (h4 : x.2.length < 4) (hb : b.2.length ≤ 4) : N_fix h [] x (b :: B0) = N_mg h x b :: B0 := by
  unfold N_fix
  rw [if_neg (by omega)]
  show (if 4 < b.2.length then N_br h x b ++ B0 else N_mg h x b :: B0) = _
  rw [if_neg (by omega)]
end NFX
theorem V_er_2 (h : Nat) (x : N_i V_W (h + 1)) : (V_er (h + 1) x).2.length = x.2.length := by
  rw [V_er_s, N_mk_2, List.length_map]
theorem V_er_mg (h : Nat) (u v : N_i V_W (h + 1)) : N_mg h (V_er (h + 1) u) (V_er (h + 1) v) = V_er (h + 1) (N_mk h u.1 (u.2 ++ V_hd h v.1 v.2)) := by
  rw [V_er_mk, List.map_append, V_hd_er]
  rfl
theorem V_er_bl {h : Nat} {u v : N_i V_W (h + 1)} {T : List (N_i V_W h)} {y : N_i V_W h} (hT : u.2 = T ++ [y]) (m : V_W) (hm : V_e m = V_e (N_f h y)) : N_bl h (V_er (h + 1) u) (V_er (h + 1) v) = [V_er (h + 1) (N_mk h u.1 T), V_er (h + 1) (N_mk h m (y :: V_hd h v.1 v.2))] := by
  have h1 : (V_er (h + 1) u).2 = T.map (V_er h) ++ [V_er h y] := by rw [V_er_s, N_mk_2, hT, List.map_append]; rfl
  rw [N_bl_s h1, V_er_mk, V_er_mk, List.map_cons, V_hd_er, hm, V_er_f]
  rfl
theorem V_er_br {h : Nat} {u v : N_i V_W (h + 1)} {y r1 : N_i V_W h} {r : List (N_i V_W h)} (hv : v.2 = y :: r1 :: r) (m : V_W) (hm : V_e m = V_e (N_f h r1)) : N_br h (V_er (h + 1) u) (V_er (h + 1) v) = [V_er (h + 1) (N_mk h u.1 (u.2 ++ V_hd h v.1 [y])), V_er (h + 1) (N_mk h m (r1 :: r))] := by
  have h1 : (V_er (h + 1) v).2 = V_er h y :: V_er h r1 :: r.map (V_er h) := by rw [V_er_s, N_mk_2, hv]; rfl
  rw [N_br_s h1, V_er_mk, V_er_mk, List.map_append, V_hd_er, hm, V_er_f]
  rfl
section CMEND
variable {d t j i : Nat} {w1 w2 : Int} {FS us FN ns R R' : List Nat}
theorem V_lvs (h : Nat) (A B : List (N_i V_W (h + 1))) (u v : N_i V_W (h + 1)) : N_lv (h + 1) (A ++ u :: v :: B) = N_lv (h + 1) A + (N_lv h u.2 + (N_lv h v.2 + N_lv (h + 1) B)) := by
  rw [N_lv_app, N_lv_c, N_lv_c]
theorem N_lv_ap (h : Nat) (l t : List (N_i V_W h)) : (N_lv h (l ++ t) : Int) + V_f h = N_lv h l + N_lv h t := by
  cases h with
  | zero => rfl
  | succ h =>
    rw [N_lv_app]
    show _ + (0 : Int) = _
    omega
theorem c_mend {Q : g_M → Prop} {h lv n : Nat} {A B : List (N_i V_W (h + 1))} {x : N_i V_W (h + 1)} {S : B_S} {M : g_M} (hB : B_t t S M) (ha : B_all S j i FS us FN ns w1 w2) (hD : C_D S (h + 1) n (A ++ x :: B)) (hx3 : x.2.length = 3) (hsz : ∀ z, z ∈ A ∨ z ∈ B → 4 ≤ z.2.length ∧ z.2.length ≤ 8) (h2 : 2 ≤ (A ++ x :: B).length) (hl8 : (A ++ x :: B).length ≤ 8) (hpu : us.Perm (V_us (h + 1) (A ++ x :: B) ++ R)) (hpn : ns.Perm (V_ns (h + 1) n (A ++ x :: B) ++ R')) (hw1 : S.2.1 10 lv = n) (hw2 : S.2.1 11 lv = A.length) (hlv : lv ≤ 14) (hu : us.length < 1370) (h16 : 0 ≤ S.2.2 16 ∧ S.2.2 16 ≤ 1000) (h17 : 0 ≤ S.2.2 17 ∧ S.2.2 17 ≤ 1000) (hq : ∀ (l' : List (N_i V_W (h + 1))) (j1 : Nat) (FS1 us1 FN1 ns1 : List Nat) (S1 : B_S) (M1 : g_M), B_t t S1 M1 → B_Fc t j i j1 i M M1 → B_ag (V_A R' R) V_G4 S S1 → B_all S1 j1 i FS1 us1 FN1 ns1 w1 w2 → us1.Perm (V_us (h + 1) l' ++ R) → ns1.Perm (V_ns (h + 1) n l' ++ R') → C_D S1 (h + 1) n l' → l'.map (V_er (h + 1)) = N_fix h (A.map (V_er (h + 1))) (V_er (h + 1) x) (B.map (V_er (h + 1))) → S1.2.2 17 + ns.length = S.2.2 17 + ns1.length → S1.2.2 16 + N_lv (h + 1) (A ++ x :: B) = S.2.2 16 + N_lv (h + 1) l' → us1.length ≤ us.length → ns1.length ≤ ns.length → ns.length ≤ ns1.length + 1 → S1.2.2 16 ≤ S.2.2 16 → S.2.2 16 ≤ S1.2.2 16 + V_f h → Q M1) : g_Call (d + 5) 188 [.ref t, g_n ((lv : Int) + 1)] M (g_qV Q) := by
  have hf01 : 0 ≤ V_f h ∧ V_f h ≤ 1 := by
    unfold V_f
    split <;> decide
  obtain ⟨d1, d2, d3, d4⟩ := C_D_s.mp hD
  obtain ⟨b1, b2, b3, b4⟩ := id d1
  have hnn : n ∈ ns := hpn.mem_iff.mpr (List.mem_append_left _ (V_ns_m (h + 1) n _))
  have hn := ha.2.1.lt hnn
  obtain ⟨l4, l5, l6, l7, lN⟩ := id ha.ln
  obtain ⟨-, -, -, y10, y11⟩ := id ha
  rw [List.length_append, List.length_cons] at h2 hl8
  rw [List.length_map, List.length_append, List.length_cons] at b2
  obtain ⟨wn, p1, p2, p3⟩ := hB.at (k := 10) (by decide)
  obtain ⟨wt, q1, q2, q3⟩ := hB.at (k := 11) (by decide)
  obtain ⟨cn, c1, c2, c3⟩ := hB.at (k := 6) (by decide)
  obtain ⟨kd, k1, k2, k3⟩ := hB.at (k := 4) (by decide)
  have p2 : g_A M wn 1 (S.1 10) := p2
  have q2 : g_A M wt 1 (S.1 11) := q2
  have c2 : g_A M cn 1 (S.1 6) := c2
  have k2 : g_A M kd 1 (S.1 4) := k2
  have hcv : g_i M cn n = (A.length + (B.length + 1) : Nat) := by rw [c3 _ (by omega) (by omega)]; exact b2
  -- a kid's node and how many it has
  have hkid : ∀ (C D : List (N_i V_W (h + 1))) (z : N_i V_W (h + 1)), A ++ x :: B = C ++ z :: D → g_i M kd ((n : Int) * 9 + C.length) = V_n z.1 ∧ (V_n z.1 : Int) < B_cn i ∧ g_i M cn (V_n z.1) = z.2.length := fun C D z hCD => by
    have hzm : z ∈ A ++ x :: B := by rw [hCD]; exact List.mem_append_right _ List.mem_cons_self
    have hl := congrArg List.length hCD
    rw [List.length_append, List.length_append, List.length_cons, List.length_cons] at hl
    have hzl : (V_n z.1 : Int) < B_cn i := ha.2.1.lt (hpn.mem_iff.mpr (List.mem_append_left _ (List.mem_cons_of_mem _ (List.mem_flatMap.mpr ⟨z, hzm, V_ns_m h _ _⟩))))
    refine ⟨?_, hzl, ?_⟩
    · rw [k3 _ (by omega) (by omega)]
      have := b3 C.length (V_n z.1) (by
        unfold B_il
        rw [hCD, List.getElem?_map, List.getElem?_map, List.getElem?_append_right (Nat.le_refl _), Nat.sub_self]
        rfl)
      exact (congrArg (S.2.1 4) (by omega)).trans this
    · rw [c3 _ (by omega) (by omega), (d4 z hzm).no.1.2.1, List.length_map]
  obtain ⟨kx1, kx2, kx3⟩ := hkid A B x rfl
  have hlR : g_InR ((lv : Int) + 1) := ⟨by omega, by omega⟩
  have hnR : g_InR (n : Int) := ⟨by omega, by omega⟩
  have hAR : g_InR (A.length : Int) := ⟨by omega, by omega⟩
  have hvR : g_InR ((n : Int) * 9 + A.length) := ⟨by omega, by omega⟩
  have hxe : (V_er (h + 1) x).2.length < 4 := by rw [V_er_2]; omega
  have h0R : g_InR 0 := ⟨by decide, by decide⟩
  have h1R : g_InR 1 := ⟨by decide, by decide⟩
  -- joining
  have hjoin : ∀ (C D : List (N_i V_W (h + 1))) (u v : N_i V_W (h + 1)), A ++ x :: B = C ++ u :: v :: D → u.2.length ≤ 4 → v.2.length ≤ 4 → 3 ≤ u.2.length → 3 ≤ v.2.length → C.map (V_er (h + 1)) ++ (N_mg h (V_er (h + 1) u) (V_er (h + 1) v) :: D.map (V_er (h + 1))) = N_fix h (A.map (V_er (h + 1))) (V_er (h + 1) x) (B.map (V_er (h + 1))) → g_Call (d + 4) 191 [.ref t, g_n n, g_n C.length] M (g_qV fun M2 => g_ext M M2 → g_ok M2 → Q M2) := fun C D u v hCD l1 l2 l3 l4 hfx => by
    rw [hCD] at hD hpu hpn hq
    have hl := congrArg List.length hCD
    rw [List.length_append, List.length_append, List.length_cons, List.length_cons, List.length_cons] at hl
    refine c_join (d := d) hB ha hD (fun z => by rw [z, List.length_nil] at l3; omega) (fun z => by rw [z, List.length_nil] at l4; omega) (by omega) (by rw [List.length_append, List.length_cons, List.length_cons]; omega) hpu hpn h16 h17 fun FS1 us1 FN1 ns1 S1 M1 t1 f1 g1 a1 pu1 pn1 D1 k17 k16 lu ln => ?_
    intro _ _
    refine hq _ j FS1 us1 FN1 ns1 S1 M1 t1 f1 g1 a1 pu1 pn1 D1 ?_ (by omega) ?_ lu (by omega) (by omega) (by omega) (by omega)
    · rw [← hfx, V_er_mg, List.map_append]
      rfl
    · rw [V_lvs, N_lv_app, k16]
      show _ + _ = S.2.2 16 + ((N_lv (h + 1) C + N_lv (h + 1) (N_mk h u.1 (u.2 ++ V_hd h v.1 v.2) :: D) : Nat) : Int)
      rw [N_lv_c, N_mk_2]
      have := N_lv_ap h u.2 (V_hd h v.1 v.2)
      rw [V_hd_lv] at this
      omega
  refine m_X10_mend hlR fun _ => ⟨hB.1, wn, p1, ⟨by omega, by omega⟩, S.1 10, p2, ⟨by omega, by omega⟩, wt, q1, ⟨by omega, by omega⟩, S.1 11, q2, ⟨by omega, by omega⟩, ?_⟩
  rw [show (lv : Int) + 1 - 1 = lv by omega, p3 _ (by omega) (by omega), hw1, q3 _ (by omega) (by omega), hw2]
  -- the end: neighbours have few
  have h154 : ∀ (v5 v6 : Int), (v5 = 0 ∨ v5 = 1) → (v6 = 0 ∨ v6 = 1) → (v5 = 0 ↔ A = []) → (v6 = 0 ↔ B = []) → (∀ a, A.getLast? = some a → a.2.length ≤ 4) → (∀ b, B.head? = some b → b.2.length ≤ 4) → g_Run (d + 4) 188 154 [(0, .ref t), (1, g_n ((lv : Int) + 1)), (2, g_n n), (3, g_n A.length), (4, g_n ((n : Int) * 9 + A.length)), (5, g_n v5), (6, g_n v6)] [] M (g_qV Q) := by
    intro v5 v6 r5 r6 e5 e6 hA4 hB4
    refine s_X10_mend_154 hlR hnR hAR hvR ⟨by omega, by omega⟩ ⟨by omega, by omega⟩ fun _ => ⟨fun z => ⟨fun z2 => ?_, fun z2 => ⟨hB.1, ?_⟩⟩, fun z => ?_⟩
    · have h1 := e5.mp z
      have h3 := e6.mp z2
      rw [h1, h3] at h2
      exact absurd h2 (by simp)
    · have h1 := e5.mp z
      cases B with
      | nil => exact absurd (e6.mpr rfl) z2
      | cons b B =>
        subst h1
        have hb4 := hB4 b rfl
        exact hjoin [] B x b rfl (by omega) hb4 (by omega) (by have := hsz b (Or.inr List.mem_cons_self); omega) (by
          rw [List.map_nil, List.map_cons, N_fix_4 hxe (by rw [V_er_2]; exact hb4)]
          rfl)
    · rcases List.eq_nil_or_concat A with hA | ⟨A0, a, hA⟩
      · exact absurd (e5.mpr hA) z
      · rw [List.concat_eq_append] at hA
        have ha4 := hA4 a (by rw [hA]; exact List.getLast?_concat)
        have hl0 := congrArg List.length hA
        rw [List.length_append, List.length_singleton] at hl0
        refine ⟨⟨by omega, by omega⟩, hB.1, ?_⟩
        rw [show (A.length : Int) - 1 = A0.length by omega]
        refine hjoin A0 B a x (by rw [hA]; simp) ha4 (by omega) (by have := hsz a (Or.inl (by rw [hA]; exact List.mem_append_right _ List.mem_cons_self)); omega) (by omega) ?_
        rw [hA, List.map_append, List.map_singleton, N_fix_3 hxe (by rw [V_er_2]; exact ha4) fun b hb => ?_]
        · rfl
        · rw [List.head?_map] at hb
          cases B with
          | nil => exact absurd hb (by simp)
          | cons b0 B =>
            have : V_er (h + 1) b0 = b := by simpa using hb
            rw [← this, V_er_2]
            exact hB4 b0 rfl
  -- the right neighbour
  have h106 : ∀ (v5 v6 : Int), (v5 = 0 ∨ v5 = 1) → (v6 = 0 ∨ v6 = 1) → (v5 = 0 ↔ A = []) → (v6 = 0 ↔ B = []) → (∀ a, A.getLast? = some a → a.2.length ≤ 4) → g_Run (d + 4) 188 106 [(0, .ref t), (1, g_n ((lv : Int) + 1)), (2, g_n n), (3, g_n A.length), (4, g_n ((n : Int) * 9 + A.length)), (5, g_n v5), (6, g_n v6)] [] M (g_qV Q) := by
    intro v5 v6 r5 r6 e5 e6 hA4
    refine s_X10_mend_106 hlR hnR hAR hvR ⟨by omega, by omega⟩ ⟨by omega, by omega⟩ fun _ => ⟨fun z => ?_, fun z => ?_⟩
    · have h3 := e6.mp z
      exact h154 v5 v6 r5 r6 e5 e6 hA4 fun b hb => by rw [h3] at hb; exact absurd hb (by simp)
    · cases hB0 : B with
      | nil => exact absurd (e6.mpr hB0) z
      | cons b B1 =>
        obtain ⟨kb1, kb2, kb3⟩ := hkid (A ++ [x]) B1 b (by rw [hB0]; simp)
        rw [List.length_append, List.length_singleton, show (n : Int) * 9 + ((A.length + 1 : Nat) : Int) = (n : Int) * 9 + A.length + 1 by omega] at kb1
        have hbl : B.length = B1.length + 1 := by rw [hB0, List.length_cons]
        refine ⟨hB.1, cn, c1, kd, k1, ⟨by omega, by omega⟩, S.1 4, k2, ⟨by omega, by omega⟩, S.1 6, c2, ?_⟩
        rw [kb1]
        refine ⟨⟨by omega, by omega⟩, ?_⟩
        rw [kb3]
        refine ⟨fun g => ⟨kd, k1, S.1 4, k2, ⟨by omega, by omega⟩, kd, k1, ⟨by omega, by omega⟩, S.1 4, k2, ⟨by omega, by omega⟩, ?_⟩, fun g => h154 v5 v6 r5 r6 e5 e6 hA4 fun b2 hb2 => by
          rw [hB0] at hb2
          have : b = b2 := by simpa using hb2
          rw [← this]
          omega⟩
        rw [kx1, kb1]
        obtain ⟨y, r1, r, hbv⟩ : ∃ y r1 r, b.2 = y :: r1 :: r := by
          cases hb2 : b.2 with
          | nil => rw [hb2, List.length_nil] at g; omega
          | cons y s =>
            cases s with
            | nil => rw [hb2, List.length_singleton] at g; omega
            | cons r1 r => exact ⟨y, r1, r, rfl⟩
        subst hB0
        refine c_takeFirst (d := d) hB ha hD hbv (fun z => by rw [z, List.length_nil] at hx3; omega) (by omega) (by rw [List.length_append, List.length_cons, List.length_cons]; rw [List.length_cons] at hl8; omega) hpu hpn hu fun ms j1 FS1 us1 S1 M1 t1 f1 g1 a1 pu1 pn1 D1 k17 k16 lu => ?_
        intro _ _
        refine hq _ j1 FS1 us1 FN ns S1 M1 t1 f1 g1 a1 pu1 pn1 D1 ?_ (by omega) ?_ lu (Nat.le_refl _) (by omega) (by omega) (by omega)
        · rw [List.map_cons, N_fix_2 hxe (fun a ha => ?_) (by rw [V_er_2]; omega), V_er_br hbv ((ms, V_n b.1), V_e (N_f h r1)) rfl, List.map_append]
          · rfl
          · rw [List.getLast?_map] at ha
            cases hAl : A.getLast? with
            | none => rw [hAl] at ha; exact absurd ha (by simp)
            | some a0 =>
              rw [hAl] at ha
              have : V_er (h + 1) a0 = a := by simpa using ha
              rw [← this, V_er_2]
              exact hA4 a0 hAl
        · rw [V_lvs, k16]
          show _ = S.2.2 16 + ((N_lv (h + 1) (A ++ N_mk h x.1 (x.2 ++ V_hd h b.1 [y]) :: N_mk h ((ms, V_n b.1), V_e (N_f h r1)) (r1 :: r) :: B1) : Nat) : Int)
          rw [V_lvs, N_mk_2, N_mk_2]
          have q1 := N_lv_ap h x.2 (V_hd h b.1 [y])
          rw [V_hd_lv] at q1
          have q2 := N_lv_ap h [y] (r1 :: r)
          rw [show [y] ++ r1 :: r = b.2 by rw [hbv]; rfl] at q2
          omega
  -- the left neighbour
  have h54 : ∀ (v5 v6 : Int), (v5 = 0 ∨ v5 = 1) → (v6 = 0 ∨ v6 = 1) → (v5 = 0 ↔ A = []) → (v6 = 0 ↔ B = []) → g_Run (d + 4) 188 54 [(0, .ref t), (1, g_n ((lv : Int) + 1)), (2, g_n n), (3, g_n A.length), (4, g_n ((n : Int) * 9 + A.length)), (5, g_n v5)] [g_n v6] M (g_qV Q) := by
    intro v5 v6 r5 r6 e5 e6
    refine s_X10_mend_54 hlR hnR hAR hvR ⟨by omega, by omega⟩ ⟨by omega, by omega⟩ fun _ => ⟨fun z => ?_, fun z => ?_⟩
    · have h3 := e5.mp z
      exact h106 v5 v6 r5 r6 e5 e6 fun a ha => by rw [h3] at ha; exact absurd ha (by simp)
    · rcases List.eq_nil_or_concat A with hA | ⟨A0, a, hA⟩
      · exact absurd (e5.mpr hA) z
      · rw [List.concat_eq_append] at hA
        have hl0 := congrArg List.length hA
        rw [List.length_append, List.length_singleton] at hl0
        have hass : A ++ x :: B = A0 ++ a :: x :: B := by rw [hA]; simp
        obtain ⟨ka1, ka2, ka3⟩ := hkid A0 (x :: B) a hass
        rw [show (n : Int) * 9 + (A0.length : Int) = (n : Int) * 9 + A.length - 1 by omega] at ka1
        refine ⟨hB.1, cn, c1, kd, k1, ⟨by omega, by omega⟩, S.1 4, k2, ⟨by omega, by omega⟩, S.1 6, c2, ?_⟩
        rw [ka1]
        refine ⟨⟨by omega, by omega⟩, ?_⟩
        rw [ka3]
        refine ⟨fun g => ⟨kd, k1, ⟨by omega, by omega⟩, S.1 4, k2, ⟨by omega, by omega⟩, kd, k1, S.1 4, k2, ⟨by omega, by omega⟩, ⟨by omega, by omega⟩, ?_⟩, fun g => h106 v5 v6 r5 r6 e5 e6 fun a2 ha2 => by
          rw [hA, List.getLast?_concat] at ha2
          have : a = a2 := by simpa using ha2
          rw [← this]
          omega⟩
        rw [ka1, kx1, show (n : Int) * 9 + (A.length : Int) - 1 = (n : Int) * 9 + A0.length by omega]
        have hane : a.2 ≠ [] := fun z => by rw [z, List.length_nil] at g; omega
        obtain ⟨T, y, hT⟩ : ∃ T y, a.2 = T ++ [y] := ⟨a.2.dropLast, a.2.getLast hane, (List.dropLast_concat_getLast hane).symm⟩
        have hTl := congrArg List.length hT
        rw [List.length_append, List.length_singleton] at hTl
        rw [hass] at hD hpu hpn hq
        refine c_takeLast (d := d) hB ha hD hT (fun z => by rw [z, List.length_nil] at hTl; omega) (fun z => by rw [z, List.length_nil] at hx3; omega) (by omega) (by rw [List.length_append, List.length_cons, List.length_cons]; omega) hpu hpn hu fun ms j1 FS1 us1 S1 M1 t1 f1 g1 a1 pu1 pn1 D1 k17 k16 lu => ?_
        intro _ _
        refine hq _ j1 FS1 us1 FN ns S1 M1 t1 f1 g1 a1 pu1 pn1 D1 ?_ (by omega) ?_ lu (Nat.le_refl _) (by omega) (by omega) (by omega)
        · have hAm : A.map (V_er (h + 1)) = A0.map (V_er (h + 1)) ++ [V_er (h + 1) a] := by rw [hA, List.map_append]; rfl
          rw [hAm, List.map_append, List.map_append, N_fix_1 hxe (by rw [V_er_2]; omega), V_er_bl hT ((ms, V_n x.1), V_e (N_f h y)) rfl]
          rfl
        · rw [V_lvs, k16]
          show _ = S.2.2 16 + ((N_lv (h + 1) (A0 ++ N_mk h a.1 T :: N_mk h ((ms, V_n x.1), V_e (N_f h y)) (y :: V_hd h x.1 x.2) :: B) : Nat) : Int)
          rw [V_lvs, N_mk_2, N_mk_2]
          have q1 := N_lv_ap h T [y]
          rw [← hT] at q1
          have q2 := N_lv_ap h [y] (V_hd h x.1 x.2)
          rw [V_hd_lv, show [y] ++ V_hd h x.1 x.2 = y :: V_hd h x.1 x.2 from rfl] at q2
          omega
  have h35 : ∀ v5 : Int, (v5 = 0 ∨ v5 = 1) → (v5 = 0 ↔ A = []) → g_Run (d + 4) 188 35 [(0, .ref t), (1, g_n ((lv : Int) + 1)), (2, g_n n), (3, g_n A.length), (4, g_n ((n : Int) * 9 + A.length))] [g_n v5] M (g_qV Q) := by
    intro v5 r5 e5
    refine s_X10_mend_35 hlR hnR hAR hvR ⟨by omega, by omega⟩ fun _ => ⟨⟨by omega, by omega⟩, hB.1, cn, c1, S.1 6, c2, ⟨by omega, by omega⟩, ?_⟩
    rw [hcv]
    refine ⟨fun z => h54 v5 1 r5 (Or.inr rfl) e5 ⟨fun z2 => absurd z2 (by decide), fun z2 => ?_⟩, fun z => h54 v5 0 r5 (Or.inl rfl) e5 ⟨fun _ => ?_, fun _ => rfl⟩⟩
    · rw [z2, List.length_nil] at z
      omega
    · exact List.length_eq_zero_iff.mp (by omega)
  refine ⟨⟨by omega, by omega⟩, ⟨by omega, by omega⟩, fun z => h35 1 (Or.inr rfl) ⟨fun z2 => absurd z2 (by decide), fun z2 => ?_⟩, fun z => h35 0 (Or.inl rfl) ⟨fun _ => ?_, fun _ => rfl⟩⟩
  · rw [z2, List.length_nil] at z
    exact absurd z (by decide)
  · exact List.length_eq_zero_iff.mp (by omega)
end CMEND
