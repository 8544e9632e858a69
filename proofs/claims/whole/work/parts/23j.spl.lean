/-! TREES OF THE CLASS: a node is split, its first part -/
section CSPL
variable {d t j i : Nat} {w1 w2 : Int} {FS us FN ns R R' : List Nat}
theorem B_ag.upA {A A2 : Nat → Int → Prop} {G G2 : Int → Prop} {S S1 : B_S} (h : B_ag A G S S1) (hA : ∀ k q, A k q → A2 k q) (hG : ∀ k, G k → G2 k) : B_ag A2 G2 S S1 := h.up hA hG
/-- the state before a mark is found -/
theorem c_split0 {Q : g_M → Prop} {h lv n : Nat} {l : List (N_i V_W h)} {S : B_S} {M : g_M} (hB : B_t t S M) (ha : B_all S j i FS us FN ns w1 w2) (hD : C_D S h n l) (h9 : l.length = 9) (hnn : n ∈ ns) (hw : S.2.1 10 lv = n) (hlv : lv ≤ 15) (hnl : ns.length < 454) (h16 : 0 ≤ S.2.2 16 ∧ S.2.2 16 ≤ 1000) (h17 : 0 ≤ S.2.2 17 ∧ S.2.2 17 ≤ 1000) (hq : ∀ (nr i1 : Nat) (FN1 : List Nat) (S4 : B_S) (M53 : g_M), B_t t S4 M53 → B_Fc t j i j i1 M M53 → nr ∉ ns → B_all S4 j i1 FS us FN1 (nr :: ns) w1 w2 → (nr : Int) < B_cn i1 → B_ag (fun k q => B_nA nr k q ∨ B_kA nr k q ∨ (k = 6 ∧ q = n)) B_nG S S4 → B_no S4 n (V_f h) ((l.map (V_k h)).take 4) (V_m h l) → S4.2.1 7 nr = V_f h → S4.2.1 6 nr = 5 → b_at (S4.2.1 4) (9 * nr) (B_il ((l.map (V_k h)).drop 4)) → S4.2.2 17 = S.2.2 17 + 1 → S4.2.2 16 = S.2.2 16 + V_f h → ∃ b57, g_r M53 t 7 = some b57 ∧ ∃ n59, g_A M53 b57 2 n59 ∧ ((0 : Int) ≤ n ∧ (n : Int) < n59) ∧ ((g_i M53 b57 n = 0 → ∃ b62, g_r M53 t 5 = some b62 ∧ g_InR ((n : Int) * 9 + 4) ∧ g_InR ((n : Int) * 9 + 4 - 1) ∧ ∃ n66, g_A M53 b62 1 n66 ∧ ((0 : Int) ≤ (n : Int) * 9 + 4 - 1 ∧ ((n : Int) * 9 + 4 - 1 : Int) < n66) ∧ ∃ b69, g_r M53 t 5 = some b69 ∧ g_InR ((n : Int) * 9 + 4) ∧ ∃ b72, g_r M53 t 5 = some b72 ∧ g_InR ((nr : Int) * 9) ∧ g_InR ((9 : Int) - 4 - 1) ∧ ∃ n76, g_A M53 b69 1 n76 ∧ ∃ n78, g_A M53 b72 1 n78 ∧ ((0 : Int) ≤ (n : Int) * 9 + 4 ∧ (0 : Int) ≤ (nr : Int) * 9 ∧ (0 : Int) ≤ (9 : Int) - 4 - 1 ∧ ((n : Int) * 9 + 4 : Int) + ((9 : Int) - 4 - 1) ≤ n76 ∧ ((nr : Int) * 9 : Int) + ((9 : Int) - 4 - 1) ≤ n78) ∧ (∀ M81, M81 = g_cp M53 b69 b72 ((n : Int) * 9 + 4) ((nr : Int) * 9) ((9 : Int) - 4 - 1) → g_ok M81 → g_Run (d + 45) 186 133 [(0, .ref t), (1, g_n lv), (2, g_n n), (3, g_n nr), (4, g_n ((n : Int) * 9)), (5, g_n ((9 : Int) - 4)), (6, g_n (g_i M53 b62 ((n : Int) * 9 + 4 - 1)))] [] M81 (g_qV Q))) ∧ (¬ g_i M53 b57 n = 0 → ∃ b85, g_r M53 t 4 = some b85 ∧ g_InR ((nr : Int) * 9) ∧ ∃ n88, g_A M53 b85 1 n88 ∧ ((0 : Int) ≤ (nr : Int) * 9 ∧ ((nr : Int) * 9 : Int) < n88) ∧ g_Call (d + 45) 179 [.ref t, g_n (g_i M53 b85 ((nr : Int) * 9))] M53 (g_qI fun r94 M91 => g_ext M53 M91 → g_ok M91 → g_InR r94 → g_Run (d + 45) 186 133 [(0, .ref t), (1, g_n lv), (2, g_n n), (3, g_n nr), (4, g_n ((n : Int) * 9)), (5, g_n ((9 : Int) - 4)), (6, g_n r94)] [] M91 (g_qV Q))))) : g_Call (d + 46) 186 [.ref t, g_n lv] M (g_qV Q) := by
  obtain ⟨⟨n1, n2, n3, n4⟩, -⟩ := hD.no
  rw [List.length_map, h9] at n2
  obtain ⟨l4, l5, l6, l7, lN⟩ := ha.ln
  have hn := ha.2.1.lt hnn
  obtain ⟨-, -, -, y1, y2⟩ := id ha
  have hf01 : V_f h = 0 ∨ V_f h = 1 := by
    unfold V_f
    split
    · exact Or.inr rfl
    · exact Or.inl rfl
  obtain ⟨wn, a1, a2, a3⟩ := hB.at (k := 10) (by decide)
  obtain ⟨lf, b1, b2, b3⟩ := hB.at (k := 7) (by decide)
  have a2 : g_A M wn 1 (S.1 10) := a2
  have b2 : g_A M lf 2 (S.1 7) := b2
  refine m_X10_split ⟨by omega, by omega⟩ fun _ => ⟨hB.1, wn, a1, S.1 10, a2, ⟨by omega, by omega⟩, lf, b1, S.1 7, b2, ?_⟩
  rw [a3 _ (by omega) (by omega), hw]
  refine ⟨⟨by omega, by omega⟩, ?_⟩
  rw [b3 _ (by omega) (by omega), n1]
  refine c_newNodeA (d := d + 43) hB ha hnl hf01 h16 h17 fun nr i1 FN1 S1 M12 t1 f1 g1 a1 k6 k7 k17 k16 => ?_
  intro _ _ _
  have hnd := a1.2.1.nd
  have hnr : nr ∉ ns := (List.nodup_cons.mp hnd).1
  have hne : n ≠ nr := fun z => hnr (z ▸ hnn)
  have hnrl := a1.2.1.lt (n := nr) List.mem_cons_self
  have hnl1 := a1.2.1.lt (n := n) (List.mem_cons_of_mem _ hnn)
  obtain ⟨m4, m5, m6, m7, mN⟩ := a1.ln
  have hno1 : B_no S1 n (V_f h) (l.map (V_k h)) (V_m h l) := hD.no.1.ag ha.ln hn (by rw [List.length_map]; omega) (by have := V_m_len h l; omega) g1 (B_nA_nav hne).1 (B_nA_nav hne).2.1 (B_nA_nav hne).2.2
  obtain ⟨o1, o2, o3, o4⟩ := id hno1
  rw [List.length_map, h9] at o2
  obtain ⟨cn, c1, c2, c3⟩ := t1.at (k := 6) (by decide)
  obtain ⟨kd, d1, d2, -⟩ := t1.at (k := 4) (by decide)
  have c2 : g_A M12 cn 1 (S1.1 6) := c2
  have d2 : g_A M12 kd 1 (S1.1 4) := d2
  have hcv : g_i M12 cn n = 9 := by rw [c3 _ (by omega) (by omega)]; exact o2
  refine ⟨⟨by omega, by omega⟩, cn, c1, S1.1 6, c2, ⟨by omega, by omega⟩, ?_⟩
  rw [hcv]
  refine ⟨⟨by decide, by decide⟩, kd, d1, ⟨by omega, by omega⟩, kd, d1, ⟨by omega, by omega⟩, S1.1 4, d2, S1.1 4, d2, ⟨by omega, by omega, by decide, by omega, by omega⟩, fun M35 e35 _ => ?_⟩
  obtain ⟨t2, f2⟩ := t1.cpy (k := 4) (k1 := 4) (sp := (n : Int) * 9 + 4) (dp := (nr : Int) * 9) (n := 9 - 4) (by decide) (by decide) d1 d1 (by omega) (by omega)
  rw [← e35] at t2 f2
  obtain ⟨cn2, c4, c5, -⟩ := t2.at (k := 6) (by decide)
  have c5 : g_A M35 cn2 1 (S1.1 6) := c5
  refine ⟨cn2, c4, S1.1 6, c5, ⟨by omega, by omega⟩, fun M44 e44 _ => ?_⟩
  obtain ⟨t3, f3⟩ := t2.set (k := 6) (by decide) c4 (nr : Int) (9 - 4)
  rw [← e44] at t3 f3
  obtain ⟨cn3, c6, c7, -⟩ := t3.at (k := 6) (by decide)
  have c7 : g_A M44 cn3 1 (S1.1 6) := c7
  refine ⟨cn3, c6, S1.1 6, c7, ⟨by omega, by omega⟩, fun M53 e53 _ => ?_⟩
  obtain ⟨t4, f4⟩ := t3.set (k := 6) (by decide) c6 (n : Int) 4
  rw [← e53] at t4 f4
  obtain ⟨S4, hS4⟩ : ∃ S4, S4 = B_set (B_set (B_cp S1 4 4 ((n : Int) * 9 + 4) ((nr : Int) * 9) (9 - 4)) 6 nr (9 - 4)) 6 n 4 := ⟨_, rfl⟩
  rw [← hS4] at t4
  have hv : ∀ (k2 : Nat) (q : Int), S4.2.1 k2 q = if k2 = 6 ∧ q = n then (4 : Int) else if k2 = 6 ∧ q = nr then (9 - 4 : Int) else if k2 = 4 ∧ (nr : Int) * 9 ≤ q ∧ q < (nr : Int) * 9 + (9 - 4) then S1.2.1 4 ((n : Int) * 9 + 4 + (q - (nr : Int) * 9)) else S1.2.1 k2 q := fun k2 q => by
    rw [hS4, B_set_v, B_set_v, B_cp_v]
  have g4 : B_ag (fun k q => B_kA nr k q ∨ (k = 6 ∧ q = n)) B_0 S1 S4 := ⟨fun k2 => by rw [hS4]; exact Int.le_refl _, fun k2 q hA _ _ => by
    rw [hv, if_neg fun z => hA (Or.inr z), if_neg fun z => hA (Or.inl (Or.inr z)), if_neg fun z => hA (Or.inl (Or.inl ⟨z.1, by omega, by omega⟩))], fun k2 _ => by rw [hS4]; rfl⟩
  have e4 : S4.1 = S1.1 := by rw [hS4]; rfl
  have a4 : B_all S4 j i1 FS us FN1 (nr :: ns) w1 w2 := a1.ag g4 e4 (fun q z => by rcases z with (⟨z, -⟩ | ⟨z, -⟩) | ⟨z, -⟩ <;> omega) (fun q z => by rcases z with (⟨z, -⟩ | ⟨z, -⟩) | ⟨z, -⟩ <;> omega) (fun z => z) (fun z => z) (fun z => z) fun z => z
  obtain ⟨lf2, p1, p2, p3⟩ := t4.at (k := 7) (by decide)
  have hsplit : l.map (V_k h) = (l.map (V_k h)).take 4 ++ (l.map (V_k h)).drop 4 := (List.take_append_drop _ _).symm
  have hlt : ((l.map (V_k h)).take 4).length = 4 := by rw [List.length_take, List.length_map, h9]; rfl
  have hld : ((l.map (V_k h)).drop 4).length = 5 := by rw [List.length_drop, List.length_map, h9]
  rw [hsplit, B_il_app] at o3
  obtain ⟨x1, x2⟩ := b_app.mp o3
  rw [B_il_len, hlt] at x2
  refine hq nr i1 FN1 S4 M53 t4 (f1.tr (((f2.tr0 f3).tr0 f4).c j i1)) hnr a4 hnrl ((g1.up (fun k q z => Or.inl z) fun k z => z).tr (g4.up (fun k q z => Or.inr z) fun k z => z.elim)) ⟨?_, ?_, ?_, ?_⟩ ?_ ?_ ?_ (by rw [hS4]; exact k17) (by rw [hS4]; exact k16)
  · rw [hv, if_neg (by omega), if_neg (by omega), if_neg (by omega)]
    exact o1
  · rw [hv, if_pos ⟨rfl, rfl⟩, hlt]
    rfl
  · refine b_at_keep x1 fun q q1 q2 => ?_
    rw [B_il_len, hlt] at q2
    rw [hv, if_neg (by omega), if_neg (by omega), if_neg (by omega)]
  · have hml := V_m_len h l
    refine b_at_keep o4 fun q q1 q2 => ?_
    rw [hv, if_neg (by omega), if_neg (by omega), if_neg (by omega)]
  · rw [hv, if_neg (by omega), if_neg (by omega), if_neg (by omega)]
    exact k7
  · rw [hv, if_neg (by omega), if_pos ⟨rfl, rfl⟩]
    rfl
  · intro q w hq2
    have := (List.getElem?_eq_some_iff.mp hq2).1
    rw [B_il_len, hld] at this
    rw [hv, if_neg (by omega), if_neg (by omega), if_pos ⟨rfl, by omega, by omega⟩]
    exact (congrArg (S1.2.1 4) (by omega)).trans (x2 q w hq2)
end CSPL
