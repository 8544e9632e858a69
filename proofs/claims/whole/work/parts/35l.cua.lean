/-! REQUESTS, THE CLASS: update, the documents are renewed aside -/
theorem Y_ps_lo {op lo : Int} : ∀ (l : List (Int × b_E)) (pre : List (List Int)), (∀ z ∈ l, lo ≤ z.1) → (Y_ps op pre l).1 ≠ 0 → lo ≤ (Y_ps op pre l).2 := by
  intro l
  induction l with
  | nil => exact fun pre _ h => absurd rfl h
  | cons z r ih =>
    intro pre hl h
    have e : Y_ps op pre (z :: r) = if Y_ok z.2.2.1 = true then (if op = 3 ∧ ¬ (z.2.1 = 16 ∨ z.2.1 = 18) then (4, z.1) else if (pre.any fun x => X_bg x z.2.2.1) = true then (5, z.1) else Y_ps op (pre ++ [z.2.2.1]) r) else (3, z.1) := rfl
    have hz := hl z List.mem_cons_self
    rw [e] at h ⊢
    split
    · split
      · exact hz
      · split
        · exact hz
        · rename_i g1 g2 g3
          rw [if_pos g1, if_neg g2, if_neg g3] at h
          exact ih _ (fun y hy => hl y (List.mem_cons_of_mem _ hy)) h
    · exact hz
theorem Y_os_lo {lo : Int} : ∀ (l : List (Int × b_E)) (pre : List (List Int)), (∀ z ∈ l, lo ≤ z.1) → (Y_os pre l).1 ≠ 0 → lo ≤ (Y_os pre l).2 := by
  intro l
  induction l with
  | nil => exact fun pre _ h => absurd rfl h
  | cons z r ih =>
    intro pre hl h
    have e : Y_os pre (z :: r) = if X_op z.2.2.1 = 0 then (1, z.1) else if z.2.1 = 3 then (if (Y_ps (X_op z.2.2.1) pre (L_ch z.1 z.2)).1 = 0 then Y_os (pre ++ Y_nm (b_ch z.2.2.2)) r else Y_ps (X_op z.2.2.1) pre (L_ch z.1 z.2)) else (2, z.1) := rfl
    have hz := hl z List.mem_cons_self
    rw [e] at h ⊢
    split
    · exact hz
    · split
      · split
        · rename_i g1 g2 g3
          rw [if_neg g1, if_pos g2, if_pos g3] at h
          exact ih _ (fun y hy => hl y (List.mem_cons_of_mem _ hy)) h
        · rename_i g1 g2 g3
          exact Y_ps_lo _ _ (L_ch_lo hz) g3
      · exact hz
theorem Z_ps_lo {op lo : Int} : ∀ (l : List (Int × b_E)) (s : List b_E × Int), (∀ z ∈ l, lo ≤ z.1) → (Z_ps op s l).1.1 ≠ 0 → lo ≤ (Z_ps op s l).1.2 := by
  intro l
  induction l with
  | nil => exact fun s _ h => absurd rfl h
  | cons z r ih =>
    intro s hl h
    have hz := hl z List.mem_cons_self
    rw [Z_ps_c] at h ⊢
    by_cases g : (X_path op z.2 s.1).1 = 0
    · rw [if_pos g] at h ⊢
      exact ih _ (fun y hy => hl y (List.mem_cons_of_mem _ hy)) h
    · rw [if_neg g]
      exact hz
theorem Z_os_lo {lo : Int} : ∀ (l : List (Int × b_E)) (s : List b_E × Int), (∀ z ∈ l, lo ≤ z.1) → (Z_os s l).1.1 ≠ 0 → lo ≤ (Z_os s l).1.2 := by
  intro l
  induction l with
  | nil => exact fun s _ h => absurd rfl h
  | cons z r ih =>
    intro s hl h
    have hz := hl z List.mem_cons_self
    rw [Z_os_c] at h ⊢
    by_cases g : (Z_ps (X_op z.2.2.1) s (L_ch z.1 z.2)).1.1 = 0
    · rw [if_pos g] at h ⊢
      exact ih _ (fun y hy => hl y (List.mem_cons_of_mem _ hy)) h
    · rw [if_neg g]
      exact Z_ps_lo _ _ (L_ch_lo hz) g
theorem U_R_lo {pc qc : Int} {cs es : List b_E} (h1 : 0 ≤ pc) (h2 : 0 ≤ qc) (h : (U_R pc qc cs es).1.1 ≠ 0) : 0 ≤ (U_R pc qc cs es).1.2 := by
  have h9 := Z_os_lo (lo := 0) (L_at qc cs) (es, 0) fun z hz => by
    have := L_at_lo _ _ z hz
    omega
  unfold U_R Z_end at h ⊢
  split
  · split
    · exact h1
    · split
      · exact h1
      · rename_i g1 g2 g3
        rw [if_pos g1, if_neg g2, if_neg g3] at h
        exact absurd g1 h
  · rename_i g1
    exact h9 g1
theorem c_Wr.sb {o buf : Nat} {n lo lim : Int} {x : List Int} {M M1 : g_M} (h : c_Wr o buf n lo lim x M) (hx : g_ext M M1) (h1 : g_i M1 o = g_i M o ∧ g_r M1 o = g_r M o) (h2 : ∀ k, lo ≤ k → k < lim → g_i M1 buf k = g_i M buf k) : c_Wr o buf n lo lim x M1 := by
  obtain ⟨⟨a1, a2, a3, a4⟩, b1, b2, c1, c2⟩ := h
  refine ⟨⟨a1.up hx, by rw [h1.2]; exact a2, a3.up hx, a4⟩, b1, b2, by rw [h1.1]; exact c1, ?_⟩
  rw [h1.1]
  rcases c2 with ⟨z1, z2, z3, z4⟩ | z
  · exact Or.inl ⟨z1, z2, z3, b_at_keep z4 fun k k1 k2 => h2 k k1 (by omega)⟩
  · exact Or.inr z
section CUA
variable {d : Nat} {ι : Nat → Nat} {κ : Nat → Nat → Nat} {al sz : Nat → Nat × Nat} {cB eB : Int} {st : Nat → I_T} {D : Nat → List (Int × List b_E)} {gv : Nat → Int} {M M0 M1 : g_M} {x w : Nat} {u : List Int}
theorem c_updA {dd : Nat} {Q : g_M → Prop} {v1 pc qc : Int} {ce : b_E} {cs : List b_E} {hd : List b_E → Bool} (hw : w < 2) (hs : b_st (g_i M0 (ι 2)) 2008 pc 22 ce.1 ce.2.1 ce.2.2) (hkc : ce.1 = 3) (hqc : qc = pc + 6 + ce.2.1.length) (hce : cs = b_ch ce.2.2) (hgood : ∀ z ∈ b_ch ce.2.2, X_op z.2.1 ≠ 0 ∧ z.1 = 3 ∧ ∀ y ∈ b_ch z.2.2, p_ok y.2.1 ∧ (X_op z.2.1 = 3 → y.1 = 16 ∨ y.1 = 18)) (hcs : U_cs cs) (h16 : g_r M0 (ι 0) 16 = some (ι (67 + w))) (h15 : g_i M0 (ι 0) 15 = pc) (hgd : H_gd (D w)) (hv1 : g_InR v1) (hf : ∀ (i : Nat) (z : Int × List b_E), (D w)[i]? = some z → hd z.2 = true → (U_R pc qc cs z.2).1.1 ≠ 0 → (∀ (j : Nat) (z2 : Int × List b_E), j < i → (D w)[j]? = some z2 → hd z2.2 = true → (U_R pc qc cs z2.2).1.1 = 0) → ∀ M1, C_H ι κ al sz cB eB st D gv M1 → C_fx Ck_u ι M0 M1 → Q (g_wi (g_wi M1 (ι 0) 17 (20 + (U_R pc qc cs z.2).1.1)) (ι 0) 18 ((U_R pc qc cs z.2).1.2 - 4))) (hn : (∀ z ∈ D w, hd z.2 = true → (U_R pc qc cs z.2).1.1 = 0) → ∀ (M1 : g_M) (v5 : Int), C_uA ι κ al sz cB eB st D gv w hd qc cs M0 (D w).length (D w) M1 → (v5 = if 40000 < S_sum ((V_ds hd qc cs (D w)).map Prod.snd) then 0 else 1) → g_Run (dd + 231) 218 250 [(0, .ref (ι 0)), (1, g_n v1), (2, .ref (ι (72 + 4 * w))), (3, g_n (S_sum ((V_ds hd qc cs (D w)).map Prod.snd) : Nat)), (4, g_n (((D w).filter fun z => U_al hd qc cs z.2).length : Nat)), (5, g_n v5), (6, g_n 0)] [] M1 (g_qV Q)) (S : C_uA ι κ al sz cB eB st D gv w hd qc cs M0 0 [] M) : g_Run (dd + 231) 218 72 [(0, .ref (ι 0)), (1, g_n v1), (2, .ref (ι (72 + 4 * w))), (3, g_n 0), (4, g_n 0), (5, g_n 0)] [] M (g_qV Q) := by
  have hl200 : (D w).length ≤ 200 := by
    have := (S.1.2.2.2.2.1 w hw).2.2.2.2.1.1
    rw [List.length_map] at this
    exact this
  have s4 := hs.2.2.2.1
  have s5 := hs.2.2.2.2
  have hel := b_el_len ce.1 ce.2.1 ce.2.2
  have hpc := fun es => U_R_pc (-1) pc qc cs es
  have hRk : ∀ es, U_R pc qc cs es = Z_end pc (Z_os (es, 0) (L_ch pc ce)) := fun es => by
    unfold U_R L_ch
    rw [← hqc, ← hce]
  have hlp : ∀ (B A : List (Int × List b_E)) (M' : g_M), D w = A ++ B → (∀ z ∈ A, hd z.2 = true → (U_R pc qc cs z.2).1.1 = 0) → S_sum ((V_ds hd qc cs A).map Prod.snd) ≤ 2000 * A.length → C_uA ι κ al sz cB eB st D gv w hd qc cs M0 A.length A M' → g_Run (dd + 231) 218 72 [(0, .ref (ι 0)), (1, g_n v1), (2, .ref (ι (72 + 4 * w))), (3, g_n (S_sum ((V_ds hd qc cs A).map Prod.snd) : Nat)), (4, g_n ((A.filter fun z => U_al hd qc cs z.2).length : Nat)), (5, g_n (A.length : Nat))] [] M' (g_qV Q) := by
    intro B
    induction B with
    | nil =>
      intro A M' hA hAg hsm S'
      rw [List.append_nil] at hA
      subst hA
      obtain ⟨H', f', -, -, -, -⟩ := id S'
      obtain ⟨g0, gs, gh, gr10, gr1, gr0⟩ := H'.gF hw
      have hs' := H'.2.2.2.2.1 w hw
      have k' := f'.2.2 0 (by decide) (by decide) (by decide)
      have c6' : g_i M' (ι (67 + w)) 6 = (D w).length := hs'.2.2.1.1
      have hlf := List.length_filter_le (fun z : Int × List b_E => U_al hd qc cs z.2) (D w)
      refine s_X11_update_72 (a0 := ι 0) (a2 := ι (72 + 4 * w)) hv1 ⟨by omega, by omega⟩ ⟨by omega, by omega⟩ ⟨by omega, by omega⟩ fun _ => ⟨g0, ι (67 + w), by rw [k'.2]; exact h16, gs, fun g => absurd g (by rw [c6']; omega), fun _ => ⟨fun g => hn hAg M' 0 S' (by rw [if_pos (by omega)]), fun g => hn hAg M' 1 S' (by rw [if_neg (by omega)])⟩⟩
    | cons z B ih =>
      intro A M' hA hAg hsm S'
      obtain ⟨H', f', b', W', hm', h91'⟩ := id S'
      obtain ⟨g0, gs, gh, gr10, gr1, gr0⟩ := H'.gF hw
      have hs' := H'.2.2.2.2.1 w hw
      have k' := f'.2.2 0 (by decide) (by decide) (by decide)
      have c6' : g_i M' (ι (67 + w)) 6 = (D w).length := hs'.2.2.1.1
      have hlD : (D w).length = A.length + (B.length + 1) := by rw [hA, List.length_append, List.length_cons]
      have hlf := List.length_filter_le (fun z : Int × List b_E => U_al hd qc cs z.2) A
      have hz : (D w)[A.length]? = some z := by
        rw [hA, List.getElem?_append_right (Nat.le_refl _), Nat.sub_self]
        rfl
      have hzm : z ∈ D w := List.mem_of_getElem? hz
      obtain ⟨-, zl, zg⟩ := hgd.2 z hzm
      obtain ⟨p, p1, p2, p3, p4, -⟩ := hs'.at hz
      have hbase : (2008 + 40400 * (w : Int)) + 40400 ≤ 82808 := by omega
      have hmz := hm' A.length z hz
      rw [if_neg (Nat.lt_irrefl _)] at hmz
      have hA2 : D w = (A ++ [z]) ++ B := by rw [hA, List.append_assoc]; rfl
      -- once the new document stands
      have h183 : ∀ (M2 : g_M) (v6 : Int) (De : Nat), (hd z.2 = true → (U_R pc qc cs z.2).1.1 = 0) → C_uA ι κ al sz cB eB st D gv w hd qc cs M0 (A.length + 1) A M2 → b_st (g_i M2 (ι 2)) 246408 v6 De 3 [] (b_doc (U_nd hd qc cs z.2)) → (v6 + (b_el 3 [] (b_doc (U_nd hd qc cs z.2))).length ≤ 82808 ∨ 123208 ≤ v6) → g_Run (dd + 231) 218 183 [(0, .ref (ι 0)), (1, g_n v1), (2, .ref (ι (72 + 4 * w))), (3, g_n (S_sum ((V_ds hd qc cs A).map Prod.snd) : Nat)), (4, g_n (((A ++ [z]).filter fun z => U_al hd qc cs z.2).length : Nat)), (5, g_n (A.length : Nat)), (6, g_n v6)] [] M2 (g_qV Q) := fun M2 v6 De h0 S2 hst hpl => by
        obtain ⟨k1, k2, -⟩ := U_nd_ok (hd := hd) hcs zg zl (fun g => by rw [(hpc z.2).1]; exact h0 g)
        have hlf2 := List.length_filter_le (fun z : Int × List b_E => U_al hd qc cs z.2) (A ++ [z])
        rw [List.length_append, List.length_singleton] at hlf2
        have e8 : S_sum ((V_ds hd qc cs [z]).map Prod.snd) = (b_doc (U_nd hd qc cs z.2)).length := by
          have e7 : (V_ds hd qc cs [z]).map Prod.snd = [U_nd hd qc cs z.2] := rfl
          have e6 : S_sum [] = 0 := rfl
          rw [e7, S_sum_c, e6, Nat.add_zero]
        have e9 : S_sum ((V_ds hd qc cs (A ++ [z])).map Prod.snd) = S_sum ((V_ds hd qc cs A).map Prod.snd) + (b_doc (U_nd hd qc cs z.2)).length := by
          rw [V_ds_app, List.map_append, S_sum_app, e8]
        refine c_upd183 (d := dd + 228) (nd := U_nd hd qc cs z.2) S2 hw hv1 ⟨by omega, by omega⟩ ⟨by omega, by omega⟩ (by omega) rfl hst k2 hpl fun M3 S3 => ?_
        have h9 := ih (A ++ [z]) M3 hA2 (fun y hy => by
          rcases List.mem_append.mp hy with g | g
          · exact hAg y g
          · rw [List.mem_singleton.mp g]
            exact h0) (by
          rw [e9, List.length_append, List.length_singleton]
          omega) (by rw [List.length_append, List.length_singleton]; exact S3)
        rw [e9, List.length_append, List.length_singleton, show ((S_sum ((V_ds hd qc cs A).map Prod.snd) + (b_doc (U_nd hd qc cs z.2)).length : Nat) : Int) = (S_sum ((V_ds hd qc cs A).map Prod.snd) : Nat) + ((b_doc (U_nd hd qc cs z.2)).length : Int) by omega, show ((A.length + 1 : Nat) : Int) = (A.length : Int) + 1 by omega] at h9
        exact h9
      have hfl : ∀ b : Bool, U_al hd qc cs z.2 = b → ((A ++ [z]).filter fun z => U_al hd qc cs z.2).length = (A.filter fun z => U_al hd qc cs z.2).length + if b = true then 1 else 0 := fun b hb => by
        rw [List.filter_append, List.length_append, List.filter_cons, hb]
        cases b <;> rfl
      have hmk : ∀ (q : Nat) (y : Int × List b_E), q ≠ A.length → (if q < A.length + 1 then U_al hd qc cs y.2 else hd y.2) = (if q < A.length then U_al hd qc cs y.2 else hd y.2) := fun q y e => by
        by_cases e2 : q < A.length
        · rw [if_pos e2, if_pos (by omega)]
        · rw [if_neg e2, if_neg (by omega)]
      refine s_X11_update_72 (a0 := ι 0) (a2 := ι (72 + 4 * w)) hv1 ⟨by omega, by omega⟩ ⟨by omega, by omega⟩ ⟨by omega, by omega⟩ fun _ => ⟨g0, ι (67 + w), by rw [k'.2]; exact h16, gs, fun _ => ⟨ι (67 + w), by rw [k'.2]; exact h16, gs, ι (69 + 4 * w), hs'.1.2.2.1, 200, hs'.1.2.2.2.2.1, ⟨by omega, by omega⟩, ι 90, gr10, 200, gh, ⟨by omega, by omega⟩, fun g => ?_, fun g => ?_⟩, fun g => absurd (by rw [c6']; omega) g⟩
      · -- not hit
        have hdz : hd z.2 = false := by
          cases e : hd z.2
          · rfl
          · rw [hmz, e] at g
            exact absurd g (by decide)
        have hal : U_al hd qc cs z.2 = false := by
          unfold U_al
          rw [hdz]
          rfl
        have hnd : U_nd hd qc cs z.2 = z.2 := by
          unfold U_nd
          rw [hdz]
          rfl
        rw [p1]
        have h9 := h183 M' p 16 (fun g => absurd (hdz.symm.trans g) (by decide)) ⟨H', f', b', W', fun q y hq => ?_, h91'⟩ (by
          rw [hnd]
          exact ⟨p2.1, p2.2.1, p2.2.2.1, p2.2.2.2.1, by have := p2.2.2.2.2; omega⟩) (Or.inl (by rw [hnd]; omega))
        · rw [hfl false hal] at h9
          exact h9
        · have h8 := hm' q y hq
          by_cases e : q = A.length
          · subst e
            rw [hz] at hq
            have hq : z = y := Option.some.inj hq
            rw [if_pos (Nat.lt_succ_self _), ← hq, hal, hmz, hdz]
          · rw [show (if q < A.length + 1 then U_al hd qc cs y.2 else hd y.2) = (if q < A.length then U_al hd qc cs y.2 else hd y.2) from hmk q y e]
            exact h8
      · -- hit
        have hdz : hd z.2 = true := by
          cases e : hd z.2
          · rw [hmz, e] at g
            exact absurd rfl g
          · rfl
        refine ⟨ι 10, H'.1.r (by decide), H'.1.O (by decide), ?_⟩
        rw [p1, k'.1, h15]
        have hsF : b_st (g_i M' (ι 2)) 100000 pc 22 ce.1 ce.2.1 ce.2.2 := ⟨b_at_keep hs.1 fun k k1 k2 => b' k (by omega), hs.2.1, hs.2.2.1, s4, by omega⟩
        have hdl := b_doc_len z.2
        have hdoc : g_Call (dd + 159 + 72) 23 [.ref (ι 10), g_n p, g_n pc] M' (g_qI fun r24 M21 => g_ext M' M21 → g_ok M21 → g_InR r24 → ((r24 = 0 → ∃ b44, g_r M21 (ι 0) 4 = some b44 ∧ g_O M21 b44 1 ∧ g_InR (20 + (g_i M21 b44 7)) ∧ ∃ b48, g_r M21 (ι 0) 4 = some b48 ∧ g_O M21 b48 1 ∧ g_Call (dd + 231) 198 [.ref (ι 0), g_n (20 + (g_i M21 b44 7)), g_n (g_i M21 b48 8)] M21 (g_qV fun M51 => g_ext M21 M51 → g_ok M51 → Q M51)) ∧ (¬ r24 = 0 → ∃ b26, g_r M21 (ι 0) 10 = some b26 ∧ ∃ b28, g_r M21 (ι 0) 4 = some b28 ∧ g_O M21 b28 1 ∧ ∃ n31, g_A M21 b26 2 n31 ∧ ((0 : Int) ≤ (A.length : Int) ∧ ((A.length : Int) : Int) < n31) ∧ (g_i M21 b28 6 = 0 ∨ g_i M21 b28 6 = 1) ∧ (∀ M35, M35 = g_wi M21 b26 (A.length : Int) (g_i M21 b28 6) → g_ok M35 → ∃ b39, g_r M35 (ι 0) 4 = some b39 ∧ g_O M35 b39 1 ∧ ((g_i M35 b39 6 = 0 → g_InR (((A.filter fun z => U_al hd qc cs z.2).length : Int) + 0) ∧ g_Run (dd + 231) 218 183 [(0, .ref (ι 0)), (1, g_n v1), (2, .ref (ι (72 + 4 * w))), (3, g_n (S_sum ((V_ds hd qc cs A).map Prod.snd) : Nat)), (4, g_n (((A.filter fun z => U_al hd qc cs z.2).length : Int) + 0)), (5, g_n (A.length : Nat)), (6, g_n 163608)] [] M35 (g_qV Q)) ∧ (¬ g_i M35 b39 6 = 0 → g_InR (((A.filter fun z => U_al hd qc cs z.2).length : Int) + 1) ∧ g_Run (dd + 231) 218 183 [(0, .ref (ι 0)), (1, g_n v1), (2, .ref (ι (72 + 4 * w))), (3, g_n (S_sum ((V_ds hd qc cs A).map Prod.snd) : Nat)), (4, g_n (((A.filter fun z => U_al hd qc cs z.2).length : Int) + 1)), (5, g_n (A.length : Nat)), (6, g_n 163608)] [] M35 (g_qV Q)))))) ) := by
          refine c_does (d := dd + 159) (F := g_i M' (ι 2)) (es := z.2) H'.XO (fun _ _ => rfl) hsF hkc hgood p2.2.2.2.1 (by omega) p2.1 (zg.le (by decide)) (by omega) ?_
          rw [← hRk z.2]
          intro M21 f21 O21 b21 hbad hgd21
          intro _ ok21 _
          obtain ⟨H21, fx21⟩ := H'.xS f21 O21 b21
          have fu21 : C_fx Ck_u ι M0 M21 := f'.tr (fx21.up (by decide))
          by_cases h0 : (U_R pc qc cs z.2).1.1 = 0
          · rw [if_pos h0]
            obtain ⟨hrt, h6⟩ := hgd21 h0
            obtain ⟨r1, r2, r3, r4⟩ := U_R_ok hcs zg zl h0
            have hnd : U_nd hd qc cs z.2 = (U_R pc qc cs z.2).2.1 := by
              unfold U_nd
              rw [if_pos hdz, (hpc z.2).2]
            have hal : U_al hd qc cs z.2 = decide ((U_R pc qc cs z.2).2.2 = 1) := by
              unfold U_al
              rw [hdz, (hpc z.2).2, Bool.true_and]
            have h6b : g_i M21 (ι 10) 6 = if U_al hd qc cs z.2 = true then 1 else 0 := by
              rw [h6, hal]
              rcases r3 with e | e <;> rw [e] <;> rfl
            refine ⟨fun g => absurd g (by decide), fun _ => ⟨ι 90, H21.1.r (by decide), ι 10, H21.1.r (by decide), H21.1.O (by decide), 200, H21.1.A (by decide), ⟨by omega, by omega⟩, by rw [h6]; exact r3, fun M35 e35 _ => ?_⟩⟩
            have f35 : e_fr (fun y _ => y = ι 90) M21 M35 := by
              rw [e35]
              exact e_fr.wi _ rfl
            obtain ⟨H35, fu35, b35⟩ := H21.oS hw f35 fun y k z => Or.inr (Or.inr (Or.inl z))
            obtain ⟨-, -, -, o4, -, -⟩ := H'.ou hw
            have n90 : ∀ {a : Nat}, a ∈ Ck_k → a ≠ 90 → g_i M35 (ι a) = g_i M21 (ι a) := fun ha hn => funext fun k => f35.2.1 _ _ fun z => H'.2.1.ne ha (by decide) hn z
            have hxn : ∀ {a : Nat}, a ∈ Ck_k → a ∉ Ck_x → a ≠ 1 → g_i M21 (ι a) = g_i M' (ι a) ∧ g_r M21 (ι a) = g_r M' (ι a) := fun ha hn h1 => fx21.2.2 _ ha h1 hn
            have h72 : 72 + 4 * w ∉ Ck_x := by
              intro g
              have : ∀ a ∈ Ck_x, a < 20 := by decide
              have := this _ g
              omega
            have W35 : c_Wr (ι (72 + 4 * w)) (ι 2) 246408 82808 123208 (H_sb ((V_ds hd qc cs A).map Prod.snd)) M35 := W'.sb (fx21.1.tr fu35.1) ⟨(n90 o4 (by omega)).trans (hxn o4 h72 (by omega)).1, (funext fun k => f35.2.2 _ _ : g_r M35 (ι (72 + 4 * w)) = g_r M21 (ι (72 + 4 * w))).trans (hxn o4 h72 (by omega)).2⟩ fun k k1 k2 => by
              rw [n90 (a := 2) (by decide) (by decide)]
              exact b21 k (by omega)
            have S35 : C_uA ι κ al sz cB eB st D gv w hd qc cs M0 (A.length + 1) A M35 := by
              refine ⟨H35, fu21.tr fu35, fun k hk => ((b35 k hk).trans (b21 k (by omega))).trans (b' k hk), W35, fun q y hq => ?_, fun hfit q hq => ?_⟩
              · rw [e35, g_i_ws]
                by_cases e : (q : Int) = A.length
                · have e : q = A.length := by omega
                  subst e
                  rw [hz] at hq
                  have hq : z = y := Option.some.inj hq
                  rw [if_pos rfl, if_pos (Nat.lt_succ_self _), ← hq, h6b]
                · rw [if_neg e, (hxn (a := 90) (by decide) (by decide) (by decide)).1, show (if q < A.length + 1 then U_al hd qc cs y.2 else hd y.2) = (if q < A.length then U_al hd qc cs y.2 else hd y.2) from hmk q y (by omega)]
                  exact hm' q y hq
              · rw [n90 (a := 91) (by decide) (by decide), (hxn (a := 91) (by decide) (by decide) (by decide)).1]
                exact h91' hfit q hq
            have hst35 : b_st (g_i M35 (ι 2)) 246408 163608 16 3 [] (b_doc (U_nd hd qc cs z.2)) := by
              rw [n90 (a := 2) (by decide) (by decide), hnd]
              have hl2 := b_doc_len (U_R pc qc cs z.2).2.1
              have hel2 := b_el_len 3 [] (b_doc (U_R pc qc cs z.2).2.1)
              rw [List.length_nil] at hel2
              exact ⟨hrt.2.2.1, fun c hc => absurd hc (by simp), X_gv (Or.inl rfl) r1 (by omega) fun z => absurd z (by decide), by decide, by omega⟩
            have h9 := h183 M35 163608 16 (fun _ => h0) S35 hst35 (Or.inr (by decide))
            refine ⟨ι 10, H35.1.r (by decide), H35.1.O (by decide), ?_⟩
            rw [n90 (a := 10) (by decide) (by decide), h6b]
            cases e : U_al hd qc cs z.2
            · rw [hfl false e] at h9
              refine ⟨fun _ => ⟨⟨by omega, by omega⟩, ?_⟩, fun g => absurd rfl g⟩
              rw [Int.add_zero]
              exact h9
            · rw [hfl true e, show (((A.filter fun z => U_al hd qc cs z.2).length + (if true = true then 1 else 0) : Nat) : Int) = ((A.filter fun z => U_al hd qc cs z.2).length : Int) + 1 from Int.natCast_add _ _] at h9
              exact ⟨fun g => absurd g (by decide), fun _ => ⟨⟨by omega, by omega⟩, h9⟩⟩
          · rw [if_neg h0]
            obtain ⟨h7, h8⟩ := hbad h0
            have hle := U_R_le pc qc cs z.2
            have hlo := U_R_lo (pc := pc) (qc := qc) s4 (by omega) h0
            refine ⟨fun _ => ⟨ι 10, H21.1.r (by decide), H21.1.O (by decide), by rw [h7]; exact ⟨by omega, by omega⟩, ι 10, H21.1.r (by decide), H21.1.O (by decide), ?_⟩, fun g => absurd rfl g⟩
            rw [h7, h8]
            refine c_failAt (d := dd + 229) (H21.1.O (by decide)) ⟨by omega, by omega⟩ (by rw [← h8]; exact ok21.1 _ _) hlo ?_
            intro _ _
            refine hf A.length z hz hdz h0 (fun j z2 hj hz2 hd2 => hAg z2 ?_ hd2) M21 H21 fu21
            rw [hA, List.getElem?_append_left hj] at hz2
            exact List.mem_of_getElem? hz2
        exact hdoc
  exact hlp (D w) [] M rfl (fun z hz => absurd hz (by simp)) (Nat.zero_le _) S
end CUA
