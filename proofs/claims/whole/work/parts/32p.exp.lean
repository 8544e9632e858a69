/-! EXPLAIN, THE REFERENCE: the request -/
def D_kk (k : I_K) : D_e := (b_cl k.1, 1, (0, k.1, [], k.2))
noncomputable def D_ink (A : List D_i) (k : I_K) : Bool := A.any fun i => D_w i (D_kk k)
/-- whether a document is looked at -/
noncomputable def D_lkd (V : I_V) (b1 b2 : Option (List D_i)) (es : List b_E) : Bool := (I_key1 V es).any (D_ink (b1.getD [])) && (decide (D_rk b1 b2 < 3) || (I_key2 V es).any (D_ink (b2.getD [])))
theorem D_in_k (A : List D_i) (q : Int) (o : Option (Int × b_E)) : D_in A q o = D_ink A (I_ko o) := by
  cases o with
  | none => rfl
  | some z => rfl
theorem I_rv_iff {α : Type} {c : α → α → Int} {y : α} : ∀ (l r : List α), y ∈ l.foldl (fun r x => I_ins c x r) r ↔ y ∈ l ∨ y ∈ r := by
  intro l
  induction l with
  | nil =>
    intro r
    exact ⟨fun h => Or.inr h, fun h => h.resolve_left (by simp)⟩
  | cons x l ih =>
    intro r
    have e : (x :: l).foldl (fun r x => I_ins c x r) r = l.foldl (fun r x => I_ins c x r) (I_ins c x r) := rfl
    rw [e, ih, I_ins_mem, List.mem_cons]
    constructor
    · rintro (g | g | g)
      · exact Or.inl (Or.inr g)
      · exact Or.inl (Or.inl g)
      · exact Or.inr g
    · rintro ((g | g) | g)
      · exact Or.inr (Or.inl g)
      · exact Or.inl g
      · exact Or.inr (Or.inr g)
theorem D_any_ar {w : Int} (A : List D_i) (q : Int) (U : List (Option (Int × b_E))) : U.any (D_in A q) = ((I_ar w U).map I_ko).any (D_ink A) := by
  have hm : ∀ u, u ∈ I_ar w U ↔ u ∈ U := fun u => by
    unfold I_ar
    rw [List.mem_reverse]
    unfold I_rv
    rw [I_rv_iff]
    exact ⟨fun h => h.resolve_right (by simp), fun h => Or.inl h⟩
  refine Bool.eq_iff_iff.mpr ⟨fun h => ?_, fun h => ?_⟩
  · obtain ⟨u, hu, h⟩ := List.any_eq_true.mp h
    rw [D_in_k] at h
    exact List.any_eq_true.mpr ⟨I_ko u, List.mem_map.mpr ⟨u, (hm u).mpr hu, rfl⟩, h⟩
  · obtain ⟨k, hk, h⟩ := List.any_eq_true.mp h
    obtain ⟨u, hu, rfl⟩ := List.mem_map.mp hk
    refine List.any_eq_true.mpr ⟨u, (hm u).mp hu, ?_⟩
    rw [D_in_k]
    exact h
theorem D_lk_key {V : I_V} {b1 b2 : Option (List D_i)} {q c : Int} {es : List b_E} (hw1 : I_w V.1) (hw2 : I_w V.2.1) (h1 : V.2.2.1 ≠ []) (h2 : ∀ s, V.2.2.2 = some s → s ≠ []) (hg : X_gd 15 es) : D_lk b1 b2 q (I_u c es V.2.2.1) (I_u2 V c es) = D_lkd V b1 b2 es := by
  have e1 : (I_u c es V.2.2.1).any (D_in (b1.getD []) q) = (I_key1 V es).any (D_ink (b1.getD [])) := by
    rw [D_any_ar (w := V.1)]
    obtain ⟨s, r, hsr⟩ := List.exists_cons_of_ne_nil h1
    unfold I_key1
    rw [hsr, I_ar_key hw1 hg]
  have e2 : (I_u2 V c es).any (D_in (b2.getD []) q) = (I_key2 V es).any (D_ink (b2.getD [])) := by
    rw [D_any_ar (w := V.2.1)]
    unfold I_key2 I_u2
    cases hv : V.2.2.2 with
    | none => rfl
    | some s =>
      obtain ⟨s1, r, hsr⟩ := List.exists_cons_of_ne_nil (h2 s hv)
      subst hsr
      show ((I_ar V.2.1 (I_u c es (s1 :: r))).map I_ko).any (D_ink (b2.getD [])) = (I_key V.2.1 es (s1 :: r)).any (D_ink (b2.getD []))
      rw [I_ar_key hw2 hg]
  unfold D_lk D_lkd
  rw [e1, e2]
/-- how many documents are looked at -/
noncomputable def D_lkn (st : Nat → I_T) (l : List (Int × b_E)) (x : Nat) (ds : List (List b_E)) : Nat := if x = 8 then ds.length else match st x with
  | none => 0
  | some (V, _, m1, m2) => (ds.filter (D_lkd V (D_B m1 V.2.2.1 l) (D_B2 m2 V.2.2.2 l))).length
/-- what explain tells -/
def F_exp (w : Nat) (s : Nat × Int × Int) (n : Nat) (a b c d : Nat) : List Int := b_el 16 (b_tx a) (b_le4 (if s.1 = 8 then -1 else (s.1 : Int) - 4 * (w : Int))) ++ (b_el 16 (b_tx b) (b_le4 s.2.1) ++ (b_el 16 (b_tx c) (b_le4 s.2.2) ++ b_el 16 (b_tx d) (b_le4 (n : Int))))
section DXP
variable {m d : Nat} {ρ : Nat → Nat} {M M1 : g_M} {st : Nat → I_T} {q : Nat → List (Nat × Int × List b_E)} {v : Nat → Int}
theorem e_explain {Q : Int → g_M → Prop} {c : Int} {w : Nat} {xs : List b_E} {l : List (Int × b_E)} (h : E_H m ρ st q v M) (hS : E_S m (ρ 0) (ρ 9) (g_i M (ρ 0)) M []) (h40 : g_i M m 40 = 0 ∨ g_i M m 40 = 1) (hw : w < 2) (hct : E_ct (g_i M (ρ 0)) c 15 xs) (hl : l = L_at (c + 4) xs) (hg : ∀ x, 4 * w ≤ x → x < 4 * w + 4 → ∀ V T m1 m2, st x = some (V, T, m1, m2) → D_fg (g_i M (ρ 0)) (p_jn V.2.2.1) l ∧ ∀ s2, V.2.2.2 = some s2 → D_fg (g_i M (ρ 0)) (p_jn s2) l) (hq : ∀ M1 M2, E_k m M M1 → E_S m (ρ 0) (ρ 9) (g_i M1 (ρ 0)) M1 [] → (g_i M1 m 40 = 0 ∨ g_i M1 m 40 = 1) → E_H m ρ st q v M1 → e_fr (A_L m (ρ 0)) M1 M2 → e_Wr m (ρ 0) 2598000 2606000 (A_doc (F_exp w (D_chs (D_fx st l) w 4) (D_lkn st l (D_chs (D_fx st l) w 4).1 ((q w).map fun z => z.2.2)) 82 131 132 133)) M2 → (g_i M2 m 6 = 0 → Q 1 M2) ∧ (¬ g_i M2 m 6 = 0 → Q 0 (g_wi (g_wi M2 m 7 40) m 8 (-1)))) : g_Call (d + 72) 423 [.ref m, g_n c, g_n (w : Int)] M (g_qI Q) := by
  have c1 := hct.2.1
  have c2 := hct.2.2.1
  have hcR : g_InR c := ⟨by omega, by omega⟩
  have hwR : g_InR (w : Int) := ⟨by omega, by omega⟩
  have hB := h.1
  have hmne : ∀ k ∈ E_bf, m ≠ ρ k := fun k hk z => hB.nm hk z.symm
  obtain ⟨⟨s1, s2, s3, s4⟩, s5, s6, s7, s8⟩ := h.2.2.2.2 w hw
  have hl200 := s8.1
  rw [List.length_map] at hl200
  have wal : ∀ {M2 M3 : g_M}, e_fr (e_WL m (ρ 0) 2598000 2606000) M2 M3 → e_fr (A_L m (ρ 0)) M2 M3 := fun f => f.up fun y k z => A_L.w z
  have nal : ∀ {M2 M3 : g_M} (k : Int), k ≠ 4 → k ≠ 5 → k ≠ 6 → k ≠ 77 → e_fr (A_L m (ρ 0)) M2 M3 → g_i M3 m k = g_i M2 m k := fun k n4 n5 n6 n7 f => f.2.1 m k fun z => by
    rcases z with ⟨-, z⟩ | ⟨z, -⟩
    · omega
    · exact hmne 0 (by decide) z
  have n77 : ∀ {M2 M3 : g_M}, e_fr (e_WL m (ρ 0) 2598000 2606000) M2 M3 → g_i M3 m 77 = g_i M2 m 77 := fun f => f.2.1 m 77 fun z => by
    rcases z with ⟨-, z⟩ | ⟨z, -⟩
    · omega
    · exact hmne 0 (by decide) z
  obtain ⟨s, hs⟩ : ∃ s, s = D_chs (D_fx st l) w 4 := ⟨_, rfl⟩
  rw [← hs] at hq
  have hin := D_chs_in (D_fx st l) w 4
  rw [← hs] at hin
  have hx8 : s.1 ≤ 8 ∧ 4 * w ≤ s.1 := by
    rcases hin with g | ⟨g1, g2, -⟩
    · rw [g]
      exact ⟨Nat.le_refl _, show 4 * w ≤ 8 by omega⟩
    · exact ⟨by omega, g1⟩
  -- the answer
  have hend : ∀ (M' : g_M) (n : Nat), E_k m M M' → E_S m (ρ 0) (ρ 9) (g_i M' (ρ 0)) M' [] → (g_i M' m 40 = 0 ∨ g_i M' m 40 = 1) → E_H m ρ st q v M' → g_i M' m 65 = s.2.1 → g_i M' m 66 = s.2.2 → n = D_lkn st l s.1 ((q w).map fun z => z.2.2) → n ≤ 200 → g_Run (d + 71) 423 13 [(0, .ref m), (1, g_n c), (2, g_n (w : Int)), (3, g_n (s.1 : Int)), (4, g_n (n : Int)), (5, g_n ((q w).length : Int))] [] M' (g_qI Q) := by
    intro M' n K' S' c' H' w65 w66 hn hn2
    have hB' := H'.1
    have b68 := hB'.at (k := 68) (by decide)
    have b68A : g_A M' (ρ 68) 1 2 := b68.2
    have t68 : g_i M' (ρ 68) w = (q w).length := (H'.2.2.2.2 w hw).1.2.1
    refine s_X12_explain_13 hcR hwR ⟨by omega, by omega⟩ ⟨by omega, by omega⟩ ⟨by omega, by omega⟩ fun _ => ⟨hB'.1, ρ 68, b68.1, 2, b68A, ⟨by omega, by omega⟩, fun g => absurd g (by rw [t68]; omega), fun _ => e_beginAnswer (d := d + 67) hB'.R fun M7 f7 W7 h77 => ?_⟩
    intro _ ok7
    have h84 : ∀ v0 : Int, v0 = (if s.1 = 8 then -1 else (s.1 : Int) - 4 * (w : Int)) → g_Run (d + 71) 423 84 [(0, .ref m), (1, g_n c), (2, g_n (w : Int)), (3, g_n (s.1 : Int)), (4, g_n (n : Int)), (5, g_n ((q w).length : Int))] [g_n v0, .ref (4 * 82 + 1), .ref m] M7 (g_qI Q) := by
      intro v0 hv0
      have hv0R : g_InR v0 := by
        rw [hv0]
        split
        · exact ⟨by decide, by decide⟩
        · exact ⟨by omega, by omega⟩
      refine s_X12_explain_84 (j91 := 82) hcR hwR ⟨by omega, by omega⟩ ⟨by omega, by omega⟩ ⟨by omega, by omega⟩ hv0R (by decide) fun _ => ⟨W7.1.1, e_putNumber (d := d + 67) (j := 82) (by decide) W7 hv0R fun M12 f12 W12 => ?_⟩
      intro _ ok12
      have F12 := f7.tr (wal f12)
      refine ⟨W12.1.1, e_putNumber (d := d + 67) (j := 131) (by decide) W12 (ok12.1 m 65) fun M16 f16 W16 => ?_⟩
      intro _ ok16
      have F16 := F12.tr (wal f16)
      refine e_putNumber (d := d + 67) (j := 132) (by decide) W16 (ok16.1 m 66) fun M19 f19 W19 => ?_
      intro _ ok19
      refine e_putNumber (d := d + 67) (j := 133) (by decide) W19 ⟨by omega, by omega⟩ fun M22 f22 W22 => ?_
      intro _ _
      rw [nal 65 (by decide) (by decide) (by decide) (by decide) F12, w65, nal 66 (by decide) (by decide) (by decide) (by decide) F16, w66] at W22
      have F22 := (F16.tr (wal f19)).tr (wal f22)
      have Wx : e_Wr m (ρ 0) 2598000 2606000 ([0, 0, 0, 0] ++ F_exp w s n 82 131 132 133) M22 := by
        unfold F_exp
        have e1 : ([0, 0, 0, 0] : List Int) ++ (b_el 16 (b_tx 82) (b_le4 (if s.1 = 8 then -1 else (s.1 : Int) - 4 * (w : Int))) ++ (b_el 16 (b_tx 131) (b_le4 s.2.1) ++ (b_el 16 (b_tx 132) (b_le4 s.2.2) ++ b_el 16 (b_tx 133) (b_le4 (n : Int))))) = [0, 0, 0, 0] ++ b_el 16 (b_tx 82) (b_le4 (if s.1 = 8 then -1 else (s.1 : Int) - 4 * (w : Int))) ++ b_el 16 (b_tx 131) (b_le4 s.2.1) ++ b_el 16 (b_tx 132) (b_le4 s.2.2) ++ b_el 16 (b_tx 133) (b_le4 (n : Int)) := by simp
        rw [e1, ← hv0]
        exact W22
      refine e_endAnswer (d := d + 68) Wx (by rw [n77 f22, n77 f19, n77 f16, n77 f12]; exact h77) fun M25 f25 W25 => ?_
      rw [hn] at W25
      have hfin := hq M' M25 K' S' c' H' (F22.tr f25) W25
      exact ⟨fun z => by
        intro _ _ _
        exact ⟨Or.inr rfl, hfin.1 z⟩, fun z => by
        intro _ _ _
        exact ⟨Or.inl rfl, hfin.2 z⟩⟩
    refine ⟨fun g => h84 (-1) (by rw [if_pos (by omega)]), fun g => ⟨⟨by omega, by omega⟩, ⟨by omega, by omega⟩, h84 _ (by rw [if_neg (by omega)])⟩⟩
  have wm : ∀ {k : Int}, ¬ (k = 61 ∨ k = 64 ∨ k = 65 ∨ k = 66 ∨ k = 67) → ¬ E_WF m ρ m k := fun hk z => hk (E_WF_m hB z)
  have hst : ∀ {M1 : g_M}, e_fr (E_WF m ρ) M M1 → E_k m M M1 ∧ E_S m (ρ 0) (ρ 9) (g_i M1 (ρ 0)) M1 [] ∧ (g_i M1 m 40 = 0 ∨ g_i M1 m 40 = 1) ∧ E_H m ρ st q v M1 := fun f => ⟨f.k (wm (by decide)) (wm (by decide)), hS.fx f (wm (by decide)) (fun k => E_WF_n hB (by decide) (by decide)), by rw [f.2.1 m 40 (wm (by decide))]; exact h40, h.wf f⟩
  refine m_X12_explain (d := d + 71) hcR hwR fun _ => ⟨hB.1, e_choose (d := d + 14) h hw hct hl hg (fun hno M2 f2 w65 w66 => ?_) fun x V T m1 m2 hx x1 x2 hstx M2 f2 W2 => ?_⟩
  · intro _ _ _
    obtain ⟨K2, S2, cc2, H2⟩ := hst f2
    have hs8 : s = (8, 0, 1) := hs.trans hno
    have hB2 := H2.1
    have b68 := hB2.at (k := 68) (by decide)
    have b68A : g_A M2 (ρ 68) 1 2 := b68.2
    have t68 : g_i M2 (ρ 68) w = (q w).length := (H2.2.2.2.2 w hw).1.2.1
    have hlp : ∀ (r k : Nat), k + r = (q w).length → g_Run (d + 71) 423 13 [(0, .ref m), (1, g_n c), (2, g_n (w : Int)), (3, g_n 8), (4, g_n (k : Int)), (5, g_n (k : Int))] [] M2 (g_qI Q) := by
      intro r
      induction r with
      | zero =>
        intro k hk
        have hk2 : k = (q w).length := by omega
        have h9 := hend M2 k K2 S2 cc2 H2 (by rw [hs8]; exact w65) (by rw [hs8]; exact w66) (by
          rw [hs8]
          show k = D_lkn st l 8 ((q w).map fun z => z.2.2)
          unfold D_lkn
          rw [if_pos rfl, List.length_map]
          exact hk2) (by omega)
        rw [hs8, ← hk2] at h9
        exact h9
      | succ r ih =>
        intro k hk
        have h9 := ih (k + 1) (by omega)
        rw [show ((k + 1 : Nat) : Int) = (k : Int) + 1 by omega] at h9
        exact s_X12_explain_13 hcR hwR ⟨by decide, by decide⟩ ⟨by omega, by omega⟩ ⟨by omega, by omega⟩ fun _ => ⟨hB2.1, ρ 68, b68.1, 2, b68A, ⟨by omega, by omega⟩, fun _ => ⟨fun _ => ⟨⟨by omega, by omega⟩, ⟨by omega, by omega⟩, h9⟩, fun g => absurd rfl g⟩, fun g => absurd (by rw [t68]; omega) g⟩
    exact hlp (q w).length 0 (by omega)
  · intro _ _ _
    rw [← hs] at hx
    obtain ⟨K2, S2, cc2, H2⟩ := hst f2
    obtain ⟨hg1, hg2⟩ := hg x x1 x2 V T m1 m2 hstx
    have hx8' : x < 8 := by omega
    obtain ⟨b1, hb1⟩ : ∃ b1, b1 = D_B m1 V.2.2.1 l := ⟨_, rfl⟩
    obtain ⟨b2, hb2⟩ : ∃ b2, b2 = D_B2 m2 V.2.2.2 l := ⟨_, rfl⟩
    rw [← hb1, ← hb2] at W2
    have hfx : s.2 = (D_rk b1 b2, D_rn b1 b2) := by
      rcases hin with g | ⟨-, -, g3, -⟩
      · have : s.1 = 8 := congrArg Prod.fst g
        omega
      · rw [← hx] at g3
        unfold D_fx at g3
        rw [hstx] at g3
        have g3 : some (D_rk (D_B m1 V.2.2.1 l) (D_B2 m2 V.2.2.2 l), D_rn (D_B m1 V.2.2.1 l) (D_B2 m2 V.2.2.2 l)) = some s.2 := g3
        rw [hb1, hb2]
        exact (Option.some.inj g3).symm
    have hF2 : g_i M2 (ρ 0) = g_i M (ρ 0) := funext fun j => f2.2.1 _ j (E_WF_n hB (by decide) (by decide))
    have hi1 : ∀ i ∈ b1.getD [], D_io (g_i M (ρ 0)) i := by
      cases hbb : b1 with
      | none => exact fun i hi => absurd hi (by simp)
      | some A => exact D_bd_io hg1 (hb1.symm.trans hbb)
    have hi2 : ∀ i ∈ b2.getD [], D_io (g_i M (ρ 0)) i := by
      cases hbb : b2 with
      | none => exact fun i hi => absurd hi (by simp)
      | some A =>
        have e := hb2.symm.trans hbb
        cases hs2 : V.2.2.2 with
        | none =>
          rw [hs2] at e
          exact absurd e (by simp [D_B2])
        | some s2 =>
          rw [hs2] at e
          exact D_bd_io (hg2 s2 hs2) e
    have hl1 : (b1.getD []).length ≤ 700 := by
      cases hbb : b1 with
      | none => exact Nat.zero_le _
      | some A => exact hg1.2.2.2.2 _ A (hb1.symm.trans hbb)
    have hix := h.2.2.2.1 x hx8'
    rw [hstx] at hix
    obtain ⟨-, ⟨-, -, ⟨y1, q1, -⟩, -, -, p2, r1, r2, -⟩, -⟩ := hix
    have hne1 : V.2.2.1 ≠ [] := by
      rw [← q1, p_sp_eq]
      simp
    have hne2 : ∀ s, V.2.2.2 = some s → s ≠ [] := fun s hs => by
      obtain ⟨y2, q2, -⟩ := p2 s hs
      rw [← q2, p_sp_eq]
      simp
    have hlp : ∀ (B A : List (Nat × Int × List b_E)) (M' : g_M), q w = A ++ B → E_k m M M' → E_S m (ρ 0) (ρ 9) (g_i M' (ρ 0)) M' [] → (g_i M' m 40 = 0 ∨ g_i M' m 40 = 1) → E_H m ρ st q v M' → e_fr (E_le m (ρ 9)) M2 M' → g_Run (d + 71) 423 13 [(0, .ref m), (1, g_n c), (2, g_n (w : Int)), (3, g_n (x : Int)), (4, g_n (((A.map fun z => z.2.2).filter (D_lkd V b1 b2)).length : Int)), (5, g_n (A.length : Int))] [] M' (g_qI Q) := by
      intro B
      induction B with
      | nil =>
        intro A M' hA K' S' cc' H' f'
        rw [List.append_nil] at hA
        have km : ∀ k : Int, k ≠ 10 → ¬ (40 ≤ k ∧ k ≤ 44) → g_i M' m k = g_i M2 m k := fun k n1 n2 => f'.2.1 _ _ fun z => by
          have := E_le_m hB z
          omega
        have hfl : ((A.map fun z => z.2.2).filter (D_lkd V b1 b2)).length ≤ 200 := by
          have := List.length_filter_le (D_lkd V b1 b2) (A.map fun z => z.2.2)
          have hAl := congrArg List.length hA
          rw [List.length_map] at this
          omega
        have h9 := hend M' ((A.map fun z => z.2.2).filter (D_lkd V b1 b2)).length K' S' cc' H' (by rw [hfx, km 65 (by decide) (by decide)]; exact W2.1) (by rw [hfx, km 66 (by decide) (by decide)]; exact W2.2.1) (by
          rw [← hx, hA]
          unfold D_lkn
          rw [if_neg (by omega), hstx, hb1, hb2]) hfl
        rw [← hx, hA] at h9
        exact h9
      | cons z B ih =>
        intro A M' hA K' S' cc' H' f'
        have hll := congrArg List.length hA
        rw [List.length_append, List.length_cons] at hll
        have hB' := H'.1
        have hzi : (q w)[A.length]? = some z := by
          rw [hA, List.getElem?_append_right (Nat.le_refl _), Nat.sub_self]
          rfl
        have hsh := (H'.2.2.2.2 w hw).sh
        have hdi : ((q w).map fun z => z.2.2)[A.length]? = some z.2.2 := by
          rw [List.getElem?_map, hzi]
          rfl
        obtain ⟨zl, zg⟩ := s8.2.2 z.2.2 (List.mem_map.mpr ⟨z, List.mem_of_getElem? hzi, rfl⟩)
        have b68 := hB'.at (k := 68) (by decide)
        have b68A : g_A M' (ρ 68) 1 2 := b68.2
        have t68 : g_i M' (ρ 68) w = (q w).length := (H'.2.2.2.2 w hw).1.2.1
        have hT : R_tb m (ρ 68) (ρ 71) M' := ⟨b68.1, b68.2, (hB'.at (k := 71) (by decide)).1, (hB'.at (k := 71) (by decide)).2⟩
        have hfl : ((A.map fun z => z.2.2).filter (D_lkd V b1 b2)).length ≤ 200 := by
          have := List.length_filter_le (D_lkd V b1 b2) (A.map fun z => z.2.2)
          rw [List.length_map] at this
          omega
        have hF' : g_i M' (ρ 0) = g_i M (ρ 0) := (funext fun j => f'.2.1 _ j (E_le_n hB (by decide) (by decide))).trans hF2
        have hW' : E_Wg m ρ b1 b2 M' := by
          obtain ⟨w65, w66, w67, C, wI, wC, wl⟩ := W2
          have km : ∀ k : Int, k ≠ 10 → ¬ (40 ≤ k ∧ k ≤ 44) → g_i M' m k = g_i M2 m k := fun k n1 n2 => f'.2.1 _ _ fun z => by
            have := E_le_m hB z
            omega
          refine ⟨by rw [km 65 (by decide) (by decide)]; exact w65, by rw [km 66 (by decide) (by decide)]; exact w66, by rw [km 67 (by decide) (by decide)]; exact w67, C, wI.fr f' (fun z => by have := E_le_m hB z; omega) (fun j hj k => ?_), wC, wl⟩
          obtain ⟨e1, e2⟩ := (by decide : ∀ j ∈ [57, 58, 59, 60], j ∈ E_bf ∧ j ≠ 9) j hj
          exact E_le_n hB e1 e2
        refine s_X12_explain_13 hcR hwR ⟨by omega, by omega⟩ ⟨by omega, by omega⟩ ⟨by omega, by omega⟩ fun _ => ⟨hB'.1, ρ 68, b68.1, 2, b68A, ⟨by omega, by omega⟩, fun _ => ⟨fun g => absurd g (by omega), fun _ => e_document (d := d + 70) hB'.R hT (by omega) hsh hdi fun p pa p1 p2 => ?_⟩, fun g => absurd (by rw [t68]; omega) g⟩
        intro _ _ _
        have zl2 := b_doc_len z.2.2
        refine e_isLookedAt (d := d) (b1 := b1) (b2 := b2) H' S' cc' hx8' hstx ⟨pa, by omega, by omega, zg⟩ zl hW' (by rw [hF']; exact hi1) (by rw [hF']; exact hi2) hl1 fun M4 f4 S4 c4 => ?_
        intro _ _ _
        have K4 : E_k m M M4 := K'.tr (f4.k (fun z => by have := E_le_m hB z; omega) (fun z => by have := E_le_m hB z; omega))
        have h9 := ih (A ++ [z]) M4 (by rw [hA]; simp) K4 S4 c4 (H'.le f4) (f'.tr f4)
        rw [D_lk_key r1 r2 hne1 hne2 zg]
        rw [List.map_append, List.filter_append, List.length_append, show ((A ++ [z]).length : Int) = (A.length : Int) + 1 by rw [List.length_append, List.length_singleton]; omega] at h9
        cases hk : D_lkd V b1 b2 z.2.2
        · have e : (([z].map fun z => z.2.2).filter (D_lkd V b1 b2)) = [] := by simp [hk]
          rw [e, List.length_nil, Nat.add_zero] at h9
          refine ⟨fun _ => ⟨⟨by omega, by omega⟩, ⟨by omega, by omega⟩, ?_⟩, fun g => absurd (if_neg (by decide)) g⟩
          rw [Int.add_zero]
          exact h9
        · have e : (([z].map fun z => z.2.2).filter (D_lkd V b1 b2)) = [z.2.2] := by simp [hk]
          rw [e, List.length_singleton, Int.natCast_add] at h9
          exact ⟨fun g => absurd g (by decide), fun _ => ⟨⟨by omega, by omega⟩, ⟨by omega, by omega⟩, h9⟩⟩
    exact hlp (q w) [] M2 rfl K2 S2 cc2 H2 (e_fr.rf _ _)
end DXP
