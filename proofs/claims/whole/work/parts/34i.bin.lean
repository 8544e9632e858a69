/-! EXPLAIN, THE CLASS: the bounds of a path -/
def Bd_sR (cn : Nat) (r : Nat → Nat) (y : Nat) : Prop := y = cn ∨ ∃ j : Nat, j < 5 ∧ y = r j
/-- what a condition of a right filter gives -/
def Bd_zv (F : Int → Int) (n : Int) (z : Bool × (Int × b_E)) : Prop := b_st F n z.2.1 20 z.2.2.1 z.2.2.2.1 z.2.2.2.2 ∧ z.2.2.2.2.length ≤ 3000 ∧ z.1 = decide (F_cd z.2.2.2.1 = 0) ∧ (F_cd z.2.2.2.1 = 3 → z.2.2.1 = 4 ∧ (L_ch z.2.1 z.2.2).length ≤ 690) ∧ (F_cd z.2.2.2.1 = 11 → F_ci z.2.2 = true → (z.2.2.1 = 3 ∨ z.2.2.1 = 4) ∧ Bd_rm (L_ch z.2.1 z.2.2)) ∧ ∀ P, D_ba z.1 z.2 = some P → P.length ≤ 690
section BDI
variable {o rm b ss cn po f t a : Nat} {r : Nat → Nat} {X : List Int} {n c e : Int} {F : Int → Int} {L : List Int} {M M1 : g_M}
theorem Bd_c.ef {T : Nat → Prop} (h : Bd_c o rm b ss cn r po f t a X n F c e L M) (fr : e_fr (Bd_F cn r T) M M1) : Bd_c o rm b ss cn r po f t a X n F c e L M1 ∧ k_F (Bd_sR cn r) rm M M1 := by
  obtain ⟨h1, h2, h3, h4, h5⟩ := h
  have hg : g_fr (Bd_sR cn r) M M1 := fr.gs fun x k z => by
    rcases z with ⟨z, -⟩ | ⟨j, hj, -, z⟩
    · exact Or.inl z
    · exact Or.inr ⟨j, hj, z⟩
  have hrm : ¬ Bd_sR cn r rm := by
    rintro (z | ⟨j, hj, z⟩)
    · exact g_neOA h2.1 h1.2.2.2.1 z
    · exact g_neOA h2.1 (h1.2.2.2.2.1 j hj).2 z
  have hP1 := h2.of hg hrm fun p m hp hm z => by
    rcases z with z | ⟨j, hj, z⟩
    · rw [z] at hp
      have := (hp.fn h1.2.2.2.1).2
      rw [this] at hm
      exact absurd hm (by unfold k_n; omega)
    · rw [z] at hp
      have := (hp.fn (h1.2.2.2.2.1 j hj).2).2
      rw [this] at hm
      exact absurd hm (by unfold k_n; omega)
  have hk := k_F.of hg hrm
  refine ⟨⟨h1.fr fr, hP1, fr.A h3, ?_, ?_⟩, hk⟩
  · rw [← h4]
    exact funext fun k => fr.2.1 _ _ (Bd_F_A h1 h3 fun g => absurd g (by decide))
  · obtain ⟨⟨n2, ⟨o1, o2, o3, o4, o5, o6⟩, w2, w3, -⟩, -⟩ := id h5
    have hA : ∀ {y t2 : Nat} {l : Int}, g_A M y t2 l → (t2 = 1 → l ≠ 5 ∧ l ≠ 2800) → g_i M1 y = g_i M y := fun g1 g2 => funext fun k => fr.2.1 _ _ (Bd_F_A h1 g1 g2)
    exact h5.sm hk.1 ⟨funext fun k => fr.2.1 _ _ (Bd_F_O h1 o1), funext fun k => fr.2.2 _ _⟩ (hA o4 (by decide)) (hA o5 (by decide)) (hA w3 fun g => absurd g (by decide))
theorem c_bindSame {Q : Int → g_M → Prop} {d s : Nat} {S : List (Bool × (Int × b_E))} (hn : n ≤ 1000000000) (hB : Bd_c o rm b ss cn r po f t a X n F c e (L ++ S.map fun z => z.2.1) M) (hs : s < 2) (hSl : S.length ≤ 200) (hLl : L.length ≤ 500) (hz : ∀ z ∈ S, Bd_zv F n z) (hno : D_m1 S = none → ∀ M1, e_fr (Bd_F cn r (fun j => j = s)) M M1 → Q 0 M1) (hq : ∀ P M1, D_m1 S = some P → e_fr (Bd_F cn r (fun j => j = s)) M M1 → Bd_S cn r s P M1 → Q 1 M1) : g_Call (d + 49) 7 [.ref o, g_n (L.length : Int), g_n (s : Int)] M (g_qI Q) := by
  have hlR : g_InR (L.length : Int) := ⟨by omega, by omega⟩
  have hsR : g_InR (s : Int) := ⟨by omega, by omega⟩
  have hlp : ∀ (B A : List (Bool × (Int × b_E))) (M' : g_M), S = A ++ B → e_fr (Bd_F cn r (fun j => j = s)) M M' → D_m1 S = D_m1 B → g_Run (d + 48) 7 2 [(0, .ref o), (1, g_n (L.length : Int)), (2, g_n (s : Int)), (3, g_n ((L.length + A.length : Nat) : Int))] [] M' (g_qI Q) := by
    intro B
    induction B with
    | nil =>
      intro A M' hA f' hm
      obtain ⟨h', hP', hb', hF', -⟩ := (hB.ef f').1
      have hll := congrArg List.length hA
      rw [List.length_append, List.length_nil] at hll
      have ht := hP'.top
      rw [List.length_append, List.length_map] at ht
      exact s_X0_bindSame_2 hlR hsR ⟨by omega, by omega⟩ fun _ => ⟨h'.1, rm, h'.2.1.1, hP'.1, fun g => absurd g (by rw [ht]; omega), fun _ => hno hm M' f'⟩
    | cons z B ih =>
      intro A M' hA f' hm
      obtain ⟨h', hP', hb', hF', -⟩ := (hB.ef f').1
      have hll := congrArg List.length hA
      rw [List.length_append, List.length_cons] at hll
      have ht := hP'.top
      rw [List.length_append, List.length_map] at ht
      have hzi : (L ++ S.map fun z => z.2.1)[L.length + A.length]? = some z.2.1 := by
        rw [List.getElem?_append_right (by omega), Nat.add_sub_cancel_left, List.getElem?_map, hA, List.getElem?_append_right (Nat.le_refl _), Nat.sub_self]
        rfl
      obtain ⟨z1, z2, z3, z4, z5, z6⟩ := hz z (by rw [hA]; simp)
      have hzR := z1.R hn
      have hz' : b_st (g_i M' b) n z.2.1 20 z.2.2.1 z.2.2.2.1 z.2.2.2.2 := by
        rw [hF']
        exact z1
      have hcd := F_cd_R z.2.2.2.1
      have hm1 := D_m1_or z B
      have hnext : ∀ M2, e_fr (Bd_F cn r (fun j => j = s)) M M2 → D_m1 (z :: B) = D_m1 B → g_InR (((L.length + A.length : Nat) : Int) + 1) ∧ g_Run (d + 48) 7 2 [(0, .ref o), (1, g_n (L.length : Int)), (2, g_n (s : Int)), (3, g_n (((L.length + A.length : Nat) : Int) + 1))] [] M2 (g_qI Q) := fun M2 f2 hm2 => by
        refine ⟨⟨by omega, by omega⟩, ?_⟩
        have h9 := ih (A ++ [z]) M2 (by rw [hA]; simp) f2 (hm.trans hm2)
        rw [show ((L.length + (A ++ [z]).length : Nat) : Int) = ((L.length + A.length : Nat) : Int) + 1 by rw [List.length_append, List.length_singleton]; omega] at h9
        exact h9
      have hyes : (z.1 = true ∨ F_cd z.2.2.2.1 = 1 ∨ F_cd z.2.2.2.1 = 3) → g_Run (d + 48) 7 52 [(0, .ref o), (1, g_n (L.length : Int)), (2, g_n (s : Int)), (3, g_n ((L.length + A.length : Nat) : Int)), (4, g_n (F_cd z.2.2.2.1))] [g_n 1] M' (g_qI Q) := fun hc => by
        rw [if_pos hc] at hm1
        refine s_X0_bindSame_52 hlR hsR ⟨by omega, by omega⟩ ⟨by omega, by omega⟩ ⟨by decide, by decide⟩ fun _ => ⟨fun g => absurd g (by decide), fun _ => ⟨h'.1, rm, h'.2.1.1, hP'.1, c_leaf (d := d + 47) hP' hzi ?_⟩⟩
        intro _ _ _
        refine c_bindOne (d := d) (s := s) (y := z.2) h' hb' hn (by omega) hz' (by omega) (fun g => (z4 g).1) (fun g => by have := (z4 g).2; omega) (fun e M2 f2 => ?_) fun P M2 e f2 S2 => ?_
        · rw [← z3] at e
          intro _ _ _
          refine ⟨fun _ => hnext M2 (f'.tr f2) ?_, fun g => absurd rfl g⟩
          rw [hm1, e]
          rfl
        · rw [← z3] at e
          intro _ _ _
          refine ⟨fun g => absurd g (by decide), fun _ => hq P M2 ?_ (f'.tr f2) S2⟩
          rw [hm, hm1, e]
          rfl
      refine s_X0_bindSame_2 hlR hsR ⟨by omega, by omega⟩ fun _ => ⟨h'.1, rm, h'.2.1.1, hP'.1, fun _ => ⟨b, h'.2.1.2.1, rm, h'.2.1.1, hP'.1, c_leaf (d := d + 47) hP' hzi ?_⟩, fun g => absurd (by rw [ht]; omega) g⟩
      intro _ _ _
      refine c_condOf (d := d + 44) hb' hn hz' ?_
      intro _ _ _
      refine ⟨fun g => hyes (Or.inl ?_), fun g => ⟨fun g1 => hyes (Or.inr (Or.inl g1)), fun g1 => ⟨fun g3 => hyes (Or.inr (Or.inr g3)), fun g3 => ?_⟩⟩⟩
      · rw [z3, g]
        rfl
      · refine s_X0_bindSame_52 hlR hsR ⟨by omega, by omega⟩ ⟨by omega, by omega⟩ ⟨by decide, by decide⟩ fun _ => ⟨fun _ => hnext M' f' ?_, fun g9 => absurd rfl g9⟩
        rw [hm1, if_neg]
        rintro (u | u | u)
        · rw [z3] at u
          exact g (of_decide_eq_true u)
        · exact g1 u
        · exact g3 u
  have h9 := hlp S [] M rfl (e_fr.rf _ _) rfl
  rw [List.length_nil, Nat.add_zero] at h9
  exact m_X0_bindSame (a0 := o) (d := d + 48) hlR hsR fun _ => h9
theorem c_bind {Q : Int → g_M → Prop} {d s D : Nat} {mn : Bool} {p : Int} {y : b_E} {S : List (Bool × (Int × b_E))} (hn : n ≤ 1000000000) (h8 : (p_sp X).length ≤ 8) (hB : Bd_c o rm b ss cn r po f t a X n F c e L M) (hs : s < 2) (hst : b_st F n p D y.1 y.2.1 y.2.2) (hk : y.1 = 3) (hvl : y.2.2.length ≤ 3000) (hD : D ≤ 16) (hcv : D_cv 8 X (L_ch p y)) (hS : S = D_co 8 X (L_ch p y)) (hSl : S.length ≤ 200) (hLl : L.length ≤ 500) (hz : ∀ z ∈ S, Bd_zv F n z) (hrm : ∀ l1 z l2, S = l1 ++ z :: l2 → ∀ A P, D_als none l1 = some A → D_ba z.1 z.2 = some P → A.length ≤ 690 ∧ (D_mts A P).length ≤ 690) (hno : D_bd mn S = none → ∀ M1, k_F (Bd_sR cn r) rm M M1 → Bd_c o rm b ss cn r po f t a X n F c e L M1 → (∀ s2 A2, s2 < 2 → s2 ≠ s → Bd_S cn r s2 A2 M → Bd_S cn r s2 A2 M1) → Q 0 M1) (hq : ∀ P E M1, D_bd mn S = some P → D_2 D_R E P → (∀ z ∈ E, Bd_io F n z) → k_F (Bd_sR cn r) rm M M1 → Bd_c o rm b ss cn r po f t a X n F c e L M1 → (∀ s2 A2, s2 < 2 → s2 ≠ s → Bd_S cn r s2 A2 M → Bd_S cn r s2 A2 M1) → Bd_S cn r s E M1 → Q 1 M1) : g_Call (d + 50) 6 [.ref o, g_n p, .ref po, g_n (if mn = true then 1 else 0), g_n (s : Int)] M (g_qI Q) := by
  have hpR := hst.R hn
  have hsR : g_InR (s : Int) := ⟨by omega, by omega⟩
  have hlR : g_InR (L.length : Int) := ⟨by omega, by omega⟩
  have hmR : g_InR (if mn = true then 1 else 0) := by cases mn <;> exact ⟨by decide, by decide⟩
  have htop := hB.2.1.top
  have hrmb : ¬ Bd_sR cn r rm := by
    rintro (z | ⟨j, hj, z⟩)
    · exact g_neOA hB.2.1.1 hB.1.2.2.2.1 z
    · exact g_neOA hB.2.1.1 (hB.1.2.2.2.2.1 j hj).2 z
  obtain ⟨G, hG⟩ : ∃ G : g_M → Prop, G = fun M1 => k_F (Bd_sR cn r) rm M M1 ∧ Bd_c o rm b ss cn r po f t a X n F c e (L ++ S.map fun z => z.2.1) M1 ∧ ∀ s2 A2, s2 < 2 → s2 ≠ s → Bd_S cn r s2 A2 M → Bd_S cn r s2 A2 M1 := ⟨_, rfl⟩
  have hGe : ∀ M1, G M1 = (k_F (Bd_sR cn r) rm M M1 ∧ Bd_c o rm b ss cn r po f t a X n F c e (L ++ S.map fun z => z.2.1) M1 ∧ ∀ s2 A2, s2 < 2 → s2 ≠ s → Bd_S cn r s2 A2 M → Bd_S cn r s2 A2 M1) := fun M1 => by rw [hG]
  have adv : ∀ {M1 M2 : g_M} {T : Nat → Prop}, G M1 → e_fr (Bd_F cn r T) M1 M2 → (∀ s2, s2 < 2 → s2 ≠ s → ¬ T s2) → G M2 := fun {M1 M2 T} g fr hT => by
    rw [hGe] at g ⊢
    obtain ⟨g1, g2, g3⟩ := g
    obtain ⟨b1, b2⟩ := g2.ef fr
    exact ⟨g1.tr b2, b1, fun s2 A2 e1 e2 e3 => (g3 s2 A2 e1 e2 e3).fr g2.1 fr (by omega) (hT s2 e1 e2)⟩
  -- the end
  have hcut : ∀ {M1 : g_M}, G M1 → k_F (Bd_sR cn r) rm M (g_wi M1 rm 2 L.length) ∧ Bd_c o rm b ss cn r po f t a X n F c e L (g_wi M1 rm 2 L.length) ∧ (∀ s2 A2, s2 < 2 → s2 ≠ s → Bd_S cn r s2 A2 M → Bd_S cn r s2 A2 (g_wi M1 rm 2 L.length)) ∧ ∀ s2 A2, s2 < 5 → Bd_S cn r s2 A2 M1 → Bd_S cn r s2 A2 (g_wi M1 rm 2 L.length) := fun {M1} g => by
    rw [hGe] at g
    obtain ⟨g1, g2, g3⟩ := g
    have kt : k_F k_0 rm M1 (g_wi M1 rm 2 L.length) := k_F.top M1 _
    exact ⟨g1.tr kt.up0, g2.k kt g2.2.1.cut, fun s2 A2 e1 e2 e3 => (g3 s2 A2 e1 e2 e3).k (by omega) g2.1 g2.2.1 kt, fun s2 A2 e1 e3 => e3.k e1 g2.1 g2.2.1 kt⟩
  have fin0 : ∀ (M1 : g_M) (v7 v6 : Int), G M1 → v6 = 0 → D_bd mn S = none → g_InR v7 → ¬ v7 < (L.length : Int) + S.length → g_Run (d + 49) 6 42 [(0, .ref o), (1, g_n p), (2, .ref po), (3, g_n (if mn = true then 1 else 0)), (4, g_n (s : Int)), (5, g_n (L.length : Int)), (6, g_n v6), (7, g_n v7)] [] M1 (g_qI Q) := fun M1 v7 v6 g h6 hbd h7R h7 => by
    have g0 := g
    rw [hGe] at g0
    obtain ⟨-, g2, -⟩ := g0
    have ht := g2.2.1.top
    rw [List.length_append, List.length_map] at ht
    rw [h6]
    refine s_X0_bind_42 hpR hmR hsR hlR ⟨by decide, by decide⟩ h7R fun _ => ⟨g2.1.1, rm, g2.1.2.1.1, g2.2.1.1, fun z => absurd z (by rw [ht]; omega), fun _ => ⟨rm, g2.1.2.1.1, g2.2.1.1, fun M8 x8 _ => ⟨Or.inl rfl, ?_⟩⟩⟩
    obtain ⟨c1, c2, c3, -⟩ := hcut g
    rw [← x8] at c1 c2 c3
    exact hno hbd M8 c1 c2 c3
  have fin1 : ∀ (M1 : g_M) (v7 : Int) (P E : List D_i), G M1 → D_bd mn S = some P → D_2 D_R E P → (∀ z ∈ E, Bd_io F n z) → Bd_S cn r s E M1 → g_InR v7 → (mn = true ∨ ¬ v7 < (L.length : Int) + S.length) → g_Run (d + 49) 6 42 [(0, .ref o), (1, g_n p), (2, .ref po), (3, g_n (if mn = true then 1 else 0)), (4, g_n (s : Int)), (5, g_n (L.length : Int)), (6, g_n 1), (7, g_n v7)] [] M1 (g_qI Q) := fun M1 v7 P E g hbd hE hio hSE h7R h7 => by
    have g0 := g
    rw [hGe] at g0
    obtain ⟨-, g2, -⟩ := g0
    have ht := g2.2.1.top
    rw [List.length_append, List.length_map] at ht
    obtain ⟨c1, c2, c3, c4⟩ := hcut g
    have hfin : ∀ M8, M8 = g_wi M1 rm 2 (L.length : Int) → ((1 : Int) = 0 ∨ (1 : Int) = 1) ∧ Q 1 M8 := fun M8 x8 => by
      rw [← x8] at c1 c2 c3 c4
      exact ⟨Or.inr rfl, hq P E M8 hbd hE hio c1 c2 c3 (c4 s E (by omega) hSE)⟩
    refine s_X0_bind_42 hpR hmR hsR hlR ⟨by decide, by decide⟩ h7R fun _ => ⟨g2.1.1, rm, g2.1.2.1.1, g2.2.1.1, fun z => ⟨fun z2 => ?_, fun z2 => ⟨fun z3 => absurd z3 (by decide), fun _ => ⟨rm, g2.1.2.1.1, g2.2.1.1, fun M8 x8 _ => hfin M8 x8⟩⟩⟩, fun _ => ⟨rm, g2.1.2.1.1, g2.2.1.1, fun M8 x8 _ => hfin M8 x8⟩⟩
    rw [ht] at z
    rcases h7 with h7 | h7
    · rw [h7] at z2
      exact absurd z2 (by decide)
    · exact absurd (by omega) h7
  -- one condition
  have h63 : ∀ (A B : List (Bool × (Int × b_E))) (z : Bool × (Int × b_E)) (M' : g_M) (v6 : Int), S = A ++ z :: B → G M' → g_InR v6 → (D_ba z.1 z.2 = none → ∀ M1, G M1 → (∀ A2, Bd_S cn r s A2 M' → Bd_S cn r s A2 M1) → g_Run (d + 49) 6 42 [(0, .ref o), (1, g_n p), (2, .ref po), (3, g_n (if mn = true then 1 else 0)), (4, g_n (s : Int)), (5, g_n (L.length : Int)), (6, g_n v6), (7, g_n (((L.length + A.length : Nat) : Int) + 1))] [] M1 (g_qI Q)) → (∀ P E M1, D_ba z.1 z.2 = some P → D_2 D_R E P → (∀ w ∈ E, Bd_io F n w) → G M1 → (∀ A2, Bd_S cn r s A2 M' → Bd_S cn r s A2 M1) → Bd_S cn r 2 E M1 → g_Run (d + 49) 6 114 [(0, .ref o), (1, g_n p), (2, .ref po), (3, g_n (if mn = true then 1 else 0)), (4, g_n (s : Int)), (5, g_n (L.length : Int)), (6, g_n v6), (7, g_n ((L.length + A.length : Nat) : Int)), (8, g_n z.2.1)] [] M1 (g_qI Q)) → g_Run (d + 49) 6 63 [(0, .ref o), (1, g_n p), (2, .ref po), (3, g_n (if mn = true then 1 else 0)), (4, g_n (s : Int)), (5, g_n (L.length : Int)), (6, g_n v6), (7, g_n ((L.length + A.length : Nat) : Int))] [] M' (g_qI Q) := by
    intro A B z M' v6 hA g' h6R kno kyes
    have g0 := g'
    rw [hGe] at g0
    obtain ⟨-, ⟨h', hP', hb', hF', -⟩, -⟩ := g0
    have hll := congrArg List.length hA
    rw [List.length_append, List.length_cons] at hll
    have hzi : (L ++ S.map fun z => z.2.1)[L.length + A.length]? = some z.2.1 := by
      rw [List.getElem?_append_right (by omega), Nat.add_sub_cancel_left, List.getElem?_map, hA, List.getElem?_append_right (Nat.le_refl _), Nat.sub_self]
      rfl
    obtain ⟨z1, z2, z3, z4, z5, z6⟩ := hz z (by rw [hA]; simp)
    have hzR := z1.R hn
    have hz' : b_st (g_i M' b) n z.2.1 20 z.2.2.1 z.2.2.2.1 z.2.2.2.2 := by
      rw [hF']
      exact z1
    refine s_X0_bind_63 hpR hmR hsR hlR h6R ⟨by omega, by omega⟩ fun _ => ⟨h'.1, rm, h'.2.1.1, hP'.1, c_leaf (d := d + 48) hP' hzi ?_⟩
    intro _ _ _
    refine ⟨b, h'.2.1.2.1, c_nm3 (d := d + 46) (j := 61) (by decide) hb' hn hz' (fun hnm => ?_) fun hnm => ?_⟩
    · have hnm : z.2.2.2.1 = b_tx 27 := hnm
      have h11 : F_cd z.2.2.2.1 = 11 := (F_cd_i (i := 11) (by decide) (by decide)).mpr hnm
      have hal : z.1 = false := by
        rw [z3, h11]
        rfl
      have hba : D_ba z.1 z.2 = if F_ci z.2.2 = true then (D_els none (L_ch z.2.1 z.2.2)).map fun A => A ++ [D_row] else none := by
        unfold D_ba
        rw [if_neg]
        rintro (u | u)
        · rw [hal] at u
          exact absurd u (by decide)
        · exact u h11
      intro _ _ _
      refine ⟨fun g => absurd g (by decide), fun _ => ?_⟩
      refine c_bindElem (d := d) (s := 2) (y := z.2) h' hb' hn (by decide) hz' z2 (z5 h11) (fun hh M1 f1 => ?_) fun P E M1 hci hP hE hio f1 S1 => ?_
      · intro _ _ _
        have hn1 : D_ba z.1 z.2 = none := by
          rw [hba]
          rcases hh with hh | hh
          · rw [hh]
            rfl
          · rw [hh]
            split <;> rfl
        refine ⟨fun _ => ⟨⟨by omega, by omega⟩, kno hn1 M1 (adv g' f1 (by omega)) fun A2 hA2 => hA2.fr h' f1 (by omega) (by omega)⟩, fun g => absurd rfl g⟩
      · intro _ _ _
        rw [hF'] at hio
        have hn1 : D_ba z.1 z.2 = some (P ++ [D_row]) := by
          rw [hba, if_pos hci, hP]
          rfl
        exact ⟨fun g => absurd g (by decide), fun _ => kyes _ E M1 hn1 hE hio (adv g' f1 (by omega)) (fun A2 hA2 => hA2.fr h' f1 (by omega) (by omega)) S1⟩
    · have hnm : z.2.2.2.1 ≠ b_tx 27 := hnm
      have h11 : ¬ F_cd z.2.2.2.1 = 11 := fun g => hnm ((F_cd_i (i := 11) (by decide) (by decide)).mp g)
      have hba : D_ba z.1 z.2 = D_bo z.1 z.2 := if_pos (Or.inr h11)
      intro _ _ _
      refine ⟨fun _ => ?_, fun g => absurd rfl g⟩
      refine c_bindOne (d := d + 1) (s := 2) (y := z.2) h' hb' hn (by decide) hz' (by omega) (fun g => (z4 g).1) (fun g => by have := (z4 g).2; omega) (fun e M1 f1 => ?_) fun P M1 e f1 S1 => ?_
      · rw [← z3] at e
        intro _ _ _
        exact ⟨fun _ => ⟨⟨by omega, by omega⟩, kno (hba.trans e) M1 (adv g' f1 (by omega)) fun A2 hA2 => hA2.fr h' f1 (by omega) (by omega)⟩, fun g => absurd rfl g⟩
      · rw [← z3] at e
        intro _ _ _
        have hio : ∀ x ∈ P, Bd_io F n x := Bd_bo_io (y := z.2) z1 (by omega) (fun g => by
          unfold D_k at g
          by_cases hal : z.1 = true
          · rw [if_pos hal] at g
            omega
          · rw [if_neg hal] at g
            exact (z4 g).1) e
        exact ⟨fun g => absurd g (by decide), fun _ => kyes P P M1 (hba.trans e) (D_2.rf D_R.rf) hio (adv g' f1 (by omega)) (fun A2 hA2 => hA2.fr h' f1 (by omega) (by omega)) S1⟩
  -- the first set of all
  have h114 : ∀ (M' : g_M) (E : List D_i) (i : Nat) (v8 : Int), G M' → Bd_S cn r 2 E M' → E.length ≤ 690 → i ≤ 1000 → g_InR v8 → (∀ M1, G M1 → Bd_S cn r s E M1 → g_Run (d + 49) 6 42 [(0, .ref o), (1, g_n p), (2, .ref po), (3, g_n (if mn = true then 1 else 0)), (4, g_n (s : Int)), (5, g_n (L.length : Int)), (6, g_n 1), (7, g_n ((i : Int) + 1))] [] M1 (g_qI Q)) → g_Run (d + 49) 6 114 [(0, .ref o), (1, g_n p), (2, .ref po), (3, g_n (if mn = true then 1 else 0)), (4, g_n (s : Int)), (5, g_n (L.length : Int)), (6, g_n 0), (7, g_n (i : Int)), (8, g_n v8)] [] M' (g_qI Q) := by
    intro M' E i v8 g' hE hEl hi h8R k
    have g0 := g'
    rw [hGe] at g0
    obtain ⟨-, ⟨h', -⟩, -⟩ := g0
    refine s_X0_bind_114 hpR hmR hsR hlR ⟨by decide, by decide⟩ ⟨by omega, by omega⟩ h8R fun _ => ⟨fun _ => ⟨h'.1, ?_⟩, fun z => absurd rfl z⟩
    refine c_copySet (d := d + 48) (s := 2) (t := s) h' (by decide) (by omega) (by omega) hE (by omega) fun M1 f1 S1 => ?_
    intro _ _
    exact ⟨⟨by omega, by omega⟩, k M1 (adv g' f1 (by omega)) S1⟩
  -- a path that is not many-keyed
  have hall : mn = false → ∀ (B A : List (Bool × (Int × b_E))) (M' : g_M) (E : List D_i) (v6 : Int), S = A ++ B → G M' → (D_als none A = none → v6 = 0) → (∀ P, D_als none A = some P → v6 = 1 ∧ D_2 D_R E P ∧ (∀ w ∈ E, Bd_io F n w) ∧ Bd_S cn r s E M' ∧ P.length ≤ 690) → g_Run (d + 49) 6 42 [(0, .ref o), (1, g_n p), (2, .ref po), (3, g_n (if mn = true then 1 else 0)), (4, g_n (s : Int)), (5, g_n (L.length : Int)), (6, g_n v6), (7, g_n ((L.length + A.length : Nat) : Int))] [] M' (g_qI Q) := by
    intro hmn B
    have hbd : D_bd mn S = D_als none S := by
      rw [hmn]
      rfl
    induction B with
    | nil =>
      intro A M' E v6 hA g' hnn hss
      rw [List.append_nil] at hA
      rw [← hA] at hnn hss ⊢
      cases hD : D_als none S with
      | none => exact fin0 M' _ v6 g' (hnn hD) (hbd.trans hD) ⟨by omega, by omega⟩ (by omega)
      | some P =>
        obtain ⟨e6, e1, e2, e3, -⟩ := hss P hD
        rw [e6]
        exact fin1 M' _ P E g' (hbd.trans hD) e1 e2 e3 ⟨by omega, by omega⟩ (Or.inr (by omega))
    | cons z B ih =>
      intro A M' E v6 hA g' hnn hss
      have hll := congrArg List.length hA
      rw [List.length_append, List.length_cons] at hll
      have g0 := g'
      rw [hGe] at g0
      obtain ⟨-, ⟨h', hP', -⟩, -⟩ := g0
      have ht := hP'.top
      rw [List.length_append, List.length_map] at ht
      have h6R : g_InR v6 := by
        cases hD : D_als none A with
        | none =>
          rw [hnn hD]
          exact ⟨by decide, by decide⟩
        | some P =>
          rw [(hss P hD).1]
          exact ⟨by decide, by decide⟩
      have hzm := hz z (by rw [hA]; simp)
      have hnx : ∀ (M1 : g_M) (E1 : List D_i) (u6 : Int), G M1 → (D_als none (A ++ [z]) = none → u6 = 0) → (∀ P, D_als none (A ++ [z]) = some P → u6 = 1 ∧ D_2 D_R E1 P ∧ (∀ w ∈ E1, Bd_io F n w) ∧ Bd_S cn r s E1 M1 ∧ P.length ≤ 690) → g_Run (d + 49) 6 42 [(0, .ref o), (1, g_n p), (2, .ref po), (3, g_n (if mn = true then 1 else 0)), (4, g_n (s : Int)), (5, g_n (L.length : Int)), (6, g_n u6), (7, g_n (((L.length + A.length : Nat) : Int) + 1))] [] M1 (g_qI Q) := fun M1 E1 u6 g1 n1 s1 => by
        have h9 := ih (A ++ [z]) M1 E1 u6 (by rw [hA]; simp) g1 n1 s1
        rw [show ((L.length + (A ++ [z]).length : Nat) : Int) = ((L.length + A.length : Nat) : Int) + 1 by rw [List.length_append, List.length_singleton]; omega] at h9
        exact h9
      refine s_X0_bind_42 hpR hmR hsR hlR h6R ⟨by omega, by omega⟩ fun _ => ⟨h'.1, rm, h'.2.1.1, hP'.1, fun _ => ⟨fun _ => ?_, fun z2 => absurd (by rw [hmn]; rfl) z2⟩, fun z2 => absurd (by rw [ht]; omega) z2⟩
      refine h63 A B z M' v6 hA g' h6R (fun hba M1 g1 ks => ?_) fun P E1 M1 hba hE1 hio1 g1 ks S1 => ?_
      · have eD : D_als none (A ++ [z]) = D_als none A := by
          rw [D_als_snoc, D_al_me, hba]
          rfl
        refine hnx M1 E v6 g1 (by rw [eD]; exact hnn) fun P hP => ?_
        rw [eD] at hP
        obtain ⟨a1, a2, a3, a4, a5⟩ := hss P hP
        exact ⟨a1, a2, a3, ks E a4, a5⟩
      · have hPl := hzm.2.2.2.2.2 P hba
        have hEl := hE1.len
        cases hD : D_als none A with
        | none =>
          rw [hnn hD]
          have eD : D_als none (A ++ [z]) = some P := by
            rw [D_als_snoc, D_al_me, hba, hD]
            rfl
          refine h114 M1 E1 (L.length + A.length) _ g1 S1 (by omega) (by omega) (hzm.1.R hn) fun M2 g2 S2 => ?_
          refine hnx M2 E1 1 g2 (fun e2 => by rw [eD] at e2; exact absurd e2 (by simp)) fun P2 hP2 => ?_
          rw [eD] at hP2
          have hP2 := Option.some.inj hP2
          subst hP2
          exact ⟨rfl, hE1, hio1, S2, hPl⟩
        | some A0 =>
          obtain ⟨a1, a2, a3, a4, a5⟩ := hss A0 hD
          obtain ⟨m1, m2⟩ := hrm A z B hA A0 P hD hba
          have eD : D_als none (A ++ [z]) = some (D_mts A0 P) := by
            rw [D_als_snoc, D_al_me, hba, hD]
            rfl
          have hER : D_2 D_R (D_mts E E1) (D_mts A0 P) := D_mts_R a2 hE1
          have hel := a2.len
          have g10 := g1
          rw [hGe] at g10
          obtain ⟨-, ⟨h1, hP1, hb1, hF1, -⟩, -⟩ := g10
          rw [a1]
          refine s_X0_bind_114 hpR hmR hsR hlR ⟨by decide, by decide⟩ ⟨by omega, by omega⟩ (hzm.1.R hn) fun _ => ⟨fun z2 => absurd z2 (by decide), fun _ => ⟨h1.1, ?_⟩⟩
          refine c_meetSets (d := d + 2) (s := s) (u := 2) (A := E) (B := E1) h1 hb1 hn (by omega) (by decide) (ks E a4) S1 (by omega) (by omega) (by rw [hF1]; exact a3) (by rw [hF1]; exact hio1) (by rw [hER.len]; omega) fun M2 E2 hE2 hio2 f2 S2 => ?_
          intro _ _
          rw [hF1] at hio2
          refine ⟨⟨by omega, by omega⟩, hnx M2 E2 1 (adv g1 f2 (by omega)) (fun e2 => by rw [eD] at e2; exact absurd e2 (by simp)) fun P2 hP2 => ?_⟩
          rw [eD] at hP2
          have hP2 := Option.some.inj hP2
          subst hP2
          exact ⟨rfl, D_2.tr (R := D_R) (R2 := D_R) (R3 := D_R) (fun _ _ _ g g2 => g.tr g2) hE2 hER, hio2, S2, m2⟩
  -- a many-keyed path
  have hmany : mn = true → D_m1 S = none → ∀ (B A : List (Bool × (Int × b_E))) (M' : g_M), S = A ++ B → G M' → D_m2 S = D_m2 B → g_Run (d + 49) 6 42 [(0, .ref o), (1, g_n p), (2, .ref po), (3, g_n (if mn = true then 1 else 0)), (4, g_n (s : Int)), (5, g_n (L.length : Int)), (6, g_n 0), (7, g_n ((L.length + A.length : Nat) : Int))] [] M' (g_qI Q) := by
    intro hmn hm1 B
    have hbd : D_bd mn S = D_m2 S := by
      rw [hmn]
      show D_mny S = _
      rw [D_mny_or, hm1]
      rfl
    induction B with
    | nil =>
      intro A M' hA g' hm
      rw [List.append_nil] at hA
      have hAl := congrArg List.length hA
      exact fin0 M' _ 0 g' rfl (hbd.trans hm) ⟨by omega, by omega⟩ (by omega)
    | cons z B ih =>
      intro A M' hA g' hm
      have hll := congrArg List.length hA
      rw [List.length_append, List.length_cons] at hll
      have g0 := g'
      rw [hGe] at g0
      obtain ⟨-, ⟨h', hP', -⟩, -⟩ := g0
      have ht := hP'.top
      rw [List.length_append, List.length_map] at ht
      have hzm := hz z (by rw [hA]; simp)
      have hm2 := D_m2_or z B
      refine s_X0_bind_42 hpR hmR hsR hlR ⟨by decide, by decide⟩ ⟨by omega, by omega⟩ fun _ => ⟨h'.1, rm, h'.2.1.1, hP'.1, fun _ => ⟨fun z2 => absurd (by rw [hmn] at z2; exact z2) (by decide), fun _ => ⟨fun _ => ?_, fun z2 => absurd rfl z2⟩⟩, fun z2 => absurd (by rw [ht]; omega) z2⟩
      refine h63 A B z M' 0 hA g' ⟨by decide, by decide⟩ (fun hba M1 g1 ks => ?_) fun P E1 M1 hba hE1 hio1 g1 ks S1 => ?_
      · have h9 := ih (A ++ [z]) M1 (by rw [hA]; simp) g1 (by
          rw [hm, hm2, hba]
          rfl)
        rw [show ((L.length + (A ++ [z]).length : Nat) : Int) = ((L.length + A.length : Nat) : Int) + 1 by rw [List.length_append, List.length_singleton]; omega] at h9
        exact h9
      · have hPl := hzm.2.2.2.2.2 P hba
        have hEl := hE1.len
        refine h114 M1 E1 (L.length + A.length) _ g1 S1 (by omega) (by omega) (hzm.1.R hn) fun M2 g2 S2 => ?_
        refine fin1 M2 _ P E1 g2 ?_ hE1 hio1 S2 ⟨by omega, by omega⟩ (Or.inl hmn)
        rw [hbd, hm, hm2, hba]
        rfl
  -- the beginning
  refine m_X0_bind (a0 := o) (d := d + 49) hpR hmR hsR fun _ => ⟨hB.1.1, rm, hB.1.2.1.1, hB.2.1.1, ?_⟩
  rw [htop]
  refine c_collect hn h8 8 D p y L M _ (d + 35) 0 hB hst hk hvl (by omega) hcv (by rw [← hS]; omega) (by decide) (by decide) fun M5 k5 B5 => ?_
  intro _ _
  rw [← hS] at B5
  have g5 : G M5 := by
    rw [hGe]
    exact ⟨k5.up0, B5, fun s2 A2 e1 _ e3 => e3.k (by omega) hB.1 hB.2.1 k5⟩
  have e0 : ((L.length + ([] : List (Bool × (Int × b_E))).length : Nat) : Int) = (L.length : Int) := by rw [List.length_nil, Nat.add_zero]
  refine ⟨fun z => ?_, fun z => ?_⟩
  · have hmn : mn = false := by
      cases mn
      · rfl
      · exact absurd z (by decide)
    have h9 := hall hmn S [] M5 [] 0 rfl g5 (fun _ => rfl) (fun P hP => absurd hP (by intro w; cases w))
    rw [e0] at h9
    exact h9
  · have hmn : mn = true := by
      cases mn
      · exact absurd rfl z
      · rfl
    refine c_bindSame (d := d) hn B5 hs hSl hLl hz (fun hm1 M8 f8 => ?_) fun P M8 hm1 f8 S8 => ?_
    · intro _ _ _
      have g8 := adv g5 f8 (by omega)
      have h9 := hmany hmn hm1 S [] M8 rfl g8 rfl
      rw [e0] at h9
      exact ⟨fun _ => h9, fun w => absurd rfl w⟩
    · intro _ _ _
      have g8 := adv g5 f8 (by omega)
      have hbd : D_bd mn S = some P := by
        rw [hmn]
        show D_mny S = _
        rw [D_mny_or, hm1]
        rfl
      have hio : ∀ x ∈ P, Bd_io F n x := by
        have : ∀ (T : List (Bool × (Int × b_E))), (∀ z ∈ T, Bd_zv F n z) → D_m1 T = some P → ∀ x ∈ P, Bd_io F n x := by
          intro T
          induction T with
          | nil => exact fun _ h => absurd h (by intro w; cases w)
          | cons u T iht =>
            intro hT hm
            rw [D_m1_or] at hm
            have ihh := iht fun z hz2 => hT z (List.mem_cons_of_mem _ hz2)
            split at hm
            · cases hb2 : D_bo u.1 u.2 with
              | none =>
                rw [hb2] at hm
                exact ihh hm
              | some P2 =>
                rw [hb2] at hm
                have hm : P2 = P := Option.some.inj hm
                subst hm
                obtain ⟨u1, u2, u3, u4, -⟩ := hT u List.mem_cons_self
                refine Bd_bo_io (y := u.2) u1 (by omega) (fun g => ?_) hb2
                unfold D_k at g
                by_cases hal : u.1 = true
                · rw [if_pos hal] at g
                  omega
                · rw [if_neg hal] at g
                  exact (u4 g).1
            · exact ihh hm
        exact this S hz hm1
      exact ⟨fun w => absurd w (by decide), fun _ => fin1 M8 _ P P g8 hbd (D_2.rf D_R.rf) hio S8 hlR (Or.inl hmn)⟩
end BDI
