/-! LEAVES WITH ITEMS: the class -/
def L_on (ms : Int) : Option (Int × b_E) → Int
  | none => ms
  | some z => z.1
theorem L_on1 (y : Option (Int × b_E)) : L_on (-1) y = L_opt y := by cases y <;> rfl
section ADDI
variable {d r b : Nat} {c e n : Int} {L : List Int} {M : g_M}
theorem c_putP {Q : g_M → Prop} {v : Int} {x y : List Int} {w : Int} (hP : k_P M r b c e (x ++ w :: y)) (hv : g_InR v) (h : ∀ M1, k_F k_0 r M M1 → k_P M1 r b c e (x ++ v :: y) → Q M1) : g_Call (d + 1) 106 [.ref r, g_n x.length, g_n v] M (g_qV Q) := by
  obtain ⟨o1, o2, a, n, o3, o4, o5, o6, o7, o8, o9, o10⟩ := hP
  have hn := o7
  unfold k_n at hn
  have hne : r ≠ a := g_neOA o1 o4
  have hl : (x ++ w :: y).length = x.length + (y.length + 1) := by rw [List.length_append, List.length_cons]
  refine m_X7_put ⟨by omega, by omega⟩ hv fun _ => ⟨fun g => absurd g (by omega), fun _ => ⟨o1, fun _ => ⟨a, o3, n, o4, ⟨by omega, by omega⟩, fun _ => ⟨a, o3, n, o4, ⟨by omega, by omega⟩, fun M12 e12 _ => ?_⟩, fun g => absurd g (by omega)⟩, fun g => absurd g (by omega)⟩⟩
  subst e12
  refine h _ ⟨g_extW rfl, Nat.le_refl _, fun _ h => Or.inl h, fun k _ => ?_, fun _ _ => rfl, fun q _ hx _ hx2 => ⟨funext fun j => ?_, rfl⟩⟩ ⟨o1, o2, a, n, o3, o4, ?_, ?_, o7, o8, o9, ?_⟩
  · rw [g_i_wi, if_neg (fun z => hne z.1)]
  · rw [g_i_wi, if_neg (fun z => hx2 (by rw [z.1]; exact o3))]
  · rw [g_i_wi, if_neg (fun z => hne z.1), o5, List.length_append, List.length_append, List.length_cons, List.length_cons]
  · rw [List.length_append, List.length_cons]
    omega
  · obtain ⟨p1, p2⟩ := b_app.mp o10
    obtain ⟨p3, p4⟩ := b_cons.mp p2
    refine b_app.mpr ⟨b_at_keep p1 fun k k1 k2 => ?_, b_cons.mpr ⟨?_, b_at_keep p4 fun k k1 k2 => ?_⟩⟩
    · rw [g_i_wi, if_neg (by omega)]
    · rw [g_i_wi, if_pos ⟨rfl, by omega⟩]
    · rw [g_i_wi, if_neg (by omega)]
theorem c_addItems {Q : g_M → Prop} {ms : Int} {ls : List (Option (Int × b_E))} (hP : k_P M r b c e (L ++ ls.map L_opt)) (hA : g_A M b 0 n) (hn : n ≤ 1000000000) (hms : g_InR ms) (hst : ∀ y, some y ∈ ls → ∃ D, b_st (g_i M b) n y.1 D y.2.1 y.2.2.1 y.2.2.2 ∧ y.2.2.2.length ≤ 190000) (hl : L.length + (ls.length + (ls.flatMap L_its).length) ≤ 32000) (h : ∀ M1, k_F k_0 r M M1 → k_P M1 r b c e (L ++ ((if ls = [] then [ms] else ls.map (L_on ms)) ++ (ls.flatMap L_its).map L_opt)) → Q M1) : g_Call (d + 4) 107 [.ref r, g_n L.length, g_n ms] M (g_qV Q) := by
  have hnR := hA.len
  have hbk : ∀ {M1 : g_M}, k_F k_0 r M M1 → g_i M1 b = g_i M b := fun f => (f.A hP hA (fun g => absurd g (by decide)) id).1
  have hlp : ∀ (l2 : List (Option (Int × b_E))) (L1 T : List Int) (M1 : g_M), (∀ y, some y ∈ l2 → some y ∈ ls) → k_F k_0 r M M1 → k_P M1 r b c e (L1 ++ (l2.map L_opt ++ T)) → L1.length + l2.length + T.length + (l2.flatMap L_its).length ≤ 32001 → (∀ M2, k_F k_0 r M M2 → k_P M2 r b c e (L1 ++ (l2.map (L_on ms) ++ (T ++ (l2.flatMap L_its).map L_opt))) → Q M2) → g_Run (d + 3) 107 18 [(0, .ref r), (1, g_n L.length), (2, g_n ms), (3, g_n (L1.length + l2.length)), (4, g_n L1.length)] [] M1 (g_qV Q) := by
    intro l2
    induction l2 with
    | nil =>
      intro L1 T M1 _ f1 hP1 hl1 hq
      refine s_X7_addItems_18 ⟨by omega, by omega⟩ hms ⟨by omega, by omega⟩ ⟨by omega, by omega⟩ fun _ => ⟨fun z => absurd z (by rw [List.length_nil]; omega), fun _ => hq M1 f1 ?_⟩
      have h0 : ([] : List (Option (Int × b_E))).map L_opt = [] := rfl
      rw [List.flatMap_nil, h0, List.append_nil]
      exact hP1
    | cons y l2 ih =>
      intro L1 T M1 hmem f1 hP1 hl1 hq
      rw [List.length_cons, List.flatMap_cons, List.length_append] at hl1
      rw [List.map_cons, List.cons_append] at hP1
      have hAb := hA.up f1.1
      -- the next leaf
      have hnext : ∀ (M2 : g_M) (T2 : List Int), k_F k_0 r M M2 → k_P M2 r b c e (L1 ++ (L_on ms y :: (l2.map L_opt ++ T2))) → T2 = T ++ (L_its y).map L_opt → g_InR ((L1.length : Int) + 1) ∧ g_Run (d + 3) 107 18 [(0, .ref r), (1, g_n L.length), (2, g_n ms), (3, g_n (L1.length + (l2.length + 1 : Nat))), (4, g_n ((L1.length : Int) + 1))] [] M2 (g_qV Q) := by
        intro M2 T2 f2 hP2 hT2
        refine ⟨⟨by omega, by omega⟩, ?_⟩
        have h9 := ih (L1 ++ [L_on ms y]) T2 M2 (fun z hz => hmem z (List.mem_cons_of_mem _ hz)) f2 (by rw [List.append_assoc]; exact hP2) (by rw [hT2, List.length_append, List.length_append, List.length_singleton, List.length_map]; omega) fun M3 f3 hP3 => hq M3 f3 (by
          rw [List.map_cons, List.flatMap_cons, List.map_append]
          rw [hT2, List.append_assoc, List.append_assoc] at hP3
          exact hP3)
        rw [List.length_append, List.length_singleton] at h9
        rwa [show ((L1.length + 1 : Nat) : Int) + (l2.length : Nat) = L1.length + (l2.length + 1 : Nat) by omega, show ((L1.length + 1 : Nat) : Int) = (L1.length : Int) + 1 by omega] at h9
      rw [List.length_cons]
      refine s_X7_addItems_18 ⟨by omega, by omega⟩ hms ⟨by omega, by omega⟩ ⟨by omega, by omega⟩ fun _ => ⟨fun _ => ⟨hP1.1, c_leaf (d := d + 2) hP1 (i := L1.length) (v := L_opt y) (by rw [List.getElem?_append_right (Nat.le_refl _), Nat.sub_self]; rfl) ?_⟩, fun z => absurd (by omega) z⟩
      intro _ _ _
      rcases y with _ | z
      · refine ⟨fun _ => c_putP (d := d + 2) hP1 hms fun M2 f2 hP2 => ?_, fun g => absurd (show L_opt none < 0 by decide) g⟩
        intro _ _
        refine s_X7_addItems_44 ⟨by omega, by omega⟩ hms ⟨by omega, by omega⟩ ⟨by omega, by omega⟩ ⟨by decide, by decide⟩ fun _ => ⟨hP2.1, b, hP2.2.1, c_kind (d := d + 2) (hAb.up f2.1) ⟨by omega, by omega⟩ ⟨by decide, by decide⟩ ?_⟩
        intro _ _ _
        rw [show L_opt none = -1 from rfl, b_kd_neg]
        exact ⟨fun g => absurd g (by decide), fun _ => hnext M2 T (f1.tr f2) hP2 (List.append_nil _).symm⟩
      · obtain ⟨D, hs, hsl⟩ := hst z (hmem z List.mem_cons_self)
        have hzR := hs.R (by omega)
        have hz0 := hs.2.2.2.1
        have hz1 := hs.2.2.2.2
        have hsM : ∀ {M2 : g_M}, k_F k_0 r M M2 → b_st (g_i M2 b) n z.1 D z.2.1 z.2.2.1 z.2.2.2 := fun f => by rw [hbk f]; exact hs
        refine ⟨fun g => absurd (show z.1 < 0 from g) (by omega), fun _ => ?_⟩
        refine s_X7_addItems_44 ⟨by omega, by omega⟩ hms ⟨by omega, by omega⟩ ⟨by omega, by omega⟩ hzR fun _ => ⟨hP1.1, b, hP1.2.1, c_kd2 (d := d + 2) hAb hn (hsM f1) ?_⟩
        intro _ _ _
        refine ⟨fun g4 => ⟨b, hP1.2.1, c_fi2 (d := d + 2) hAb hn (hsM f1) ?_⟩, fun g4 => hnext M1 T f1 hP1 (by rw [show L_its (some z) = [] from if_neg g4]; exact (List.append_nil _).symm)⟩
        intro _ _ _
        obtain ⟨D1, eD, hkids, hkl⟩ := hs.kids (Or.inr g4)
        have hmany := b_ser_many (b_ch z.2.2.2)
        have hits : L_its (some z) = (L_ch z.1 z.2).map some := if_pos g4
        have h74 : ∀ (xs cs : List b_E) (q : Int) (i : Nat) (M2 : g_M) (LL : List Int), b_ch z.2.2.2 = cs ++ xs → q = z.1 + 6 + z.2.2.1.length + (b_ser cs).length → i + xs.length < 100000 → LL.length + xs.length ≤ 32001 → k_F k_0 r M M2 → k_P M2 r b c e LL → (∀ M3, k_F k_0 r M M3 → k_P M3 r b c e (LL ++ (L_at q xs).map Prod.fst) → g_InR ((L1.length : Int) + 1) ∧ g_Run (d + 3) 107 18 [(0, .ref r), (1, g_n L.length), (2, g_n ms), (3, g_n (L1.length + (l2.length + 1 : Nat))), (4, g_n ((L1.length : Int) + 1))] [] M3 (g_qV Q)) → g_Run (d + 3) 107 74 [(0, .ref r), (1, g_n L.length), (2, g_n ms), (3, g_n (L1.length + (l2.length + 1 : Nat))), (4, g_n L1.length), (5, g_n z.1), (6, g_n q), (7, g_n i)] [] M2 (g_qV Q) := by
          intro xs
          induction xs with
          | nil =>
            intro cs q i M2 LL h1 h2 hi hLL f2 hP2 hq2
            have hkn := hkids
            rw [h1] at hkn
            have hkE := hkn.app
            rw [← h2] at hkE
            have hqR : g_InR q := by
              have := hkE.2.2.1
              have := hkE.2.2.2.1
              exact ⟨by omega, by omega⟩
            refine s_X7_addItems_74 ⟨by omega, by omega⟩ hms ⟨by omega, by omega⟩ ⟨by omega, by omega⟩ hzR hqR ⟨by omega, by omega⟩ fun _ => ⟨fun _ => ⟨hP2.1, b, hP2.2.1, c_kdE (d := d + 2) (D := D1) (hA.up f2.1) hn (by rw [hbk f2]; exact hkE) ?_⟩, fun g => absurd (by rw [List.length_nil] at hi; omega) g⟩
            intro _ _ _
            exact ⟨fun _ => hq2 M2 f2 (by rw [show (L_at q []).map Prod.fst = ([] : List Int) from rfl, List.append_nil]; exact hP2), fun g => absurd rfl g⟩
          | cons x xs ihx =>
            intro cs q i M2 LL h1 h2 hi hLL f2 hP2 hq2
            rw [List.length_cons] at hi hLL
            have hkn := hkids
            rw [h1] at hkn
            have hkE := hkn.app.cons.1
            rw [← h2] at hkE
            have hqR := hkE.R (by omega)
            have hxM : ∀ {M3 : g_M}, k_F k_0 r M M3 → b_st (g_i M3 b) n q D1 x.1 x.2.1 x.2.2 := fun f => by rw [hbk f]; exact hkE
            have hx0 := b_vs_pos (b_gv_vs hkE.2.2.1)
            refine s_X7_addItems_74 ⟨by omega, by omega⟩ hms ⟨by omega, by omega⟩ ⟨by omega, by omega⟩ hzR hqR ⟨by omega, by omega⟩ fun _ => ⟨fun _ => ⟨hP2.1, b, hP2.2.1, c_kd2 (d := d + 2) (hA.up f2.1) hn (hxM f2) ?_⟩, fun g => absurd (by omega) g⟩
            intro _ _ _
            refine ⟨fun g => absurd g (by omega), fun _ => c_push (d := d + 1) hP2 hqR (by omega) fun M3 f3 hP3 => ?_⟩
            intro _ _
            have f23 := f2.tr f3
            refine ⟨b, hP3.2.1, c_nx2 (d := d + 2) (hA.up f23.1) hn (hxM f23) ?_⟩
            intro _ _ _
            refine ⟨⟨by omega, by omega⟩, ?_⟩
            have h9 := ihx (cs ++ [x]) (q + (b_el x.1 x.2.1 x.2.2).length) (i + 1) M3 (LL ++ [q]) (by rw [h1]; simp) (by rw [b_ser_app, List.length_append, b_ser_1]; omega) (by omega) (by rw [List.length_append, List.length_singleton]; omega) f23 hP3 fun M4 f4 hP4 => hq2 M4 f4 (by
              rw [List.append_assoc] at hP4
              exact hP4)
            rwa [show ((i + 1 : Nat) : Int) = (i : Int) + 1 by omega] at h9
        have hLL : (L1 ++ (L_opt (some z) :: (l2.map L_opt ++ T))).length + (b_ch z.2.2.2).length ≤ 32001 := by
          have : (L_its (some z)).length = (b_ch z.2.2.2).length := by rw [hits, List.length_map]; exact L_at_len _ _
          rw [List.length_append, List.length_cons, List.length_append, List.length_map]
          omega
        have h9 := h74 (b_ch z.2.2.2) [] _ 0 M1 _ rfl (by show z.1 + 6 + (z.2.2.1.length : Int) = z.1 + 6 + z.2.2.1.length + ((0 : Nat) : Int); omega) (by omega) hLL f1 hP1 fun M3 f3 hP3 => hnext M3 (T ++ (L_its (some z)).map L_opt) f3 (by
          rw [hits, List.map_map]
          rw [List.append_assoc, List.cons_append, List.append_assoc] at hP3
          exact hP3) rfl
        exact h9
  have htop := hP.top
  rw [List.length_append, List.length_map] at htop
  refine m_X7_addItems ⟨by omega, by omega⟩ hms fun _ => ⟨hP.1, fun g => ?_, fun g => ?_⟩
  · have hls : ls = [] := List.length_eq_zero_iff.mp (by omega)
    subst hls
    rw [List.map_nil, List.append_nil] at hP
    refine c_push (d := d + 1) hP hms (by omega) fun M1 f1 hP1 => ?_
    intro _ _
    have h9 := hlp [] L [ms] M1 (fun _ hz => hz) f1 hP1 (by show L.length + 0 + 1 + 0 ≤ 32001; omega) fun M2 f2 hP2 => h M2 f2 hP2
    rw [g]
    rwa [show (L.length : Int) + (([] : List (Option (Int × b_E))).length : Nat) = L.length from by rw [List.length_nil]; omega] at h9
  · have hls : ls ≠ [] := fun z => g (by rw [z, List.length_nil] at htop; omega)
    rw [if_neg hls] at h
    have h9 := hlp ls L [] M (fun _ hz => hz) (k_F.rf _ _ _) (by rw [List.append_nil]; exact hP) (by rw [List.length_nil]; omega) fun M2 f2 hP2 => h M2 f2 (by rw [List.nil_append] at hP2; exact hP2)
    rw [htop]
    rwa [show ((L.length + ls.length : Nat) : Int) = L.length + ls.length by omega]
end ADDI
