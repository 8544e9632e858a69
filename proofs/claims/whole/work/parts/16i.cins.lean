/-! STAGES: $sort, the class: in order -/
section CINS
variable {so b kk wa va be fr : Nat} {M M0 : g_M} {cs : List b_E} {ds : List (List b_E)} {g : Int}
theorem O_il_len (l : List Nat) : (O_il l).length = l.length := List.length_map _
theorem O_il_app (x y : List Nat) : O_il (x ++ y) = O_il x ++ O_il y := List.map_append
theorem O_tab.ke {S : Nat → Prop} (h : O_tab so b kk wa cs ds M0) (f : g_fr S M0 M) (h1 : ¬ S so) (h2 : ¬ S b) (h3 : ¬ S kk) (h4 : ¬ S wa) (h5 : ∀ (s : Nat) (row : Nat), s < cs.length → g_r M0 kk s = some row → ¬ S row) : O_tab so b kk wa cs ds M := by
  obtain ⟨⟨s1, s2, s3⟩, h11, hkk, h12, hwa, hc4, hrow⟩ := h
  refine ⟨⟨f.O s1, by rw [(f.2 so h1).2]; exact s2, f.A s3⟩, by rw [(f.2 so h1).2]; exact h11, f.A hkk, by rw [(f.2 so h1).2]; exact h12, f.A hwa, hc4, fun s x hs => ?_⟩
  obtain ⟨w1, w2, row, w3, w4, w5⟩ := hrow s x hs
  have hsl := (List.getElem?_eq_some_iff.mp hs).1
  refine ⟨by rw [(f.2 wa h4).1]; exact w1, w2, row, by rw [(f.2 kk h3).2]; exact w3, f.A w4, fun i es hi hes => ?_⟩
  obtain ⟨y, y1, y2, y3, y4⟩ := w5 i es hi hes
  exact ⟨y, by rw [(f.2 row (h5 s row hsl w3)).1]; exact y1, by rw [(f.2 b h2).1]; exact y2, y3, y4⟩
/-- the rows that putting in order writes -/
theorem c_sortLoops {d : Nat} {Q : Int → g_M → Prop} {pe w2 : Int} {q : Int} (hT : O_tab so b kk wa cs ds M0) (h10 : g_r M0 so 10 = some va) (h6 : g_r M0 so 6 = some be) (h7 : g_r M0 so 7 = some fr) (hva : g_A M0 va 1 200) (hbe : g_A M0 be 1 200) (hfr : g_A M0 fr 1 200) (hne : va ≠ be ∧ va ≠ fr ∧ be ≠ fr) (hnr : ∀ (s row : Nat), s < cs.length → g_r M0 kk s = some row → row ≠ va ∧ row ≠ fr ∧ row ≠ be) (hwan : wa ≠ va ∧ wa ≠ fr ∧ wa ≠ be) (h14 : g_i M0 so 14 = ds.length) (hds : ds.length ≤ 200) (hpeR : g_InR pe) (hwR : g_InR w2) (hqR : g_InR q) (hq : ∀ M1, g_fr (fun y => y = va ∨ y = fr ∨ y = be) M0 M1 → (∀ (i k : Nat), (O_ord cs ds)[i]? = some k → g_i M1 be i = g_i M0 be k) → Q 0 M1) : g_Run (d + 47) 163 128 [(0, .ref so), (1, g_n pe), (2, g_n w2), (3, g_n cs.length), (4, g_n q), (5, g_n 0)] [] M0 (g_qI Q) := by
  obtain ⟨⟨s1, s2, s3⟩, h11, hkk, h12, hwa, hc4, hrow⟩ := id hT
  have n1 : so ≠ va := g_neOA s1 hva
  have n2 : so ≠ fr := g_neOA s1 hfr
  have n3 : so ≠ be := g_neOA s1 hbe
  have n4 : b ≠ va := g_neAA s3 hva (by omega)
  have n5 : kk ≠ va := g_neAA hkk hva (by omega)
  have hTM : ∀ {M : g_M}, g_fr (fun y => y = va) M0 M → O_tab so b kk wa cs ds M := fun f => hT.ke f n1 n4 n5 hwan.1 fun s row hs h => (hnr s row hs h).1
  obtain ⟨c, hc⟩ : ∃ c, c = O_ci cs ds := ⟨_, rfl⟩
  have hr' : ∀ {M : g_M}, g_fr (fun y => y = va) M0 M → g_i M so = g_i M0 so ∧ g_r M so = g_r M0 so := fun f => f.2 so n1
  -- the last loop
  have h205 : ∀ (r i : Nat) (M : g_M), i + r = ds.length → g_fr (fun y => y = va ∨ y = fr) M0 M → b_at (g_i M va) 0 (O_il (O_ord cs ds)) → (∀ (j k : Nat), j < i → (O_ord cs ds)[j]? = some k → g_i M fr j = g_i M0 be k) → g_Run (d + 47) 163 205 [(0, .ref so), (1, g_n pe), (2, g_n w2), (3, g_n cs.length), (4, g_n q), (5, g_n i)] [] M (g_qI Q) := by
    have hol : (O_ord cs ds).length = ds.length := by
      unfold O_ord
      rw [List.length_reverse, O_rv_len]
    intro r
    induction r with
    | zero =>
      intro i M hi f hv hf
      have hso := f.2 so (fun z => z.elim n1 n2)
      have h14' : g_i M so 14 = ds.length := by rw [hso.1]; exact h14
      refine s_X9_sort_205 hpeR hwR ⟨by omega, by omega⟩ hqR ⟨by omega, by omega⟩ fun _ => ⟨f.O s1, fun z => absurd z (by omega), fun _ => ⟨fr, by rw [hso.2]; exact h7, be, by rw [hso.2]; exact h6, _, f.A hfr, _, f.A hbe, ⟨by omega, by omega, by omega, by omega, by omega⟩, fun M11 e11 _ => ?_⟩⟩
      subst e11
      refine hq _ ⟨?_, fun x hx => ⟨funext fun j => ?_, ?_⟩⟩ fun j k hj => ?_
      · exact f.1
      · rw [g_i_cp, if_neg (fun z => hx (Or.inr (Or.inr z.1)))]
        rw [(f.2 x fun z => hx (z.elim Or.inl fun w => Or.inr (Or.inl w))).1]
      · exact (f.2 x fun z => hx (z.elim Or.inl fun w => Or.inr (Or.inl w))).2
      · have hjl := (List.getElem?_eq_some_iff.mp hj).1
        rw [g_i_cp, if_pos ⟨rfl, by omega, by omega⟩, ← hf j k (by omega) hj]
        congr 1
        omega
    | succ r ih =>
      intro i M hi f hv hf
      have hso := f.2 so (fun z => z.elim n1 n2)
      have h14' : g_i M so 14 = ds.length := by rw [hso.1]; exact h14
      obtain ⟨k, hk⟩ : ∃ k, (O_ord cs ds)[i]? = some k := ⟨_, List.getElem?_eq_getElem (by omega)⟩
      have hkm : k ∈ O_rv (O_ci cs ds) ds.length := List.mem_reverse.mp (List.mem_of_getElem? hk)
      have hkl := O_rv_lt _ _ k hkm
      have hvk : g_i M va i = k := by
        have := hv i k (by unfold O_il; rw [List.getElem?_map, hk]; rfl)
        rwa [show (0 : Int) + (i : Int) = i by omega] at this
      refine s_X9_sort_205 hpeR hwR ⟨by omega, by omega⟩ hqR ⟨by omega, by omega⟩ fun _ => ⟨f.O s1, fun _ => ⟨fr, by rw [hso.2]; exact h7, be, by rw [hso.2]; exact h6, va, by rw [hso.2]; exact h10, _, f.A hva, ⟨by omega, by omega⟩, _, f.A hbe, ⟨by omega, by omega⟩, _, f.A hfr, ⟨by omega, by omega⟩, fun M30 e30 _ => ?_⟩, fun z => absurd (by omega) z⟩
      refine ⟨⟨by omega, by omega⟩, ?_⟩
      rw [hvk] at e30
      have hbk : g_i M be = g_i M0 be := (f.2 be fun z => z.elim hne.1.symm hne.2.2).1
      rw [hbk] at e30
      have h9 := ih (i + 1) M30 (by omega) (f.tr (by subst e30; exact g_fr.wi _ _ (Or.inr rfl))) (by subst e30; exact b_at_keep hv fun j _ _ => by rw [g_i_wi, if_neg fun z => hne.2.1 z.1]) fun j k2 hj hjk => ?_
      · rwa [show ((i + 1 : Nat) : Int) = (i : Int) + 1 by omega] at h9
      · subst e30
        rw [g_i_wi]
        by_cases hji : j = i
        · subst hji
          rw [if_pos ⟨rfl, rfl⟩]
          rw [hk] at hjk
          cases hjk
          rfl
        · rw [if_neg (by omega)]
          exact hf j k2 (by omega) hjk
  -- one more is put in
  have h128 : ∀ (r i : Nat) (M : g_M), i + r = ds.length → g_fr (fun y => y = va) M0 M → b_at (g_i M va) 0 (O_il (O_rv c i).reverse) → g_Run (d + 47) 163 128 [(0, .ref so), (1, g_n pe), (2, g_n w2), (3, g_n cs.length), (4, g_n q), (5, g_n i)] [] M (g_qI Q) := by
    intro r
    induction r with
    | zero =>
      intro i M hi f hv
      have h14' : g_i M so 14 = ds.length := by rw [(hr' f).1]; exact h14
      refine s_X9_sort_128 hpeR hwR ⟨by omega, by omega⟩ hqR ⟨by omega, by omega⟩ fun _ => ⟨f.O s1, fun z => absurd z (by omega), fun _ => ?_⟩
      exact h205 ds.length 0 M (by omega) (f.up fun _ z => Or.inl z) (by unfold O_ord; rw [show ds.length = i by omega, ← hc]; exact hv) fun j k hj => absurd hj (by omega)
    | succ r ih =>
      intro i M hi f hv
      have h14' : g_i M so 14 = ds.length := by rw [(hr' f).1]; exact h14
      have hnext : ∀ M2, g_fr (fun y => y = va) M0 M2 → b_at (g_i M2 va) 0 (O_il (O_ins c i (O_rv c i)).reverse) → g_InR ((i : Int) + 1) ∧ g_Run (d + 47) 163 128 [(0, .ref so), (1, g_n pe), (2, g_n w2), (3, g_n cs.length), (4, g_n q), (5, g_n ((i : Int) + 1))] [] M2 (g_qI Q) := fun M2 f2 hv2 => by
        refine ⟨⟨by omega, by omega⟩, ?_⟩
        have h9 := ih (i + 1) M2 (by omega) f2 hv2
        rwa [show ((i + 1 : Nat) : Int) = (i : Int) + 1 by omega] at h9
      have h141 : ∀ (R B : List Nat) (M2 : g_M), (∀ y ∈ R, y < i) → R.length + B.length = i → g_fr (fun y => y = va) M0 M2 → b_at (g_i M2 va) 0 (O_il R.reverse) → b_at (g_i M2 va) (R.length + 1) (O_il B) → (O_ins c i (O_rv c i)).reverse = (O_ins c i R).reverse ++ B → g_Run (d + 47) 163 141 [(0, .ref so), (1, g_n pe), (2, g_n w2), (3, g_n cs.length), (4, g_n q), (5, g_n i), (6, g_n R.length)] [] M2 (g_qI Q) := by
        intro R
        induction R with
        | nil =>
          intro B M2 hR hlen f2 hv1 hv2 he
          refine s_X9_sort_141 hpeR hwR ⟨by omega, by omega⟩ hqR ⟨by omega, by omega⟩ ⟨by omega, by omega⟩ fun _ => ⟨fun z => absurd z (by rw [List.length_nil]; omega), fun _ => ⟨f2.O s1, va, by rw [(hr' f2).2]; exact h10, _, f2.A hva, ⟨by omega, by rw [List.length_nil]; omega⟩, fun M7 e7 _ => ?_⟩⟩
          subst e7
          refine hnext _ (f2.tr (g_fr.wi _ _ rfl)) ?_
          rw [he, O_il_app]
          refine b_app.mpr ⟨b_cons.mpr ⟨?_, b_nil _ _⟩, b_at_keep (B := g_i M2 va) ?_ fun k k1 k2 => ?_⟩
          · rw [g_i_wi, if_pos ⟨rfl, rfl⟩]
          · have h1 : (0 : Int) + ((O_il (O_ins c i []).reverse).length : Nat) = (([] : List Nat).length : Int) + 1 := rfl
            rw [h1]
            exact hv2
          · rw [g_i_wi, if_neg]
            intro z
            have := z.2
            rw [show (O_il (O_ins c i []).reverse).length = 1 from rfl] at k1
            rw [List.length_nil] at this
            omega
        | cons y R ihR =>
          intro B M2 hR hlen f2 hv1 hv2 he
          rw [List.length_cons] at hlen
          have hyi := hR y List.mem_cons_self
          have hl1 : (((y :: R).length : Nat) : Int) - 1 = R.length := by rw [List.length_cons]; omega
          have hl2 : (((y :: R).length : Nat) : Int) + -1 = R.length := by rw [List.length_cons]; omega
          rw [List.reverse_cons, O_il_app] at hv1
          obtain ⟨v1, v2⟩ := b_app.mp hv1
          have hvy : g_i M2 va R.length = y := by
            have := (b_cons.mp v2).1
            rwa [O_il_len, List.length_reverse, show (0 : Int) + (R.length : Int) = R.length by omega] at this
          refine s_X9_sort_141 hpeR hwR ⟨by omega, by omega⟩ hqR ⟨by omega, by omega⟩ ⟨by omega, by omega⟩ fun _ => ⟨fun _ => ⟨f2.O s1, va, by rw [(hr' f2).2]; exact h10, ⟨by omega, by omega⟩, _, f2.A hva, ⟨by omega, by rw [List.length_cons]; omega⟩, ?_⟩, fun z => absurd (by rw [List.length_cons]; omega) z⟩
          rw [hl1, hvy]
          refine c_cmpSorted (d := d + 1) (hTM f2) hds (by omega) (by omega) ?_
          intro _ _ _
          rw [← hc]
          refine ⟨fun g0 => ⟨va, by rw [(hr' f2).2]; exact h10, va, by rw [(hr' f2).2]; exact h10, ⟨by omega, by omega⟩, _, f2.A hva, ⟨by omega, by omega⟩, _, f2.A hva, ⟨by omega, by rw [List.length_cons]; omega⟩, fun M45 e45 _ => ?_⟩, fun g0 => ⟨va, by rw [(hr' f2).2]; exact h10, _, f2.A hva, ⟨by omega, by rw [List.length_cons]; omega⟩, fun M29 e29 _ => ?_⟩⟩
          · rw [hvy] at e45
            subst e45
            rw [hl2]
            refine ⟨⟨by omega, by omega⟩, ihR (y :: B) _ (fun z hz => hR z (List.mem_cons_of_mem _ hz)) (by rw [List.length_cons]; omega) (f2.tr (g_fr.wi _ _ rfl)) (b_at_keep v1 fun k k1 k2 => ?_) (b_cons.mpr ⟨?_, b_at_keep (B := g_i M2 va) (x := O_il B) ?_ fun k k1 k2 => ?_⟩) ?_⟩
            · rw [O_il_len, List.length_reverse] at k2
              rw [g_i_wi, if_neg]
              intro z
              have := z.2
              rw [List.length_cons] at this
              omega
            · rw [g_i_wi, if_pos ⟨rfl, by rw [List.length_cons]; omega⟩]
            · rw [List.length_cons] at hv2
              rwa [show (R.length : Int) + 1 + 1 = ((R.length + 1 : Nat) : Int) + 1 by omega]
            · rw [g_i_wi, if_neg]
              intro z
              have := z.2
              rw [List.length_cons] at this
              omega
            · rw [he, show O_ins c i (y :: R) = if 0 < c y i then y :: O_ins c i R else i :: y :: R from rfl, if_pos g0, List.reverse_cons, List.append_assoc]
              rfl
          · subst e29
            refine hnext _ (f2.tr (g_fr.wi _ _ rfl)) ?_
            rw [he, show O_ins c i (y :: R) = if 0 < c y i then y :: O_ins c i R else i :: y :: R from rfl, if_neg g0, List.reverse_cons, List.append_assoc, O_il_app]
            have hlr : (O_il (y :: R).reverse).length = R.length + 1 := by rw [O_il_len, List.length_reverse, List.length_cons]
            refine b_app.mpr ⟨b_at_keep (by rw [List.reverse_cons, O_il_app]; exact hv1) fun k k1 k2 => ?_, ?_⟩
            · rw [hlr] at k2
              rw [g_i_wi, if_neg]
              intro z
              have := z.2
              rw [List.length_cons] at this
              omega
            · rw [hlr]
              refine b_cons.mpr ⟨?_, b_at_keep (B := g_i M2 va) (x := O_il B) ?_ fun k k1 k2 => ?_⟩
              · rw [g_i_wi, if_pos ⟨rfl, by rw [List.length_cons]; omega⟩]
              · rw [List.length_cons] at hv2
                rwa [show (0 : Int) + ((R.length + 1 : Nat) : Int) + 1 = ((R.length + 1 : Nat) : Int) + 1 by omega]
              · rw [g_i_wi, if_neg]
                intro z
                have := z.2
                rw [List.length_cons] at this
                omega
      refine s_X9_sort_128 hpeR hwR ⟨by omega, by omega⟩ hqR ⟨by omega, by omega⟩ fun _ => ⟨f.O s1, fun _ => ?_, fun z => absurd (by omega) z⟩
      have hrl := O_rv_len c i
      have h9 := h141 (O_rv c i) [] M (O_rv_lt c i) (by rw [hrl]; rfl) f hv (b_nil _ _) (List.append_nil _).symm
      rwa [hrl] at h9
  exact h128 ds.length 0 M0 (by omega) (g_fr.rf _ _) (b_nil _ _)
end CINS
