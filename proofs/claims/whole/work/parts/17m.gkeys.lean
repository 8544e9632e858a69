/-! STAGES: $group, the class: keys and groups -/
def G_K (n : Nat) (yb : b_E) (ds : List (List b_E)) (lo : Int) (b ke gr : Nat) (i yl : Nat) (M : g_M) : Prop := ∀ j : Nat, j < i → G_ko (g_i M b) lo yl (g_i M ke j) (G_kv n yb (ds.getD j [])) ∧ g_i M gr j = ((G_f n yb ds j : Nat) : Int)
theorem S_sum_take {ds : List (List b_E)} {i : Nat} {es : List b_E} (h : ds[i]? = some es) : S_sum (ds.take (i + 1)) = S_sum (ds.take i) + (b_doc es).length := by
  have htk : ds.take (i + 1) = ds.take i ++ [es] := by rw [List.take_add_one, h]; rfl
  rw [htk, S_sum_snoc]
theorem S_sum_le (ds : List (List b_E)) (i : Nat) : S_sum (ds.take i) ≤ S_sum ds := by
  have h : S_sum ds = S_sum (ds.take i) + S_sum (ds.drop i) := by
    conv => lhs; rw [← List.take_append_drop i ds]
    unfold S_sum
    rw [List.map_append, List.sum_append]
  omega
theorem G_ko.len {B : Int → Int} {lo p : Int} {yl : Nat} {w : b_E} (h : G_ko B lo yl p w) (h1 : 82808 ≤ lo) (h2 : lo ≤ 123208) (h3 : yl ≤ 82800) : w.2.2.length ≤ 199000 := by
  obtain ⟨nm, z1, z2⟩ := h
  have z3 := z1.2.2.2.1
  rw [b_el_len] at z2
  omega
section GKEYS
variable {so b po pf pt ou sc be fr ke gr va : Nat} {M0 M M1 : g_M} {lo g : Int} {ds : List (List b_E)}
/-- a document of the belt under the frame -/
theorem G_X.doc (hT : G_T so b po pf pt ou sc be fr ke gr va M0) (hX : G_X so b po pf pt ou sc fr ke gr va lo M0 M) (hlo : lo = S_lo g) (hbt : S_belt so b be g ds M0) {i : Nat} {es : List b_E} (hi : ds[i]? = some es) : ∃ p, g_i M be i = p ∧ b_st (g_i M b) 163608 p 16 3 [] (b_doc es) ∧ (∀ k, p ≤ k → k < p + (b_el 3 [] (b_doc es)).length → ¬ (lo ≤ k ∧ k < lo + 40400)) ∧ (b_doc es).length ≤ 2000 ∧ X_gd 15 es ∧ i < 200 := by
  obtain ⟨h14, hok, hpl⟩ := hbt
  obtain ⟨p, p1, p2, p3⟩ := hpl i es hi
  obtain ⟨m1, m2⟩ := hok.2.2 es (List.mem_of_getElem? hi)
  have hil := (List.getElem?_eq_some_iff.mp hi).1
  have hn := hT.n
  have hbe : g_i M be i = g_i M0 be i := hX.2.2.1 be hT.1.n1.2.2.2.2.2.2.1.symm hT.1.n2.2.2.2.2.2.1.symm hT.1.n3.1.2.2.1.symm hT.1.n3.2.1.2.2.1.symm hT.1.n3.2.2.1.2.2.1.symm hT.1.n3.2.2.2.1.2.1.symm hT.1.n3.2.2.2.2.1.1.symm hT.1.n3.2.2.2.2.2 (hn ke (Or.inl rfl)).2.2.2.2.2.2.2.1.symm (hn gr (Or.inr (Or.inl rfl))).2.2.2.2.2.2.2.1.symm (hn va (Or.inr (Or.inr rfl))).2.2.2.2.2.2.2.1.symm i
  refine ⟨p, hbe.trans p1, ⟨b_at_keep p2.1 fun k k1 k2 => hX.2.2.2.2.1 k (by have := p2.2.2.2.2; omega) (by rw [hlo]; exact (p3 k k1 k2).2), p2.2⟩, fun k k1 k2 => by rw [hlo]; exact (p3 k k1 k2).2, m1, m2, by have := hok.1; omega⟩
theorem G_X.req (hX : G_X so b po pf pt ou sc fr ke gr va lo M0 M) (hlo : 82808 ≤ lo) {q : Int} {D : Nat} {k : Int} {nm vb : List Int} (h : b_st (g_i M0 b) 2100 q D k nm vb) : b_st (g_i M b) 2100 q D k nm vb := ⟨b_at_keep h.1 fun j j1 j2 => hX.2.2.2.2.1 j (by have := h.2.2.2.2; omega) (by have := h.2.2.2.2; omega), h.2⟩
theorem c_groupKeys {d n Dy : Nat} {Q : Int → g_M → Prop} {v1 v2 qy J : Int} {yb : b_E} (hT : G_T so b po pf pt ou sc be fr ke gr va M0) (hlo : lo = S_lo g) (hg01 : g = 0 ∨ g = 1) (hbt : S_belt so b be g ds M0) (hno : b_at (g_i M0 b) 0 [10, 0]) (hy : b_st (g_i M0 b) 2100 qy Dy yb.1 yb.2.1 yb.2.2) (hDy : Dy ≤ 16) (hef : S_ef yb = false) (hn : 16 ≤ n) (r1 : g_InR v1) (r2 : g_InR v2) (hu0 : c_Wr ou b 246408 lo (lo + 40400) [] M0) (hF0 : S_F so fr lo J [] M0) (hs0 : c_Wr sc b 246408 163608 246408 [] M0) (hq : ∀ M1 (y : List Int), G_X so b po pf pt ou sc fr ke gr va lo M0 M1 → c_Wr ou b 246408 lo (lo + 40400) [] M1 → S_F so fr lo J [] M1 → c_Wr sc b 246408 163608 246408 y M1 → y.length ≤ 40000 → G_K n yb ds lo b ke gr ds.length y.length M1 → g_i M1 so 19 = g_i M0 so 19 → g_Run (d + 70) 157 165 [(0, .ref so), (1, g_n v1), (2, g_n v2), (3, g_n qy), (4, g_n (163608 + y.length)), (5, g_n 0)] [] M1 (g_qI Q)) : g_Run (d + 70) 157 28 [(0, .ref so), (1, g_n v1), (2, g_n v2), (3, g_n qy), (4, g_n 0)] [] M0 (g_qI Q) := by
  obtain ⟨hlo1, hlo2, -⟩ := S_lo_R hg01
  rw [← hlo] at hlo1 hlo2
  obtain ⟨h14, hok, -⟩ := id hbt
  have hl200 := hok.1
  have hsum := hok.2.1
  have hqyR := hy.R (by decide)
  have hy4 := hy.2.2.2.1
  have hy5 := hy.2.2.2.2
  have hyl := b_el_len yb.1 yb.2.1 yb.2.2
  have hlp : ∀ (r i : Nat) (M : g_M) (y : List Int), i + r = ds.length → G_X so b po pf pt ou sc fr ke gr va lo M0 M → c_Wr ou b 246408 lo (lo + 40400) [] M → S_F so fr lo J [] M → c_Wr sc b 246408 163608 246408 y M → y.length ≤ S_sum (ds.take i) → G_K n yb ds lo b ke gr i y.length M → g_i M so 19 = g_i M0 so 19 → g_Run (d + 70) 157 28 [(0, .ref so), (1, g_n v1), (2, g_n v2), (3, g_n qy), (4, g_n i)] [] M (g_qI Q) := by
    intro r
    induction r with
    | zero =>
      intro i M y hi hX hu hF hs hyl hK h19
      have hTM := hX.T hT
      obtain ⟨⟨⟨s1, s2, s3⟩, w2, hp, ⟨w4, w5, w6, w7⟩, ⟨q1, q2, q3⟩, ⟨u1, u2⟩, ⟨c1, c2⟩, -⟩, -⟩ := id hTM
      have hi14 : g_i M so 14 = ds.length := by rw [hX.2.2.2.1 14 (by decide) (by decide) (by decide) (by decide)]; exact h14
      have hle := S_sum_le ds i
      refine s_X9_group_28 r1 r2 hqyR ⟨by omega, by omega⟩ fun _ => ⟨s1, fun z => absurd z (by omega), fun _ => ⟨sc, w5, c1, ?_⟩⟩
      have hat : g_i M sc 1 = 163608 + y.length := by
        rcases hs.2.2.2.2 with ⟨-, z, -⟩ | ⟨-, -, -, z⟩
        · exact z
        · omega
      rw [hat]
      have hiN : i = ds.length := by omega
      subst hiN
      exact hq M y hX hu hF hs (by omega) hK h19
    | succ r ih =>
      intro i M y hi hX hu hF hs hyl hK h19
      have hTM := hX.T hT
      obtain ⟨es, hes⟩ : ∃ es, ds[i]? = some es := ⟨_, List.getElem?_eq_getElem (by omega)⟩
      have hgi : ds.getD i [] = es := by rw [List.getD_eq_getElem?_getD, hes]; rfl
      obtain ⟨p, p1, p2, p3, m1, m2, hi2⟩ := G_X.doc hT hX hlo hbt hes
      have hst := S_sum_take hes
      have hle := S_sum_le ds (i + 1)
      obtain ⟨⟨⟨s1, s2, s3⟩, w2, hp, ⟨w4, w5, w6, w7⟩, ⟨q1, q2, q3⟩, ⟨u1, u2⟩, ⟨c1, c2⟩, -⟩, ⟨t1, t2, t3⟩, ⟨k1, k2, k3⟩, ⟨n1, n2, n3, n4, n5, n6, n7, n8, n9⟩⟩ := id hTM
      have hi14 : g_i M so 14 = ds.length := by rw [hX.2.2.2.1 14 (by decide) (by decide) (by decide) (by decide)]; exact h14
      refine s_X9_group_28 r1 r2 hqyR ⟨by omega, by omega⟩ fun _ => ⟨s1, fun _ => ⟨be, w6, _, q1, ⟨by omega, by omega⟩, ?_⟩, fun z => absurd (by omega) z⟩
      rw [p1]
      refine c_valG (n := n) (by omega) hTM hlo1 hlo2 hu hF hs (hX.req hlo1 hy) hef (by omega) p2 p3 hn m1 m2 (by omega) fun M1 v y2 hSX hu1 hF1 hs1 hy2l hb1 hso1 hv => ?_
      intro _ _ hvR
      have hX1 := hX.tr hSX.g9
      have hT1 := hX1.T hT
      have hyy : (y ++ y2).length ≤ S_sum (ds.take (i + 1)) := by rw [List.length_append]; omega
      have hie : ∀ x, (x = ke ∨ x = gr) → ∀ k, g_i M1 x k = g_i M x k := fun x hx k => by
        obtain ⟨z1, z2, z3, z4, z5, z6, z7, z8, z9⟩ := hTM.n x (hx.elim Or.inl fun z => Or.inr (Or.inl z))
        exact hSX.2.2.1 x z1 z2 z3 z4 z5 z6 z7 z9 k
      obtain ⟨⟨⟨s1, s2, s3⟩, w2, hp, ⟨w4, w5, w6, w7⟩, ⟨q1, q2, q3⟩, ⟨u1, u2⟩, ⟨c1, c2⟩, -⟩, ⟨t1, t2, t3⟩, ⟨k1, k2, k3⟩, -⟩ := id hT1
      obtain ⟨kn1, kn2, kn3, kn4, kn5, kn6, kn7, kn8, kn9⟩ := hT1.n ke (Or.inl rfl)
      obtain ⟨gn1, gn2, gn3, gn4, gn5, gn6, gn7, gn8, gn9⟩ := hT1.n gr (Or.inr (Or.inl rfl))
      -- the key stands
      obtain ⟨kp, hkp⟩ : ∃ kp : Int, kp = if v < 0 then 0 else v := ⟨_, rfl⟩
      have hno1 : b_at (g_i M1 b) 0 [10, 0] := b_at_keep hno fun k k1 k2 => hX1.2.2.2.2.1 k (by have : ([10, 0] : List Int).length = 2 := rfl; omega) (by have : ([10, 0] : List Int).length = 2 := rfl; omega)
      have hkey : G_ko (g_i M1 b) lo (y ++ y2).length kp (G_kv n yb es) := by
        unfold G_kv
        rcases hv with ⟨z1, z2⟩ | ⟨w, z1, z2⟩
        · rw [z1, hkp, z2]
          exact ⟨[], b_st_no hno1 (by decide) (by decide) 30, Or.inl (by show (0 : Int) + ((2 : Nat) : Int) ≤ lo; omega)⟩
        · rw [z1, hkp, if_neg (by obtain ⟨nm, z3, -⟩ := z2; have := z3.2.2.2.1; omega)]
          exact z2
      have hkpR : g_InR kp := by rw [hkp]; split; exact ⟨by decide, by decide⟩; exact hvR
      -- both rows are set
      have hset : ∀ M20, M20 = g_wi M1 ke i kp → ∃ b24, g_r M20 so 9 = some b24 ∧ ∃ n26, g_A M20 b24 1 n26 ∧ ((0 : Int) ≤ i ∧ (i : Int) < n26) ∧ ∀ M29, M29 = g_wi M20 b24 i i → g_ok M29 → g_Run (d + 70) 157 81 [(0, .ref so), (1, g_n v1), (2, g_n v2), (3, g_n qy), (4, g_n i), (5, g_n v), (6, g_n 0)] [] M29 (g_qI Q) := by
        rintro M20 rfl
        refine ⟨gr, t2, 200, k2, ⟨by omega, by omega⟩, ?_⟩
        rintro M29 rfl _
        obtain ⟨M3, hM3⟩ : ∃ M3, M3 = g_wi (g_wi M1 ke i kp) gr i i := ⟨_, rfl⟩
        rw [← hM3]
        have f3 : e_fr (fun x _ => x = ke ∨ x = gr) M1 M3 := by
          rw [hM3]
          exact (e_fr.wi _ (Or.inl rfl)).tr (e_fr.wi _ (Or.inr rfl))
        have hX3 := hX1.tr (G_X.e (lo := lo) hT1 f3 fun x k z => z.elim (fun z => Or.inr (Or.inr (Or.inr (Or.inr (Or.inl z))))) fun z => Or.inr (Or.inr (Or.inr (Or.inr (Or.inr (Or.inl z))))))
        have hT3 := hX3.T hT
        have hb3 : g_i M3 b = g_i M1 b := funext fun k => f3.2.1 b k fun z => z.elim (fun z => kn2 z.symm) fun z => gn2 z.symm
        have hu3 : c_Wr ou b 246408 lo (lo + 40400) [] M3 := hu1.kp f3.1 (f3.2.2 _ _) (fun k => f3.2.1 ou k fun z => z.elim (fun z => kn6 z.symm) fun z => gn6 z.symm) fun k _ _ => by rw [hb3]
        have hs3 : c_Wr sc b 246408 163608 246408 (y ++ y2) M3 := hs1.kp f3.1 (f3.2.2 _ _) (fun k => f3.2.1 sc k fun z => z.elim (fun z => kn7 z.symm) fun z => gn7 z.symm) fun k _ _ => by rw [hb3]
        have hso3 : ∀ k, g_i M3 so k = g_i M1 so k := fun k => f3.2.1 so k fun z => z.elim (fun z => kn1 z.symm) fun z => gn1 z.symm
        have hF3 : S_F so fr lo J [] M3 := hF1.fr (fun k _ => hso3 k) fun k => f3.2.1 fr k fun z => z.elim (fun z => kn9 z.symm) fun z => gn9 z.symm
        have hk3i : g_i M3 ke i = kp := by rw [hM3, g_i_wi, if_neg fun z => n7 z.1, g_i_wi, if_pos ⟨rfl, rfl⟩]
        have hk3 : ∀ j : Nat, j < i → g_i M3 ke j = g_i M ke j ∧ g_i M3 gr j = g_i M gr j := fun j hj => by
          refine ⟨?_, ?_⟩
          · rw [hM3, g_i_wi, if_neg fun z => n7 z.1, g_i_wi, if_neg (by omega), hie ke (Or.inl rfl)]
          · rw [hM3, g_i_wi, if_neg (by omega), g_i_wi, if_neg fun z => n7 z.1.symm, hie gr (Or.inr rfl)]
        have hKo : ∀ j : Nat, j < i + 1 → G_ko (g_i M3 b) lo (y ++ y2).length (g_i M3 ke j) (G_kv n yb (ds.getD j [])) := by
          intro j hj
          rcases Nat.lt_or_ge j i with g | g
          · rw [(hk3 j g).1, hb3]
            exact (hK j g).1.kp (by rw [List.length_append]; omega) (fun k k1 _ => hb1 k k1) (by omega)
          · have : j = i := by omega
            rw [this, hk3i, hgi, hb3]
            exact hkey
        have h19' : g_i M3 so 19 = g_i M0 so 19 := by rw [hso3, hso1]; exact h19
        -- its group is found
        have hfin : ∀ (M4 : g_M) (f : Nat), G_f n yb ds i = f → e_fr (fun x _ => x = gr) M3 M4 → (∀ j : Nat, j < i → g_i M4 gr j = g_i M3 gr j) → g_i M4 gr i = f → g_InR ((i : Int) + 1) ∧ g_Run (d + 70) 157 28 [(0, .ref so), (1, g_n v1), (2, g_n v2), (3, g_n qy), (4, g_n ((i : Int) + 1))] [] M4 (g_qI Q) := by
          intro M4 f hf f4 h4j h4i
          have hb4 : g_i M4 b = g_i M3 b := funext fun k => f4.2.1 b k fun z => gn2 z.symm
          refine ⟨⟨by omega, by omega⟩, ?_⟩
          have h9 := ih (i + 1) M4 (y ++ y2) (by omega) (hX3.tr (G_X.e hT3 f4 fun x k z => Or.inr (Or.inr (Or.inr (Or.inr (Or.inr (Or.inl z))))))) (hu3.kp f4.1 (f4.2.2 _ _) (fun k => f4.2.1 ou k fun z => gn6 z.symm) fun k _ _ => by rw [hb4]) (hF3.fr (fun k _ => f4.2.1 so k fun z => gn1 z.symm) fun k => f4.2.1 fr k fun z => gn9 z.symm) (hs3.kp f4.1 (f4.2.2 _ _) (fun k => f4.2.1 sc k fun z => gn7 z.symm) fun k _ _ => by rw [hb4]) hyy (fun j hj => ⟨?_, ?_⟩) (by rw [f4.2.1 so 19 fun z => gn1 z.symm]; exact h19')
          · rwa [show ((i + 1 : Nat) : Int) = (i : Int) + 1 by omega] at h9
          · rw [hb4, f4.2.1 ke j fun z => n7 z]
            exact hKo j hj
          · rcases Nat.lt_or_ge j i with g | g
            · rw [h4j j g, (hk3 j g).2]
              exact (hK j g).2
            · have : j = i := by omega
              rw [this, h4i, hf]
        have hinn : ∀ (t k : Nat), k + t = i → (∀ j, j < k → G_sm n yb (ds.getD j []) (ds.getD i []) = false) → g_Run (d + 70) 157 81 [(0, .ref so), (1, g_n v1), (2, g_n v2), (3, g_n qy), (4, g_n i), (5, g_n v), (6, g_n k)] [] M3 (g_qI Q) := by
          obtain ⟨⟨⟨s1, s2, s3⟩, -⟩, ⟨t1, t2, t3⟩, ⟨k1, k2, k3⟩, -⟩ := id hT3
          intro t
          induction t with
          | zero =>
            intro k hk hn2
            have hki : k = i := by omega
            subst hki
            have hf := G_f_eq (n := n) (y := yb) (ds := ds) (Nat.le_refl k) (F_eq_rf _) hn2
            refine s_X9_group_81 r1 r2 hqyR ⟨by omega, by omega⟩ hvR ⟨by omega, by omega⟩ fun _ => ⟨fun z => absurd z (by omega), fun _ => ?_⟩
            refine hfin M3 k hf (e_fr.rf _ _) (fun _ _ => rfl) ?_
            rw [hM3, g_i_wi, if_pos ⟨rfl, rfl⟩]
          | succ t iht =>
            intro k hk hn2
            have hks : g_InR ((k : Int) + 1) := ⟨by omega, by omega⟩
            have hnx : G_sm n yb (ds.getD k []) (ds.getD i []) = false → g_InR ((k : Int) + 1) ∧ g_Run (d + 70) 157 81 [(0, .ref so), (1, g_n v1), (2, g_n v2), (3, g_n qy), (4, g_n i), (5, g_n v), (6, g_n ((k : Int) + 1))] [] M3 (g_qI Q) := by
              intro hf
              refine ⟨hks, ?_⟩
              have h9 := iht (k + 1) (by omega) fun j hj => ?_
              · rwa [show ((k + 1 : Nat) : Int) = (k : Int) + 1 by omega] at h9
              · rcases Nat.lt_or_ge j k with g | g
                · exact hn2 j g
                · have : j = k := by omega
                  rw [this]
                  exact hf
            have hgk : g_i M3 gr k = ((G_f n yb ds k : Nat) : Int) := by rw [(hk3 k (by omega)).2]; exact (hK k (by omega)).2
            obtain ⟨nmk, zk, -⟩ := hKo k (by omega)
            obtain ⟨nmi, zi, -⟩ := hKo i (by omega)
            have hkl : (G_kv n yb (ds.getD k [])).2.2.length ≤ 199000 := (hKo k (by omega)).len hlo1 hlo2 (by omega)
            refine s_X9_group_81 r1 r2 hqyR ⟨by omega, by omega⟩ hvR ⟨by omega, by omega⟩ fun _ => ⟨fun _ => ⟨s1, gr, t2, _, k2, ⟨by omega, by omega⟩, ?_⟩, fun z => absurd (by omega) z⟩
            rw [hgk]
            refine ⟨fun g0 => ⟨b, s2, ke, t1, _, k1, ⟨by omega, by omega⟩, b, s2, ke, t1, _, k1, ⟨by omega, by omega⟩, ?_⟩, fun g0 => hnx ?_⟩
            · refine c_compare 30 (F := 60) (d := d + 6) s3 s3 (by decide) (by decide) hkl zk zi (by decide) (by decide) (by decide) ?_
              intro _ _ _
              refine ⟨fun g1 => ⟨gr, t2, _, k2, ⟨by omega, by omega⟩, fun M34 e34 _ => ?_⟩, fun g1 => hnx ?_⟩
              · have hsm : G_sm n yb (ds.getD k []) (ds.getD i []) = true := decide_eq_true g1
                refine hfin M34 k (G_f_eq (by omega) hsm hn2) (by rw [e34]; exact e_fr.wi _ rfl) (fun j hj => ?_) ?_
                · rw [e34, g_i_wi, if_neg (by omega)]
                · rw [e34, g_i_wi, if_pos ⟨rfl, rfl⟩]
              · exact decide_eq_false g1
            · -- not the first of its own group
              obtain ⟨z1, z2, z3⟩ := G_f_sp n yb ds k
              rcases hb : G_sm n yb (ds.getD k []) (ds.getD i []) with _ | _
              · rfl
              · have h9 : G_sm n yb (ds.getD (G_f n yb ds k) []) (ds.getD i []) = true := F_eq_tr z2 hb
                rw [hn2 (G_f n yb ds k) (by omega)] at h9
                exact absurd h9 (by decide)
        exact hinn i 0 (by omega) fun j hj => absurd hj (by omega)
      refine ⟨ke, t1, fun g0 => ⟨_, k1, ⟨by omega, by omega⟩, fun M36 e36 _ => ?_⟩, fun g0 => ⟨_, k1, ⟨by omega, by omega⟩, fun M20 e20 _ => ?_⟩⟩
      · obtain ⟨b24, z1, n26, z2, z3, z4⟩ := hset M36 (by rw [e36, hkp, if_pos g0])
        exact ⟨b24, z1, n26, z2, z3, z4⟩
      · obtain ⟨b24, z1, n26, z2, z3, z4⟩ := hset M20 (by rw [e20, hkp, if_neg g0])
        exact ⟨b24, z1, n26, z2, z3, z4⟩
  exact hlp ds.length 0 M0 [] (by omega) (G_X.rf hT) hu0 hF0 hs0 (Nat.zero_le _) (fun j hj => absurd hj (by omega)) rfl
end GKEYS
