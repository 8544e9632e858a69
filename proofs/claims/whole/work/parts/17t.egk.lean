/-! STAGES: $group, the reference: the groups -/
noncomputable def G_lk (n : Nat) (y : b_E) (ds : List (List b_E)) (k : Nat) : List Nat := (List.range k).filter fun m => G_f n y ds m == m
section GLK
variable {n : Nat} {y : b_E} {ds : List (List b_E)} {k l i : Nat}
theorem G_lk_s : G_lk n y ds (k + 1) = G_lk n y ds k ++ if G_f n y ds k = k then [k] else [] := by
  unfold G_lk
  rw [List.range_succ, List.filter_append]
  congr 1
  by_cases h : G_f n y ds k = k
  · rw [if_pos h]
    simp [h]
  · rw [if_neg h]
    simp [h]
theorem G_lk_len : (G_lk n y ds k).length ≤ k := by
  unfold G_lk
  have := List.length_filter_le (fun m => G_f n y ds m == m) (List.range k)
  rwa [List.length_range] at this
/-- a leader's place among the leaders -/
theorem G_lk_at (hl : G_f n y ds l = l) : ∀ t : Nat, (G_lk n y ds (l + 1 + t))[(G_lk n y ds l).length]? = some l := by
  intro t
  induction t with
  | zero =>
    rw [Nat.add_zero, G_lk_s, if_pos hl, List.getElem?_append_right (Nat.le_refl _), Nat.sub_self]
    rfl
  | succ t ih =>
    rw [← Nat.add_assoc, G_lk_s]
    have := (List.getElem?_eq_some_iff.mp ih).1
    rw [List.getElem?_append_left this]
    exact ih
theorem G_lk_get (hl : G_f n y ds l = l) (hk : l < k) : (G_lk n y ds k)[(G_lk n y ds l).length]? = some l := by
  have := G_lk_at (n := n) (y := y) (ds := ds) hl (k - (l + 1))
  rwa [show l + 1 + (k - (l + 1)) = k by omega] at this
theorem G_lk_mem {j m : Nat} (h : (G_lk n y ds k)[j]? = some m) : m < k ∧ G_f n y ds m = m ∧ j = (G_lk n y ds m).length := by
  have hm := List.mem_of_getElem? h
  unfold G_lk at hm
  obtain ⟨h1, h2⟩ := List.mem_filter.mp hm
  have h3 := List.mem_range.mp h1
  have h4 : G_f n y ds m = m := by simpa using h2
  refine ⟨h3, h4, ?_⟩
  have h5 := G_lk_get (n := n) (y := y) (ds := ds) h4 h3
  have hnd : (G_lk n y ds k).Nodup := List.nodup_range.filter _
  obtain ⟨a1, a2⟩ := List.getElem?_eq_some_iff.mp h
  obtain ⟨b1, b2⟩ := List.getElem?_eq_some_iff.mp h5
  exact (List.getElem_inj hnd).mp (a2.trans b2.symm)
/-- nobody ahead of the g-th leader is the same: then nobody ahead is -/
theorem G_lk_no {g : Nat} (hn : ∀ (j m : Nat), j < g → (G_lk n y ds k)[j]? = some m → G_sm n y (ds.getD m []) (ds.getD k []) = false) : ∀ j, j < k → (G_lk n y ds (G_f n y ds j)).length < g → G_sm n y (ds.getD j []) (ds.getD k []) = false := by
  intro j hj hg
  obtain ⟨h1, h2, h3⟩ := G_f_sp n y ds j
  have h4 := G_f_ff n y ds j
  have h5 := hn _ _ hg (G_lk_get h4 (by omega))
  rcases hb : G_sm n y (ds.getD j []) (ds.getD k []) with _ | _
  · rfl
  · have : G_sm n y (ds.getD (G_f n y ds j) []) (ds.getD k []) = true := F_eq_tr h2 hb
    rw [h5] at this
    exact absurd this (by decide)
theorem G_lk_mono {m : Nat} (h1 : G_f n y ds l = l) (h : l < m) : (G_lk n y ds l).length < (G_lk n y ds m).length := (List.getElem?_eq_some_iff.mp (G_lk_get h1 h)).1
/-- the g-th leader is whose group it is -/
theorem G_f_ld {g m : Nat} (hg : (G_lk n y ds k)[g]? = some m) (hs : G_sm n y (ds.getD m []) (ds.getD k []) = true) (hn : ∀ (j m : Nat), j < g → (G_lk n y ds k)[j]? = some m → G_sm n y (ds.getD m []) (ds.getD k []) = false) : G_f n y ds k = m := by
  obtain ⟨h1, h2, h3⟩ := G_lk_mem hg
  refine G_f_eq (by omega) hs fun j hj => G_lk_no hn j (by omega) ?_
  obtain ⟨k1, -, -⟩ := G_f_sp n y ds j
  have := G_lk_mono (n := n) (y := y) (ds := ds) (G_f_ff n y ds j) (show G_f n y ds j < m by omega)
  omega
theorem G_f_nw (hn : ∀ (j m : Nat), (G_lk n y ds k)[j]? = some m → G_sm n y (ds.getD m []) (ds.getD k []) = false) : G_f n y ds k = k := by
  refine G_f_eq (Nat.le_refl _) (F_eq_rf _) fun j hj => G_lk_no (g := (G_lk n y ds k).length) (fun j m _ h => hn j m h) j hj ?_
  obtain ⟨k1, -, -⟩ := G_f_sp n y ds j
  exact G_lk_mono (G_f_ff n y ds j) (by omega)
end GLK
def E_gT (m b ma be go fo : Nat) (M : g_M) : Prop := E_T m b ma be M ∧ (g_r M m 30 = some go ∧ g_r M m 31 = some fo) ∧ (g_A M go 1 200 ∧ g_A M fo 1 200) ∧ (go ≠ ma ∧ go ≠ be ∧ fo ≠ ma ∧ fo ≠ be ∧ go ≠ fo)
def E_GR (m b ma go fo : Nat) (lo : Int) (y : Nat) (k : Int) : Prop := (y = m ∧ ((4 ≤ k ∧ k ≤ 6) ∨ k = 23 ∨ k = 25 ∨ (26 ≤ k ∧ k ≤ 29) ∨ k = 32 ∨ k = 33)) ∨ y = ma ∨ y = go ∨ y = fo ∨ (y = b ∧ ((lo ≤ k ∧ k < lo + 60000) ∨ (2606200 ≤ k ∧ k < 2706200)))
/-- the groups of the first k documents -/
def G_gk (n : Nat) (yb : b_E) (ds : List (List b_E)) (m go fo : Nat) (k : Nat) (M : g_M) : Prop := g_i M m 32 = ((G_lk n yb ds k).length : Nat) ∧ (∀ (j l : Nat), (G_lk n yb ds k)[j]? = some l → g_i M fo j = (l : Nat)) ∧ ∀ i : Nat, i < k → g_i M go i = ((G_lk n yb ds (G_f n yb ds i)).length : Nat)
section EGK
variable {m b ma be go fo : Nat} {M0 M M1 : g_M} {lo g : Int} {ds : List (List b_E)}
theorem E_gT.fr {S : Nat → Int → Prop} (h : E_gT m b ma be go fo M) (f : e_fr S M M1) : E_gT m b ma be go fo M1 := by
  obtain ⟨h1, ⟨h2, h3⟩, ⟨h4, h5⟩, h6⟩ := h
  exact ⟨h1.fr f, ⟨by rw [f.2.2]; exact h2, by rw [f.2.2]; exact h3⟩, ⟨f.A h4, f.A h5⟩, h6⟩
theorem E_GR.no (hT : E_gT m b ma be go fo M0) : (∀ k, k < 922000 → (k < lo ∨ lo + 60000 ≤ k) → ¬ E_GR m b ma go fo lo b k) ∧ (∀ k, 2706200 ≤ k → lo ≤ 862000 → ¬ E_GR m b ma go fo lo b k) ∧ (∀ k, ¬ ((4 ≤ k ∧ k ≤ 6) ∨ k = 23 ∨ k = 25 ∨ (26 ≤ k ∧ k ≤ 29) ∨ k = 32 ∨ k = 33) → ¬ E_GR m b ma go fo lo m k) ∧ ∀ k, ¬ E_GR m b ma go fo lo be k := by
  obtain ⟨n1, n2, n3, n4, n5, n6⟩ := hT.1.ne
  obtain ⟨-, -, ⟨h4, h5⟩, ⟨q1, q2, q3, q4, q5⟩⟩ := id hT
  have m1 : m ≠ go := g_neOA hT.1.1.1 h4
  have m2 : m ≠ fo := g_neOA hT.1.1.1 h5
  have b1 : b ≠ go := g_neAA hT.1.1.2.2 h4 (by omega)
  have b2 : b ≠ fo := g_neAA hT.1.1.2.2 h5 (by omega)
  refine ⟨fun k k1 k2 z => ?_, fun k k1 k2 z => ?_, fun k k1 z => ?_, fun k z => ?_⟩
  · rcases z with ⟨z, -⟩ | z | z | z | ⟨-, z⟩
    · exact n1 z.symm
    · exact n4 z
    · exact b1 z
    · exact b2 z
    · clear n1 n2 n3 n4 n5 n6 m1 m2 b1 b2 q1 q2 q3 q4 q5
      omega
  · rcases z with ⟨z, -⟩ | z | z | z | ⟨-, z⟩
    · exact n1 z.symm
    · exact n4 z
    · exact b1 z
    · exact b2 z
    · clear n1 n2 n3 n4 n5 n6 m1 m2 b1 b2 q1 q2 q3 q4 q5
      omega
  · rcases z with ⟨-, z⟩ | z | z | z | ⟨z, -⟩
    · exact k1 z
    · exact n2 z
    · exact m1 z
    · exact m2 z
    · exact n1 z
  · rcases z with ⟨z, -⟩ | z | z | z | ⟨z, -⟩
    · exact n3 z.symm
    · exact n6 z
    · exact q2 z.symm
    · exact q4 z.symm
    · exact n5 z.symm
theorem E_VF.gr {y : Nat} {k : Int} (h : E_VF m b 2606200 y k) : E_GR m b ma go fo lo y k := by
  rcases h with ⟨h1, h2⟩ | ⟨h1, h2⟩
  · exact Or.inl ⟨h1, by omega⟩
  · exact Or.inr (Or.inr (Or.inr (Or.inr ⟨h1, Or.inr h2⟩)))
/-- values leave the groups -/
theorem G_gk.kp {n k : Nat} {yb : b_E} {S : Nat → Int → Prop} (h : G_gk n yb ds m go fo k M) (f : e_fr S M M1) (h1 : ¬ S m 32) (h2 : ∀ j, ¬ S go j) (h3 : ∀ j, ¬ S fo j) : G_gk n yb ds m go fo k M1 := by
  obtain ⟨a1, a2, a3⟩ := h
  exact ⟨by rw [f.2.1 m 32 h1]; exact a1, fun j l hj => by rw [f.2.1 fo j (h3 j)]; exact a2 j l hj, fun i hi => by rw [f.2.1 go i (h2 i)]; exact a3 i hi⟩
theorem E_VF.gn (hT : E_gT m b ma be go fo M0) : ¬ E_VF m b 2606200 m 32 ∧ ¬ E_VF m b 2606200 m 33 ∧ (∀ j, ¬ E_VF m b 2606200 go j) ∧ (∀ j, ¬ E_VF m b 2606200 fo j) ∧ (∀ k, ¬ (26 ≤ k ∧ k ≤ 29) → ¬ E_VF m b 2606200 m k) ∧ (∀ k, ¬ E_VF m b 2606200 ma k) ∧ ∀ k, k < 2606200 → ¬ E_VF m b 2606200 b k := by
  have hm : ∀ k, ¬ (26 ≤ k ∧ k ≤ 29) → ¬ E_VF m b 2606200 m k := fun k hk z => by
    rcases z with ⟨-, z⟩ | ⟨z, -⟩
    · exact hk z
    · exact hT.1.ne.1 z
  have hA : ∀ x, g_A M0 x 1 200 → ∀ k, ¬ E_VF m b 2606200 x k := fun x hx k z => by
    rcases z with ⟨z, -⟩ | ⟨z, -⟩
    · exact g_neOA hT.1.1.1 hx z.symm
    · exact g_neAA hx hT.1.1.2.2 (by omega) z
  refine ⟨hm 32 (by decide), hm 33 (by decide), hA go hT.2.2.1.1, hA fo hT.2.2.1.2, hm, hA ma hT.1.2.2.2.1, fun k hk z => ?_⟩
  rcases z with ⟨z, -⟩ | ⟨-, z⟩
  · exact hT.1.ne.1 z.symm
  · omega
theorem E_belt.ed (hbt : E_belt m b be g ds M) (hlo : lo = E_lo g) {i : Nat} {es : List b_E} (hi : ds[i]? = some es) : ∃ p, g_i M be i = p ∧ G_ed (g_i M b) lo p es ∧ i < 200 := by
  obtain ⟨h1, h2, h3⟩ := hbt
  obtain ⟨p, p1, p2, p3, p4, p5⟩ := h3 i es hi
  obtain ⟨m1, m2⟩ := h2.2.2 es (List.mem_of_getElem? hi)
  have := (List.getElem?_eq_some_iff.mp hi).1
  have := h2.1
  exact ⟨p, p1, ⟨p2, p3, p4, by rw [hlo]; exact p5, m1, m2⟩, by omega⟩
theorem e_groupKeys {d n Dy : Nat} {Q : Int → g_M → Prop} {c qy : Int} {yb : b_E} (hT : E_gT m b ma be go fo M0) (hlo : lo = E_lo g) (hg01 : g = 0 ∨ g = 1) (hbt : E_belt m b be g ds M0) (hno : b_at (g_i M0 b) 2706200 [10, 0]) (hy : b_st (g_i M0 b) 2100 qy Dy yb.1 yb.2.1 yb.2.2) (hDy : Dy ≤ 30) (hef : S_ef yb = false) (hn : 16 ≤ n) (hcR : g_InR c) (hW : e_Wr m b lo (lo + 60000) [] M0) (hF : E_F m ma lo [] M0) (h32 : g_i M0 m 32 = 0) (hq : ∀ M1, e_fr (E_GR m b ma go fo lo) M0 M1 → e_Wr m b lo (lo + 60000) [] M1 → E_F m ma lo [] M1 → G_gk n yb ds m go fo ds.length M1 → g_i M1 m 33 = 1 → g_Run (d + 68) 348 112 [(0, .ref m), (1, g_n c), (2, g_n qy), (3, g_n 0)] [] M1 (g_qI Q)) : g_Run (d + 68) 348 12 [(0, .ref m), (1, g_n c), (2, g_n qy), (3, g_n 0)] [] M0 (g_qI Q) := by
  obtain ⟨hlo1, hlo2, -⟩ := E_lo_R hg01
  rw [← hlo] at hlo1 hlo2
  obtain ⟨j1, j2, j3, j4⟩ := E_GR.no (lo := lo) hT
  obtain ⟨h19, hok, -⟩ := id hbt
  have hl200 := hok.1
  have hy4 := hy.2.2.2.1
  have hy5 := hy.2.2.2.2
  have hyl := b_el_len yb.1 yb.2.1 yb.2.2
  have hqyR : g_InR qy := ⟨by omega, by omega⟩
  have hgn := E_VF.gn hT
  have hbk : ∀ {M2 : g_M}, e_fr (E_GR m b ma go fo lo) M0 M2 → ∀ k, k < 922000 → ¬ (lo ≤ k ∧ k < lo + 60000) → g_i M2 b k = g_i M0 b k := fun f k k1 k2 => f.2.1 b k (j1 k k1 (by omega))
  have hed : ∀ {M2 : g_M} {i : Nat} {es : List b_E}, e_fr (E_GR m b ma go fo lo) M0 M2 → ds[i]? = some es → ∃ p, g_i M2 be i = p ∧ G_ed (g_i M2 b) lo p es ∧ i < 200 := fun f hi => by
    obtain ⟨p, p1, p2, p3⟩ := hbt.ed hlo hi
    exact ⟨p, by rw [f.2.1 be _ (j4 _)]; exact p1, p2.kp (hbk f), p3⟩
  have hlp : ∀ (t k : Nat) (M : g_M), k + t = ds.length → e_fr (E_GR m b ma go fo lo) M0 M → e_Wr m b lo (lo + 60000) [] M → E_F m ma lo [] M → G_gk n yb ds m go fo k M → g_Run (d + 68) 348 12 [(0, .ref m), (1, g_n c), (2, g_n qy), (3, g_n k)] [] M (g_qI Q) := by
    intro t
    induction t with
    | zero =>
      intro k M hk f W F hG
      have hkN : k = ds.length := by omega
      subst hkN
      have hTM := hT.fr f
      refine s_X12_group_12 hcR hqyR ⟨by omega, by omega⟩ fun _ => ⟨hTM.1.1.1, fun z => absurd (by rw [f.2.1 m 19 (j3 19 (by decide)), h19] at z; exact z) (by omega), fun _ M2 e2 _ => ?_⟩
      have f2 : e_fr (fun y k => y = m ∧ k = 33) M M2 := by rw [e2]; exact e_fr.wi _ ⟨rfl, rfl⟩
      obtain ⟨n1, n2, n3, n4, n5, n6⟩ := hT.1.ne
      refine hq M2 (f.tr (f2.up fun y k z => Or.inl ⟨z.1, by have := z.2; omega⟩)) (W.kp f2 (fun k k1 k2 z => by have := z.2; omega) fun k _ _ z => n1 z.1.symm) (F.fr (fun k hk => f2.2.1 m k fun z => by have := z.2; omega) fun k => f2.2.1 ma k fun z => n2 z.1.symm) (hG.kp f2 (fun z => by have := z.2; omega) (fun j z => g_neOA hT.1.1.1 hT.2.2.1.1 z.1.symm) fun j z => g_neOA hT.1.1.1 hT.2.2.1.2 z.1.symm) (by rw [e2, g_i_wi, if_pos ⟨rfl, rfl⟩])
    | succ t ih =>
      intro k M hk f W F hG
      obtain ⟨es, hes⟩ : ∃ es, ds[k]? = some es := ⟨_, List.getElem?_eq_getElem (by omega)⟩
      have hgk : ds.getD k [] = es := by rw [List.getD_eq_getElem?_getD, hes]; rfl
      have hlen := @G_lk_len n yb ds k
      -- the group is known
      have h64 : ∀ (M2 : g_M) (v4 : Nat), e_fr (E_GR m b ma go fo lo) M0 M2 → e_Wr m b lo (lo + 60000) [] M2 → E_F m ma lo [] M2 → G_gk n yb ds m go fo k M2 → v4 = (G_lk n yb ds (G_f n yb ds k)).length → (v4 < (G_lk n yb ds k).length ↔ G_f n yb ds k ≠ k) → g_Run (d + 68) 348 64 [(0, .ref m), (1, g_n c), (2, g_n qy), (3, g_n k), (4, g_n v4)] [] M2 (g_qI Q) := by
        intro M2 v4 f2 W2 F2 hG2 hv hv2
        have hT2 := hT.fr f2
        obtain ⟨n1, n2, n3, n4, n5, n6⟩ := hT.1.ne
        obtain ⟨-, ⟨t2, t3⟩, ⟨t4, t5⟩, ⟨q1, q2, q3, q4, q5⟩⟩ := id hT2
        have mgo : m ≠ go := g_neOA hT.1.1.1 hT.2.2.1.1
        have mfo : m ≠ fo := g_neOA hT.1.1.1 hT.2.2.1.2
        have bgo : b ≠ go := g_neAA hT.1.1.2.2 hT.2.2.1.1 (by omega)
        have bfo : b ≠ fo := g_neAA hT.1.1.2.2 hT.2.2.1.2 (by omega)
        obtain ⟨a1, a2, a3⟩ := hG2
        have hlk := @G_lk_s n yb ds k
        have hvl : v4 ≤ k := by
          have h1 := (G_f_sp n yb ds k).1
          have h2 := @G_lk_len n yb ds (G_f n yb ds k)
          clear n1 n2 n3 n4 n5 n6 q1 q2 q3 q4 q5 mgo mfo bgo bfo
          omega
        have hk2 : k < 200 := by
          clear n1 n2 n3 n4 n5 n6 q1 q2 q3 q4 q5 mgo mfo bgo bfo
          omega
        have hvR : g_InR (v4 : Int) := by
          clear n1 n2 n3 n4 n5 n6 q1 q2 q3 q4 q5 mgo mfo bgo bfo
          exact ⟨by omega, by omega⟩
        have hkR : g_InR (k : Int) ∧ g_InR ((k : Int) + 1) ∧ ((0 : Int) ≤ k ∧ (k : Int) < 200) ∧ ((0 : Int) ≤ v4 ∧ (v4 : Int) < 200) := by
          clear n1 n2 n3 n4 n5 n6 q1 q2 q3 q4 q5 mgo mfo bgo bfo
          exact ⟨⟨by omega, by omega⟩, ⟨by omega, by omega⟩, ⟨by omega, by omega⟩, ⟨by omega, by omega⟩⟩
        refine s_X12_group_64 hcR hqyR hkR.1 hvR fun _ => ⟨hT2.1.1.1, go, t2, _, t4, hkR.2.2.1, fun M7 e7 _ => ?_⟩
        have f7 : e_fr (fun y _ => y = go) M2 M7 := by rw [e7]; exact e_fr.wi _ rfl
        have x7 := f2.tr (f7.up fun y k z => (Or.inr (Or.inr (Or.inl z)) : E_GR m b ma go fo lo y k))
        have W7 : e_Wr m b lo (lo + 60000) [] M7 := W2.kp f7 (fun _ _ _ z => mgo z) fun _ _ _ z => bgo z
        have F7 : E_F m ma lo [] M7 := F2.fr (fun _ _ => f7.2.1 m _ fun z => mgo z) fun _ => f7.2.1 ma _ fun z => q1 z.symm
        have hgo7 : ∀ i : Nat, i < k + 1 → g_i M7 go i = ((G_lk n yb ds (G_f n yb ds i)).length : Nat) := fun i hi => by
          clear n1 n2 n3 n4 n5 n6 q1 q2 q3 q4 q5 mgo mfo bgo bfo
          rw [e7, g_i_wi]
          by_cases hik : i = k
          · rw [hik, if_pos ⟨rfl, rfl⟩, hv]
          · rw [if_neg (by omega)]
            exact a3 i (by omega)
        have hfo7 : ∀ j, g_i M7 fo j = g_i M2 fo j := fun j => f7.2.1 fo j fun z => q5 z.symm
        have h327 : g_i M7 m 32 = g_i M2 m 32 := f7.2.1 m 32 fun z => mgo z
        rw [h327, a1]
        have hT7 := hT.fr x7
        refine ⟨fun g0 => ?_, fun g0 => ⟨hkR.2.1, ?_⟩⟩
        · -- a new one
          have hfk : G_f n yb ds k = k := Classical.byContradiction fun z => by
            have := hv2.mpr z
            clear n1 n2 n3 n4 n5 n6 q1 q2 q3 q4 q5 mgo mfo bgo bfo
            omega
          rw [if_pos hfk] at hlk
          refine ⟨fo, hT7.2.1.2, _, hT7.2.2.1.2, hkR.2.2.2, fun M17 e17 _ => ?_⟩
          have f17 : e_fr (fun y _ => y = fo) M7 M17 := by rw [e17]; exact e_fr.wi _ rfl
          have h3217 : g_i M17 m 32 = ((G_lk n yb ds k).length : Nat) := by rw [f17.2.1 m 32 fun z => mfo z, h327, a1]
          rw [h3217]
          refine ⟨by clear n1 n2 n3 n4 n5 n6 q1 q2 q3 q4 q5 mgo mfo bgo bfo; exact ⟨by omega, by omega⟩, fun M22 e22 _ => ⟨hkR.2.1, ?_⟩⟩
          have f22 : e_fr (fun y k => y = m ∧ k = 32) M17 M22 := by rw [e22]; exact e_fr.wi _ ⟨rfl, rfl⟩
          have x22 := (x7.tr (f17.up fun y k z => (Or.inr (Or.inr (Or.inr (Or.inl z))) : E_GR m b ma go fo lo y k))).tr (f22.up fun y k z => Or.inl ⟨z.1, Or.inr (Or.inr (Or.inr (Or.inr (Or.inl z.2))))⟩)
          have h9 := ih (k + 1) M22 (by omega) x22 ((W7.kp f17 (fun _ _ _ z => mfo z) fun _ _ _ z => bfo z).kp f22 (fun k k1 k2 z => by have := z.2; omega) fun _ _ _ z => n1 z.1.symm) ((F7.fr (fun _ _ => f17.2.1 m _ fun z => mfo z) fun _ => f17.2.1 ma _ fun z => q3 z.symm).fr (fun k hk => f22.2.1 m k fun z => by have := z.2; omega) fun _ => f22.2.1 ma _ fun z => n2 z.1.symm) ⟨?_, fun j l hj => ?_, fun i hi => ?_⟩
          · rwa [show ((k + 1 : Nat) : Int) = (k : Int) + 1 by omega] at h9
          · rw [e22, g_i_wi, if_pos ⟨rfl, rfl⟩, hlk, List.length_append, List.length_singleton]
            rfl
          · rw [f22.2.1 fo j fun z => mfo z.1.symm, e17, g_i_wi]
            rw [hlk] at hj
            rcases Nat.lt_or_ge j (G_lk n yb ds k).length with g1 | g1
            · rw [if_neg (by
                clear n1 n2 n3 n4 n5 n6 q1 q2 q3 q4 q5 mgo mfo bgo bfo
                omega), hfo7]
              rw [List.getElem?_append_left g1] at hj
              exact a2 j l hj
            · have hjl := (List.getElem?_eq_some_iff.mp hj).1
              rw [List.length_append, List.length_singleton] at hjl
              have hjj : j = (G_lk n yb ds k).length := by
                clear n1 n2 n3 n4 n5 n6 q1 q2 q3 q4 q5 mgo mfo bgo bfo
                omega
              rw [hjj, List.getElem?_append_right (Nat.le_refl _), Nat.sub_self] at hj
              have hl : l = k := (Option.some.inj hj).symm
              rw [if_pos ⟨rfl, by
                clear n1 n2 n3 n4 n5 n6 q1 q2 q3 q4 q5 mgo mfo bgo bfo
                omega⟩, hl]
          · rw [f22.2.1 go i fun z => mgo z.1.symm, f17.2.1 go i fun z => q5 z]
            exact hgo7 i hi
        · have hfk : G_f n yb ds k ≠ k := hv2.mp (by
            have h8 : (G_lk n yb ds (G_f n yb ds k)).length ≤ (G_lk n yb ds k).length := by
              rcases Nat.lt_or_ge (G_f n yb ds k) k with g1 | g1
              · exact Nat.le_of_lt (G_lk_mono (G_f_ff n yb ds k) g1)
              · have := (G_f_sp n yb ds k).1
                rw [Nat.le_antisymm this g1]
                exact Nat.le_refl _
            clear n1 n2 n3 n4 n5 n6 q1 q2 q3 q4 q5 mgo mfo bgo bfo
            omega)
          rw [if_neg hfk, List.append_nil] at hlk
          have h9 := ih (k + 1) M7 (by omega) x7 W7 F7 ⟨by rw [hlk, h327]; exact a1, fun j l hj => by rw [hlk] at hj; rw [hfo7]; exact a2 j l hj, hgo7⟩
          rwa [show ((k + 1 : Nat) : Int) = (k : Int) + 1 by omega] at h9
      -- one leader after another
      have h23 : ∀ (s j : Nat) (M2 : g_M), j + s = (G_lk n yb ds k).length → e_fr (E_GR m b ma go fo lo) M0 M2 → e_Wr m b lo (lo + 60000) [] M2 → E_F m ma lo [] M2 → G_gk n yb ds m go fo k M2 → (∀ (i l : Nat), i < j → (G_lk n yb ds k)[i]? = some l → G_sm n yb (ds.getD l []) (ds.getD k []) = false) → g_Run (d + 68) 348 23 [(0, .ref m), (1, g_n c), (2, g_n qy), (3, g_n k), (4, g_n j)] [] M2 (g_qI Q) := by
        intro s
        induction s with
        | zero =>
          intro j M2 hj f2 W2 F2 hG2 hn2
          have hT2 := hT.fr f2
          have hnw : G_f n yb ds k = k := G_f_nw fun i l hi => hn2 i l (by have := (List.getElem?_eq_some_iff.mp hi).1; omega) hi
          refine s_X12_group_23 hcR hqyR ⟨by omega, by omega⟩ ⟨by omega, by omega⟩ fun _ => ⟨hT2.1.1.1, fun z => absurd z (by rw [hG2.1]; omega), fun _ => h64 M2 j f2 W2 F2 hG2 (by rw [hnw]; omega) ⟨fun z => by omega, fun z => absurd hnw z⟩⟩
        | succ s ihs =>
          intro j M2 hj f2 W2 F2 hG2 hn2
          have hT2 := hT.fr f2
          obtain ⟨l, hl⟩ : ∃ l, (G_lk n yb ds k)[j]? = some l := ⟨_, List.getElem?_eq_getElem (by omega)⟩
          obtain ⟨l1, l2, l3⟩ := G_lk_mem hl
          obtain ⟨el, hel⟩ : ∃ el, ds[l]? = some el := ⟨_, List.getElem?_eq_getElem (by omega)⟩
          have hgl : ds.getD l [] = el := by rw [List.getD_eq_getElem?_getD, hel]; rfl
          obtain ⟨p, p1, p2, p3⟩ := hed f2 hes
          obtain ⟨p', p1', p2', p3'⟩ := hed f2 hel
          refine s_X12_group_23 hcR hqyR ⟨by omega, by omega⟩ ⟨by omega, by omega⟩ fun _ => ⟨hT2.1.1.1, fun _ => ⟨be, hT2.1.2.2.1, _, hT2.1.2.2.2.2.1, ⟨by omega, by omega⟩, be, hT2.1.2.2.1, fo, hT2.2.1.2, _, hT2.2.2.1.2, ⟨by omega, by omega⟩, _, hT2.1.2.2.2.2.1, by rw [hG2.2.1 j l hl]; exact ⟨by omega, by omega⟩, ?_⟩, fun z => absurd (by rw [hG2.1]; omega) z⟩
          rw [hG2.2.1 j l hl, p1, p1']
          have hy2 : b_st (g_i M2 b) 2100 qy Dy yb.1 yb.2.1 yb.2.2 := ⟨b_at_keep hy.1 fun i i1 i2 => hbk f2 i (by omega) (by omega), hy.2⟩
          have hno2 : b_at (g_i M2 b) 2706200 [10, 0] := b_at_keep hno fun i i1 _ => f2.2.1 b i (j2 i i1 hlo2)
          refine e_sameKey (d := d + 1) (n := n) hT2.1.1 hlo1 hlo2 hno2 hy2 hef hDy hn p2 p2' fun M3 f3 => ?_
          intro _ _ _
          have x3 := f2.tr (f3.up fun _ _ z => (z.gr : E_GR m b ma go fo lo _ _))
          have W3 := W2.kp f3 (fun i i1 i2 => hgn.2.2.2.2.1 i (by omega)) fun i i1 i2 => hgn.2.2.2.2.2.2 i (by omega)
          have F3 : E_F m ma lo [] M3 := F2.fr (fun i hi => f3.2.1 m i (hgn.2.2.2.2.1 i (by omega))) fun i => f3.2.1 ma i (hgn.2.2.2.2.2.1 i)
          have G3 := hG2.kp f3 hgn.1 hgn.2.2.1 hgn.2.2.2.1
          have hsym : G_sm n yb es el = true ↔ G_sm n yb (ds.getD l []) (ds.getD k []) = true := by rw [hgl, hgk]; exact ⟨F_eq_sy, F_eq_sy⟩
          by_cases hs : G_sm n yb es el = true
          · rw [if_pos hs]
            have hfk := G_f_ld hl (hsym.mp hs) hn2
            refine ⟨fun z => absurd z (by decide), fun _ => h64 M3 j x3 W3 F3 G3 (by rw [hfk]; exact l3) ⟨fun _ => by omega, fun _ => by omega⟩⟩
          · rw [if_neg hs]
            refine ⟨fun _ => ⟨⟨by omega, by omega⟩, ?_⟩, fun z => absurd rfl z⟩
            have h9 := ihs (j + 1) M3 (by omega) x3 W3 F3 G3 fun i l' hi hl' => ?_
            · rwa [show ((j + 1 : Nat) : Int) = (j : Int) + 1 by omega] at h9
            · rcases Nat.lt_or_ge i j with g1 | g1
              · exact hn2 i l' g1 hl'
              · have : i = j := by omega
                rw [this, hl] at hl'
                rw [← Option.some.inj hl']
                rcases hb : G_sm n yb (ds.getD l []) (ds.getD k []) with _ | _
                · rfl
                · exact absurd (hsym.mpr hb) hs
      have hTM := hT.fr f
      refine s_X12_group_12 hcR hqyR ⟨by omega, by omega⟩ fun _ => ⟨hTM.1.1.1, fun _ => h23 (G_lk n yb ds k).length 0 M (by omega) f W F hG fun i l hi => absurd hi (by omega), fun z => absurd (by rw [f.2.1 m 19 (j3 19 (by decide)), h19]; omega) z⟩
  exact hlp ds.length 0 M0 (by omega) (e_fr.rf _ _) hW hF ⟨h32, fun j l hj => absurd hj (by unfold G_lk; simp), fun i hi => absurd hi (by omega)⟩
end EGK
