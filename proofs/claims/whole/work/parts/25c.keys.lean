/-! INDEX: the different keys of a document at a path, the class -/
theorem I_zk_no (y : Option (Int × b_E)) : I_zk (J_no 0 y) = I_ko y := by rcases y with _ | y <;> rfl
noncomputable def I_oc (w : Int) (x y : Option (Int × b_E)) : Int := I_kc w (I_ko x) (I_ko y)
theorem I_oc_z (w : Int) (x y : Option (Int × b_E)) : I_oc w x y = I_zc w (J_no 0 x) (J_no 0 y) := by
  unfold I_oc I_zc
  rw [I_zk_no, I_zk_no]
theorem I_oc_T {w : Int} (hw : I_w w) : v_T (I_oc w) := (I_kc_T hw).pb I_ko
/-- the places of keys, as they stand in the row -/
noncomputable def I_pl (w : Int) (U : List (Option (Int × b_E))) : List (Int × b_E) := ((I_ks (I_oc w) U).map (J_no 0)).reverse
theorem I_pl_len (w : Int) (U : List (Option (Int × b_E))) : (I_pl w U).length = (I_ks (I_oc w) U).length := by
  unfold I_pl
  rw [List.length_reverse, List.length_map]
theorem I_pl_app (w : Int) (U : List (Option (Int × b_E))) (y : Option (Int × b_E)) : I_pl w (U ++ [y]) = (I_add (I_zc w) (J_no 0 y) (I_pl w U).reverse).reverse := by
  unfold I_pl
  rw [List.reverse_reverse]
  congr 1
  unfold I_ks
  rw [List.foldl_append]
  exact I_add_map (I_oc_z w) y _
theorem I_pl_mem {w : Int} {U : List (Option (Int × b_E))} {z : Int × b_E} (h : z ∈ I_pl w U) : ∃ y ∈ U, z = J_no 0 y := by
  obtain ⟨y, h1, h2⟩ := List.mem_map.mp (List.mem_reverse.mp h)
  exact ⟨y, I_ks_mem U y h1, h2.symm⟩
/-- whether a key is too long -/
def I_tl (tl : Int) (U : List (Option (Int × b_E))) : Int := if U.any (fun y => decide (64 < (I_ko y).2.length)) = true then 1 else tl
theorem I_tl_01 {tl : Int} (h : tl = 0 ∨ tl = 1) (U : List (Option (Int × b_E))) : I_tl tl U = 0 ∨ I_tl tl U = 1 := by
  unfold I_tl
  split
  · exact Or.inr rfl
  · exact h
theorem I_tl_app {tl : Int} (U : List (Option (Int × b_E))) (y : Option (Int × b_E)) : I_tl tl (U ++ [y]) = if 64 < (J_no 0 y).2.2.2.length then 1 else I_tl tl U := by
  have h1 : (J_no 0 y).2.2.2.length = (I_ko y).2.length := by rcases y with _ | y <;> rfl
  rw [h1]
  unfold I_tl
  rw [List.any_append, List.any_cons, List.any_nil, Bool.or_false]
  by_cases h : 64 < (I_ko y).2.length
  · rw [if_pos h, decide_eq_true h, Bool.or_true, if_pos rfl]
  · rw [if_neg h, decide_eq_false h, Bool.or_false]
section KEYSOF
variable {d x r b o f t a ky : Nat} {c e n n2 w : Int} {L : List Int} {M : g_M}
/-- the frame of a search for keys -/
def I_S (x ky : Nat) (q : Nat) : Prop := q = x ∨ q = ky
theorem I_F.fr {M1 : g_M} (h : I_F x ky M M1) : g_fr (I_S x ky) M M1 := ⟨h.1, fun q hq => ⟨h.2.2.1 q (fun z => hq (Or.inl z)) (fun z => hq (Or.inr z)), funext fun k => congrFun (h.2.1 q) k⟩⟩
theorem I_F.P {M1 : g_M} (h : I_F x ky M M1) (hx : g_O M x 3) (hky : g_A M ky 1 700) (hP : k_P M r b c e L) : k_P M1 r b c e L := by
  refine hP.of h.fr (fun z => ?_) fun q m h1 h2 z => ?_
  · rcases z with z | z
    · exact g_neOO hP.1 hx (by decide) z
    · exact g_neOA hP.1 hky z
  · rcases z with z | z
    · subst z
      exact g_neOA hx h1 rfl
    · subst z
      have := (h1.fn hky).2
      subst this
      exact absurd h2 (by unfold k_n; omega)
theorem c_keysOf {Q : Int → g_M → Prop} {nm : List Int} (hnm : nm.length ≤ 50) {dp tl : Int} {es : List b_E} {st : List (List Int)} (hx : g_O M x 3) (h0 : g_r M x 0 = some r) (h1 : g_r M x 1 = some b) (hA : g_A M b 0 n) (hn : n ≤ 1000000000) (hky : g_A M ky 1 700) (hw : I_w w) (ht : tl = 0 ∨ tl = 1) (h13 : g_i M x 13 = tl) (hP : k_P M r b c e L) (hW : p_W M o f t a n2 0 st) (hst8 : st.length ≤ 8) (hd : b_st (g_i M b) n dp 16 3 nm (b_doc es)) (hl : (b_doc es).length ≤ 2000) (hno : b_at (g_i M b) 0 [10, 0]) (hL : L.length ≤ 1000) (hq : ∀ M1, k_F (I_S x ky) r M M1 → k_P M1 r b c e L → (∀ k : Int, k ≠ 13 → g_i M1 x k = g_i M x k) → g_r M1 x = g_r M x → g_i M1 x 13 = I_tl tl (I_cs (L_go 16 dp (3, nm, b_doc es) st)) → b_at (g_i M1 ky) 0 ((I_pl w (I_cs (L_go 16 dp (3, nm, b_doc es) st))).map Prod.fst) → Q (I_pl w (I_cs (L_go 16 dp (3, nm, b_doc es) st))).length M1) : g_Call (d + 60) 70 [.ref x, .ref o, g_n dp, .ref ky, g_n w] M (g_qI Q) := by
  have hwR : g_InR w := by rcases hw with g | g <;> rw [g] <;> exact ⟨by decide, by decide⟩
  have hnR := hA.len
  have hdpR := hd.R hn
  have hdl : (b_el 3 nm (b_doc es)).length ≤ 2052 := by
    rw [b_el_len]
    omega
  obtain ⟨hn1, hn2⟩ := L_go_its (st := st) (e := (3, nm, b_doc es)) hd rfl (by show (b_el 3 nm (b_doc es)).length ≤ 2100; omega) hst8
  have hfew : ∀ U : List (Option (Int × b_E)), (∀ y ∈ U, y ∈ I_cs (L_go 16 dp (3, nm, b_doc es) st)) → (∀ y, some y ∈ I_cs (L_go 16 dp (3, nm, b_doc es) st) → ∃ D2, b_gv D2 y.2.1 y.2.2.2) → (I_pl w U).length ≤ 698 := by
    intro U hU hy
    rw [I_pl_len]
    exact I_few hw (D := 16) (o := dp) (e := (3, nm, b_doc es)) (st := st) hd.2.2.1 hy (by show (b_el 3 nm (b_doc es)).length ≤ 2090; omega) (I_ks_un (I_oc_T hw) U).2.2 fun y h => hU y (I_ks_mem U y h)
  have hstd : ∀ y, some y ∈ L_go 16 dp (3, nm, b_doc es) st → b_st (g_i M b) n y.1 16 y.2.1 y.2.2.1 y.2.2.2 ∧ y.2.2.2.length ≤ (b_doc es).length := fun y hy => L_go_st 16 (e := (3, nm, b_doc es)) hd y hy
  obtain ⟨ls, hls⟩ : ∃ ls, ls = L_go 16 dp (3, nm, b_doc es) st := ⟨_, rfl⟩
  rw [← hls] at hn1 hn2 hfew hstd hq
  -- items of rows
  have hits : ∀ y, some y ∈ ls → y.2.1 = 4 → ∃ D1, D1 + 1 = 16 ∧ b_sts (g_i M b) n (y.1 + 6 + y.2.2.1.length) D1 (b_ch y.2.2.2) ∧ ∀ z ∈ L_ch y.1 y.2, b_st (g_i M b) n z.1 D1 z.2.1 z.2.2.1 z.2.2.2 ∧ z.2.2.2.length ≤ 2000 := by
    intro y hy h4
    obtain ⟨s1, s2⟩ := hstd y hy
    obtain ⟨D1, eD, hkids, hkl⟩ := s1.kids (Or.inr h4)
    exact ⟨D1, eD.symm, hkids, fun z hz => ⟨(L_at_st hkids z hz).1, by have := L_at_vb hz; omega⟩⟩
  have hcs : ∀ y, y ∈ I_cs ls → I_zs (g_i M b) n (J_no 0 y) := by
    have hnone : I_zs (g_i M b) n (J_no 0 none) := ⟨b_st_no hno (by decide) (by have := hd.2.2.2.1; have := hd.2.2.2.2; have := b_el_len 3 nm (b_doc es); omega) 16, by decide⟩
    intro y hy
    unfold I_cs at hy
    split at hy
    · rw [List.mem_singleton.mp hy]
      exact hnone
    · obtain ⟨u, hu, hy⟩ := List.mem_flatMap.mp hy
      rcases u with _ | u
      · rw [List.mem_singleton.mp hy]
        exact hnone
      · change y ∈ (if u.2.1 = 4 then (if L_ch u.1 u.2 = [] then [none] else (L_ch u.1 u.2).map some) else [some u] : List (Option (Int × b_E))) at hy
        split at hy
        · rename_i h4
          split at hy
          · rw [List.mem_singleton.mp hy]
            exact hnone
          · obtain ⟨D1, eD, -, h9⟩ := hits u hu h4
            obtain ⟨z, hz, rfl⟩ := List.mem_map.mp hy
            obtain ⟨g1, g2⟩ := h9 z hz
            exact ⟨g1.le (by omega), by show z.2.2.2.length ≤ _; omega⟩
        · rw [List.mem_singleton.mp hy]
          obtain ⟨g1, g2⟩ := hstd u hu
          exact ⟨g1, by show u.2.2.2.length ≤ _; omega⟩
  have hgv : ∀ y, some y ∈ I_cs ls → ∃ D2, b_gv D2 y.2.1 y.2.2.2 := fun y hy => ⟨16, (hcs _ hy).1.2.2.1⟩
  have hxk : x ≠ ky := g_neOA hx hky
  have hxr : r ≠ x := g_neOO hP.1 hx (by decide)
  have hkr : r ≠ ky := g_neOA hP.1 hky
  have hbx : b ≠ x := fun g => g_neOA hx hA g.symm
  have hbk : b ≠ ky := fun g => by
    subst g
    exact absurd (hA.fn hky).1 (by decide)
  have htop := hP.top
  refine m_X3_keysOf hdpR hwR fun _ => ⟨hx, r, h0, hP.1, r, h0, hW.1.1, ?_⟩
  rw [htop]
  refine c_walk 16 (d := d + 39) (z := (dp, 3, nm, b_doc es)) (st := st) (s := 0) hP hA hn hW hd (by show (b_doc es).length ≤ _; omega) (by omega) (by decide) (by decide) (by rw [← hls]; omega) fun M1 f1 hP1 => ?_
  rw [← hls] at hP1
  intro _ _
  have hb1 : g_i M1 b = g_i M b := (f1.A hP hA (fun g => absurd g (by decide)) id).1
  have hx1 := f1.O hP hx (by decide) id
  have hk1 := f1.A hP hky (fun _ g => by unfold k_n at g; omega) id
  have hxO1 := hx.up f1.1
  have hA1 := hA.up f1.1
  have hky1 := hky.up f1.1
  -- a key comes
  have hadd : ∀ (U : List (Option (Int × b_E))) (y : Option (Int × b_E)) (M2 : g_M) {Q : Int → g_M → Prop} {pl : Int}, (∃ V, I_cs ls = U ++ y :: V) → pl = (J_no 0 y).1 → I_F x ky M1 M2 → g_i M2 x 13 = I_tl tl U → b_at (g_i M2 ky) 0 ((I_pl w U).map Prod.fst) → (∀ M3, I_F x ky M1 M3 → g_i M3 x 13 = I_tl tl (U ++ [y]) → b_at (g_i M3 ky) 0 ((I_pl w (U ++ [y])).map Prod.fst) → Q (I_pl w (U ++ [y])).length M3) → g_Call (d + 59) 71 [.ref x, .ref ky, g_n (I_pl w U).length, g_n pl, g_n w] M2 (g_qI Q) := by
    rintro U y M2 Q pl ⟨V, hV⟩ rfl f2 t2 a2 hq2
    have hb2 : g_i M2 b = g_i M b := (f2.2.2.1 b hbx hbk).trans hb1
    have hUm : ∀ u ∈ U, u ∈ I_cs ls := fun u hu => by rw [hV]; exact List.mem_append_left _ hu
    have h9 := hfew U hUm hgv
    have hym : y ∈ I_cs ls := by rw [hV]; simp
    refine c_addKey (d := d + 18) (n := n) (tl := I_tl tl U) (f2.O hxO1) (by rw [f2.2.1, hx1.2]; exact h1) (f2.A hA1) hn (f2.A hky1) hw (I_tl_01 ht U) t2 a2 (fun z hz => ?_) (by rw [hb2]; exact hcs y hym) (by omega) fun M3 f3 t3 a3 => ?_
    · obtain ⟨u, hu, rfl⟩ := I_pl_mem hz
      rw [hb2]
      exact hcs u (hUm u hu)
    · rw [← I_pl_app] at a3
      have h8 := hq2 M3 (f2.tr f3) (by rw [t3, I_tl_app]) a3
      rw [I_pl_app, List.length_reverse] at h8
      exact h8
  -- over the leaves
  have hcsl : ls ≠ [] → I_cs ls = ls.flatMap I_cd := fun h => if_neg h
  have h51 : ∀ (l2 l1 : List (Option (Int × b_E))) (U : List (Option (Int × b_E))) (M2 : g_M), ls = l1 ++ l2 → I_cs ls = U ++ l2.flatMap I_cd → I_F x ky M1 M2 → g_i M2 x 13 = I_tl tl U → b_at (g_i M2 ky) 0 ((I_pl w U).map Prod.fst) → g_Run (d + 59) 70 51 [(0, .ref x), (1, .ref o), (2, g_n dp), (3, .ref ky), (4, g_n w), (5, g_n L.length), (6, g_n (I_pl w U).length), (7, g_n ((L.length : Int) + l1.length))] [] M2 (g_qI Q) := by
    intro l2
    induction l2 with
    | nil =>
      intro l1 U M2 hl12 hU f2 t2 a2
      rw [List.flatMap_nil, List.append_nil] at hU
      rw [List.append_nil] at hl12
      have hP2 := f2.P hxO1 hky1 hP1
      have htop2 := hP2.top
      rw [List.length_append, List.length_map, hl12] at htop2
      have hlU := hfew U (by rw [hU]; exact fun _ h => h) hgv
      have hr2 : g_r M2 x 0 = some r := by rw [f2.2.1, hx1.2]; exact h0
      refine s_X3_keysOf_51 hdpR hwR ⟨by omega, by omega⟩ ⟨by omega, by omega⟩ ⟨by rw [hl12] at hn1; omega, by rw [hl12] at hn1; omega⟩ fun _ => ⟨f2.O hxO1, r, hr2, hP2.1, fun g => absurd g (by omega), fun _ => ⟨r, hr2, hP2.1, fun M8 e8 _ => ?_⟩⟩
      subst e8
      have hc := hP2.cut
      have ff : k_F (I_S x ky) r M1 M2 := k_F.of f2.fr (fun z => by rcases z with z | z; exact hxr z; exact hkr z)
      have hne : ∀ k, g_i (g_wi M2 r 2 L.length) x k = g_i M2 x k := fun k => by rw [g_i_wi, if_neg (fun z => hxr z.1.symm)]
      have h9 := hq (g_wi M2 r 2 L.length) (f1.up0.tr (ff.tr (k_F.top M2 _))) hc (fun k hk => by rw [hne, f2.2.2.2 k hk, hx1.1]) (funext fun k => by rw [g_r_wi, f2.2.1, hx1.2]) (by rw [hne, t2, hU]) (by
        rw [hU]
        exact b_at_keep a2 fun k _ _ => by rw [g_i_wi, if_neg (fun z => hkr z.1.symm)])
      rw [hU] at h9
      exact h9
    | cons y l2 ih =>
      intro l1 U M2 hl12 hU f2 t2 a2
      have hlen := congrArg List.length hl12
      rw [List.length_append, List.length_cons] at hlen
      rw [List.flatMap_cons] at hU
      have hUm : ∀ (V : List (Option (Int × b_E))) {W}, I_cs ls = V ++ W → (I_pl w V).length ≤ 698 := fun V W h => hfew V (fun u hu => by rw [h]; exact List.mem_append_left _ hu) hgv
      have hlU := hUm U hU
      have hP2 := f2.P hxO1 hky1 hP1
      have htop2 := hP2.top
      rw [List.length_append, List.length_map] at htop2
      have hr2 : g_r M2 x 0 = some r := by rw [f2.2.1, hx1.2]; exact h0
      have hbr2 : g_r M2 x 1 = some b := by rw [f2.2.1, hx1.2]; exact h1
      have hb2 : g_i M2 b = g_i M b := (f2.2.2.1 b hbx hbk).trans hb1
      have hget : (L ++ ls.map L_opt)[L.length + l1.length]? = some (L_opt y) := by
        rw [List.getElem?_append_right (by omega), show L.length + l1.length - L.length = l1.length by omega, hl12, List.map_append, List.getElem?_append_right (by rw [List.length_map]; omega), List.length_map, Nat.sub_self]
        rfl
      have hc0 : ((L.length : Int) + l1.length) = ((L.length + l1.length : Nat) : Int) := by omega
      have hc1 : ((L.length : Int) + l1.length) + 1 = (L.length : Int) + (l1 ++ [y]).length := by rw [List.length_append, List.length_singleton]; omega
      have hls1 : ls = (l1 ++ [y]) ++ l2 := by rw [hl12]; simp
      -- the next leaf
      have hnext : ∀ (U2 : List (Option (Int × b_E))) (M3 : g_M), I_cs ls = U2 ++ l2.flatMap I_cd → I_F x ky M1 M3 → g_i M3 x 13 = I_tl tl U2 → b_at (g_i M3 ky) 0 ((I_pl w U2).map Prod.fst) → g_InR (((L.length : Int) + l1.length) + 1) ∧ g_Run (d + 59) 70 51 [(0, .ref x), (1, .ref o), (2, g_n dp), (3, .ref ky), (4, g_n w), (5, g_n L.length), (6, g_n (I_pl w U2).length), (7, g_n (((L.length : Int) + l1.length) + 1))] [] M3 (g_qI Q) := by
        intro U2 M3 hU2 f3 t3 a3
        refine ⟨⟨by omega, by omega⟩, ?_⟩
        rw [hc1]
        exact ih (l1 ++ [y]) U2 M3 hls1 hU2 f3 t3 a3
      -- nothing
      have h120 : ∀ (v8 v9 : Int) {q : Int}, q = (L.length : Int) + l1.length → g_InR v8 → g_InR v9 → I_cd y = [none] → (v9 = v8 ∨ ∀ M3, I_F x ky M1 M3 → ∀ {Q2 : Int → g_M → Prop}, Q2 0 M3 → g_Call (d + 59) 108 [.ref b, g_n v9] M3 (g_qI Q2)) → g_Run (d + 59) 70 120 [(0, .ref x), (1, .ref o), (2, g_n dp), (3, .ref ky), (4, g_n w), (5, g_n L.length), (6, g_n (I_pl w U).length), (7, g_n q), (8, g_n v8), (9, g_n v9)] [] M2 (g_qI Q) := by
        intro v8 v9 q hqe h8R h9R hy hor
        subst hqe
        rw [hy] at hU
        refine s_X3_keysOf_120 hdpR hwR ⟨by omega, by omega⟩ ⟨by omega, by omega⟩ ⟨by omega, by omega⟩ h8R h9R fun _ => ⟨f2.O hxO1, hadd U none M2 ⟨_, hU⟩ rfl f2 t2 a2 fun M3 f3 t3 a3 => ?_⟩
        intro _ _ _
        have hU3 : I_cs ls = (U ++ [none]) ++ l2.flatMap I_cd := by rw [hU]; simp
        have hl3 := hUm _ hU3
        have hn3 := hnext _ M3 hU3 f3 t3 a3
        have hbr3 : g_r M3 x 1 = some b := by rw [f3.2.1, hx1.2]; exact h1
        refine s_X3_keysOf_158 hdpR hwR ⟨by omega, by omega⟩ ⟨by omega, by omega⟩ ⟨by omega, by omega⟩ h8R h9R ⟨by decide, by decide⟩ fun _ => ⟨fun _ => ⟨fun _ => hn3, fun g => ⟨f3.O hxO1, b, hbr3, ?_⟩⟩, fun g => absurd (by decide) g⟩
        rcases hor with hor | hor
        · exact absurd hor g
        · refine hor M3 f3 ?_
          intro _ _ _
          exact ⟨fun _ => hn3, fun g => absurd rfl g⟩
      rw [hc0]
      refine s_X3_keysOf_51 hdpR hwR ⟨by omega, by omega⟩ ⟨by omega, by omega⟩ ⟨by omega, by omega⟩ fun _ => ⟨f2.O hxO1, r, hr2, hP2.1, fun _ => ⟨r, hr2, hP2.1, c_leaf (d := d + 58) hP2 hget ?_⟩, fun g => absurd (by omega) g⟩
      intro _ _ _
      rcases y with _ | y
      · -- a leaf that is missing
        refine ⟨b, hbr2, c_kind (d := d + 58) (f2.A hA1) ⟨by omega, by omega⟩ ⟨by decide, by decide⟩ ?_⟩
        intro _ _ _
        rw [show L_opt none = -1 from rfl, b_kd_neg]
        refine ⟨fun g => absurd g (by decide), fun _ => ?_⟩
        refine s_X3_keysOf_101 hdpR hwR ⟨by omega, by omega⟩ ⟨by omega, by omega⟩ ⟨by omega, by omega⟩ ⟨by decide, by decide⟩ ⟨by decide, by decide⟩ fun _ => ⟨fun _ => ?_, fun g => absurd (by decide) g⟩
        exact h120 (-1) (-1) hc0.symm ⟨by decide, by decide⟩ ⟨by decide, by decide⟩ rfl (Or.inl rfl)
      · obtain ⟨s1, s2⟩ := hstd y (by rw [hl12]; simp)
        have hyR := s1.R hn
        have hy0 := s1.2.2.2.1
        have s1M : ∀ {M3 : g_M}, I_F x ky M1 M3 → b_st (g_i M3 b) n y.1 16 y.2.1 y.2.2.1 y.2.2.2 := fun f => by rw [f.2.2.1 b hbx hbk, hb1]; exact s1
        have hcdy : I_cd (some y) = if y.2.1 = 4 then (if L_ch y.1 y.2 = [] then [none] else (L_ch y.1 y.2).map some) else [some y] := rfl
        refine ⟨b, hbr2, c_kd2 (d := d + 58) (f2.A hA1) hn (s1M f2) ?_⟩
        intro _ _ _
        refine ⟨fun h4 => ?_, fun h4 => ?_⟩
        · -- a row
          obtain ⟨D1, eD, hkids, hit⟩ := hits y (by rw [hl12]; simp) h4
          rw [if_pos h4] at hcdy
          refine ⟨b, hbr2, c_fi2 (d := d + 58) (f2.A hA1) hn (s1M f2) ?_⟩
          intro _ _ _
          have hkids0 := hkids
          have hq0 := hkids.2.2.1
          have hq1 := hkids.2.2.2.1
          have hfR : g_InR (y.1 + 6 + y.2.2.1.length) := ⟨by omega, by omega⟩
          have hne0 : y.1 + 6 + (y.2.2.1.length : Int) ≠ y.1 := by omega
          rcases hch : b_ch y.2.2.2 with _ | ⟨x0, xs0⟩
          · have hLc : L_ch y.1 y.2 = [] := by
              show L_at _ (b_ch y.2.2.2) = []
              rw [hch]
              rfl
            rw [if_pos hLc] at hcdy
            rw [hch] at hkids
            have hkE : ∀ {M3 : g_M}, I_F x ky M1 M3 → ∀ {Q2 : Int → g_M → Prop}, Q2 0 M3 → g_Call (d + 59) 108 [.ref b, g_n (y.1 + 6 + y.2.2.1.length)] M3 (g_qI Q2) := fun f => c_kdE (d := d + 58) (D := D1) (f.A hA1) hn (by rw [f.2.2.1 b hbx hbk, hb1]; exact hkids)
            refine s_X3_keysOf_101 hdpR hwR ⟨by omega, by omega⟩ ⟨by omega, by omega⟩ ⟨by omega, by omega⟩ hyR hfR fun _ => ⟨fun g => absurd (show y.1 < 0 from g) (by omega), fun _ => ⟨f2.O hxO1, b, hbr2, hkE f2 ?_⟩⟩
            intro _ _ _
            exact ⟨fun _ => h120 y.1 _ hc0.symm hyR hfR hcdy (Or.inr fun M3 f => hkE f), fun g => absurd rfl g⟩
          · have hLc : L_ch y.1 y.2 ≠ [] := by
              show L_at _ (b_ch y.2.2.2) ≠ []
              rw [hch]
              exact List.cons_ne_nil _ _
            rw [if_neg hLc] at hcdy
            rw [hcdy] at hU
            have hmany := b_ser_many (b_ch y.2.2.2)
            have hkl := s1.kids (Or.inr h4)
            obtain ⟨-, -, -, hkl⟩ := hkl
            have h158 : ∀ (xs cs : List b_E) (q : Int) (i : Nat) (U2 : List (Option (Int × b_E))) (M3 : g_M), b_ch y.2.2.2 = cs ++ xs → q = y.1 + 6 + y.2.2.1.length + (b_ser cs).length → i + xs.length < 100000 → I_cs ls = U2 ++ ((L_at q xs).map some ++ l2.flatMap I_cd) → I_F x ky M1 M3 → g_i M3 x 13 = I_tl tl U2 → b_at (g_i M3 ky) 0 ((I_pl w U2).map Prod.fst) → g_Run (d + 59) 70 158 [(0, .ref x), (1, .ref o), (2, g_n dp), (3, .ref ky), (4, g_n w), (5, g_n L.length), (6, g_n (I_pl w U2).length), (7, g_n ((L.length + l1.length : Nat) : Int)), (8, g_n y.1), (9, g_n q), (10, g_n i)] [] M3 (g_qI Q) := by
              intro xs
              induction xs with
              | nil =>
                intro cs q i U2 M3 k1 k2 hi hU2 f3 t3 a3
                have hkn := hkids0
                rw [k1] at hkn
                have hkE := hkn.app
                rw [← k2] at hkE
                have hqR : g_InR q := by
                  have := hkE.2.2.1
                  have := hkE.2.2.2.1
                  exact ⟨by omega, by omega⟩
                have hlU2 := hUm U2 hU2
                have hn3 := hnext U2 M3 (by rw [hU2]; rfl) f3 t3 a3
                rw [hc0] at hn3
                have hbr3 : g_r M3 x 1 = some b := by rw [f3.2.1, hx1.2]; exact h1
                refine s_X3_keysOf_158 hdpR hwR ⟨by omega, by omega⟩ ⟨by omega, by omega⟩ ⟨by omega, by omega⟩ hyR hqR ⟨by omega, by omega⟩ fun _ => ⟨fun _ => ⟨fun g => absurd g (by omega), fun _ => ⟨f3.O hxO1, b, hbr3, c_kdE (d := d + 58) (D := D1) (f3.A hA1) hn (by rw [f3.2.2.1 b hbx hbk, hb1]; exact hkE) ?_⟩⟩, fun g => absurd (by rw [List.length_nil] at hi; omega) g⟩
                intro _ _ _
                exact ⟨fun _ => hn3, fun g => absurd rfl g⟩
              | cons u xs ihx =>
                intro cs q i U2 M3 k1 k2 hi hU2 f3 t3 a3
                rw [List.length_cons] at hi
                have hkn := hkids0
                rw [k1] at hkn
                have hkE := hkn.app.cons.1
                rw [← k2] at hkE
                have hqR := hkE.R (by omega)
                have huM : ∀ {M4 : g_M}, I_F x ky M1 M4 → b_st (g_i M4 b) n q D1 u.1 u.2.1 u.2.2 := fun f => by rw [f.2.2.1 b hbx hbk, hb1]; exact hkE
                have hx0 := b_vs_pos (b_gv_vs hkE.2.2.1)
                have hlU2 := hUm U2 hU2
                have hbr3 : g_r M3 x 1 = some b := by rw [f3.2.1, hx1.2]; exact h1
                refine s_X3_keysOf_158 hdpR hwR ⟨by omega, by omega⟩ ⟨by omega, by omega⟩ ⟨by omega, by omega⟩ hyR hqR ⟨by omega, by omega⟩ fun _ => ⟨fun _ => ⟨fun g => absurd g (by omega), fun _ => ⟨f3.O hxO1, b, hbr3, c_kd2 (d := d + 58) (f3.A hA1) hn (huM f3) ?_⟩⟩, fun g => absurd (by omega) g⟩
                intro _ _ _
                have hU3 : I_cs ls = U2 ++ some (q, u) :: ((L_at (q + (b_el u.1 u.2.1 u.2.2).length) xs).map some ++ l2.flatMap I_cd) := hU2
                refine ⟨fun g => absurd g (by omega), fun _ => hadd U2 (some (q, u)) M3 ⟨_, hU3⟩ rfl f3 t3 a3 fun M4 f4 t4 a4 => ?_⟩
                intro _ _ _
                refine ⟨b, by rw [f4.2.1, hx1.2]; exact h1, c_nx2 (d := d + 58) (f4.A hA1) hn (huM f4) ?_⟩
                intro _ _ _
                refine ⟨⟨by omega, by omega⟩, ?_⟩
                have h9 := ihx (cs ++ [u]) (q + (b_el u.1 u.2.1 u.2.2).length) (i + 1) (U2 ++ [some (q, u)]) M4 (by rw [k1]; simp) (by rw [b_ser_app, List.length_append, b_ser_1]; omega) (by omega) (by rw [hU3]; simp) f4 t4 a4
                rwa [show ((i + 1 : Nat) : Int) = (i : Int) + 1 by omega] at h9
            have hkE0 : ∀ {M3 : g_M}, I_F x ky M1 M3 → b_st (g_i M3 b) n (y.1 + 6 + y.2.2.1.length) D1 x0.1 x0.2.1 x0.2.2 := fun f => by
              rw [f.2.2.1 b hbx hbk, hb1]
              rw [hch] at hkids
              exact hkids.cons.1
            have hx0 := b_vs_pos (b_gv_vs (hkE0 f2).2.2.1)
            refine s_X3_keysOf_101 hdpR hwR ⟨by omega, by omega⟩ ⟨by omega, by omega⟩ ⟨by omega, by omega⟩ hyR hfR fun _ => ⟨fun g => absurd (show y.1 < 0 from g) (by omega), fun _ => ⟨f2.O hxO1, b, hbr2, c_kd2 (d := d + 58) (f2.A hA1) hn (hkE0 f2) ?_⟩⟩
            intro _ _ _
            refine ⟨fun g => absurd g (by omega), fun _ => ⟨fun g => absurd g hne0, fun _ => ?_⟩⟩
            refine h158 (b_ch y.2.2.2) [] _ 0 U M2 rfl (by show y.1 + 6 + (y.2.2.1.length : Int) = y.1 + 6 + y.2.2.1.length + ((0 : Nat) : Int); omega) (by omega) (by rw [hU]; rfl) f2 t2 a2
        · -- any other value
          rw [if_neg h4] at hcdy
          rw [hcdy] at hU
          have hx0 := b_vs_pos (b_gv_vs s1.2.2.1)
          refine s_X3_keysOf_101 hdpR hwR ⟨by omega, by omega⟩ ⟨by omega, by omega⟩ ⟨by omega, by omega⟩ hyR hyR fun _ => ⟨fun g => absurd (show y.1 < 0 from g) (by omega), fun _ => ⟨f2.O hxO1, b, hbr2, c_kd2 (d := d + 58) (f2.A hA1) hn (s1M f2) ?_⟩⟩
          intro _ _ _
          refine ⟨fun g => absurd g (by omega), fun _ => ⟨fun _ => hadd U (some y) M2 ⟨_, hU⟩ rfl f2 t2 a2 fun M3 f3 t3 a3 => ?_, fun g => absurd rfl g⟩⟩
          intro _ _ _
          have hU3 : I_cs ls = (U ++ [some y]) ++ l2.flatMap I_cd := by rw [hU]; simp
          have hl3 := hUm _ hU3
          have hn3 := hnext _ M3 hU3 f3 t3 a3
          rw [hc0] at hn3
          exact s_X3_keysOf_158 hdpR hwR ⟨by omega, by omega⟩ ⟨by omega, by omega⟩ ⟨by omega, by omega⟩ hyR hyR ⟨by decide, by decide⟩ fun _ => ⟨fun _ => ⟨fun _ => hn3, fun g => absurd rfl g⟩, fun g => absurd (by decide) g⟩
  have htop1 := hP1.top
  rw [List.length_append, List.length_map] at htop1
  have ha0 : b_at (g_i M1 ky) 0 ((I_pl w []).map Prod.fst) := b_nil _ _
  have ht0 : g_i M1 x 13 = I_tl tl [] := by rw [hx1.1, h13]; rfl
  refine ⟨r, by rw [hx1.2]; exact h0, hP1.1, fun g => ?_, fun g => ?_⟩
  · have hls0 : ls = [] := List.length_eq_zero_iff.mp (by omega)
    have hcs0 : I_cs ls = [none] := if_pos hls0
    refine hadd [] none M1 ⟨[], by rw [hcs0]; rfl⟩ rfl (I_F.rf _ _ _) ht0 ha0 fun M3 f3 t3 a3 => ?_
    intro _ _ _
    have h9 := h51 [] [] [none] M3 hls0 (by rw [hcs0]; rfl) f3 t3 a3
    rw [show (L.length : Int) + (([] : List (Option (Int × b_E))).length : Nat) = L.length by rw [List.length_nil]; omega] at h9
    exact h9
  · have hls0 : ls ≠ [] := fun z => g (by rw [z, List.length_nil] at htop1; omega)
    have h9 := h51 ls [] [] M1 rfl (by rw [hcsl hls0]; rfl) (I_F.rf _ _ _) ht0 ha0
    rw [show (L.length : Int) + (([] : List (Option (Int × b_E))).length : Nat) = L.length by rw [List.length_nil]; omega] at h9
    exact h9
end KEYSOF
