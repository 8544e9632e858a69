/-! STAGES: $project, the class -/
noncomputable def S_pv (n : Nat) (es : List b_E) (c : b_E) : Option b_E := (if S_tr c = true then L_fn c.2.1 es else V_of n c es).map fun y => (y.1, c.2.1, y.2.2)
noncomputable def S_pj (n : Nat) (cs es : List b_E) : List b_E := cs.filterMap (S_pv n es)
theorem S_pv_good {n : Nat} {es : List b_E} {c y : b_E} (hes : X_gd 30 es) (hl : (b_ser es).length ≤ 15000) (hc : b_nz c.2.1 ∧ b_gv 30 c.1 c.2.2) (h : S_pv n es c = some y) : b_nz y.2.1 ∧ b_gv 30 y.1 y.2.2 ∧ y.2.1 = c.2.1 := by
  unfold S_pv at h
  obtain ⟨z, hz, hzy⟩ := Option.map_eq_some_iff.mp h
  rw [← hzy]
  refine ⟨hc.1, ?_, rfl⟩
  show b_gv 30 z.1 z.2.2
  by_cases ht : S_tr c = true
  · rw [if_pos ht] at hz
    exact (hes z (L_fn_mem hz).1).2
  · rw [if_neg ht] at hz
    rcases V_of_good hes hl hz with ⟨g, -⟩ | ⟨-, g, -⟩
    · rw [g]
      exact hc.2
    · exact g
theorem S_pj_good {n : Nat} {cs es : List b_E} (hes : X_gd 30 es) (hl : (b_ser es).length ≤ 15000) (hc : X_gd 30 cs) : X_gd 30 (S_pj n cs es) := by
  intro y hy
  obtain ⟨c, hcm, hcy⟩ := List.mem_filterMap.mp hy
  obtain ⟨a1, a2, -⟩ := S_pv_good hes hl (hc c hcm) hcy
  exact ⟨a1, a2⟩
section CPROJ
variable {so b po pf pt ou sc be fr : Nat} {M0 M M1 : g_M} {lo : Int}
theorem c_projDoc {d n De : Nat} {Q : Int → g_M → Prop} {pe dp J : Int} {iD : Nat} {e : b_E} {es : List b_E} {ds : List (List b_E)} {u0 y0 : List Int} (hT : S_T so b po pf pt ou sc be fr M0) (hlo : 2100 ≤ lo) (hlo2 : lo + 40400 ≤ 163608) (hbe : g_i M0 be iD = dp) (hiD : iD < 200) (he : b_st (g_i M0 b) 2100 pe De e.1 e.2.1 e.2.2) (hk : e.1 = 3) (hpf : S_pfL (b_ch e.2.2) = 0) (hDe : De ≤ 30) (hd : b_st (g_i M0 b) 163608 dp 16 3 [] (b_doc es)) (hav : ∀ k, dp ≤ k → k < dp + (b_el 3 [] (b_doc es)).length → ¬ (lo ≤ k ∧ k < lo + 40400)) (hn : 16 ≤ n) (hl : (b_doc es).length ≤ 2000) (hg : X_gd 30 es) (hX : S_X so b po pf pt ou sc fr M0 M lo) (hD : S_D so b ou fr lo J ds u0 M) (hJ0 : 40000 ≤ J) (hJ1 : J ≤ 900000000) (hq : ∀ M1 u1, S_X so b po pf pt ou sc fr M0 M1 lo → S_D so b ou fr lo (J + 40400) (ds ++ [S_pj n (b_ch e.2.2) es]) u1 M1 → g_Run (d + 76) 152 18 [(0, .ref so), (1, g_n pe), (2, g_n 0), (3, g_n ((iD : Int) + 1))] [] M1 (g_qI Q)) (hcount : (iD : Int) < g_i M0 so 14) : g_Run (d + 76) 152 18 [(0, .ref so), (1, g_n pe), (2, g_n 0), (3, g_n iD)] [] M (g_qI Q) := by
  obtain ⟨a1, a2, a3, a4, a5, a6, a7, a8⟩ := hT.n1
  obtain ⟨b1, b2, b3, b4, b5, b6, b7⟩ := hT.n2
  obtain ⟨⟨c1, c2, c3, c4⟩, ⟨d1, d2, d3, d4⟩, ⟨e1, e2, e3, e4⟩, ⟨f1, f2, f3⟩, ⟨g1, g2⟩, -⟩ := hT.n3
  obtain ⟨T, hTd⟩ : ∃ T, T = S_pj n (b_ch e.2.2) es := ⟨_, rfl⟩
  obtain ⟨D1, eD, hkids, hkl⟩ := he.kids (Or.inl hk)
  have hmany := b_ser_many (b_ch e.2.2)
  have he4 := he.2.2.2.1
  have he5 := he.2.2.2.2
  have hel := b_el_len e.1 e.2.1 e.2.2
  have hd4 := hd.2.2.2.1
  have hd5 := hd.2.2.2.2
  have hdl := b_doc_len es
  have hpeR : g_InR pe := ⟨by omega, by omega⟩
  have hiR : g_InR (iD : Int) := ⟨by omega, by omega⟩
  have hdR := hd.R (by decide)
  have hser : (b_ser es).length ≤ 15000 := by omega
  rw [← hTd] at hq
  -- the request and the document stay
  have hlow : ∀ {M2 : g_M}, S_X so b po pf pt ou sc fr M0 M2 lo → ∀ k, k < 2100 → g_i M2 b k = g_i M0 b k := fun h k hk => h.2.2.2.2.1 k (by omega) (by omega)
  have hreq : ∀ {M2 : g_M}, S_X so b po pf pt ou sc fr M0 M2 lo → ∀ {q : Int} {D : Nat} {k : Int} {nm vb : List Int}, b_st (g_i M0 b) 2100 q D k nm vb → b_st (g_i M2 b) 2100 q D k nm vb := by
    intro M2 h q D k nm vb hs
    exact ⟨b_at_keep hs.1 fun j j1 j2 => hlow h j (by have := hs.2.2.2.2; omega), hs.2.1, hs.2.2.1, hs.2.2.2.1, hs.2.2.2.2⟩
  have hreqs : ∀ {M2 : g_M}, S_X so b po pf pt ou sc fr M0 M2 lo → ∀ {q : Int} {D : Nat} {xs : List b_E}, b_sts (g_i M0 b) 2100 q D xs → b_sts (g_i M2 b) 246408 q D xs := by
    intro M2 h q D xs hs
    obtain ⟨h1, h2, h3, h4, h5⟩ := hs
    exact ⟨b_at_keep h1 fun j j1 j2 => hlow h j (by omega), h2, h3, by omega, by rw [hlow h _ (by omega)]; exact h5⟩
  have hup : ∀ {B : Int → Int} {q : Int} {D : Nat} {k : Int} {nm vb : List Int} {n1 n2 : Int}, b_st B n1 q D k nm vb → n1 ≤ n2 → b_st B n2 q D k nm vb := by
    intro B q D k nm vb n1 n2 hs hle
    exact ⟨hs.1, hs.2.1, hs.2.2.1, hs.2.2.2.1, by have := hs.2.2.2.2; omega⟩
  have hdoc : ∀ {M2 : g_M}, S_X so b po pf pt ou sc fr M0 M2 lo → b_st (g_i M2 b) 163608 dp 16 3 [] (b_doc es) := fun h => ⟨b_at_keep hd.1 fun j j1 j2 => h.2.2.2.2.1 j (by omega) (hav j j1 j2), hd.2.1, hd.2.2.1, hd.2.2.2.1, hd.2.2.2.2⟩
  have hbeM : ∀ {M2 : g_M}, S_X so b po pf pt ou sc fr M0 M2 lo → g_i M2 be iD = dp := fun h => by
    rw [h.2.2.1 be a7.symm b6.symm c3.symm d3.symm e3.symm f2.symm g1.symm hT.2.2.2.2.1.2.2 iD]
    exact hbe
  have hXou : ∀ {Ma Mb : g_M}, S_X so b po pf pt ou sc fr M0 Ma lo → e_fr (c_WL ou b lo (lo + 40400)) Ma Mb → S_X so b po pf pt ou sc fr M0 Mb lo := fun h f => h.e hT f fun y k z => by
    rcases z with ⟨z, -⟩ | ⟨z, z2⟩
    · exact Or.inr (Or.inl z)
    · exact Or.inr (Or.inr (Or.inr (Or.inr ⟨z, Or.inr z2⟩)))
  have hFou : ∀ {Ma Mb : g_M}, S_F so fr lo J ds Ma → e_fr (c_WL ou b lo (lo + 40400)) Ma Mb → S_F so fr lo J ds Mb ∧ g_i Mb so 18 = g_i Ma so 18 := by
    intro Ma Mb h f
    have h1 : ∀ k, g_i Mb so k = g_i Ma so k := fun k => f.2.1 so k fun z => by
      rcases z with ⟨z, -⟩ | ⟨z, -⟩
      · exact a5 z
      · exact a1 z
    exact ⟨h.fr (fun k _ => h1 k) fun k => f.2.1 fr k fun z => by
      rcases z with ⟨z, -⟩ | ⟨z, -⟩
      · exact f3 z.symm
      · exact b7 z.symm, h1 18⟩
  have hYou : ∀ {Ma Mb : g_M} {y : List Int}, c_Wr sc b 246408 163608 246408 y Ma → e_fr (c_WL ou b lo (lo + 40400)) Ma Mb → c_Wr sc b 246408 163608 246408 y Mb := fun h f => h.kp f.1 (f.2.2 _ _) (fun k => f.2.1 sc k fun z => by
      rcases z with ⟨z, -⟩ | ⟨z, -⟩
      · exact f1 z.symm
      · exact b5 z.symm) fun k k1 k2 => f.2.1 b k fun z => by
      rcases z with ⟨z, -⟩ | ⟨-, z⟩
      · exact b4 z
      · omega
  have hlp : ∀ (r : Int), g_InR r → w_r lo (lo + 40400) r (u0.length + 2) → ∀ (xs : List b_E) (q : Int) (i : Nat) (body y : List Int) (M1 : g_M), b_sts (g_i M0 b) 2100 q D1 xs → (∀ x ∈ xs, S_ef x = false) → S_X so b po pf pt ou sc fr M0 M1 lo → c_Wr ou b 246408 lo (lo + 40400) (u0 ++ [3, 0] ++ ([0, 0, 0, 0] ++ body)) M1 → S_F so fr lo J ds M1 → (g_i M1 so 18 = 0 → u0 = S_wr ds) → c_Wr sc b 246408 163608 246408 y M1 → ((body ++ b_ser (S_pj n xs es) = b_ser T ∧ y.length ≤ body.length) ∨ (2000 < body.length ∧ 2000 < (b_doc T).length)) → i + xs.length < 2000 → g_Run (d + 76) 152 56 [(0, .ref so), (1, g_n pe), (2, g_n 0), (3, g_n iD), (4, g_n r), (5, g_n q), (6, g_n i)] [] M1 (g_qI Q) := by
    intro r hrR hr xs
    induction xs with
    | nil =>
      intro q i body y M1 h1 _ hX1 hu1 hF1 h18 hy1 hinv hi
      obtain ⟨⟨t1, t2, t3⟩, -, -, ⟨w4, w5, w6, w7⟩, ⟨q1, q2, q3⟩, -⟩ := hX1.T hT
      have hqR : g_InR q := by
        have := h1.2.2.1
        have := h1.2.2.2.1
        exact ⟨by omega, by omega⟩
      rw [List.length_nil] at hi
      have hTg : X_gd 30 T := by
        rw [hTd]
        exact S_pj_good hg hser fun x hx => ⟨(hkids.2.1 x hx).1, b_gv_le (hkids.2.1 x hx).2 (by omega)⟩
      refine s_X9_project_56 hpeR ⟨by decide, by decide⟩ hiR hrR hqR ⟨by omega, by omega⟩ fun _ => ⟨fun _ => ⟨t1, b, t2, c_kdE (d := d + 75) t3 (by decide) (hreqs hX1 h1) fun _ _ _ => ⟨fun _ => ?_, fun g => absurd rfl g⟩⟩, fun g => absurd (by omega) g⟩
      refine c_closeDocG (d := d + 7) (es := T) (J := J) ⟨t1, t2, t3⟩ w4 w7 q2 (by omega) (by omega) h18 hu1 hr ?_ hTg hF1 hJ0 (by omega) fun M2 u2 f2 hu2 hF2 h182 => ?_
      · rcases hinv with ⟨g, -⟩ | g
        · have : b_ser (S_pj n [] es) = [] := rfl
          rw [this, List.append_nil] at g
          exact Or.inl g
        · exact Or.inr g
      · intro _ _
        refine ⟨⟨by omega, by omega⟩, hq M2 u2 (hX1.e hT f2 fun y k z => ?_) ⟨hu2, hF2, h182⟩⟩
        rcases z with z | z | ⟨z, -⟩ | ⟨z, z2⟩
        · exact Or.inl z
        · exact Or.inr (Or.inr (Or.inr (Or.inl z)))
        · exact Or.inr (Or.inl z)
        · exact Or.inr (Or.inr (Or.inr (Or.inr ⟨z, Or.inr z2⟩)))
    | cons x xs ih =>
      intro q i body y M1 h1 hefs hX1 hu1 hF1 h18 hy1 hinv hi
      obtain ⟨⟨t1, t2, t3⟩, -, -, ⟨w4, w5, w6, w7⟩, ⟨q1, q2, q3⟩, -⟩ := hX1.T hT
      rw [List.length_cons] at hi
      obtain ⟨hx0, hr2⟩ := h1.cons
      have hx := hreq hX1 hx0
      have hxM := hup hx (show (2100 : Int) ≤ 246408 by decide)
      have hxR := hx.R (by decide)
      have hx4 := hx.2.2.2.1
      have hx5 := hx.2.2.2.2
      have hxl := b_el_len x.1 x.2.1 x.2.2
      have hxk := b_vs_pos (b_gv_vs hx.2.2.1)
      have hnameR : g_InR (q + 1 + x.2.1.length) := ⟨by omega, by omega⟩
      -- on to the next element
      have hnext : ∀ (M2 : g_M) (body2 y2 : List Int), S_X so b po pf pt ou sc fr M0 M2 lo → c_Wr ou b 246408 lo (lo + 40400) (u0 ++ [3, 0] ++ ([0, 0, 0, 0] ++ body2)) M2 → S_F so fr lo J ds M2 → (g_i M2 so 18 = 0 → u0 = S_wr ds) → c_Wr sc b 246408 163608 246408 y2 M2 → ((body2 ++ b_ser (S_pj n xs es) = b_ser T ∧ y2.length ≤ body2.length) ∨ (2000 < body2.length ∧ 2000 < (b_doc T).length)) → ∃ b2, g_r M2 so 1 = some b2 ∧ g_Call (d + 76) 111 [.ref b2, g_n q] M2 (g_qI fun r40 M37 => g_ext M2 M37 → g_ok M37 → g_InR r40 → g_InR ((i : Int) + 1) ∧ g_Run (d + 76) 152 56 [(0, .ref so), (1, g_n pe), (2, g_n 0), (3, g_n iD), (4, g_n r), (5, g_n r40), (6, g_n ((i : Int) + 1))] [] M37 (g_qI Q)) := by
        intro M2 body2 y2 k1 k2 k3 k4 k5 k6
        obtain ⟨⟨z1, z2, z3⟩, -⟩ := k1.T hT
        refine ⟨b, z2, c_nx2 (d := d + 75) z3 (by decide) (hup (hreq k1 hx0) (by decide)) ?_⟩
        intro _ _ _
        exact ⟨⟨by omega, by omega⟩, ih _ (i + 1) body2 y2 M2 hr2 (fun z hz => hefs z (List.mem_cons_of_mem _ hz)) k1 k2 k3 k4 k5 k6 (by omega)⟩
      have hnm : ∀ {M2 : g_M}, S_X so b po pf pt ou sc fr M0 M2 lo → b_at (g_i M2 b) (q + 1) x.2.1 := fun h => (hreq h hx0).nmb
      -- an element is written
      have hput : ∀ (M2 : g_M) (v k : Int) (vb y2 : List Int), S_X so b po pf pt ou sc fr M0 M2 lo → c_Wr ou b 246408 lo (lo + 40400) (u0 ++ [3, 0] ++ ([0, 0, 0, 0] ++ body)) M2 → S_F so fr lo J ds M2 → (g_i M2 so 18 = 0 → u0 = S_wr ds) → c_Wr sc b 246408 163608 246408 y2 M2 → (∀ M3, e_fr (c_WL ou b lo (lo + 40400)) M2 M3 → ∃ nm D, b_st (g_i M3 b) 246408 v D k nm vb) → body ++ b_el k x.2.1 vb ++ b_ser (S_pj n xs es) = b_ser T → y2.length ≤ (body ++ b_el k x.2.1 vb).length → g_Run (d + 76) 152 140 [(0, .ref so), (1, g_n pe), (2, g_n 0), (3, g_n iD), (4, g_n r), (5, g_n q), (6, g_n i), (7, g_n (q + 1 + x.2.1.length))] [g_n v] M2 (g_qI Q) := by
        intro M2 v k vb y2 k1 k2 k3 k4 k5 kv ke kl
        obtain ⟨⟨z1, z2, z3⟩, -, -, ⟨z4, -⟩, -⟩ := k1.T hT
        obtain ⟨nm, Dv, hv⟩ := kv M2 (e_fr.rf _ _)
        have hvR := hv.R (by decide)
        have hv4 := hv.2.2.2.1
        have hvk := b_vs_pos (b_gv_vs hv.2.2.1)
        refine s_X9_project_140 hpeR ⟨by decide, by decide⟩ hiR hrR hxR ⟨by omega, by omega⟩ hnameR hvR fun _ => ⟨fun g => absurd g (by omega), fun _ => ⟨z1, ou, z4, b, z2, c_kd2 (d := d + 75) z3 (by decide) hv ?_⟩⟩
        intro _ _ _
        refine ⟨b, z2, ⟨by omega, by omega⟩, k2.1.1, c_headOf (d := d + 74) k2 (by omega) (by omega) z3 (by decide) (fun M3 f3 => hnm (hXou k1 f3)) (by omega) (by omega) fun M3 f3 W3 => ?_⟩
        intro _ _
        have hX3 := hXou k1 f3
        obtain ⟨⟨y1, y2', y3⟩, -, -, ⟨y4, -⟩, -⟩ := hX3.T hT
        obtain ⟨nm3, D3, hv3⟩ := kv M3 f3
        refine ⟨ou, y4, b, y2', W3.1.1, c_outVal (d := d + 74) W3 y3 (by decide) hv3 fun M4 f4 W4 => ?_⟩
        intro _ _
        have f34 := f3.tr f4
        have hX4 := hXou k1 f34
        obtain ⟨hF4, h184⟩ := hFou k3 f34
        have ew : u0 ++ [3, 0] ++ ([0, 0, 0, 0] ++ body) ++ (k :: (x.2.1 ++ [0])) ++ vb = u0 ++ [3, 0] ++ ([0, 0, 0, 0] ++ (body ++ b_el k x.2.1 vb)) := by
          unfold b_el
          simp
        rw [ew] at W4
        exact hnext M4 _ y2 hX4 W4 hF4 (fun z => k4 (by rw [← h184]; exact z)) (hYou k5 f34) (Or.inl ⟨ke, kl⟩)
      -- too much already: what is written doesn't matter
      have hbad : ∀ (M2 : g_M) (v : Int) (y2 : List Int), g_InR v → S_X so b po pf pt ou sc fr M0 M2 lo → c_Wr ou b 246408 lo (lo + 40400) (u0 ++ [3, 0] ++ ([0, 0, 0, 0] ++ body)) M2 → S_F so fr lo J ds M2 → (g_i M2 so 18 = 0 → u0 = S_wr ds) → c_Wr sc b 246408 163608 246408 y2 M2 → 2000 < body.length → 2000 < (b_doc T).length → g_Run (d + 76) 152 140 [(0, .ref so), (1, g_n pe), (2, g_n 0), (3, g_n iD), (4, g_n r), (5, g_n q), (6, g_n i), (7, g_n (q + 1 + x.2.1.length))] [g_n v] M2 (g_qI Q) := by
        intro M2 v y2 hvR k1 k2 k3 k4 k5 kb1 kb2
        obtain ⟨⟨z1, z2, z3⟩, -, -, ⟨z4, -⟩, -⟩ := k1.T hT
        refine s_X9_project_140 hpeR ⟨by decide, by decide⟩ hiR hrR hxR ⟨by omega, by omega⟩ hnameR hvR fun hok2 => ⟨fun _ => ⟨z1, hnext M2 body y2 k1 k2 k3 k4 k5 (Or.inr ⟨kb1, kb2⟩)⟩, fun g => ⟨z1, ou, z4, b, z2, c_kind (d := d + 75) z3 ⟨by decide, by decide⟩ hvR ?_⟩⟩
        intro _ _ hkR
        refine ⟨b, z2, ⟨by omega, by omega⟩, k2.1.1, c_headAny (d := d + 74) k2 hkR z3 (by decide) (fun M3 f3 => hnm (hXou k1 f3)) (by omega) (by omega) fun M3 f3 W3 => ?_⟩
        intro _ _
        have hX3 := hXou k1 f3
        obtain ⟨⟨y1, y2', y3⟩, -, -, ⟨y4, -⟩, -⟩ := hX3.T hT
        refine ⟨ou, y4, b, y2', W3.1.1, c_outAny (d := d + 74) W3 y3 (by decide) hvR fun M4 vb f4 W4 => ?_⟩
        intro _ _
        have f34 := f3.tr f4
        have hX4 := hXou k1 f34
        obtain ⟨hF4, h184⟩ := hFou k3 f34
        have ew : ∀ w : Int, u0 ++ [3, 0] ++ ([0, 0, 0, 0] ++ body) ++ (w :: (x.2.1 ++ [0])) ++ vb = u0 ++ [3, 0] ++ ([0, 0, 0, 0] ++ (body ++ (w :: (x.2.1 ++ [0])) ++ vb)) := fun w => by simp
        rw [ew] at W4
        exact hnext M4 _ y2 hX4 W4 hF4 (fun z => k4 (by rw [← h184]; exact z)) (hYou k5 f34) (Or.inr ⟨by rw [List.length_append, List.length_append]; omega, kb2⟩)
      have hmiss : ∀ (M2 : g_M) (y2 : List Int), S_X so b po pf pt ou sc fr M0 M2 lo → c_Wr ou b 246408 lo (lo + 40400) (u0 ++ [3, 0] ++ ([0, 0, 0, 0] ++ body)) M2 → S_F so fr lo J ds M2 → (g_i M2 so 18 = 0 → u0 = S_wr ds) → c_Wr sc b 246408 163608 246408 y2 M2 → ((body ++ b_ser (S_pj n xs es) = b_ser T ∧ y2.length ≤ body.length) ∨ (2000 < body.length ∧ 2000 < (b_doc T).length)) → g_Run (d + 76) 152 140 [(0, .ref so), (1, g_n pe), (2, g_n 0), (3, g_n iD), (4, g_n r), (5, g_n q), (6, g_n i), (7, g_n (q + 1 + x.2.1.length))] [g_n (-1)] M2 (g_qI Q) := by
        intro M2 y2 k1 k2 k3 k4 k5 k6
        obtain ⟨⟨z1, z2, z3⟩, -⟩ := k1.T hT
        exact s_X9_project_140 hpeR ⟨by decide, by decide⟩ hiR hrR hxR ⟨by omega, by omega⟩ hnameR ⟨by decide, by decide⟩ fun _ => ⟨fun _ => ⟨z1, hnext M2 body y2 k1 k2 k3 k4 k5 k6⟩, fun g => absurd (by decide) g⟩
      have hpjn : S_pv n es x = none → S_pj n (x :: xs) es = S_pj n xs es := fun h => List.filterMap_cons_none h
      have hpjs : ∀ {w : b_E}, S_pv n es x = some w → S_pj n (x :: xs) es = w :: S_pj n xs es := fun h => List.filterMap_cons_some h
      have hinvn : S_pv n es x = none → ((body ++ b_ser (S_pj n xs es) = b_ser T ∧ y.length ≤ body.length) ∨ (2000 < body.length ∧ 2000 < (b_doc T).length)) := fun h => by
        rw [hpjn h] at hinv
        exact hinv
      have hbdT : 2000 < body.length → body ++ b_ser (S_pj n (x :: xs) es) = b_ser T → 2000 < (b_doc T).length := fun h1 h2 => by
        have := congrArg List.length h2
        rw [List.length_append] at this
        rw [b_doc_len]
        omega
      refine s_X9_project_56 hpeR ⟨by decide, by decide⟩ hiR hrR hxR ⟨by omega, by omega⟩ fun _ => ⟨fun _ => ⟨t1, b, t2, c_kd2 (d := d + 75) t3 (by decide) hxM fun _ _ _ => ⟨fun g => absurd g (by omega), fun _ => ⟨b, t2, c_va2 (d := d + 75) t3 (by decide) hxM ?_⟩⟩⟩, fun g => absurd (by omega) g⟩
      intro _ _ _
      rw [show q + 2 + (x.2.1.length : Int) - 1 = q + 1 + x.2.1.length by omega]
      refine ⟨⟨by omega, by omega⟩, b, t2, c_isTr (d := d + 74) t3 (by decide) hxM ?_⟩
      intro _ _ _
      have hdM := hdoc hX1
      by_cases ht : S_tr x = true
      · rw [if_pos ht]
        refine ⟨fun g => absurd g (by decide), fun _ => ⟨b, t2, be, w6, _, q1, ⟨by omega, by omega⟩, b, t2, ⟨by omega, by omega⟩, ?_⟩⟩
        rw [hbeM hX1]
        have hdM2 := hup hdM (show (163608 : Int) ≤ 246408 by decide)
        refine c_find2 (d := d + 73) t3 (by decide) t3 (by decide) hx.nmb (by omega) (by omega) hdM2 (Or.inl rfl) (by omega) ?_
        have hLc : L_ch dp (3, [], b_doc es) = L_at (dp + 6) es := by
          show L_at (dp + 6 + ((0 : Nat) : Int)) (b_ch (b_doc es)) = _
          rw [b_ch_doc hg.ok, show dp + 6 + ((0 : Nat) : Int) = dp + 6 by omega]
        rw [hLc]
        intro _ _ hvR
        obtain ⟨hno, hso⟩ := L_opt_fn (x := x.2.1) (es := es) (dp + 6)
        rcases hf0 : L_fn x.2.1 es with _ | e0
        · have hlo' : L_opt none = -1 := rfl
          rw [hno hf0, hlo'] at hvR ⊢
          have hpv : S_pv n es x = none := by
            unfold S_pv
            rw [if_pos ht, hf0]
            rfl
          exact hmiss M1 y hX1 hu1 hF1 h18 hy1 (hinvn hpv)
        · obtain ⟨l, t, l1, l2, l3, l4, l5⟩ := hso e0 hf0
          rw [l5] at hvR ⊢
          have hpv : S_pv n es x = some (e0.1, x.2.1, e0.2.2) := by
            unfold S_pv
            rw [if_pos ht, hf0]
            rfl
          rcases hinv with ⟨hin1, hin2⟩ | ⟨hb1, hb2⟩
          · rw [hpjs hpv] at hin1
            refine hput M1 _ e0.1 e0.2.2 y hX1 hu1 hF1 h18 hy1 (fun M3 f3 => ?_) (by rw [← hin1]; show _ = body ++ (b_el e0.1 x.2.1 e0.2.2 ++ b_ser (S_pj n xs es)); rw [List.append_assoc]) (by rw [List.length_append]; omega)
            obtain ⟨D2, -, hk2, -⟩ := b_st.kids (e := (3, [], b_doc es)) (hup (hdoc (hXou hX1 f3)) (show (163608 : Int) ≤ 246408 by decide)) (Or.inl rfl)
            have hk3 : b_sts (g_i M3 b) 246408 (dp + 6) D2 es := by
              have hk2' : b_sts (g_i M3 b) 246408 (dp + 6 + ((0 : Nat) : Int)) D2 (b_ch (b_doc es)) := hk2
              rwa [b_ch_doc hg.ok, show dp + 6 + ((0 : Nat) : Int) = dp + 6 by omega] at hk2'
            rw [l1] at hk3
            exact ⟨_, _, hk3.app.cons.1⟩
          · exact hbad M1 _ y hvR hX1 hu1 hF1 h18 hy1 hb1 hb2
      · rw [if_neg ht]
        refine ⟨fun _ => ⟨be, w6, _, q1, ⟨by omega, by omega⟩, ?_⟩, fun g => absurd rfl g⟩
        rw [hbeM hX1]
        refine c_valueX (n := n) (by omega) hT hX1 (by omega) hlo2 hu1 hF1 hy1 (hup hx (by decide)) (hefs x List.mem_cons_self) hdM (by omega) (by omega) (by omega) (by omega) hg.ok fun M2 v y2 hX2 hu2 hF2 h182 hy2 hb2 hret => ?_
        intro _ _ hvR
        have h18' : g_i M2 so 18 = 0 → u0 = S_wr ds := fun z => h18 (by rw [← h182]; exact z)
        have hVn : V_of n x es = none → S_pv n es x = none := fun h => by
          unfold S_pv
          rw [if_neg ht, h]
          rfl
        have hVs : ∀ {w : b_E}, V_of n x es = some w → S_pv n es x = some (w.1, x.2.1, w.2.2) := fun h => by
          unfold S_pv
          rw [if_neg ht, h]
          rfl
        rcases hret with ⟨hv1, hv2, hv3⟩ | ⟨w, hw, hcs⟩
        · subst hv2
          subst hv3
          rw [List.append_nil] at hy2
          exact hmiss M2 y hX2 hu2 hF2 h18' hy2 (hinvn (hVn hv1))
        · rcases hinv with ⟨hin1, hin2⟩ | ⟨hb1, hb2'⟩
          · have hin0 := hin1
            rw [hpjs (hVs hw)] at hin1
            have hin1' : body ++ b_el w.1 x.2.1 w.2.2 ++ b_ser (S_pj n xs es) = b_ser T := by
              rw [← hin1, List.append_assoc]
              rfl
            rcases hcs with ⟨hy0, nm, hvst, hvl⟩ | ⟨hvp, hy0, hk4⟩
            · subst hy0
              rw [List.append_nil] at hy2
              refine hput M2 v w.1 w.2.2 y hX2 hu2 hF2 h18' hy2 (fun M3 f3 => ⟨nm, 30, ?_⟩) hin1' (by rw [List.length_append]; omega)
              refine (hup ?_ (show (163608 : Int) ≤ 246408 by decide))
              refine ⟨b_at_keep hvst.1 fun j j1 j2 => ?_, hvst.2.1, hvst.2.2.1, hvst.2.2.2.1, hvst.2.2.2.2⟩
              have hj : j < 163608 ∧ ¬ (lo ≤ j ∧ j < lo + 40400) := by
                have h5 := hvst.2.2.2.2
                refine ⟨by omega, ?_⟩
                rcases hvl with ⟨g1', g2', g3'⟩ | ⟨g1', g2'⟩
                · rw [g2', g3'] at j2
                  omega
                · exact hav j (by omega) (by omega)
              rw [(hXou hX2 f3).2.2.2.2.1 j hj.1 hj.2, ← hX1.2.2.2.2.1 j hj.1 hj.2]
            · by_cases hov : (y ++ y2).length ≤ 82800
              · rw [hy0] at hov hy2
                rw [List.length_append] at hov
                have hwl := b_el_len 4 [] w.2.2
                rw [List.length_nil] at hwl
                have hv9 := hvp (by omega)
                have hVg := V_of_good hg hser hw
                have hgw : b_gv 30 w.1 w.2.2 := by
                  rcases hVg with ⟨g, -⟩ | ⟨-, g, -⟩
                  · rw [g]
                    exact b_gv_le hx.2.2.1 (by omega)
                  · exact g
                refine hput M2 v w.1 w.2.2 _ hX2 hu2 hF2 h18' hy2 (fun M3 f3 => ⟨[], 30, ?_⟩) hin1' ?_
                · have W3 := hYou hy2 f3
                  rcases W3.2.2.2.2 with ⟨-, -, w3, w4'⟩ | ⟨-, -, -, w4'⟩
                  · have hat := (b_app.mp w4').2
                    rw [← hv9] at hat
                    rw [hk4] at hgw ⊢
                    refine ⟨hat, fun c hc => absurd hc (by simp), hgw, by omega, ?_⟩
                    omega
                  · rw [List.length_append] at w4'
                    omega
                · rw [List.length_append, List.length_append, b_el_len, b_el_len, List.length_nil]
                  omega
              · have hlen : w.2.2.length ≤ 2100 := by
                  rcases V_of_good hg hser hw with ⟨g, -⟩ | ⟨-, -, g⟩
                  · rw [g]
                    omega
                  · omega
                rw [hy0, List.length_append, b_el_len, List.length_nil] at hov
                exact hbad M2 v _ hvR hX2 hu2 hF2 h18' hy2 (by omega) (hbdT (by omega) hin0)
          · exact hbad M2 v _ hvR hX2 hu2 hF2 h18' hy2 hb1 hb2'
  obtain ⟨⟨t1, t2, t3⟩, -, -, ⟨w4, w5, w6, w7⟩, -, -, ⟨o1, o2⟩, -⟩ := hX.T hT
  obtain ⟨hu, hF, h18⟩ := hD
  have h14 : g_i M so 14 = g_i M0 so 14 := hX.2.2.2.1 14 (by decide) (by decide) (by decide)
  refine s_X9_project_18 hpeR ⟨by decide, by decide⟩ hiR fun _ => ⟨t1, fun _ => ⟨sc, w5, o1, c_start (d := d + 75) o1 o2 t3 (by decide) (by decide) (by decide) (by decide) fun M2 f2 W2 => ?_⟩, fun g => absurd (by omega) g⟩
  intro _ _
  have hX2 := hX.e hT f2 fun y k z => Or.inr (Or.inr (Or.inl z.1))
  have hu2 : c_Wr ou b 246408 lo (lo + 40400) u0 M2 := hu.kp f2.1 (f2.2.2 _ _) (fun k => f2.2.1 ou k fun z => f1 z.1) fun k _ _ => f2.2.1 b k fun z => b5 z.1
  have hso2 : ∀ k, g_i M2 so k = g_i M so k := fun k => f2.2.1 so k fun z => a6 z.1
  have hF2 : S_F so fr lo J ds M2 := hF.fr (fun k _ => hso2 k) fun k => f2.2.1 fr k fun z => g2 z.1.symm
  obtain ⟨⟨t1, t2, t3⟩, -, -, ⟨w4, w5, w6, w7⟩, -⟩ := hX2.T hT
  refine c_openDoc (d := d + 73) ⟨t1, t2, t3⟩ w4 hu2 fun r M3 f3 W3 hr => ?_
  intro _ _ hrR
  have hX3 := hXou hX2 f3
  obtain ⟨hF3, h183⟩ := hFou hF2 f3
  obtain ⟨⟨t1, t2, t3⟩, -⟩ := hX3.T hT
  refine ⟨b, t2, c_fi2 (d := d + 75) t3 (by decide) (hup (hreq hX3 he) (by decide)) ?_⟩
  intro _ _ _
  refine hlp r hrR hr (b_ch e.2.2) _ 0 [] [] M3 hkids ?_ hX3 ?_ hF3 (fun z => h18 (by rw [← hso2, ← h183]; exact z)) (hYou W2 f3) (Or.inl ⟨by rw [hTd]; rfl, Nat.le_refl _⟩) (by omega)
  · clear hlp hkids hkl hmany
    generalize b_ch e.2.2 = cs at hpf
    induction cs with
    | nil => exact fun x hx => absurd hx (by simp)
    | cons c cs ih =>
      have hfL : S_pfL (c :: cs) = if S_pl c.2.1 = true then (if S_ef c = true then 3 else S_pfL cs) else 2 := rfl
      rw [hfL] at hpf
      split at hpf
      · split at hpf
        · exact absurd hpf (by decide)
        · rename_i hne
          intro x hx
          rcases List.mem_cons.mp hx with rfl | hx
          · simpa using hne
          · exact ih hpf x hx
      · exact absurd hpf (by decide)
  · rw [List.append_nil]
    exact W3
end CPROJ
