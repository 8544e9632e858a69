/-! STAGES: $sort, the class, whole -/
theorem O_ins_perm (c : Nat → Nat → Int) (x : Nat) : ∀ l : List Nat, (O_ins c x l).Perm (x :: l) := by
  intro l
  induction l with
  | nil => exact List.Perm.refl _
  | cons y r ih =>
    unfold O_ins
    split
    · exact (ih.cons y).trans (List.Perm.swap x y r)
    · exact List.Perm.refl _
theorem O_rv_perm (c : Nat → Nat → Int) : ∀ n : Nat, (O_rv c n).Perm (List.range n) := by
  intro n
  induction n with
  | zero => exact List.Perm.refl _
  | succ n ih =>
    rw [List.range_succ]
    exact ((O_ins_perm c n _).trans (ih.cons n)).trans (List.perm_append_singleton n _).symm
theorem O_srt_perm (cs : List b_E) (ds : List (List b_E)) : (O_srt cs ds).Perm ds := by
  unfold O_srt O_ord
  have h1 : ((O_rv (O_ci cs ds) ds.length).reverse).Perm (List.range ds.length) := (List.reverse_perm _).trans (O_rv_perm _ _)
  have h2 : (List.range ds.length).map (fun i => ds.getD i []) = ds := by
    refine List.ext_getElem (by simp) fun i k1 k2 => ?_
    simp [List.getElem?_eq_getElem k2]
  have h3 := h1.map fun i => ds.getD i []
  rwa [h2] at h3
theorem S_sum_perm {x y : List (List b_E)} (h : x.Perm y) : S_sum x = S_sum y := by
  unfold S_sum
  induction h with
  | nil => rfl
  | cons a _ ih => rw [List.map_cons, List.map_cons, List.sum_cons, List.sum_cons, ih]
  | swap a b l =>
    rw [List.map_cons, List.map_cons, List.map_cons, List.map_cons, List.sum_cons, List.sum_cons, List.sum_cons, List.sum_cons]
    omega
  | trans _ _ ih1 ih2 => exact ih1.trans ih2
theorem S_ok_perm {x y : List (List b_E)} (h : x.Perm y) (hy : S_ok y) : S_ok x := ⟨by rw [h.length_eq]; exact hy.1, by rw [S_sum_perm h]; exact hy.2.1, fun es hes => hy.2.2 es (h.mem_iff.mp hes)⟩
theorem O_srt_len (cs : List b_E) (ds : List (List b_E)) : (O_srt cs ds).length = ds.length := (O_srt_perm cs ds).length_eq
/-- what stands where -/
theorem O_srt_at {cs : List b_E} {ds : List (List b_E)} {i : Nat} {es : List b_E} (h : (O_srt cs ds)[i]? = some es) : ∃ k, (O_ord cs ds)[i]? = some k ∧ ds[k]? = some es := by
  unfold O_srt at h
  rw [List.getElem?_map] at h
  rcases hk : (O_ord cs ds)[i]? with _ | k
  · rw [hk] at h
    exact absurd h (by simp)
  · rw [hk] at h
    have h2 : ds.getD k [] = es := by simpa using h
    have hkl := O_rv_lt (O_ci cs ds) ds.length k (List.mem_reverse.mp (List.mem_of_getElem? hk))
    refine ⟨k, rfl, ?_⟩
    rw [← h2, List.getD_eq_getElem?_getD, List.getElem?_eq_getElem hkl]
    rfl
theorem O_so_0 : ∀ {l : List b_E}, O_so l = 0 → ∀ x ∈ l, (O_w x = 1 ∨ O_w x = -1) ∧ p_plain x.2.1 := by
  intro l
  induction l with
  | nil => exact fun _ x hx => absurd hx (by simp)
  | cons y r ih =>
    intro h x hx
    by_cases h1 : O_w y = 1 ∨ O_w y = -1
    · by_cases h2 : p_plain y.2.1
      · rw [O_so_r h1 h2] at h
        rcases List.mem_cons.mp hx with hx | hx
        · rw [hx]
          exact ⟨h1, h2⟩
        · exact ih h x hx
      · rw [O_so_3 h1 h2] at h
        exact absurd h (by decide)
    · rw [O_so_2 h1] at h
      exact absurd h (by decide)
theorem O_sf_0 {e : b_E} (h : O_sf e = 0) : e.1 = 3 ∧ 1 ≤ (b_ch e.2.2).length ∧ (b_ch e.2.2).length ≤ 4 ∧ O_so (b_ch e.2.2) = 0 := by
  unfold O_sf at h
  split at h
  · rename_i g
    exact ⟨g.1, g.2.1, g.2.2, h⟩
  · exact absurd h (by decide)
/-- what putting in order works with -/
def O_so7 (so r b kk wa va be fr : Nat) (c e : Int) (L : List Int) (M : g_M) : Prop := g_r M so 0 = some r ∧ k_P M r b c e L ∧ (g_r M so 10 = some va ∧ g_A M va 1 200 ∧ va ≠ be ∧ va ≠ fr) ∧ (g_r M so 11 = some kk ∧ g_A M kk 5 4) ∧ (g_r M so 12 = some wa ∧ g_A M wa 1 4) ∧ (∀ s : Nat, s < 4 → ∃ row, g_r M kk s = some row ∧ g_A M row 1 200 ∧ row ≠ be ∧ row ≠ fr ∧ row ≠ va) ∧ ∀ (s s2 row : Nat), s < 4 → s2 < 4 → g_r M kk s = some row → g_r M kk s2 = some row → s = s2
def O_sS (po pf pt kk wa va be fr : Nat) (M0 : g_M) (y : Nat) : Prop := O_fS po pf pt kk M0 y ∨ y = wa ∨ y = va ∨ y = fr ∨ y = be
section CSORT
variable {so r b po pf pt ou sc kk wa va be fr : Nat} {c e0 : Int} {L : List Int} {M0 : g_M} {ds : List (List b_E)} {g : Int}
theorem c_sort {d De : Nat} {Q : Int → g_M → Prop} {pe : Int} {e : b_E} (hT : S_T so b po pf pt ou sc be fr M0) (hK : O_so7 so r b kk wa va be fr c e0 L M0) (hL : L.length ≤ 100) (hbt : S_belt so b be g ds M0) (hs : b_st (g_i M0 b) 2100 pe De e.1 e.2.1 e.2.2) (hq1 : O_sf e ≠ 0 → ∀ M1, k_F (O_sS po pf pt kk wa va be fr M0) r M0 M1 → k_P M1 r b c e0 L → p_P M1 po pf pt → Q (O_sf e) M1) (hq2 : O_sf e = 0 → ∀ M1, k_F (O_sS po pf pt kk wa va be fr M0) r M0 M1 → k_P M1 r b c e0 L → p_P M1 po pf pt → S_belt so b be g (O_srt (b_ch e.2.2) ds) M1 → Q 0 M1) : g_Call (d + 62) 163 [.ref so, g_n pe] M0 (g_qI Q) := by
  obtain ⟨hS, h2, hp0, ⟨h4, h5, h6, h7⟩, ⟨hbe, hfr, hbf⟩, -, -, -⟩ := id hT
  obtain ⟨h0, hP0, ⟨h10, hva, hvb, hvf⟩, ⟨h11, hkk⟩, ⟨h12, hwa⟩, hrows, hinj⟩ := id hK
  obtain ⟨s1, s2, s3⟩ := id hS
  obtain ⟨P1, P2, P3, P4, P5, P6⟩ := id hp0
  have hpeR := hs.R (by decide)
  have he4 := hs.2.2.2.1
  have he5 := hs.2.2.2.2
  have n1 := g_neOO s1 P1 (by decide)
  have n2 := g_neOA s1 P4
  have n3 := g_neOA s1 P5
  have n4 : so ≠ wa := g_neOA s1 hwa
  have n5 : po ≠ b := g_neOA P1 s3
  have n6 : pf ≠ b := g_neAA P4 s3 (by omega)
  have n7 : pt ≠ b := g_neAA P5 s3 (by omega)
  have n8 : b ≠ wa := g_neAA s3 hwa (by omega)
  refine m_X9_sort hpeR fun _ => ⟨s1, c_wrongInSort (d := d + 57) hS h2 hp0 h12 hwa ⟨n2, n3⟩ ⟨n5, n6, n7⟩ hs fun M1 f1 hp1 hw1 => ?_⟩
  intro _ _ _
  -- what stays in M1
  have i1 : ∀ x, x ≠ po → x ≠ pf → x ≠ pt → x ≠ wa → g_i M1 x = g_i M0 x ∧ g_r M1 x = g_r M0 x := fun x k1 k2 k3 k4 => f1.2 x fun z => by
    rcases z with (z | z | z) | z
    · exact k1 z
    · exact k2 z
    · exact k3 z
    · exact k4 z
  have iso := i1 so n1 n2 n3 n4
  have ib := i1 b n5.symm n6.symm n7.symm n8
  have ikk := i1 kk (g_neOA P1 hkk).symm (g_neAA hkk P4 (by omega)) (g_neAA hkk P5 (by omega)) (g_neAA hkk hwa (by omega))
  have ibe := i1 be (g_neOA P1 hbe).symm (g_neAA hbe P4 (by omega)) (g_neAA hbe P5 (by omega)) (g_neAA hbe hwa (by omega))
  have npr : ¬ (p_S po pf pt r ∨ r = wa) := fun z => by
    rcases z with (z | z | z) | z
    · exact g_neOO hP0.1 P1 (by decide) z
    · exact g_neOA hP0.1 P4 z
    · exact g_neOA hP0.1 P5 z
    · exact g_neOA hP0.1 hwa z
  have hP1 : k_P M1 r b c e0 L := hP0.of f1 npr fun a n ha hn z => by
    rcases z with (z | z | z) | z
    · subst z; exact g_neOA P1 ha rfl
    · subst z; have := P4.fn ha; unfold k_n at hn; omega
    · subst z; have := P5.fn ha; unfold k_n at hn; omega
    · subst z; have := hwa.fn ha; unfold k_n at hn; omega
  have k01 : k_F (O_sS po pf pt kk wa va be fr M0) r M0 M1 := (k_F.of f1 npr).up fun _ z => z.elim (fun z => Or.inl (Or.inl z)) fun z => Or.inr (Or.inl z)
  refine ⟨fun g0 => ?_, fun g0 => hq1 g0 M1 k01 hP1 hp1⟩
  obtain ⟨hk3, hn1, hn4, hso0⟩ := O_sf_0 g0
  obtain ⟨D1, eD, hkids, hkl⟩ := hs.kids (Or.inl hk3)
  rw [g0]
  have hs1 : b_st (g_i M1 b) 246408 pe De e.1 e.2.1 e.2.2 := by rw [ib.1]; exact ⟨hs.1, hs.2.1, hs.2.2.1, he4, by omega⟩
  refine ⟨b, by rw [iso.2]; exact s2, c_fi2 (d := d + 60) (f1.A s3) (by decide) hs1 ?_⟩
  intro _ _ _
  have hS1 : S_B so b M1 := ⟨f1.O s1, by rw [iso.2]; exact s2, f1.A s3⟩
  have hbt1 : S_belt so b be g ds M1 := by
    obtain ⟨a1, a2, a3⟩ := hbt
    refine ⟨by rw [iso.1]; exact a1, a2, fun i es hi => ?_⟩
    obtain ⟨p, p1, p2, p3⟩ := a3 i es hi
    exact ⟨p, by rw [ibe.1]; exact p1, by rw [ib.1]; exact p2, p3⟩
  have hfS : ∀ y, O_fS po pf pt kk M1 y → O_fS po pf pt kk M0 y := fun y z => by
    rcases z with z | ⟨s, hs, z⟩
    · exact Or.inl z
    · exact Or.inr ⟨s, hs, by rwa [ikk.2] at z⟩
  refine c_fillKeys (d := d) (g := g) (ds := ds) (cs := b_ch e.2.2) (D1 := D1) hS1 (by rw [iso.2]; exact h0) (by rw [iso.2]; exact h2) (by rw [iso.2]; exact h6) (by rw [iso.2]; exact h11) (by rw [iso.2]; exact h12) hP1 hp1 (f1.A hbe) (f1.A hkk) (f1.A hwa) (fun s hs => ?_) (fun s s2 row q1 q2 q3 q4 => hinj s s2 row q1 q2 (by rwa [ikk.2] at q3) (by rwa [ikk.2] at q4)) hL hbt1 (by rw [ib.1]; exact hkids) hn4 (fun i x hx => ?_) hpeR ⟨by decide, by decide⟩ fun M2 v4 f2 hP2 hp2 hv4 hro2 => ?_
  · obtain ⟨row, z1, z2, z3, -⟩ := hrows s hs
    exact ⟨row, by rw [ikk.2]; exact z1, f1.A z2, z3⟩
  · obtain ⟨z1, z2⟩ := O_so_0 hso0 x (List.mem_of_getElem? hx)
    exact ⟨hw1 g0 i x hx, z1, z2⟩
  -- in order
  have k12 : k_F (O_sS po pf pt kk wa va be fr M0) r M1 M2 := f2.up fun y z => Or.inl (hfS y z)
  have k02 := k01.tr k12
  have nfS : ∀ {x t : Nat} {n : Int}, g_A M0 x t n → x ≠ po → x ≠ pf → x ≠ pt → (∀ (s row : Nat), s < 4 → g_r M0 kk s = some row → row ≠ x) → ¬ O_fS po pf pt kk M1 x := fun hx q1 q2 q3 q4 z => by
    rcases hfS _ z with (z | z | z) | ⟨s, hs, z⟩
    · exact q1 z
    · exact q2 z
    · exact q3 z
    · exact q4 s _ hs z rfl
  have hrA : ∀ (s row : Nat), s < 4 → g_r M0 kk s = some row → g_A M0 row 1 200 ∧ row ≠ be ∧ row ≠ fr ∧ row ≠ va := fun s row hs hr => by
    obtain ⟨row2, z1, z2⟩ := hrows s hs
    rw [hr] at z1
    cases z1
    exact z2
  have iso2 : g_i M2 so = g_i M1 so ∧ g_r M2 so = g_r M1 so := f2.O hP1 (f1.O s1) (by decide) fun z => by
    rcases hfS _ z with (z | z | z) | ⟨s, hs, z⟩
    · exact n1 z
    · exact n2 z
    · exact n3 z
    · exact g_neOA s1 (hrA s so hs z).1 rfl
  have iwa2 : g_i M2 wa = g_i M1 wa := (f2.A hP1 (f1.A hwa) (fun _ z => by unfold k_n at z; omega) (nfS hwa (g_neOA P1 hwa).symm (g_neAA hwa P4 (by omega)) (g_neAA hwa P5 (by omega)) fun s row hs hr => g_neAA (hrA s row hs hr).1 hwa (by omega))).1
  have ikk2 : g_r M2 kk = g_r M1 kk := (f2.A hP1 (f1.A hkk) (fun z => absurd z (by decide)) (nfS hkk (g_neOA P1 hkk).symm (g_neAA hkk P4 (by omega)) (g_neAA hkk P5 (by omega)) fun s row hs hr => g_neAA (hrA s row hs hr).1 hkk (by omega))).2
  have ib2 : g_i M2 b = g_i M1 b := (f2.A hP1 (f1.A s3) (fun z => absurd z (by decide)) (nfS s3 n5.symm n6.symm n7.symm fun s row hs hr => g_neAA (hrA s row hs hr).1 s3 (by omega))).1
  have ibe2 : g_i M2 be = g_i M1 be := (f2.A hP1 (f1.A hbe) (fun _ z => by unfold k_n at z; omega) (nfS hbe (g_neOA P1 hbe).symm (g_neAA hbe P4 (by omega)) (g_neAA hbe P5 (by omega)) fun s row hs hr => (hrA s row hs hr).2.1)).1
  have hup : ∀ {x t : Nat} {n : Int}, g_A M0 x t n → g_A M2 x t n := fun h => (f1.A h).up f2.1
  have hT2 : O_tab so b kk wa (b_ch e.2.2) ds M2 := by
    refine ⟨⟨(f1.O s1).up f2.1, by rw [iso2.2, iso.2]; exact s2, hup s3⟩, by rw [iso2.2, iso.2]; exact h11, hup hkk, by rw [iso2.2, iso.2]; exact h12, hup hwa, hn4, fun s x hx => ?_⟩
    obtain ⟨z1, z2⟩ := O_so_0 hso0 x (List.mem_of_getElem? hx)
    obtain ⟨row, z3, z4⟩ := hro2 s x hx
    exact ⟨by rw [iwa2]; exact hw1 g0 s x hx, z1, row, by rw [ikk2]; exact z3, z4⟩
  obtain ⟨h14, hok, hpl⟩ := id hbt
  refine c_sortLoops (d := d + 14) (ds := ds) (va := va) (be := be) (fr := fr) hT2 (by rw [iso2.2, iso.2]; exact h10) (by rw [iso2.2, iso.2]; exact h6) (by rw [iso2.2, iso.2]; exact h7) (hup hva) (hup hbe) (hup hfr) ⟨hvb, hvf, hbf⟩ (fun s row hs hr => ?_) ⟨g_neAA hwa hva (by omega), g_neAA hwa hfr (by omega), g_neAA hwa hbe (by omega)⟩ (by rw [iso2.1, iso.1]; exact h14) hok.1 hpeR ⟨by decide, by decide⟩ hv4 fun M3 f3 hbe3 => ?_
  · rw [ikk2, ikk.2] at hr
    obtain ⟨-, z1, z2, z3⟩ := hrA s row (by omega) hr
    exact ⟨z3, z2, z1⟩
  have nv : ¬ (r = va ∨ r = fr ∨ r = be) := fun z => by
    rcases z with z | z | z
    · exact g_neOA hP0.1 hva z
    · exact g_neOA hP0.1 hfr z
    · exact g_neOA hP0.1 hbe z
  have hP3 : k_P M3 r b c e0 L := hP2.of f3 nv fun a n ha hn z => by
    rcases z with z | z | z
    · subst z; have := (hup hva).fn ha; unfold k_n at hn; omega
    · subst z; have := (hup hfr).fn ha; unfold k_n at hn; omega
    · subst z; have := (hup hbe).fn ha; unfold k_n at hn; omega
  have k03 : k_F (O_sS po pf pt kk wa va be fr M0) r M0 M3 := k02.tr ((k_F.of f3 nv).up fun _ z => Or.inr (Or.inr z))
  have iso3 := f3.2 so fun z => by
    rcases z with z | z | z
    · exact g_neOA s1 hva z
    · exact g_neOA s1 hfr z
    · exact g_neOA s1 hbe z
  have ib3 := f3.2 b fun z => by
    rcases z with z | z | z
    · exact g_neAA s3 hva (by omega) z
    · exact g_neAA s3 hfr (by omega) z
    · exact g_neAA s3 hbe (by omega) z
  have ipo3 := f3.2 po fun z => by
    rcases z with z | z | z
    · exact g_neOA P1 hva z
    · exact g_neOA P1 hfr z
    · exact g_neOA P1 hbe z
  have hp3 : p_P M3 po pf pt := by
    obtain ⟨q1, q2, q3, q4, q5, q6⟩ := hp2
    exact ⟨f3.O q1, by rw [ipo3.2]; exact q2, by rw [ipo3.2]; exact q3, f3.A q4, f3.A q5, q6⟩
  refine hq2 g0 M3 k03 hP3 hp3 ⟨?_, S_ok_perm (O_srt_perm _ _) hok, fun i es hi => ?_⟩
  · rw [iso3.1, iso2.1, iso.1, O_srt_len]
    exact h14
  · obtain ⟨k, hk, hdk⟩ := O_srt_at hi
    obtain ⟨p, p1, p2, p3⟩ := hpl k es hdk
    refine ⟨p, ?_, ?_, p3⟩
    · rw [hbe3 i k hk, ibe2, ibe.1]
      exact p1
    · rw [ib3.1, ib2, ib.1]
      exact p2
end CSORT
