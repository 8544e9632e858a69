/-! TREES OF THE REFERENCE: two neighbours are mended -/
section RME
variable {m b d x : Nat} {ρ : Nat → Nat} {M M1 : g_M}
theorem V_hd_nb (h : Nat) (w : V_W) (l : List (N_i V_W h)) : V_nb h (V_hd h w l) = V_nb h l := by
  cases h with
  | zero => rfl
  | succ h => cases l <;> rfl
theorem V_mi_er (h : Nat) (z : N_i V_W h) : V_e (V_mi h z) = V_e (N_f h z) := by cases h <;> rfl
theorem V_k_mi {h : Nat} (hh : h = 0) (z : N_i V_W h) : V_k h z = V_s (V_mi h z) := by
  subst hh
  rfl
theorem R_nd3 {h n : Nat} {A B : List (N_i V_W (h + 1))} {u v : N_i V_W (h + 1)} (hnd : (V_ns (h + 1) n (A ++ u :: v :: B)).Nodup) : (n ≠ V_n u.1 ∧ n ≠ V_n v.1 ∧ V_n u.1 ≠ V_n v.1) ∧ ∀ k ∈ V_nb h u.2 ++ V_nb h v.2, ¬ (k = n ∨ k = V_n u.1 ∨ k = V_n v.1) := by
  have hns : V_ns (h + 1) n (A ++ u :: v :: B) = n :: (V_nb (h + 1) A ++ ((V_n u.1 :: V_nb h u.2) ++ ((V_n v.1 :: V_nb h v.2) ++ V_nb (h + 1) B))) := by
    rw [V_ns_b, V_nb_app, ← V_ns_b, ← V_ns_b]
    rfl
  rw [hns] at hnd
  obtain ⟨n1, n2⟩ := List.nodup_cons.mp hnd
  obtain ⟨n3, n4, n5⟩ := List.nodup_append.mp n2
  obtain ⟨n6, n7, n8⟩ := List.nodup_append.mp n4
  obtain ⟨n9, n10, n11⟩ := List.nodup_append.mp n7
  obtain ⟨n12, n13⟩ := List.nodup_cons.mp n6
  obtain ⟨n14, n15⟩ := List.nodup_cons.mp n9
  refine ⟨⟨fun z => n1 (by rw [z]; simp), fun z => n1 (by rw [z]; simp), fun z => n8 _ List.mem_cons_self (V_n v.1) (by simp) z⟩, fun k hk => ?_⟩
  rcases List.mem_append.mp hk with g | g
  · rintro (z | z | z)
    · exact n1 (by rw [← z]; simp [g])
    · exact n12 (by rw [← z]; exact g)
    · exact n8 k (List.mem_cons_of_mem _ g) (V_n v.1) (by simp) z
  · rintro (z | z | z)
    · exact n1 (by rw [← z]; simp [g])
    · exact n8 (V_n u.1) List.mem_cons_self k (by simp [g]) z.symm
    · exact n14 (by rw [← z]; exact g)
/-- a child is made anew -/
theorem R_D.mk3 (hR : R_rw m b ρ M) {h n k : Nat} {u v : N_i V_W (h + 1)} {l : List (N_i V_W h)} {ps : List (Int × Int)} (f : e_fr (R_C m ρ x (fun j => j = n ∨ j = V_n u.1 ∨ j = V_n v.1)) M M1) (h3 : ∀ k ∈ V_nb h u.2 ++ V_nb h v.2, ¬ (k = n ∨ k = V_n u.1 ∨ k = V_n v.1)) (hk : k < 600) (hl : l.length ≤ 9) (no : R_no ρ x k M1 (if h = 0 then 1 else 0) ps) (hps : R_ps ps) (hf : ps.map Prod.fst = B_il (l.map (V_k h))) (hm : R_mk h l ps) (hbl : R_bl b ρ x M h l) (hs : ∀ j ∈ V_nb h l, j ∈ V_nb h u.2 ++ V_nb h v.2) : R_D b ρ x M1 h k l :=
  R_D_u.mpr ⟨hk, hl, ⟨ps, no, hps, hf, hm⟩, hbl.fr f (fun y q z => R_C_eA hR z) fun j hj y q z => R_C_av (A := fun j => j = n ∨ j = V_n u.1 ∨ j = V_n v.1) hR (h3 j (hs j hj)) z⟩
theorem R_us.sm {us : List Nat} (h : R_us ρ x M us) (hs : ∀ q, g_i M1 (ρ 48) q = g_i M (ρ 48) q) : R_us ρ x M1 us := ⟨fun k hk => by rw [hs]; exact h.1 k hk, h.2⟩
theorem R_us.er {us : List Nat} {k : Nat} (h : R_us ρ x M us) (hk : k ∈ us) (h0 : g_i M1 (ρ 48) (600 * x + k) = 0) (hs : ∀ q, q ≠ 600 * (x : Int) + k → g_i M1 (ρ 48) q = g_i M (ρ 48) q) : R_us ρ x M1 (us.erase k) := by
  refine ⟨fun j hj => ?_, h.2.1.erase k, fun j hj => h.2.2 j (List.mem_of_mem_erase hj)⟩
  by_cases g : j = k
  · rw [g, h0, if_neg fun z => (h.2.1.mem_erase_iff.mp z).1 rfl]
  · rw [hs _ (by omega), h.1 j hj]
    by_cases g2 : j ∈ us
    · rw [if_pos g2, if_pos (h.2.1.mem_erase_iff.mpr ⟨g, g2⟩)]
    · rw [if_neg g2, if_neg fun z => g2 (List.mem_of_mem_erase z)]
theorem V_us_uv {h : Nat} {A B : List (N_i V_W (h + 1))} {u v : N_i V_W (h + 1)} : (∀ i ∈ V_us h u.2, i ∈ V_us (h + 1) (A ++ u :: v :: B)) ∧ (∀ i ∈ V_us h v.2, i ∈ V_us (h + 1) (A ++ u :: v :: B)) ∧ V_s v.1 ∈ V_us (h + 1) (A ++ u :: v :: B) := by
  refine ⟨fun i hi => ?_, fun i hi => ?_, ?_⟩
  · rw [V_us_s]
    exact List.mem_append_right _ (List.mem_flatMap.mpr ⟨u, by simp, hi⟩)
  · rw [V_us_s]
    exact List.mem_append_right _ (List.mem_flatMap.mpr ⟨v, by simp, hi⟩)
  · rw [V_us_s]
    refine List.mem_append_left _ (List.mem_map.mpr ⟨v, ?_, rfl⟩)
    cases A with
    | nil => exact List.mem_cons_self
    | cons a A => exact List.mem_append_right _ (List.mem_cons_of_mem _ List.mem_cons_self)
theorem R_ff (h : Nat) : ((if h = 0 then (1 : Int) else 0) = 0 ∨ (if h = 0 then (1 : Int) else 0) = 1) ∧ (0 < h → (if h = 0 then (1 : Int) else 0) = 0) ∧ (h = 0 → (if h = 0 then (1 : Int) else 0) = 1) := by
  refine ⟨?_, fun z => if_neg (by omega), fun z => if_pos z⟩
  split
  · exact Or.inr rfl
  · exact Or.inl rfl
theorem e_mJ {Q : g_M → Prop} {h n : Nat} {us : List Nat} {A B : List (N_i V_W (h + 1))} {u v : N_i V_W (h + 1)} (hR : R_rw m b ρ M) (hx : x < 8) (hD : R_D b ρ x M (h + 1) n (A ++ u :: v :: B)) (hnd : (V_ns (h + 1) n (A ++ u :: v :: B)).Nodup) (hin : ∀ k ∈ V_ns (h + 1) n (A ++ u :: v :: B), k ∈ us) (hus : R_us ρ x M us) (hun : u.2 ≠ []) (huv : u.2.length + v.2.length ≤ 9) (hq : R_gq m b ρ x (h + 1) n us (A ++ u :: v :: B) (A.map (V_er (h + 1)) ++ ([N_mg h (V_er (h + 1) u) (V_er (h + 1) v)] ++ B.map (V_er (h + 1)))) M Q) : g_Call (d + 4) 382 [.ref m, g_n x, g_n n, g_n A.length] M (g_qV Q) := by
  obtain ⟨a1, a2, hev, du, dv, PA, m1, PB, p1, p2, p3, p4, p5, p6, p7⟩ := hD.two
  obtain ⟨⟨d1, d2, d3⟩, d4⟩ := R_nd3 hnd
  obtain ⟨u1, u2, ⟨pl, u3, u4, u5, u6⟩, u7⟩ := R_D_u.mp du
  obtain ⟨v1, v2, ⟨pr, v3, v4, v5, v6⟩, v7⟩ := R_D_u.mp dv
  have lu := R_ps_len (n := n) (f := 0) u5
  have lv := R_ps_len (n := n) (f := 0) v5
  have lA := R_ps_len (n := n) (f := 0) p4
  have lB := R_ps_len (n := n) (f := 0) p5
  rw [List.length_map] at lu lv lA lB
  have hs1500 := hev.1
  have hvin : V_n v.1 ∈ us := hin _ (by
    rw [V_ns_b]
    refine List.mem_cons_of_mem _ (List.mem_flatMap.mpr ⟨v, by simp, V_ns_m h _ _⟩))
  rw [← p3]
  refine e_join (d := d) hR hx a1 u1 v1 d1 d2 d3 p1 (by rw [List.length_append, List.length_cons, List.length_cons] at a2 ⊢; omega) p2 u3 u4 v3 v4 (by omega) fun M1 f1 no1 no2 h48 h48s => ?_
  have hbl := (u7.ap (v7.hd hev)).fr f1 (fun y q z => R_C_eA hR z) fun j hj y q z => R_C_av (A := fun j => j = n ∨ j = V_n u.1 ∨ j = V_n v.1) hR (d4 j (by rw [V_nb_app, V_hd_nb] at hj; exact hj)) z
  have hDu : R_D b ρ x M1 h (V_n u.1) (u.2 ++ V_hd h v.1 v.2) := by
    refine R_D_u.mpr ⟨u1, by rw [List.length_append, V_hd_len]; exact huv, ⟨_, no2, fun y hy => ?_, ?_, u6.ap (by omega) hun fun z => v6.hd (by omega) z⟩, hbl⟩
    · rcases List.mem_append.mp hy with g | g
      · exact u4 y g
      · exact R_hd_ps (v := ((V_s v.1 : Nat) : Int)) ⟨by omega, by omega⟩ v4 y g
    · rw [List.map_append, R_hd_fst, u5, v5, List.map_append, V_hd_k, B_il_app]
  obtain ⟨w1, w2, w3⟩ := V_us_uv (A := A) (B := B) (u := u) (v := v)
  obtain ⟨D1, F1⟩ := R_D.nb (T := []) (y := N_mk h u.1 (u.2 ++ V_hd h v.1 v.2)) hR hD hnd f1 (fun y hy => p2 y (by
    rcases List.mem_append.mp hy with g | g
    · exact List.mem_append_left _ g
    · rcases List.mem_cons.mp g with g | g
      · rw [g]
        simp
      · exact List.mem_append_right _ (List.mem_cons_of_mem _ (List.mem_cons_of_mem _ g)))) p3 p4 p5 p6 p7 no1 rfl (by simp only [List.length_append, List.length_cons] at a2 ⊢; simp only [List.length_nil]; omega) (fun z hz => absurd hz (by simp)) fun z hz => by
      rw [List.mem_singleton.mp hz]
      exact hDu
  refine hq M1 _ (us.erase (V_n v.1)) [V_n v.1] F1 D1 ?_ (hus.er hvin h48 h48s) (List.perm_cons_erase hvin) ?_ (V_us_nb rfl (fun i hi => ?_) fun z hz => absurd hz (by simp))
  · rw [V_er_mg, List.map_append, List.map_append]
    rfl
  · rw [V_ns_b, V_ns_b, V_nb_app, V_nb_app]
    have e1 : V_nb (h + 1) (u :: v :: B) = (V_n u.1 :: V_nb h u.2) ++ ((V_n v.1 :: V_nb h v.2) ++ V_nb (h + 1) B) := by
      rw [← V_ns_b, ← V_ns_b]
      rfl
    have e2 : V_nb (h + 1) ((N_mk h u.1 (u.2 ++ V_hd h v.1 v.2) :: []) ++ B) = (V_n u.1 :: (V_nb h u.2 ++ V_nb h v.2)) ++ V_nb (h + 1) B := by
      rw [← V_hd_nb h v.1 v.2, ← V_nb_app, ← V_ns_b]
      rfl
    rw [e1, e2]
    refine List.perm_iff_count.mpr fun a => ?_
    simp only [List.count_append, List.count_cons, List.count_nil]
    omega
  · rcases V_ua_ap (show i ∈ V_us h (u.2 ++ V_hd h v.1 v.2) from hi) with g | g
    · exact w1 i g
    · rcases V_ua_hd g with g | g
      · rw [g]
        exact w3
      · exact w2 i g
theorem e_mA {Q : g_M → Prop} {h n : Nat} {us : List Nat} {A B : List (N_i V_W (h + 1))} {u v : N_i V_W (h + 1)} {T : List (N_i V_W h)} {y : N_i V_W h} (hR : R_rw m b ρ M) (hx : x < 8) (hD : R_D b ρ x M (h + 1) n (A ++ u :: v :: B)) (hnd : (V_ns (h + 1) n (A ++ u :: v :: B)).Nodup) (hus : R_us ρ x M us) (hT : u.2 = T ++ [y]) (hTn : T ≠ []) (hvn : v.2 ≠ []) (hl8 : T.length ≤ 8) (hv8 : v.2.length ≤ 8) (hq : R_gq m b ρ x (h + 1) n us (A ++ u :: v :: B) (A.map (V_er (h + 1)) ++ (N_bl h (V_er (h + 1) u) (V_er (h + 1) v) ++ B.map (V_er (h + 1)))) M Q) : g_Call (d + 4) 380 [.ref m, g_n x, g_n n, g_n ((A.length + 1 : Nat) : Int)] M (g_qV Q) := by
  obtain ⟨a1, a2, hev, du, dv, PA, m1, PB, p1, p2, p3, p4, p5, p6, p7⟩ := hD.two
  obtain ⟨⟨d1, d2, d3⟩, d4⟩ := R_nd3 hnd
  rw [hT] at du
  obtain ⟨u1, u2, ⟨pu, u3, u4, u5, u6⟩, u7⟩ := R_D_u.mp du
  obtain ⟨v1, v2, ⟨pc, v3, v4, v5, v6⟩, v7⟩ := R_D_u.mp dv
  have lv := R_ps_len (n := n) (f := 0) v5
  have lA := R_ps_len (n := n) (f := 0) p4
  have lB := R_ps_len (n := n) (f := 0) p5
  rw [List.length_map] at lv lA lB
  have hs1500 := hev.1
  rw [List.map_append, B_il_app] at u5
  obtain ⟨pl, r, e1, e2, e3⟩ := List.map_eq_append_iff.mp u5
  obtain ⟨⟨w, nx⟩, r2, e4, e5, e6⟩ := List.map_eq_cons_iff.mp (show r.map Prod.fst = ((V_k h y : Nat) : Int) :: [] from e3)
  have e6 : r2 = [] := List.map_eq_nil_iff.mp e6
  subst e6
  subst e4
  subst e1
  have e5 : w = ((V_k h y : Nat) : Int) := e5
  have lpl := congrArg List.length e2
  rw [List.length_map, B_il_len, List.length_map] at lpl
  have hT0 : 0 < T.length := List.length_pos_iff.mpr hTn
  obtain ⟨g1, g2, g3⟩ := R_mk_split (by omega) hT0 u6
  have g3 : 0 < h → nx = ((V_s (V_mi h y) : Nat) : Int) := g3
  obtain ⟨f0, f1, f2⟩ := R_ff h
  rw [← p3]
  have hpcn : pc ≠ [] := fun z => by
    rw [z, List.length_nil] at lv
    exact hvn (List.length_eq_zero_iff.mp lv.symm)
  refine e_fromAhead (d := d) hR hx a1 u1 v1 d1 d2 d3 p1 (by rw [List.length_append, List.length_cons, List.length_cons] at a2 ⊢; omega) p2 u3 u4 (by omega) v3 v4 (by omega) hpcn f0 fun M1 F1 no1 no2 no3 h48 => ?_
  have hmark : (if (if h = 0 then (1 : Int) else 0) = 1 then w else nx) = ((V_s (V_mi h y) : Nat) : Int) := by
    rcases Nat.eq_zero_or_pos h with g | g
    · rw [f2 g, if_pos rfl, e5, V_k_mi g]
    · rw [f1 g, if_neg (by decide), g3 g]
  rw [hmark] at no1
  -- the entry or mark that comes
  have hym : R_ba b ρ x M h [y] := u7.tl hTn
  have hye : V_s (V_mi h y) < 1500 ∧ R_e b ρ x (V_s (V_mi h y)) M (V_e (V_mi h y)) := by
    have : R_e b ρ x (V_s (V_mi h y)) M (V_e (V_mi h y)) := by
      cases h with
      | zero => exact hym y List.mem_cons_self
      | succ h => exact (hym y List.mem_cons_self).1
    exact ⟨this.1, this⟩
  have hDu : R_D b ρ x M1 h (V_n u.1) T := R_D.mk3 (u := u) (v := v) hR F1 d4 u1 (by omega) no2 (fun z hz => u4 z (List.mem_append_left _ hz)) e2 g1 (u7.sub (fun z hz => List.mem_append_left _ hz) fun z hz => by
    cases T with
    | nil => exact absurd rfl hTn
    | cons a T => exact List.mem_append_left _ hz) fun j hj => by
    rw [hT, V_nb_app]
    exact List.mem_append_left _ (List.mem_append_left _ hj)
  have hDv : R_D b ρ x M1 h (V_n v.1) ([y] ++ V_hd h v.1 v.2) := by
    refine R_D.mk3 (u := u) (v := v) hR F1 d4 v1 (by rw [List.length_append, V_hd_len, List.length_singleton]; omega) no3 (fun z hz => ?_) ?_ ?_ (hym.bl.ap (v7.hd hev)) fun j hj => ?_
    · rcases List.mem_cons.mp hz with g | g
      · rw [g]
        exact ⟨(u4 (w, nx) (by simp)).1, ⟨by show (-2147483648 : Int) ≤ 0; decide, by show (0 : Int) ≤ 2147483647; decide⟩⟩
      · split at g
        · exact v4 z g
        · exact R_hd_ps (v := ((V_s v.1 : Nat) : Int)) ⟨by omega, by omega⟩ v4 z g
    · rw [List.map_cons, List.map_append, List.map_singleton, V_hd_k, List.singleton_append, B_il_c, ← v5, e5]
      congr 1
      split
      · rfl
      · exact R_hd_fst _ _
    · refine R_mk.ap (P := [(w, 0)]) (L := [y]) (R := if (if h = 0 then (1 : Int) else 0) = 1 then pc else R_hd ((V_s v.1 : Nat) : Int) pc) ?_ rfl (by simp) fun z => ?_
      · cases h with
        | zero => exact trivial
        | succ h => rfl
      · rw [f1 z, if_neg (by decide)]
        exact v6.hd lv z
    · rw [V_nb_app, V_hd_nb] at hj
      rw [hT, V_nb_app]
      rcases List.mem_append.mp hj with g | g
      · exact List.mem_append_left _ (List.mem_append_right _ g)
      · exact List.mem_append_right _ g
  obtain ⟨W, hW⟩ : ∃ W : V_W, W = ((V_s (V_mi h y), V_n v.1), V_e (V_mi h y)) := ⟨_, rfl⟩
  have hWn : V_n W = V_n v.1 := by rw [hW]; rfl
  have hWs : V_s W = V_s (V_mi h y) := by rw [hW]; rfl
  have hWe : V_e W = V_e (V_mi h y) := by rw [hW]; rfl
  obtain ⟨w1, w2, w3⟩ := V_us_uv (A := A) (B := B) (u := u) (v := v)
  obtain ⟨D1, FF⟩ := R_D.nb (T := [N_mk h W (y :: V_hd h v.1 v.2)]) (y := N_mk h u.1 T) hR hD hnd F1 (fun z hz => p2 z (by
    rcases List.mem_append.mp hz with g | g
    · exact List.mem_append_left _ g
    · rcases List.mem_cons.mp g with g | g
      · rw [g]
        simp
      · exact List.mem_append_right _ (List.mem_cons_of_mem _ (List.mem_cons_of_mem _ g)))) p3 p4 p5 p6 p7 (by
    have : V_pr [N_mk h W (y :: V_hd h v.1 v.2)] = [(((V_n v.1 : Nat) : Int), ((V_s (V_mi h y) : Nat) : Int))] := by
      show [(((V_n W : Nat) : Int), ((V_s W : Nat) : Int))] = _
      rw [hWn, hWs]
    rw [this]
    exact no1) rfl (by simp only [List.length_append, List.length_cons, List.length_nil] at a2 ⊢; omega) (fun z hz => by
    rw [List.mem_singleton.mp hz]
    show V_s W < 1500 ∧ R_e b ρ x (V_s W) M1 (V_e W)
    rw [hWs, hWe]
    exact ⟨hye.1, hye.2.fr F1 fun y q z => R_C_eA hR z⟩) fun z hz => by
    rcases List.mem_cons.mp hz with g | g
    · rw [g]
      exact hDu
    · rw [List.mem_singleton.mp g]
      show R_D b ρ x M1 h (V_n W) (y :: V_hd h v.1 v.2)
      rw [hWn]
      exact hDv
  refine hq M1 _ us [] FF D1 ?_ (hus.sm h48) (List.Perm.refl _) ?_ (V_us_nb rfl (fun i hi => ?_) fun z hz => ?_)
  · rw [V_er_bl hT W (by rw [hWe, V_mi_er]), List.map_append, List.map_append]
    rfl
  · rw [V_ns_b, V_ns_b, V_nb_app, V_nb_app]
    have e1 : V_nb (h + 1) (u :: v :: B) = (V_n u.1 :: (V_nb h T ++ V_nb h [y])) ++ ((V_n v.1 :: V_nb h v.2) ++ V_nb (h + 1) B) := by
      rw [← V_nb_app, ← hT, ← V_ns_b, ← V_ns_b]
      rfl
    have e2 : V_nb (h + 1) ((N_mk h u.1 T :: [N_mk h W (y :: V_hd h v.1 v.2)]) ++ B) = (V_n u.1 :: V_nb h T) ++ ((V_n v.1 :: (V_nb h [y] ++ V_nb h v.2)) ++ V_nb (h + 1) B) := by
      rw [← V_hd_nb h v.1 v.2, ← V_nb_app, ← V_ns_b, ← V_ns_b, ← hWn]
      rfl
    rw [e1, e2]
    refine List.perm_iff_count.mpr fun a => ?_
    simp only [List.count_append, List.count_cons, List.count_nil]
    omega
  · have hi : i ∈ V_us h T := hi
    refine w1 i ?_
    rw [hT]
    refine V_us_sb (fun z hz => List.mem_append_left _ hz) (fun z hz => ?_) i hi
    cases T with
    | nil => exact absurd rfl hTn
    | cons a T => exact List.mem_append_left _ hz
  · rw [List.mem_singleton.mp hz]
    have hyy : ∀ i, V_ua h [y] i → i ∈ V_us (h + 1) (A ++ u :: v :: B) := fun i hi => w1 i (by rw [hT]; exact V_ua_tl hTn hi)
    refine ⟨?_, fun i hi => ?_⟩
    · show V_s W ∈ _
      rw [hWs]
      exact hyy _ (Or.inr (List.mem_singleton.mpr rfl))
    · rcases V_ua_ap (show i ∈ V_us h ([y] ++ V_hd h v.1 v.2) from hi) with g | g
      · exact hyy i (Or.inl g)
      · rcases V_ua_hd g with g | g
        · rw [g]
          exact w3
        · exact w2 i g
theorem e_mB {Q : g_M → Prop} {h n : Nat} {us : List Nat} {A B : List (N_i V_W (h + 1))} {u v : N_i V_W (h + 1)} {r : List (N_i V_W h)} {y r1 : N_i V_W h} (hR : R_rw m b ρ M) (hx : x < 8) (hD : R_D b ρ x M (h + 1) n (A ++ u :: v :: B)) (hnd : (V_ns (h + 1) n (A ++ u :: v :: B)).Nodup) (hus : R_us ρ x M us) (hT : v.2 = [y] ++ r1 :: r) (hun : u.2 ≠ []) (hr7 : r.length ≤ 7) (hu8 : u.2.length ≤ 8) (hq : R_gq m b ρ x (h + 1) n us (A ++ u :: v :: B) (A.map (V_er (h + 1)) ++ (N_br h (V_er (h + 1) u) (V_er (h + 1) v) ++ B.map (V_er (h + 1)))) M Q) : g_Call (d + 4) 381 [.ref m, g_n x, g_n n, g_n A.length] M (g_qV Q) := by
  obtain ⟨a1, a2, hev, du, dv, PA, m1, PB, p1, p2, p3, p4, p5, p6, p7⟩ := hD.two
  obtain ⟨⟨d1, d2, d3⟩, d4⟩ := R_nd3 hnd
  rw [hT] at dv
  obtain ⟨u1, u2, ⟨pc, u3, u4, u5, u6⟩, u7⟩ := R_D_u.mp du
  obtain ⟨v1, v2, ⟨pv, v3, v4, v5, v6⟩, v7⟩ := R_D_u.mp dv
  have lu := R_ps_len (n := n) (f := 0) u5
  have lA := R_ps_len (n := n) (f := 0) p4
  have lB := R_ps_len (n := n) (f := 0) p5
  rw [List.length_map] at lu lA lB
  have hs1500 := hev.1
  rw [List.map_append, List.map_cons, B_il_app, B_il_c] at v5
  obtain ⟨⟨w, g0⟩, r2, e4, e5, e6⟩ := List.map_eq_cons_iff.mp (show pv.map Prod.fst = ((V_k h y : Nat) : Int) :: (((V_k h r1 : Nat) : Int) :: B_il (r.map (V_k h))) from v5)
  obtain ⟨p1r, pr, e7, e8, e9⟩ := List.map_eq_cons_iff.mp e6
  subst e7
  subst e4
  have e5 : w = ((V_k h y : Nat) : Int) := e5
  have lpr := congrArg List.length e9
  rw [List.length_map, B_il_len, List.length_map] at lpr
  obtain ⟨g1, g2, g3⟩ := R_mk_split (L4 := [y]) (P4 := [(w, g0)]) rfl Nat.one_pos v6
  obtain ⟨f0, f1, f2⟩ := R_ff h
  rw [← p3]
  refine e_fromBehind (d := d) hR hx a1 u1 v1 d1 d2 d3 p1 (by rw [List.length_append, List.length_cons, List.length_cons] at a2 ⊢; omega) p2 u3 u4 (by omega) v3 v4 (by omega) f0 fun M1 F1 no1 no2 no3 h48 => ?_
  have hmark : (if (if h = 0 then (1 : Int) else 0) = 1 then p1r.1 else p1r.2) = ((V_s (V_mi h r1) : Nat) : Int) := by
    rcases Nat.eq_zero_or_pos h with g | g
    · rw [f2 g, if_pos rfl, e8, V_k_mi g]
    · rw [f1 g, if_neg (by decide), g3 g]
  rw [hmark] at no1
  have hr1 : R_ba b ρ x M h (r1 :: r) := v7.tl (by simp)
  have hye : V_s (V_mi h r1) < 1500 ∧ R_e b ρ x (V_s (V_mi h r1)) M (V_e (V_mi h r1)) := by
    have : R_e b ρ x (V_s (V_mi h r1)) M (V_e (V_mi h r1)) := by
      cases h with
      | zero => exact hr1 r1 List.mem_cons_self
      | succ h => exact (hr1 r1 List.mem_cons_self).1
    exact ⟨this.1, this⟩
  have hyb : R_bl b ρ x M h [y] := v7.sub (fun z hz => List.mem_append_left _ hz) fun z hz => absurd hz (by simp)
  have hDv : R_D b ρ x M1 h (V_n v.1) (r1 :: r) := R_D.mk3 (u := u) (v := v) hR F1 d4 v1 (by rw [List.length_cons]; omega) no3 (fun z hz => v4 z (List.mem_cons_of_mem _ hz)) (by rw [List.map_cons, List.map_cons, B_il_c, e8, e9]) g2 hr1.bl fun j hj => by
    rw [hT, V_nb_app]
    exact List.mem_append_right _ (List.mem_append_right _ hj)
  have hDu : R_D b ρ x M1 h (V_n u.1) (u.2 ++ V_hd h v.1 [y]) := by
    refine R_D.mk3 (u := u) (v := v) hR F1 d4 u1 (by rw [List.length_append, V_hd_len, List.length_singleton]; omega) no2 (fun z hz => ?_) ?_ (u6.ap (by omega) hun fun z => g1.hd rfl z) (u7.ap (hyb.hd hev)) fun j hj => ?_
    · rcases List.mem_append.mp hz with g | g
      · exact u4 z g
      · rw [List.mem_singleton.mp g]
        exact ⟨(v4 (w, g0) List.mem_cons_self).1, ⟨by show (-2147483648 : Int) ≤ ((V_s v.1 : Nat) : Int); omega, by show ((V_s v.1 : Nat) : Int) ≤ 2147483647; omega⟩⟩
    · rw [List.map_append, List.map_append, V_hd_k, B_il_app, u5, e5]
      rfl
    · rw [V_nb_app, V_hd_nb] at hj
      rw [hT, V_nb_app]
      rcases List.mem_append.mp hj with g | g
      · exact List.mem_append_left _ g
      · exact List.mem_append_right _ (List.mem_append_left _ g)
  obtain ⟨W, hW⟩ : ∃ W : V_W, W = ((V_s (V_mi h r1), V_n v.1), V_e (V_mi h r1)) := ⟨_, rfl⟩
  have hWn : V_n W = V_n v.1 := by rw [hW]; rfl
  have hWs : V_s W = V_s (V_mi h r1) := by rw [hW]; rfl
  have hWe : V_e W = V_e (V_mi h r1) := by rw [hW]; rfl
  obtain ⟨w1, w2, w3⟩ := V_us_uv (A := A) (B := B) (u := u) (v := v)
  obtain ⟨D1, FF⟩ := R_D.nb (T := [N_mk h W (r1 :: r)]) (y := N_mk h u.1 (u.2 ++ V_hd h v.1 [y])) hR hD hnd F1 (fun z hz => p2 z (by
    rcases List.mem_append.mp hz with g | g
    · exact List.mem_append_left _ g
    · rcases List.mem_cons.mp g with g | g
      · rw [g]
        simp
      · exact List.mem_append_right _ (List.mem_cons_of_mem _ (List.mem_cons_of_mem _ g)))) p3 p4 p5 p6 p7 (by
    have : V_pr [N_mk h W (r1 :: r)] = [(((V_n v.1 : Nat) : Int), ((V_s (V_mi h r1) : Nat) : Int))] := by
      show [(((V_n W : Nat) : Int), ((V_s W : Nat) : Int))] = _
      rw [hWn, hWs]
    rw [this]
    exact no1) rfl (by simp only [List.length_append, List.length_cons, List.length_nil] at a2 ⊢; omega) (fun z hz => by
    rw [List.mem_singleton.mp hz]
    show V_s W < 1500 ∧ R_e b ρ x (V_s W) M1 (V_e W)
    rw [hWs, hWe]
    exact ⟨hye.1, hye.2.fr F1 fun y q z => R_C_eA hR z⟩) fun z hz => by
    rcases List.mem_cons.mp hz with g | g
    · rw [g]
      exact hDu
    · rw [List.mem_singleton.mp g]
      show R_D b ρ x M1 h (V_n W) (r1 :: r)
      rw [hWn]
      exact hDv
  refine hq M1 _ us [] FF D1 ?_ (hus.sm h48) (List.Perm.refl _) ?_ (V_us_nb rfl (fun i hi => ?_) fun z hz => ?_)
  · rw [V_er_br hT W (by rw [hWe, V_mi_er]), List.map_append, List.map_append]
    rfl
  · rw [V_ns_b, V_ns_b, V_nb_app, V_nb_app]
    have e1 : V_nb (h + 1) (u :: v :: B) = (V_n u.1 :: V_nb h u.2) ++ ((V_n v.1 :: (V_nb h [y] ++ V_nb h (r1 :: r))) ++ V_nb (h + 1) B) := by
      rw [← V_nb_app, ← hT, ← V_ns_b, ← V_ns_b]
      rfl
    have e2 : V_nb (h + 1) ((N_mk h u.1 (u.2 ++ V_hd h v.1 [y]) :: [N_mk h W (r1 :: r)]) ++ B) = (V_n u.1 :: (V_nb h u.2 ++ V_nb h [y])) ++ ((V_n v.1 :: V_nb h (r1 :: r)) ++ V_nb (h + 1) B) := by
      rw [← V_hd_nb h v.1 [y], ← V_nb_app, ← V_ns_b, ← V_ns_b, ← hWn]
      rfl
    rw [e1, e2]
    refine List.perm_iff_count.mpr fun a => ?_
    simp only [List.count_append, List.count_cons, List.count_nil]
    omega
  · have hi : i ∈ V_us h (u.2 ++ V_hd h v.1 [y]) := hi
    rcases V_ua_ap hi with g | g
    · exact w1 i g
    · rcases V_ua_hd g with g | g
      · rw [g]
        exact w3
      · refine w2 i ?_
        rw [hT]
        exact V_us_sb (fun z hz => List.mem_append_left _ hz) (fun z hz => absurd hz (by simp)) i g
  · rw [List.mem_singleton.mp hz]
    have hyy : ∀ i, V_ua h (r1 :: r) i → i ∈ V_us (h + 1) (A ++ u :: v :: B) := fun i hi => w2 i (by rw [hT]; exact V_ua_tl (by simp) hi)
    refine ⟨?_, fun i hi => hyy i (Or.inl hi)⟩
    show V_s W ∈ _
    rw [hWs]
    exact hyy _ (Or.inr List.mem_cons_self)
end RME
