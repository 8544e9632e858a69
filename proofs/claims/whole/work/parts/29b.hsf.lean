/-! SHELVES OF THE CLASS: documents stand one behind another -/
def H_sb (ds : List (List b_E)) : List Int := ds.flatMap fun es => b_el 3 [] (b_doc es)
def H_pls : Int → List (List b_E) → List Int
  | _, [] => []
  | p, es :: r => p :: H_pls (p + (b_el 3 [] (b_doc es)).length) r
theorem H_sb_app (A B : List (List b_E)) : H_sb (A ++ B) = H_sb A ++ H_sb B := List.flatMap_append
theorem H_sb_c (es : List b_E) (B : List (List b_E)) : H_sb (es :: B) = b_el 3 [] (b_doc es) ++ H_sb B := List.flatMap_cons
theorem H_el_len (es : List b_E) : (b_el 3 [] (b_doc es)).length = (b_doc es).length + 2 := by
  rw [b_el_len, List.length_nil]
  omega
theorem S_sum_c (es : List b_E) (B : List (List b_E)) : S_sum (es :: B) = (b_doc es).length + S_sum B := by
  unfold S_sum
  rw [List.map_cons, List.sum_cons]
theorem H_sb_len (ds : List (List b_E)) : (H_sb ds).length = S_sum ds + 2 * ds.length := by
  induction ds with
  | nil => rfl
  | cons es r ih =>
    rw [H_sb_c, List.length_append, ih, H_el_len, S_sum_c, List.length_cons]
    omega
theorem H_pls_len : ∀ (ds : List (List b_E)) (p : Int), (H_pls p ds).length = ds.length := by
  intro ds
  induction ds with
  | nil => exact fun _ => rfl
  | cons es r ih => exact fun p => congrArg (· + 1) (ih _)
theorem H_pls_app : ∀ (A B : List (List b_E)) (p : Int), H_pls p (A ++ B) = H_pls p A ++ H_pls (p + (H_sb A).length) B := by
  intro A
  induction A with
  | nil =>
    intro B p
    show H_pls p B = H_pls (p + ((0 : Nat) : Int)) B
    rw [show p + ((0 : Nat) : Int) = p by omega]
  | cons es A ih =>
    intro B p
    show p :: H_pls _ (A ++ B) = p :: (H_pls _ A ++ _)
    rw [ih, H_sb_c, List.length_append]
    congr 3
    omega
theorem H_gv {es : List b_E} (hg : X_gd 15 es) (hl : (b_doc es).length ≤ 2000) : b_gv 16 3 (b_doc es) := by
  rw [b_doc_len] at hl
  exact Or.inr ⟨Or.inl rfl, es, rfl, by omega, hg, fun z => absurd z (by decide)⟩
/-- a shelf of the class -/
def H_sf (sh b oh nh : Nat) (base : Int) (ds : List (Int × List b_E)) (gv : Int) (M : g_M) : Prop := (g_O M sh 8 ∧ g_r M sh 0 = some b ∧ g_r M sh 2 = some oh ∧ g_r M sh 3 = some nh ∧ g_A M oh 1 200 ∧ g_A M nh 1 200 ∧ oh ≠ nh ∧ g_A M b 0 246408) ∧ (g_i M sh 1 = base ∧ 2008 ≤ base ∧ base + 40400 ≤ 82808) ∧ (g_i M sh 6 = ds.length ∧ g_i M sh 7 = S_sum (ds.map Prod.snd) ∧ g_i M sh 8 = gv ∧ g_i M sh 9 = base + (H_sb (ds.map Prod.snd)).length) ∧ (b_at (g_i M b) base (H_sb (ds.map Prod.snd)) ∧ b_at (g_i M oh) 0 (H_pls base (ds.map Prod.snd)) ∧ b_at (g_i M nh) 0 (ds.map Prod.fst)) ∧ S_ok (ds.map Prod.snd) ∧ ∀ z ∈ ds, g_InR z.1
def H_sF (sh b oh nh : Nat) (base : Int) (y : Nat) (k : Int) : Prop := (y = sh ∧ (k = 6 ∨ k = 7 ∨ k = 8 ∨ k = 9)) ∨ y = oh ∨ y = nh ∨ (y = b ∧ base ≤ k ∧ k < base + 40400)
section HSF
variable {d sh b oh nh : Nat} {base gv : Int} {M : g_M} {ds : List (Int × List b_E)}
theorem H_sb_lim {l : List (List b_E)} (h : S_ok l) : (H_sb l).length ≤ 40400 := by
  rw [H_sb_len]
  have h1 := h.1
  have h2 := h.2.1
  omega
/-- one document of it -/
theorem H_sf.at {i : Nat} {z : Int × List b_E} (h : H_sf sh b oh nh base ds gv M) (hi : ds[i]? = some z) : ∃ p, g_i M oh i = p ∧ b_st (g_i M b) 82808 p 16 3 [] (b_doc z.2) ∧ base ≤ p ∧ p + (b_el 3 [] (b_doc z.2)).length ≤ base + 40400 ∧ g_i M nh i = z.1 ∧ g_InR z.1 ∧ (b_doc z.2).length ≤ 2000 ∧ X_gd 15 z.2 := by
  obtain ⟨-, ⟨b1, b2, b3⟩, -, ⟨c1, c2, c3⟩, hok, hn⟩ := h
  have hlt := (List.getElem?_eq_some_iff.mp hi).1
  have hsp : ds = ds.take i ++ z :: ds.drop (i + 1) := by
    have h1 := List.drop_eq_getElem_cons hlt
    rw [(List.getElem?_eq_some_iff.mp hi).2] at h1
    rw [← h1, List.take_append_drop]
  have hms : ds.map Prod.snd = (ds.take i).map Prod.snd ++ z.2 :: (ds.drop (i + 1)).map Prod.snd := by
    have := congrArg (List.map Prod.snd) hsp
    rwa [List.map_append, List.map_cons] at this
  have hmf : ds.map Prod.fst = (ds.take i).map Prod.fst ++ z.1 :: (ds.drop (i + 1)).map Prod.fst := by
    have := congrArg (List.map Prod.fst) hsp
    rwa [List.map_append, List.map_cons] at this
  have hl := H_sb_lim hok
  have hz : z.2 ∈ ds.map Prod.snd := by rw [hms]; simp
  obtain ⟨k1, k2⟩ := hok.2.2 z.2 hz
  have hil : (ds.take i).length = i := by rw [List.length_take]; omega
  rw [hms, H_sb_app, H_sb_c] at c1 hl
  rw [hms, H_pls_app] at c2
  rw [hmf] at c3
  simp only [List.length_append] at hl
  obtain ⟨e1, e2⟩ := b_app.mp c1
  obtain ⟨e3, -⟩ := b_app.mp e2
  obtain ⟨-, g2⟩ := b_app.mp c2
  have g3 := (b_cons.mp g2).1
  rw [H_pls_len, List.length_map, hil] at g3
  obtain ⟨-, j2⟩ := b_app.mp c3
  have j3 := (b_cons.mp j2).1
  rw [List.length_map, hil] at j3
  refine ⟨_, by rw [← g3]; congr 1; omega, ⟨e3, fun c hc => absurd hc (by simp), H_gv k2 k1, by omega, by omega⟩, by omega, by omega, by rw [← j3]; congr 1; omega, hn z (by rw [hsp]; simp), k1, k2⟩
theorem H_sf.psh (h : H_sf sh b oh nh base ds gv M) : P_sh b sh oh (ds.map Prod.snd) M := by
  refine ⟨by rw [h.2.2.1.1, List.length_map], h.2.2.2.2.1, fun i es hi => ?_⟩
  rw [List.getElem?_map] at hi
  cases hz : ds[i]? with
  | none => rw [hz] at hi; exact absurd hi (by simp)
  | some z =>
    rw [hz] at hi
    have hi : z.2 = es := Option.some.inj hi
    subst hi
    obtain ⟨p, p1, p2, p3, -⟩ := h.at hz
    exact ⟨p, p1, p2, by have := h.2.1.2.1; omega⟩
theorem H_sf.num (h : H_sf sh b oh nh base ds gv M) : N_at nh (ds.map Prod.fst) M := by
  refine ⟨h.1.2.2.2.2.2.1, fun i n hi => ?_⟩
  rw [List.getElem?_map] at hi
  cases hz : ds[i]? with
  | none => rw [hz] at hi; exact absurd hi (by simp)
  | some z =>
    rw [hz] at hi
    have hi : z.1 = n := Option.some.inj hi
    subst hi
    obtain ⟨p, -, -, -, -, p1, p2, -⟩ := h.at hz
    exact ⟨p1, p2⟩
theorem H_sf.fr {S : Nat → Int → Prop} {M1 : g_M} (h : H_sf sh b oh nh base ds gv M) (f : e_fr S M M1) (h1 : ∀ k, k = 1 ∨ k = 6 ∨ k = 7 ∨ k = 8 ∨ k = 9 → ¬ S sh k) (h2 : ∀ k, ¬ S oh k ∧ ¬ S nh k) (h3 : ∀ k, base ≤ k → k < base + 40400 → ¬ S b k) : H_sf sh b oh nh base ds gv M1 := by
  obtain ⟨⟨a1, a2, a3, a4, a5, a6, a7, a8⟩, ⟨b1, b2, b3⟩, ⟨d1, d2, d3, d4⟩, ⟨c1, c2, c3⟩, hok, hn⟩ := h
  have hl := H_sb_lim hok
  refine ⟨⟨f.O a1, by rw [f.2.2]; exact a2, by rw [f.2.2]; exact a3, by rw [f.2.2]; exact a4, f.A a5, f.A a6, a7, f.A a8⟩, ⟨by rw [f.2.1 _ _ (h1 1 (by omega))]; exact b1, b2, b3⟩, ⟨by rw [f.2.1 _ _ (h1 6 (by omega))]; exact d1, by rw [f.2.1 _ _ (h1 7 (by omega))]; exact d2, by rw [f.2.1 _ _ (h1 8 (by omega))]; exact d3, by rw [f.2.1 _ _ (h1 9 (by omega))]; exact d4⟩, ⟨b_at_keep c1 fun k k1 k2 => f.2.1 _ _ (h3 k k1 (by omega)), b_at_keep c2 fun k _ _ => f.2.1 _ _ (h2 k).1, b_at_keep c3 fun k _ _ => f.2.1 _ _ (h2 k).2⟩, hok, hn⟩
theorem c_sadd {Q : Int → g_M → Prop} {q : Int} {D : Nat} {nm : List Int} {es : List b_E} (h : H_sf sh b oh nh base ds gv M) (hs : b_st (g_i M b) 246408 q D 3 nm (b_doc es)) (hqd : q + (b_el 3 nm (b_doc es)).length ≤ base ∨ base + 40400 ≤ q) (hl : ds.length < 200) (hsum : S_sum (ds.map Prod.snd) + (b_doc es).length ≤ 40000) (hdl : (b_doc es).length ≤ 2000) (hgd : X_gd 15 es) (hgv : 0 ≤ gv ∧ gv ≤ 1000000) (hq : ∀ M1, e_fr (H_sF sh b oh nh base) M M1 → H_sf sh b oh nh base (ds ++ [(gv + 1, es)]) (gv + 1) M1 → Q ds.length M1) : g_Call (d + 2) 129 [.ref sh, g_n q] M (g_qI Q) := by
  have hqR : g_InR q := hs.R (by decide)
  obtain ⟨⟨a1, a2, a3, a4, a5, a6, a7, a8⟩, ⟨b1, b2, b3⟩, ⟨d1, d2, d3, d4⟩, ⟨c1, c2, c3⟩, hok, hn⟩ := id h
  have nsb : sh ≠ b := g_neOA a1 a8
  have nso : sh ≠ oh := g_neOA a1 a5
  have nsn : sh ≠ nh := g_neOA a1 a6
  have nbo : b ≠ oh := g_neAA a8 a5 (by omega)
  have nbn : b ≠ nh := g_neAA a8 a6 (by omega)
  have hq5 := hs.2.2.2.2
  have hq4 := hs.2.2.2.1
  have hel := b_el_len 3 nm (b_doc es)
  have hv : b_at (g_i M b) (q + 2 + nm.length) (b_doc es) := (b_el_at hs.1).2.2.2
  have hlen := H_sb_len (ds.map Prod.snd)
  rw [List.length_map] at hlen
  obtain ⟨en, hen⟩ : ∃ en : Int, en = base + (H_sb (ds.map Prod.snd)).length := ⟨_, rfl⟩
  rw [← hen] at d4
  refine m_X8_add hqR fun _ => ⟨a1, b, a2, c_va2 (d := d) a8 (by decide) hs ?_⟩
  intro _ _ _
  refine ⟨b, a2, c_w4 (d := d) a8 ⟨by decide, by decide⟩ (by omega) (by rw [b_doc_len] at hel; omega) ?_⟩
  intro _ _ _
  rw [e_w4doc hv (by omega), d1, show min ((ds.length : Nat) : Int) 199 = ds.length by omega, d4]
  refine ⟨oh, a3, 200, a5, ⟨by omega, by omega⟩, ?_⟩
  rintro M21 e21 _
  have s21 : ∀ (y : Nat) (k : Int), y ≠ oh → g_i M21 y k = g_i M y k := fun y k hy => by rw [e21, g_i_wi, if_neg (fun z => hy z.1)]
  have r21 : ∀ y k, g_r M21 y k = g_r M y k := fun y k => by rw [e21]; rfl
  have f21 : e_fr (H_sF sh b oh nh base) M M21 := by
    rw [e21]
    exact e_fr.wi _ (Or.inr (Or.inl rfl))
  rw [s21 sh 9 nso, d4]
  refine ⟨b, by rw [r21]; exact a2, 246408, f21.A a8, ⟨by omega, by omega⟩, ?_⟩
  rintro M30 e30 _
  have f30 : e_fr (H_sF sh b oh nh base) M21 M30 := by
    rw [e30]
    exact e_fr.wi _ (Or.inr (Or.inr (Or.inr ⟨rfl, by omega, by omega⟩)))
  have F30 := f21.tr f30
  have s30 : ∀ (y : Nat) (k : Int), y ≠ oh → y ≠ b → g_i M30 y k = g_i M y k := fun y k h1 h2 => by rw [e30, g_i_wi, if_neg (fun z => h2 z.1), s21 y k h1]
  rw [s30 sh 9 nso nsb, d4]
  refine ⟨b, by rw [F30.2.2]; exact a2, ⟨by omega, by omega⟩, 246408, F30.A a8, ⟨by omega, by omega⟩, ?_⟩
  rintro M40 e40 _
  have f40 : e_fr (H_sF sh b oh nh base) M30 M40 := by
    rw [e40]
    exact e_fr.wi _ (Or.inr (Or.inr (Or.inr ⟨rfl, by omega, by omega⟩)))
  have F40 := F30.tr f40
  have s40 : ∀ (y : Nat) (k : Int), y ≠ oh → y ≠ b → g_i M40 y k = g_i M y k := fun y k h1 h2 => by rw [e40, g_i_wi, if_neg (fun z => h2 z.1), s30 y k h1 h2]
  have hb40 : ∀ k, g_i M40 b k = if k = en + 1 then 0 else if k = en then 3 else g_i M b k := fun k => by
    rw [e40, g_i_wi]
    by_cases g : k = en + 1
    · rw [if_pos ⟨rfl, g⟩, if_pos g]
      rfl
    · rw [if_neg (fun z => g z.2), if_neg g, e30, g_i_wi]
      by_cases g2 : k = en
      · rw [if_pos ⟨rfl, g2⟩, if_pos g2]
        rfl
      · rw [if_neg (fun z => g2 z.2), if_neg g2, s21 b k nbo]
  rw [s40 sh 9 nso nsb, d4]
  refine ⟨b, by rw [F40.2.2]; exact a2, b, by rw [F40.2.2]; exact a2, ⟨by omega, by omega⟩, 246408, F40.A a8, 246408, F40.A a8, ⟨by omega, by omega, by omega, by omega, by omega⟩, ?_⟩
  rintro M54 e54 _
  have f54 : e_fr (H_sF sh b oh nh base) M40 M54 := by
    rw [e54]
    exact ⟨rfl, fun y k hy => by rw [g_i_cp, if_neg fun z => hy (Or.inr (Or.inr (Or.inr ⟨z.1, by omega, by omega⟩)))], fun _ _ => rfl⟩
  have F54 := F40.tr f54
  have s54 : ∀ (y : Nat) (k : Int), y ≠ oh → y ≠ b → g_i M54 y k = g_i M y k := fun y k h1 h2 => by rw [e54, g_i_cp, if_neg (fun z => h2 z.1), s40 y k h1 h2]
  rw [s54 sh 9 nso nsb, d4]
  refine ⟨⟨by omega, by omega⟩, ⟨by omega, by omega⟩, ?_⟩
  rintro M60 e60 _
  have g60 : ∀ (y : Nat) (k : Int), y ≠ sh ∨ k ≠ 9 → g_i M60 y k = g_i M54 y k := fun y k h1 => by rw [e60, g_i_wi, if_neg fun z => h1.elim (fun g => g z.1) fun g => g z.2]
  have f60 : e_fr (H_sF sh b oh nh base) M54 M60 := by
    rw [e60]
    exact e_fr.wi _ (Or.inl ⟨rfl, by omega⟩)
  rw [g60 sh 7 (Or.inr (by decide)), s54 sh 7 nso nsb, d2]
  refine ⟨⟨by omega, by omega⟩, ?_⟩
  rintro M65 e65 _
  have g65 : ∀ (y : Nat) (k : Int), y ≠ sh ∨ k ≠ 7 → g_i M65 y k = g_i M60 y k := fun y k h1 => by rw [e65, g_i_wi, if_neg fun z => h1.elim (fun g => g z.1) fun g => g z.2]
  have f65 : e_fr (H_sF sh b oh nh base) M60 M65 := by
    rw [e65]
    exact e_fr.wi _ (Or.inl ⟨rfl, by omega⟩)
  rw [g65 sh 8 (Or.inr (by decide)), g60 sh 8 (Or.inr (by decide)), s54 sh 8 nso nsb, d3]
  refine ⟨⟨by omega, by omega⟩, ?_⟩
  rintro M70 e70 _
  have g70 : ∀ (y : Nat) (k : Int), y ≠ sh ∨ k ≠ 8 → g_i M70 y k = g_i M65 y k := fun y k h1 => by rw [e70, g_i_wi, if_neg fun z => h1.elim (fun g => g z.1) fun g => g z.2]
  have f70 : e_fr (H_sF sh b oh nh base) M65 M70 := by
    rw [e70]
    exact e_fr.wi _ (Or.inl ⟨rfl, by omega⟩)
  have F70 := ((F54.tr f60).tr f65).tr f70
  have h870 : g_i M70 sh 8 = gv + 1 := by rw [e70, g_i_wi, if_pos ⟨rfl, rfl⟩]
  refine ⟨nh, by rw [F70.2.2]; exact a4, 200, F70.A a6, ⟨by omega, by omega⟩, ?_⟩
  rw [h870]
  rintro M79 e79 _
  have g79 : ∀ (y : Nat) (k : Int), y ≠ nh ∨ k ≠ ds.length → g_i M79 y k = g_i M70 y k := fun y k h1 => by rw [e79, g_i_wi, if_neg fun z => h1.elim (fun g => g z.1) fun g => g z.2]
  have f79 : e_fr (H_sF sh b oh nh base) M70 M79 := by
    rw [e79]
    exact e_fr.wi _ (Or.inr (Or.inr (Or.inl rfl)))
  refine ⟨⟨by omega, by omega⟩, ?_⟩
  rintro M84 e84 _
  have g84 : ∀ (y : Nat) (k : Int), y ≠ sh ∨ k ≠ 6 → g_i M84 y k = g_i M79 y k := fun y k h1 => by rw [e84, g_i_wi, if_neg fun z => h1.elim (fun g => g z.1) fun g => g z.2]
  have f84 : e_fr (H_sF sh b oh nh base) M79 M84 := by
    rw [e84]
    exact e_fr.wi _ (Or.inl ⟨rfl, by omega⟩)
  have F84 := (F70.tr f79).tr f84
  have hb84 : ∀ k, g_i M84 b k = g_i M54 b k := fun k => by rw [g84 b k (Or.inl nsb.symm), g79 b k (Or.inl nbn), g70 b k (Or.inl nsb.symm), g65 b k (Or.inl nsb.symm), g60 b k (Or.inl nsb.symm)]
  have ho84 : ∀ k, g_i M84 oh k = if k = ds.length then en else g_i M oh k := fun k => by
    rw [g84 oh k (Or.inl nso.symm), g79 oh k (Or.inl a7), g70 oh k (Or.inl nso.symm), g65 oh k (Or.inl nso.symm), g60 oh k (Or.inl nso.symm), e54, g_i_cp, if_neg (fun z => nbo z.1.symm), e40, g_i_wi, if_neg (fun z => nbo z.1.symm), e30, g_i_wi, if_neg (fun z => nbo z.1.symm), e21, g_i_wi]
    by_cases g : k = ds.length
    · rw [if_pos ⟨rfl, g⟩, if_pos g]
    · rw [if_neg (fun z => g z.2), if_neg g]
  have hn84 : ∀ k, g_i M84 nh k = if k = ds.length then gv + 1 else g_i M nh k := fun k => by
    rw [g84 nh k (Or.inl nsn.symm), e79, g_i_wi]
    by_cases g : k = ds.length
    · rw [if_pos ⟨rfl, g⟩, if_pos g]
    · rw [if_neg (fun z => g z.2), if_neg g, g70 nh k (Or.inl nsn.symm), g65 nh k (Or.inl nsn.symm), g60 nh k (Or.inl nsn.symm), s54 nh k a7.symm nbn.symm]
  have hb54 : ∀ k, g_i M54 b k = if en + 2 ≤ k ∧ k < en + 2 + (b_doc es).length then g_i M40 b (q + 2 + nm.length + (k - (en + 2))) else g_i M40 b k := fun k => by
    rw [e54, g_i_cp]
    by_cases g : en + 2 ≤ k ∧ k < en + 2 + (b_doc es).length
    · rw [if_pos ⟨rfl, g.1, g.2⟩, if_pos g]
    · rw [if_neg (fun z => g z.2), if_neg g]
  have hokn : S_ok ((ds ++ [(gv + 1, es)]).map Prod.snd) := by
    obtain ⟨o1, o2, o3⟩ := hok
    rw [List.length_map] at o1
    refine ⟨by rw [List.length_map, List.length_append, List.length_singleton]; omega, by
      have h0 : S_sum ([] : List (List b_E)) = 0 := rfl
      rw [List.map_append, S_sum_app, List.map_singleton, S_sum_c, h0]
      omega, fun e he => ?_⟩
    rw [List.map_append] at he
    rcases List.mem_append.mp he with g | g
    · exact o3 e g
    · rw [List.mem_singleton.mp g]
      exact ⟨hdl, hgd⟩
  refine hq M84 F84 ⟨⟨F84.O a1, by rw [F84.2.2]; exact a2, by rw [F84.2.2]; exact a3, by rw [F84.2.2]; exact a4, F84.A a5, F84.A a6, a7, F84.A a8⟩, ⟨?_, b2, b3⟩, ⟨?_, ?_, ?_, ?_⟩, ⟨?_, ?_, ?_⟩, hokn, fun z hz => ?_⟩
  · rw [g84 sh 1 (Or.inr (by decide)), g79 sh 1 (Or.inl nsn), g70 sh 1 (Or.inr (by decide)), g65 sh 1 (Or.inr (by decide)), g60 sh 1 (Or.inr (by decide)), s54 sh 1 nso nsb]
    exact b1
  · rw [e84, g_i_wi, if_pos ⟨rfl, rfl⟩, List.length_append, List.length_singleton]
    omega
  · rw [g84 sh 7 (Or.inr (by decide)), g79 sh 7 (Or.inl nsn), g70 sh 7 (Or.inr (by decide)), e65, g_i_wi, if_pos ⟨rfl, rfl⟩, List.map_append, S_sum_app, List.map_singleton, S_sum_c]
    show _ = ((S_sum (ds.map Prod.snd) + ((b_doc es).length + 0) : Nat) : Int)
    omega
  · rw [g84 sh 8 (Or.inr (by decide)), g79 sh 8 (Or.inl nsn)]
    exact h870
  · rw [g84 sh 9 (Or.inr (by decide)), g79 sh 9 (Or.inl nsn), g70 sh 9 (Or.inr (by decide)), g65 sh 9 (Or.inr (by decide)), e60, g_i_wi, if_pos ⟨rfl, rfl⟩, List.map_append, H_sb_app, List.length_append, List.map_singleton, H_sb_c, List.length_append, H_el_len]
    show en + _ = base + (((H_sb (ds.map Prod.snd)).length + ((b_doc es).length + 2 + 0) : Nat) : Int)
    omega
  · rw [List.map_append, H_sb_app, List.map_singleton]
    refine b_app.mpr ⟨b_at_keep c1 fun k k1 k2 => ?_, ?_⟩
    · rw [hb84, hb54, if_neg (by omega), hb40, if_neg (by omega), if_neg (by omega)]
    · rw [← hen]
      show b_at _ en ((3 :: 0 :: b_doc es) ++ [])
      rw [List.append_nil]
      refine b_cons.mpr ⟨?_, b_cons.mpr ⟨?_, ?_⟩⟩
      · rw [hb84, hb54, if_neg (by omega), hb40, if_neg (by omega), if_pos rfl]
      · rw [hb84, hb54, if_neg (by omega), hb40, if_pos rfl]
      · have hm := b_at_move (B2 := g_i M84 b) (s := en + 2 - (q + 2 + nm.length)) hv fun k k1 k2 => by
          rw [hb84, hb54, if_pos ⟨by omega, by omega⟩, hb40, if_neg (by omega), if_neg (by omega)]
          congr 1
          omega
        rwa [show q + 2 + (nm.length : Int) + (en + 2 - (q + 2 + nm.length)) = en + 1 + 1 by omega] at hm
  · rw [List.map_append, H_pls_app]
    refine b_app.mpr ⟨b_at_keep c2 fun k k1 k2 => ?_, ?_⟩
    · rw [H_pls_len, List.length_map] at k2
      rw [ho84, if_neg (by omega)]
    · rw [H_pls_len, List.length_map, ← hen]
      refine b_cons.mpr ⟨?_, b_nil _ _⟩
      rw [ho84, if_pos (by omega)]
  · rw [List.map_append]
    refine b_app.mpr ⟨b_at_keep c3 fun k k1 k2 => ?_, ?_⟩
    · rw [List.length_map] at k2
      rw [hn84, if_neg (by omega)]
    · rw [List.length_map]
      refine b_cons.mpr ⟨?_, b_nil _ _⟩
      rw [hn84, if_pos (by omega)]
  · rcases List.mem_append.mp hz with g | g
    · exact hn z g
    · rw [List.mem_singleton.mp g]
      exact ⟨by show (-2147483648 : Int) ≤ gv + 1; omega, by show gv + 1 ≤ 2147483647; omega⟩
end HSF
