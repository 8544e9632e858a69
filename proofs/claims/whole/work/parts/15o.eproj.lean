/-! STAGES: belts; $project, the reference -/
def E_lo (g : Int) : Int := 802000 + 60000 * (1 - g)
theorem E_lo_R {g : Int} (h : g = 0 ∨ g = 1) : 802000 ≤ E_lo g ∧ E_lo g ≤ 862000 ∧ (E_lo (1 - g) = E_lo g + 60000 ∨ E_lo (1 - g) = E_lo g - 60000) := by
  rcases h with rfl | rfl
  · exact ⟨by decide, by decide, Or.inr (by decide)⟩
  · exact ⟨by decide, by decide, Or.inl (by decide)⟩
def E_belt (m b be : Nat) (g : Int) (ds : List (List b_E)) (M : g_M) : Prop := g_i M m 19 = ds.length ∧ S_ok ds ∧ ∀ (i : Nat) (es : List b_E), ds[i]? = some es → ∃ p, g_i M be i = p ∧ b_at (g_i M b) p (b_doc es) ∧ 2000 ≤ p ∧ p + (b_doc es).length ≤ 922000 ∧ (p + (b_doc es).length ≤ E_lo g ∨ E_lo g + 60000 ≤ p)
/-- what making documents may change; what a stage may change -/
def E_ST (m b ma : Nat) (lo : Int) (y : Nat) (k : Int) : Prop := (y = m ∧ ((4 ≤ k ∧ k ≤ 6) ∨ k = 23 ∨ k = 25 ∨ (26 ≤ k ∧ k ≤ 29))) ∨ y = ma ∨ (y = b ∧ ((lo ≤ k ∧ k < lo + 60000) ∨ (2606200 ≤ k ∧ k < 2706200)))
def E_SG (m b ma be : Nat) (y : Nat) (k : Int) : Prop := (y = m ∧ ((4 ≤ k ∧ k ≤ 6) ∨ k = 19 ∨ (23 ≤ k ∧ k ≤ 29))) ∨ y = ma ∨ y = be ∨ (y = b ∧ ((802000 ≤ k ∧ k < 922000) ∨ (2606200 ≤ k ∧ k < 2706200)))
theorem E_ST.sg {m b ma be y : Nat} {lo k : Int} (h : E_ST m b ma lo y k) (h1 : 802000 ≤ lo) (h2 : lo ≤ 862000) : E_SG m b ma be y k := by
  rcases h with ⟨h3, h4⟩ | h | ⟨h3, h4⟩
  · exact Or.inl ⟨h3, by omega⟩
  · exact Or.inr (Or.inl h)
  · exact Or.inr (Or.inr (Or.inr ⟨h3, by omega⟩))
def E_T (m b ma be : Nat) (M : g_M) : Prop := e_R M m b ∧ g_r M m 22 = some ma ∧ g_r M m 18 = some be ∧ g_A M ma 1 200 ∧ g_A M be 1 200 ∧ be ≠ ma
section EPROJ
variable {m b ma be : Nat} {M0 M M1 : g_M} {lo g : Int} {ds : List (List b_E)}
theorem E_T.fr {S : Nat → Int → Prop} (h : E_T m b ma be M) (f : e_fr S M M1) : E_T m b ma be M1 := by
  obtain ⟨h1, h2, h3, h4, h5, h6⟩ := h
  exact ⟨f.R h1, by rw [f.2.2]; exact h2, by rw [f.2.2]; exact h3, f.A h4, f.A h5, h6⟩
theorem E_T.ne (h : E_T m b ma be M) : m ≠ b ∧ m ≠ ma ∧ m ≠ be ∧ b ≠ ma ∧ b ≠ be ∧ be ≠ ma := by
  obtain ⟨h1, h2, h3, h4, h5, h6⟩ := h
  exact ⟨g_neOA h1.1 h1.2.2, g_neOA h1.1 h4, g_neOA h1.1 h5, g_neAA h1.2.2 h4 (by omega), g_neAA h1.2.2 h5 (by omega), h6⟩
theorem e_Wr.kp {l2 lim : Int} {x : List Int} {S : Nat → Int → Prop} (h : e_Wr m b l2 lim x M) (f : e_fr S M M1) (h1 : ∀ k, 4 ≤ k → k ≤ 6 → ¬ S m k) (h2 : ∀ k, l2 ≤ k → k < lim → ¬ S b k) : e_Wr m b l2 lim x M1 := by
  obtain ⟨v1, v2, v3, v4⟩ := h
  refine ⟨f.R v1, v2, v3, ?_⟩
  unfold w_W at v4 ⊢
  rw [f.2.1 m 4 (h1 4 (by decide) (by decide)), f.2.1 m 5 (h1 5 (by decide) (by decide)), f.2.1 m 6 (h1 6 (by decide) (by decide))]
  refine ⟨v4.1, ?_⟩
  rcases v4.2 with ⟨a1, a2, a3, a4⟩ | g
  · exact Or.inl ⟨a1, a2, a3, b_at_keep a4 fun k k1 k2 => f.2.1 b k (h2 k k1 (by omega))⟩
  · exact Or.inr g
theorem E_belt.keep {S : Nat → Int → Prop} (h : E_belt m b be g ds M) (f : e_fr S M M1) (h1 : ¬ S m 19) (h2 : ∀ k, ¬ S be k) (h3 : ∀ k, k < 922000 → (k < E_lo g ∨ E_lo g + 60000 ≤ k) → ¬ S b k) : E_belt m b be g ds M1 := by
  obtain ⟨a1, a2, a3⟩ := h
  refine ⟨by rw [f.2.1 m 19 h1]; exact a1, a2, fun i es hi => ?_⟩
  obtain ⟨p, p1, p2, p3, p4, p5⟩ := a3 i es hi
  exact ⟨p, by rw [f.2.1 be i (h2 i)]; exact p1, b_at_keep p2 fun k k1 k2 => f.2.1 b k (h3 k (by omega) (by omega)), p3, p4, p5⟩
def E_fin (m b ma be : Nat) (M : g_M) (g : Int) (Q : Int → g_M → Prop) (ds : List (List b_E)) : Prop := (S_bad ds → ∀ M1, e_fr (E_SG m b ma be) M M1 → g_i M1 m 24 = 1 - g → Q 5 M1) ∧ (¬ S_bad ds → ∀ M1, e_fr (E_SG m b ma be) M M1 → g_i M1 m 24 = 1 - g → E_belt m b be (1 - g) ds M1 → Q 0 M1)
theorem E_fin.tr {Q : Int → g_M → Prop} (h : E_fin m b ma be M g Q ds) (f : e_fr (E_SG m b ma be) M M1) : E_fin m b ma be M1 g Q ds := ⟨fun z M2 h2 => h.1 z M2 (f.tr h2), fun z M2 h2 => h.2 z M2 (f.tr h2)⟩
theorem e_beginE {d : Nat} {Q : g_M → Prop} (hT : E_T m b ma be M) (hg : g_i M m 24 = g) (hg01 : g = 0 ∨ g = 1) (hbt : E_belt m b be g ds M) (hq : ∀ M1, e_fr (E_SG m b ma be) M M1 → g_i M1 m 24 = 1 - g → E_belt m b be g ds M1 → e_Wr m b (E_lo g) (E_lo g + 60000) [] M1 → E_F m ma (E_lo g) [] M1 → g_i M1 b = g_i M b → Q M1) : g_Call (d + 2) 337 [.ref m] M (g_qV Q) := by
  obtain ⟨n1, n2, n3, n4, n5, n6⟩ := hT.ne
  refine e_beginMaking (d := d) (ma := ma) hT.1 hT.2.2.2.1 hg hg01 fun M1 f W h24 hF => ?_
  refine hq M1 (f.up fun y k z => Or.inl ⟨z.1, by have := z.2; omega⟩) h24 (hbt.keep f (fun z => by have := z.2; omega) (fun k z => n3 z.1.symm) fun k _ _ z => n1 z.1.symm) W hF (funext fun k => f.2.1 b k fun z => n1 z.1.symm)
theorem e_endE {d : Nat} {Q : Int → g_M → Prop} (hT : E_T m b ma be M) (hg : g_i M m 24 = 1 - g) (hg01 : g = 0 ∨ g = 1) (hW : e_Wr m b (E_lo g) (E_lo g + 60000) (E_wr ds) M) (hF : E_F m ma (E_lo g) ds M) (hgd : ∀ es ∈ ds, X_gd 30 es) (hf : E_fin m b ma be M g Q ds) : g_Call (d + 70) 338 [.ref m] M (g_qI Q) := by
  obtain ⟨n1, n2, n3, n4, n5, n6⟩ := hT.ne
  obtain ⟨hlo1, hlo2, hlo3⟩ := E_lo_R hg01
  obtain ⟨h1, h2, h3, h4, h5, h6⟩ := hT
  refine e_endMaking (d := d) h2 h3 h4 h5 h6 hW (by omega) (by omega) hgd hF (fun hb => hf.1 hb M (e_fr.rf _ _) hg) fun hnb M1 f h19 hpl => ?_
  have hok := S_ok_of hnb hgd
  have hb : ∀ k, g_i M1 b k = g_i M b k := fun k => f.2.1 b k fun z => by
    rcases z with ⟨z, -⟩ | z
    · exact n1 z.symm
    · exact n5 z
  refine hf.2 hnb M1 (f.up fun y k z => ?_) ?_ ⟨h19, hok, fun i es hi => ?_⟩
  · rcases z with ⟨z, z2⟩ | z
    · exact Or.inl ⟨z, Or.inr (Or.inl z2)⟩
    · exact Or.inr (Or.inr (Or.inl z))
  · rw [f.2.1 m 24 fun z => ?_]
    · exact hg
    · rcases z with ⟨-, z⟩ | z
      · omega
      · exact n3 z
  · have hil := (List.getElem?_eq_some_iff.mp hi).1
    have hsp : ds = ds.take i ++ es :: ds.drop (i + 1) := by
      obtain ⟨h1, h2⟩ := List.getElem?_eq_some_iff.mp hi
      rw [← h2]
      simp
    have hwr : E_wr ds = E_wr (ds.take i) ++ (b_doc es ++ E_wr (ds.drop (i + 1))) := by
      conv => lhs; rw [hsp]
      unfold E_wr
      simp
    have hwl := congrArg List.length hwr
    rw [List.length_append, List.length_append] at hwl
    have hle : (E_wr ds).length ≤ 40000 := by
      rw [E_wr_len]
      exact hok.2.1
    have hat : b_at (g_i M b) (E_lo g + (E_wr (ds.take i)).length) (b_doc es) := by
      rcases hW.2.2.2.2 with ⟨-, -, -, v4⟩ | ⟨-, -, -, v4⟩
      · rw [hwr] at v4
        exact (b_app.mp (b_app.mp v4).2).1
      · omega
    clear n1 n2 n3 n4 n5 n6 h6
    refine ⟨_, hpl i hil, b_at_keep hat fun k _ _ => hb k, by omega, by omega, ?_⟩
    rcases hlo3 with h | h
    · rw [h]
      omega
    · rw [h]
      omega
theorem e_projDoc {d n De : Nat} {Q : g_M → Prop} {pe dc : Int} {e : b_E} {es : List b_E} (hT : E_T m b ma be M0) (hlo : 802000 ≤ lo) (hlo2 : lo ≤ 862000) (he : b_st (g_i M0 b) 2100 pe De e.1 e.2.1 e.2.2) (hk : e.1 = 3) (hpf : S_pfL (b_ch e.2.2) = 0) (hDe : De ≤ 30) (hd : b_at (g_i M0 b) dc (b_doc es)) (hd1 : 2000 ≤ dc) (hd2 : dc + (b_doc es).length ≤ 922000) (hd3 : dc + (b_doc es).length ≤ lo ∨ lo + 60000 ≤ dc) (hn : 16 ≤ n) (hl : (b_doc es).length ≤ 2000) (hg : X_gd 15 es) (hX : e_fr (E_ST m b ma lo) M0 M) (hW : e_Wr m b lo (lo + 60000) (E_wr ds) M) (hF : E_F m ma lo ds M) (hq : ∀ M1, e_fr (E_ST m b ma lo) M0 M1 → e_Wr m b lo (lo + 60000) (E_wr (ds ++ [S_pj n (b_ch e.2.2) es])) M1 → E_F m ma lo (ds ++ [S_pj n (b_ch e.2.2) es]) M1 → Q M1) : g_Call (d + 40) 340 [.ref m, g_n (pe + 2 + e.2.1.length), g_n dc] M (g_qV Q) := by
  obtain ⟨n1, n2, n3, n4, n5, n6⟩ := hT.ne
  obtain ⟨T, hTd⟩ : ∃ T, T = S_pj n (b_ch e.2.2) es := ⟨_, rfl⟩
  rw [← hTd] at hq
  obtain ⟨D1, eD, hkids, hkl⟩ := he.kids (Or.inl hk)
  have he4 := he.2.2.2.1
  have he5 := he.2.2.2.2
  have hel := b_el_len e.1 e.2.1 e.2.2
  obtain ⟨cp, hcp⟩ : ∃ cp : Int, cp = pe + 2 + e.2.1.length := ⟨_, rfl⟩
  have hcpR : g_InR cp := ⟨by omega, by omega⟩
  have hdcR : g_InR dc := ⟨by omega, by omega⟩
  have hmany := b_ser_many (b_ch e.2.2)
  have hser : (b_ser es).length ≤ 15000 := by rw [b_doc_len] at hl; omega
  -- what stays
  have hbk : ∀ {M2 : g_M}, e_fr (E_ST m b ma lo) M0 M2 → ∀ k, k < 922000 → (k < lo ∨ lo + 60000 ≤ k) → g_i M2 b k = g_i M0 b k := fun f k k1 k2 => f.2.1 b k fun z => by
    rcases z with ⟨z, -⟩ | z | ⟨-, z⟩
    · exact n1 z.symm
    · exact n4 z
    · omega
  have hreq : ∀ {M2 : g_M}, e_fr (E_ST m b ma lo) M0 M2 → ∀ {q : Int} {D : Nat} {k : Int} {nm vb : List Int} {n2 : Int}, 2100 ≤ n2 → b_st (g_i M0 b) 2100 q D k nm vb → b_st (g_i M2 b) n2 q D k nm vb := by
    intro M2 f q D k nm vb n2 hn2 hs
    exact ⟨b_at_keep hs.1 fun j j1 j2 => hbk f j (by have := hs.2.2.2.2; omega) (by have := hs.2.2.2.2; omega), hs.2.1, hs.2.2.1, hs.2.2.2.1, by have := hs.2.2.2.2; omega⟩
  have htl : ∀ {M2 : g_M} {cs1 cs2 : List b_E}, e_fr (E_ST m b ma lo) M0 M2 → b_ch e.2.2 = cs1 ++ cs2 → e_tl (g_i M2 b) cp (cp + 4 + (b_ser cs1).length) D1 (b_ch e.2.2) cs2 := by
    intro M2 cs1 cs2 f h1
    obtain ⟨D2, ys, eD2, e2, -, e4, e5, -⟩ := (hreq f (n2 := 2706210) (by decide) he).tl (Or.inl hk)
    have eD2' : D2 = D1 := by omega
    subst eD2'
    rw [e5]
    rw [e5] at h1
    rw [hcp, show pe + 2 + (e.2.1.length : Int) + 4 = pe + 6 + e.2.1.length by omega]
    have e4' : e_tl (g_i M2 b) (pe + 2 + e.2.1.length) (pe + 6 + e.2.1.length) D2 ys (cs1 ++ cs2) := by rw [← h1]; exact e4
    exact e4'.app
  have hct : ∀ {M2 : g_M}, e_fr (E_ST m b ma lo) M0 M2 → E_ct (g_i M2 b) dc 15 es := fun f => ⟨b_at_keep hd fun k k1 k2 => hbk f k (by omega) (by omega), by omega, hd2, hg⟩
  have hwl : ∀ {y : Nat} {k : Int}, e_WL m b lo (lo + 60000) y k → E_ST m b ma lo y k := fun h => by
    rcases h with ⟨h1, h2⟩ | ⟨h1, h2⟩
    · exact Or.inl ⟨h1, by omega⟩
    · exact Or.inr (Or.inr ⟨h1, Or.inl h2⟩)
  have hFk : ∀ {Ma Mb : g_M} {S : Nat → Int → Prop}, E_F m ma lo ds Ma → e_fr S Ma Mb → (∀ k, (k = 23 ∨ k = 25) → ¬ S m k) → (∀ k, ¬ S ma k) → E_F m ma lo ds Mb := fun h f k1 k2 => h.fr (fun k hk => f.2.1 m k (k1 k hk)) fun k => f.2.1 ma k (k2 k)
  have hFw : ∀ {Ma Mb : g_M}, E_F m ma lo ds Ma → e_fr (e_WL m b lo (lo + 60000)) Ma Mb → E_F m ma lo ds Mb := fun h f => hFk h f (fun k hk z => by
      rcases z with ⟨-, z⟩ | ⟨z, -⟩
      · omega
      · exact n1 z) fun k z => by
      rcases z with ⟨z, -⟩ | ⟨z, -⟩
      · exact n2 z.symm
      · exact n4 z.symm
  have hlp : ∀ (r : Int), g_InR r → w_r lo (lo + 60000) r (E_wr ds).length → ∀ (xs cs1 : List b_E) (q : Int) (body : List Int) (M1 : g_M), b_ch e.2.2 = cs1 ++ xs → q = cp + 4 + (b_ser cs1).length → (∀ x ∈ xs, S_ef x = false) → e_fr (E_ST m b ma lo) M0 M1 → e_Wr m b lo (lo + 60000) (E_wr ds ++ ([0, 0, 0, 0] ++ body)) M1 → E_F m ma lo ds M1 → body ++ b_ser (S_pj n xs es) = b_ser T → g_Run (d + 39) 340 11 [(0, .ref m), (1, g_n cp), (2, g_n dc), (3, g_n r), (4, g_n q)] [] M1 (g_qV Q) := by
    intro r hrR hr xs
    induction xs with
    | nil =>
      intro cs1 q body M1 h1 h2 _ hX1 hW1 hF1 hinv
      have hR1 := hW1.1
      have hsq := htl hX1 h1
      rw [← h2] at hsq
      have hq6 := hsq.st
      refine s_X12_project_11 hcpR hdcR hrR ⟨by omega, by omega⟩ fun _ => ⟨hR1.1, e_lastE (d := d + 36) hR1 hsq ?_⟩
      intro _ _ _
      refine ⟨fun z => absurd z (by omega), fun _ => e_close (d := d + 37) hW1 hr fun M2 f2 W2 => ?_⟩
      intro _ _
      have hX2 := hX1.tr (f2.up fun y k z => hwl z)
      have hF2 := hFw hF1 f2
      have hpn : b_ser (S_pj n [] es) = [] := rfl
      rw [hpn, List.append_nil] at hinv
      have ew : E_wr ds ++ (b_le4 (body.length + 5) ++ (body ++ [0])) = E_wr (ds ++ [T]) := by rw [hinv, ← b_doc_app, E_wr_snoc]
      rw [ew] at W2
      refine e_deliver (d := d + 38) (es := T) W2.1 (by rw [hX2.2.2]; exact hT.2.1) (hX2.A hT.2.2.2.1) hr hrR hF2 fun M3 f3 hF3 => ?_
      intro _ _
      refine hq M3 (hX2.tr (f3.up fun y k z => ?_)) (W2.kp f3 (fun k k1 k2 z => ?_) fun k _ _ z => ?_) hF3
      · rcases z with ⟨z, z2⟩ | z
        · exact Or.inl ⟨z, by omega⟩
        · exact Or.inr (Or.inl z)
      · rcases z with ⟨-, z⟩ | z
        · omega
        · exact n2 z
      · rcases z with ⟨z, -⟩ | z
        · exact n1 z.symm
        · exact n4 z
    | cons x xs ih =>
      intro cs1 q body M1 h1 h2 hefs hX1 hW1 hF1 hinv
      have hR1 := hW1.1
      have hsq := htl hX1 h1
      rw [← h2] at hsq
      have hq6 := hsq.st
      have hx0 : b_st (g_i M0 b) 2100 q D1 x.1 x.2.1 x.2.2 := by
        have := hkids
        rw [h1] at this
        have h9 := this.app.cons.1
        rwa [show pe + 6 + (e.2.1.length : Int) + (b_ser cs1).length = q by omega] at h9
      have hx1 := hreq hX1 (n2 := 2706210) (by decide) hx0
      have hxR := hx1.R (by decide)
      have hx4 := hx0.2.2.2.1
      have hx5 := hx0.2.2.2.2
      have hxl := b_el_len x.1 x.2.1 x.2.2
      have hnR : g_InR (q + 1 + x.2.1.length) := ⟨by omega, by omega⟩
      have hnext : ∀ (M2 : g_M) (body2 : List Int), e_fr (E_ST m b ma lo) M0 M2 → e_Wr m b lo (lo + 60000) (E_wr ds ++ ([0, 0, 0, 0] ++ body2)) M2 → E_F m ma lo ds M2 → body2 ++ b_ser (S_pj n xs es) = b_ser T → g_Call (d + 39) 235 [.ref m, g_n q] M2 (g_qI fun r5 M3 => g_ext M2 M3 → g_ok M3 → g_InR r5 → g_Run (d + 39) 340 11 [(0, .ref m), (1, g_n cp), (2, g_n dc), (3, g_n r), (4, g_n r5)] [] M3 (g_qV Q)) := by
        intro M2 body2 k1 k2 k3 k4
        refine e_bh2 (d := d + 35) k2.1 (hreq k1 (by decide) hx0) ?_
        intro _ _ _
        refine ih (cs1 ++ [x]) _ body2 M2 (by rw [h1]; simp) ?_ (fun z hz => hefs z (List.mem_cons_of_mem _ hz)) k1 k2 k3 k4
        rw [b_ser_app, List.length_append, b_ser_1]
        omega
      -- a value is written
      have h88 : ∀ (M2 : g_M) (v6 v : Int) (o : Option b_E), g_InR v6 → g_InR v → e_fr (E_ST m b ma lo) M0 M2 → e_Wr m b lo (lo + 60000) (E_wr ds ++ ([0, 0, 0, 0] ++ body)) M2 → E_F m ma lo ds M2 → S_pv n es x = o.map (fun y => (y.1, x.2.1, y.2.2)) → (o = none → v = -1) → (∀ y, o = some y → ∃ nm D, b_st (g_i M2 b) 2706210 v D y.1 nm y.2.2 ∧ (v + (b_el y.1 nm y.2.2).length ≤ lo ∨ lo + 60000 ≤ v)) → g_Run (d + 39) 340 88 [(0, .ref m), (1, g_n cp), (2, g_n dc), (3, g_n r), (4, g_n q), (5, g_n (q + 1 + x.2.1.length)), (6, g_n v6)] [g_n v] M2 (g_qV Q) := by
        intro M2 v6 v o h6 hvR k1 k2 k3 ho hn1 hs1
        refine s_X12_project_88 hcpR hdcR hrR hxR hnR h6 hvR fun _ => ?_
        rcases o with _ | y
        · rw [hn1 rfl]
          have hpn : S_pj n (x :: xs) es = S_pj n xs es := List.filterMap_cons_none ho
          rw [hpn] at hinv
          exact ⟨fun _ => ⟨k2.1.1, hnext M2 body k1 k2 k3 hinv⟩, fun z => absurd rfl z⟩
        · obtain ⟨nm, D, hv, hdis⟩ := hs1 y rfl
          have hv4 := hv.2.2.2.1
          have hps : S_pj n (x :: xs) es = (y.1, x.2.1, y.2.2) :: S_pj n xs es := List.filterMap_cons_some ho
          rw [hps] at hinv
          have hnm := (hreq k1 (n2 := 2706210) (by decide) hx0).nmb
          refine ⟨fun z => absurd z (by omega), fun _ => ⟨⟨by omega, by omega⟩, k2.1.1, e_putAs (d := d + 34) k2 hv hdis hnm (by omega) (by omega) (Or.inl (by omega)) fun M3 f3 W3 => ?_⟩⟩
          intro _ _
          have ew : E_wr ds ++ ([0, 0, 0, 0] ++ body) ++ b_el y.1 x.2.1 y.2.2 = E_wr ds ++ ([0, 0, 0, 0] ++ (body ++ b_el y.1 x.2.1 y.2.2)) := by simp
          rw [ew] at W3
          refine hnext M3 _ (k1.tr (f3.up fun y k z => hwl z)) W3 (hFw k3 f3) ?_
          rw [← hinv, List.append_assoc]
          rfl
      have hfresh : S_tr x = false → g_Run (d + 39) 340 60 [(0, .ref m), (1, g_n cp), (2, g_n dc), (3, g_n r), (4, g_n q), (5, g_n (q + 1 + x.2.1.length))] [g_n 0] M1 (g_qV Q) := by
        intro ht
        refine s_X12_project_60 hcpR hdcR hrR hxR hnR ⟨by decide, by decide⟩ fun _ => ⟨fun _ => ⟨hR1.1, m_X12_fresh hxR hdcR fun _ => ⟨hR1.1, ?_⟩⟩, fun z => absurd rfl z⟩
        rintro M2 rfl _
        have f2 : e_fr (E_ST m b ma lo) M1 (g_wi M1 m 26 2606200) := e_fr.wi _ (Or.inl ⟨rfl, by omega⟩)
        have hX2 := hX1.tr f2
        have hW2 : e_Wr m b lo (lo + 60000) (E_wr ds ++ ([0, 0, 0, 0] ++ body)) (g_wi M1 m 26 2606200) := hW1.kp (e_fr.wi (S := fun y k => y = m ∧ k = 26) _ ⟨rfl, rfl⟩) (fun k k1 k2 z => by omega) fun k _ _ z => n1 z.1.symm
        have hF2 : E_F m ma lo ds (g_wi M1 m 26 2606200) := hFk hF1 (e_fr.wi (S := fun y k => y = m ∧ k = 26) _ ⟨rfl, rfl⟩) (fun k hk z => by omega) fun k z => n2 z.1.symm
        refine e_valueAt (n := n) (F := g_i (g_wi M1 m 26 2606200) b) (lo := 2606200) (D := 15) (De := D1) (by omega) (f2.R hR1) (fun _ _ => rfl) (hreq hX2 (by decide) hx0) (hefs x List.mem_cons_self) (hct hX2) (by omega) (by decide) (by omega) (by omega) (hg.le (by decide)) (by rw [g_i_wi, if_pos ⟨rfl, rfl⟩]) (by decide) (by omega) fun M3 v lo1 f3 h26 hl1 hl2 hret => ?_
        intro _ _ hvR
        intro _ _ _
        have f3' : e_fr (E_ST m b ma lo) (g_wi M1 m 26 2606200) M3 := f3.up fun y k z => by
          rcases z with ⟨z, z2⟩ | ⟨z, z2⟩
          · exact Or.inl ⟨z, by omega⟩
          · exact Or.inr (Or.inr ⟨z, Or.inr z2⟩)
        have hX3 := hX2.tr f3'
        have hW3 := hW2.kp f3 (fun k k1 k2 z => by
          rcases z with ⟨-, z⟩ | ⟨z, -⟩
          · omega
          · exact n1 z) fun k k1 k2 z => by
          rcases z with ⟨z, -⟩ | ⟨-, z⟩
          · exact n1 z.symm
          · omega
        have hF3 := hFk hF2 f3 (fun k hk z => by
          rcases z with ⟨-, z⟩ | ⟨z, -⟩
          · omega
          · exact n1 z) fun k z => by
          rcases z with ⟨z, -⟩ | ⟨z, -⟩
          · exact n2 z.symm
          · exact n4 z.symm
        have hb3 : ∀ k, k < 922000 → g_i M3 b k = g_i (g_wi M1 m 26 2606200) b k := fun k hk => f3.2.1 b k fun z => by
          rcases z with ⟨z, -⟩ | ⟨-, z⟩
          · exact n1 z.symm
          · omega
        have hpv : S_pv n es x = (V_of n x es).map fun y => (y.1, x.2.1, y.2.2) := by
          unfold S_pv
          rw [if_neg (by rw [ht]; decide)]
        refine h88 M3 0 v (V_of n x es) ⟨by decide, by decide⟩ hvR hX3 hW3 hF3 hpv (fun hno => ?_) fun y hy => ?_
        · rcases hret with ⟨-, h, -⟩ | ⟨y, h, -⟩
          · exact h
          · rw [hno] at h
            exact absurd h (by simp)
        · rcases hret with ⟨h, -⟩ | ⟨y', h, hcs⟩
          · rw [hy] at h
            exact absurd h (by simp)
          · rw [hy] at h
            rw [← Option.some.inj h] at hcs
            rcases hcs with ⟨-, nm, hv, hvl⟩ | ⟨hv, hk4, hl1', hat⟩
            · refine ⟨nm, 30, hv.upW hb3, ?_⟩
              rcases hvl with ⟨g1, g2, g3⟩ | ⟨g1, g2⟩
              · rw [g1, g2, g3]
                exact Or.inl (by omega)
              · omega
            · have hgy : b_gv 30 y.1 y.2.2 ∧ y.2.2.length ≤ 15000 := by
                rcases V_of_good (hg.le (by decide)) hser hy with ⟨g1, g2⟩ | ⟨-, g2, g3⟩
                · rw [g1]
                  exact ⟨b_gv_le hx0.2.2.1 (by omega), by omega⟩
                · exact ⟨g2, by omega⟩
              rw [hv]
              refine ⟨[], 30, ⟨by rw [hk4]; exact hat, fun c hc => absurd hc (by simp), hgy.1, by decide, ?_⟩, Or.inr (by omega)⟩
              rw [b_el_len, List.length_nil]
              have := hgy.2
              omega
      refine s_X12_project_11 hcpR hdcR hrR hxR fun hok => ⟨hR1.1, e_lastC (d := d + 36) hR1 hsq fun r2 hr1 hr2 => fun _ _ _ => ⟨fun _ => e_nameEnd (d := d + 38) hR1 hx1.nm ?_, fun z => absurd hr1 z⟩⟩
      intro _ _ _
      obtain ⟨ht1, ht2⟩ := e_isTr hR1 hok hx1
      refine e_kd hR1 hx1 (P := fun w => (w = 8 → _) ∧ (¬ w = 8 → _)) ⟨fun g8 => e_vl2 (d := d + 37) hR1 hx1 ?_, fun g8 => hfresh (ht2 fun z => g8 z.1)⟩
      intro _ _ _
      have hxv := hx1.val
      have hvl1 : 0 < x.2.2.length := by
        have hgv := hx0.2.2.1
        rw [g8] at hgv
        rcases b_gv_tr hgv with g' | g' <;> rw [g'] <;> decide
      refine e_u (d := d + 38) hR1 (by omega) (by omega) ?_ hok
      intro _ _ _
      refine ⟨fun g1 => ?_, fun g1 => hfresh (ht2 fun z => g1 z.2)⟩
      have ht := ht1 g8 g1
      refine s_X12_project_60 hcpR hdcR hrR hxR hnR ⟨by decide, by decide⟩ fun _ => ⟨fun z => absurd z (by decide), fun _ => ⟨⟨by omega, by omega⟩, hR1.1, e_findE (d := d + 34) hR1 ((hct hX1).tl fun _ _ => rfl) hx1.nmb (by omega) (by omega) ?_⟩⟩
      intro _ _ hvR
      obtain ⟨hno, hso⟩ := L_opt_fn (x := x.2.1) (es := es) (dc + 4)
      have hpv : S_pv n es x = (L_fn x.2.1 es).map fun y => (y.1, x.2.1, y.2.2) := by
        unfold S_pv
        rw [if_pos ht]
      refine h88 M1 1 _ (L_fn x.2.1 es) ⟨by decide, by decide⟩ hvR hX1 hW1 hF1 hpv (fun hno' => ?_) fun y hy => ?_
      · rw [hno hno']
        rfl
      · obtain ⟨l, t, l1, l2, l3, l4, l5⟩ := hso y hy
        have hst := (hct hX1).sts
        rw [l1] at hst
        have hy1 := hst.app.cons.1
        have hlen := congrArg List.length (congrArg b_ser l1)
        rw [b_ser_app, List.length_append, b_ser_len] at hlen
        have hdl := b_doc_len es
        rw [l5]
        exact ⟨y.2.1, 15, hy1.upW fun _ _ => rfl, by omega⟩
  have hR := hW.1
  rw [← hcp]
  refine m_X12_project hcpR hdcR fun _ => ⟨hR.1, e_open (d := d + 36) hW fun r M2 f2 W2 hr => ?_⟩
  intro _ _ hrR
  refine e_first (d := d + 38) (by omega) (by omega) ?_
  intro _ _ _
  refine hlp r hrR hr (b_ch e.2.2) [] _ [] M2 rfl ?_ ?_ (hX.tr (f2.up fun y k z => hwl z)) ?_ (hFw hF f2) (by rw [hTd]; rfl)
  · show cp + 4 = cp + 4 + ((0 : Nat) : Int)
    omega
  · clear hlp hkids hkl hmany htl
    generalize b_ch e.2.2 = cs at hpf
    induction cs with
    | nil => exact fun x hx => absurd hx (by simp)
    | cons c cs ih =>
      have hfL : S_pfL (c :: cs) = if S_pl c.2.1 = true then (if S_ef c = true then 3 else S_pfL cs) else 2 := rfl
      rw [hfL] at hpf
      split at hpf
      · split at hpf
        · exact absurd hpf (by decide)
        · rename_i hne
          intro x hx
          rcases List.mem_cons.mp hx with rfl | hx
          · simpa using hne
          · exact ih hpf x hx
      · exact absurd hpf (by decide)
  · rw [List.append_nil]
    exact W2
end EPROJ
