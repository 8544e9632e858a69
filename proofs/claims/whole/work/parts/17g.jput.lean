/-! STAGES: $lookup, the reference: the row of a document -/
def J_E (m b ma l : Nat) (lo : Int) (y : Nat) (k : Int) : Prop := E_ST m b ma lo y k ∨ E_lf m l y k
def J_EW (m b l : Nat) (lo : Int) (y : Nat) (k : Int) : Prop := e_WL m b lo (lo + 60000) y k ∨ E_lf m l y k
/-- the other shelf's documents -/
def E_os (m b ob : Nat) (os : List (List b_E)) (M : g_M) : Prop := g_r M m 20 = some ob ∧ g_A M ob 1 200 ∧ g_i M m 21 = os.length ∧ S_ok os ∧ ∀ (i : Nat) (es : List b_E), os[i]? = some es → ∃ p, g_i M ob i = p ∧ b_at (g_i M b) p (b_doc es) ∧ 2000 ≤ p ∧ p + (b_doc es).length ≤ 802000
section EJOIN
variable {m b ma be l ob : Nat} {M0 M M1 : g_M} {lo : Int} {L : List Int} {os : List (List b_E)}
theorem E_S.wr {lim : Int} (h : E_S m b l (g_i M b) M L) (f : e_fr (e_WL m b lo lim) M M1) : E_S m b l (g_i M1 b) M1 L := by
  have hne := h.ne
  obtain ⟨a1, a2, a3, a4, a5, a6, a7⟩ := h
  refine ⟨f.R a1, by rw [f.2.2]; exact a2, f.A a3, ?_, b_at_keep a5 fun k _ _ => f.2.1 l k fun z => ?_, rfl, a7⟩
  · rw [f.2.1 m 10 fun z => ?_]
    · exact a4
    · rcases z with ⟨-, z⟩ | ⟨z, -⟩
      · omega
      · exact hne.2.2 z
  · rcases z with ⟨z, -⟩ | ⟨z, -⟩
    · exact hne.2.1 z
    · exact hne.1 z
theorem E_S.sf {F : Int → Int} (h : E_S m b l F M L) : E_S m b l (g_i M b) M L := by
  have := h.2.2.2.2.2.1
  rw [this]
  exact h
theorem e_Wr.lf {lim : Int} {x L2 : List Int} {F : Int → Int} (h : e_Wr m b lo lim x M) (hS : E_S m b l F M L) (f : e_fr (E_lf m l) M M1) : e_Wr m b lo lim x M1 := by
  have hne := hS.ne
  refine h.kp f (fun k k1 k2 z => ?_) fun k _ _ z => ?_
  · rcases z with z | ⟨-, z⟩
    · exact hne.2.1 z.symm
    · omega
  · rcases z with z | ⟨z, -⟩
    · exact hne.1 z.symm
    · exact hne.2.2 z.symm
theorem J_E.no (hT : E_T m b ma be M0) (hlA : g_A M0 l 1 80000) : (∀ k, k < 922000 → (k < lo ∨ lo + 60000 ≤ k) → ¬ J_E m b ma l lo b k) ∧ (∀ k, 2706200 ≤ k → lo ≤ 862000 → ¬ J_E m b ma l lo b k) ∧ (∀ k, ¬ ((4 ≤ k ∧ k ≤ 6) ∨ k = 10 ∨ k = 23 ∨ k = 25 ∨ (26 ≤ k ∧ k ≤ 29)) → ¬ J_E m b ma l lo m k) ∧ (∀ k, ¬ J_E m b ma l lo be k) ∧ ∀ x, g_A M0 x 1 200 → x ≠ ma → ∀ k, ¬ J_E m b ma l lo x k := by
  obtain ⟨n1, n2, n3, n4, n5, n6⟩ := hT.ne
  have hlm : m ≠ l := g_neOA hT.1.1 hlA
  have hlb : b ≠ l := g_neAA hT.1.2.2 hlA (by omega)
  have hx : ∀ x, g_A M0 x 1 200 → x ≠ ma → ∀ k, ¬ J_E m b ma l lo x k := by
    intro x hx hxm k z
    rcases z with (⟨z, -⟩ | z | ⟨z, -⟩) | z | ⟨z, -⟩
    · exact g_neOA hT.1.1 hx z.symm
    · exact hxm z
    · exact g_neAA hx hT.1.2.2 (by omega) z
    · exact g_neAA hx hlA (by omega) z
    · exact g_neOA hT.1.1 hx z.symm
  refine ⟨fun k k1 k2 z => ?_, fun k k1 k2 z => ?_, fun k k1 z => ?_, hx be hT.2.2.2.2.1 n6, hx⟩
  · rcases z with (⟨z, -⟩ | z | ⟨-, z⟩) | z | ⟨z, -⟩
    · exact n1 z.symm
    · exact n4 z
    · omega
    · exact hlb z
    · exact n1 z.symm
  · rcases z with (⟨z, -⟩ | z | ⟨-, z⟩) | z | ⟨z, -⟩
    · exact n1 z.symm
    · exact n4 z
    · omega
    · exact hlb z
    · exact n1 z.symm
  · rcases z with (⟨-, z⟩ | z | ⟨z, -⟩) | z | ⟨-, z⟩
    · omega
    · exact n2 z
    · exact n1 z
    · exact hlm z
    · omega
theorem J_EW.up {y : Nat} {k : Int} (h : J_EW m b l lo y k) : J_E m b ma l lo y k := by
  rcases h with (⟨h1, h2⟩ | ⟨h1, h2⟩) | h
  · exact Or.inl (Or.inl ⟨h1, by omega⟩)
  · exact Or.inl (Or.inr (Or.inr ⟨h1, Or.inl h2⟩))
  · exact Or.inr h
theorem J_kl_has {F F2 : Int → Int} {c c2 : Int} {es od : List b_E} {sh st : List (List Int)} (h1 : (J_kl c es sh).map L_nop = O_ke (O_lv es sh)) (h2 : (J_kl c2 od st).map L_nop = O_ke (O_lv od st)) : (∃ y ∈ J_kl c es sh, ∃ z ∈ J_kl c2 od st, J_same (J_no 2706200 y) (J_no 2706200 z)) ↔ J_has sh st es od := by
  have hs : ∀ y z : Option (Int × b_E), J_same (J_no 2706200 y) (J_no 2706200 z) ↔ J_eq (J_v (L_nop y)) (J_v (L_nop z)) := fun y z => by
    rw [← J_no_v 2706200 y, ← J_no_v 2706200 z]
    exact Iff.rfl
  unfold J_has
  constructor
  · rintro ⟨y, hy, z, hz, hyz⟩
    exact ⟨L_nop y, (O_ke_mem _ _).mpr (by rw [← h1]; exact List.mem_map_of_mem hy), L_nop z, (O_ke_mem _ _).mpr (by rw [← h2]; exact List.mem_map_of_mem hz), (hs y z).mp hyz⟩
  · rintro ⟨u, hu, w, hw, huw⟩
    have a1 := (O_ke_mem _ _).mp hu
    have a2 := (O_ke_mem _ _).mp hw
    rw [← h1] at a1
    rw [← h2] at a2
    obtain ⟨y, y1, y2⟩ := List.mem_map.mp a1
    obtain ⟨z, z1, z2⟩ := List.mem_map.mp a2
    exact ⟨y, y1, z, z1, (hs y z).mpr (by rw [y2, z2]; exact huw)⟩
theorem e_putJoined {d Dh Dt : Nat} {Q : g_M → Prop} {qh qt fm dc : Int} {h t : b_E} {nm x : List Int} {es : List b_E} (hT : E_T m b ma be M0) (hlA : g_A M0 l 1 80000) (hlo : 802000 ≤ lo) (hlo2 : lo ≤ 862000) (ho : E_os m b ob os M0) (hom : ob ≠ ma) (hno : b_at (g_i M0 b) 2706200 [10, 0]) (hh : b_st (g_i M0 b) 2100 qh Dh h.1 h.2.1 h.2.2) (ht : b_st (g_i M0 b) 2100 qt Dt t.1 t.2.1 t.2.2) (hh2 : h.1 = 2) (ht2 : t.1 = 2) (hhp : p_plain (s_tx h.2.2)) (htp : p_plain (s_tx t.2.2)) (hnm : b_at (g_i M0 b) fm nm) (hfm : 0 ≤ fm) (hfm2 : fm + nm.length ≤ 2100) (hd : b_at (g_i M0 b) dc (b_doc es)) (hd1 : 2000 ≤ dc) (hd2 : dc + (b_doc es).length ≤ 922000) (hd3 : dc + (b_doc es).length ≤ lo ∨ lo + 60000 ≤ dc) (hl : (b_doc es).length ≤ 2000) (hg : X_gd 15 es) (hL : L.length ≤ 100) (hX : e_fr (J_E m b ma l lo) M0 M) (hS : E_S m b l (g_i M b) M L) (hW : e_Wr m b lo (lo + 60000) x M) (hq : ∀ M1, e_fr (J_EW m b l lo) M M1 → E_S m b l (g_i M1 b) M1 L → e_Wr m b lo (lo + 60000) (x ++ b_el 4 nm (b_doc (J_row 0 (J_fd (p_sp (s_tx h.2.2)) (p_sp (s_tx t.2.2)) os es)))) M1 → Q M1) : g_Call (d + 53) 346 [.ref m, g_n qh, g_n qt, g_n fm, g_n (fm + nm.length), g_n dc] M (g_qV Q) := by
  obtain ⟨j1, j2, j3, j4, j5⟩ := J_E.no (lo := lo) hT hlA
  obtain ⟨o1, o2, o3, o4, o5⟩ := id ho
  obtain ⟨sh, hsh⟩ : ∃ sh, sh = p_sp (s_tx h.2.2) := ⟨_, rfl⟩
  obtain ⟨st, hst⟩ : ∃ st, st = p_sp (s_tx t.2.2) := ⟨_, rfl⟩
  have hshn : sh ≠ [] := by rw [hsh, p_sp_eq]; simp
  have hstn : st ≠ [] := by rw [hst, p_sp_eq]; simp
  have hsh8 : sh.length ≤ 8 := by rw [hsh]; exact hhp.1.2.1
  have hst8 : st.length ≤ 8 := by rw [hst]; exact htp.1.2.1
  rw [← hsh, ← hst] at hq
  have hqhR := hh.R (by decide)
  have hqtR := ht.R (by decide)
  have hh4 := hh.2.2.2.1
  have hh5 := hh.2.2.2.2
  have ht4 := ht.2.2.2.1
  have ht5 := ht.2.2.2.2
  have hob200 := o4.1
  -- what stays
  have hbk : ∀ {M2 : g_M}, e_fr (J_E m b ma l lo) M0 M2 → ∀ k, k < 922000 → (k < lo ∨ lo + 60000 ≤ k) → g_i M2 b k = g_i M0 b k := fun f k k1 k2 => f.2.1 b k (j1 k k1 k2)
  have hreq : ∀ {M2 : g_M}, e_fr (J_E m b ma l lo) M0 M2 → ∀ {q : Int} {D : Nat} {y : b_E}, b_st (g_i M0 b) 2100 q D y.1 y.2.1 y.2.2 → b_st (g_i M2 b) 2706210 q D y.1 y.2.1 y.2.2 := by
    intro M2 f q D y hs
    exact ⟨b_at_keep hs.1 fun j j1 j2 => hbk f j (by have := hs.2.2.2.2; omega) (by have := hs.2.2.2.2; omega), hs.2.1, hs.2.2.1, hs.2.2.2.1, by have := hs.2.2.2.2; omega⟩
  have hct : ∀ {M2 : g_M}, e_fr (J_E m b ma l lo) M0 M2 → E_ct (g_i M2 b) dc 15 es := fun f => ⟨b_at_keep hd fun k k1 k2 => hbk f k (by omega) (by omega), by omega, hd2, hg⟩
  have hno2 : ∀ {M2 : g_M}, e_fr (J_E m b ma l lo) M0 M2 → b_at (g_i M2 b) 2706200 [10, 0] := fun f => b_at_keep hno fun k k1 _ => f.2.1 b k (j2 k k1 hlo2)
  have hnm2 : ∀ {M2 : g_M}, e_fr (J_E m b ma l lo) M0 M2 → b_at (g_i M2 b) fm nm := fun f => b_at_keep hnm fun k k1 k2 => hbk f k (by omega) (by omega)
  have hwx : ∀ {y : Nat} {k : Int}, e_WL m b lo (lo + 60000) y k → J_EW m b l lo y k := fun z => Or.inl z
  have hlx : ∀ {y : Nat} {k : Int}, E_lf m l y k → J_EW m b l lo y k := fun z => Or.inr z
  -- the other documents
  have hoe : ∀ {M2 : g_M}, e_fr (J_E m b ma l lo) M0 M2 → g_r M2 m 20 = some ob ∧ g_A M2 ob 1 200 ∧ g_i M2 m 21 = os.length ∧ ∀ (i : Nat) (od : List b_E), os[i]? = some od → ∃ p, g_i M2 ob i = p ∧ b_at (g_i M2 b) p (b_doc od) ∧ 2000 ≤ p ∧ p + (b_doc od).length ≤ 802000 := by
    intro M2 f
    refine ⟨by rw [f.2.2]; exact o1, f.A o2, by rw [f.2.1 m 21 (j3 21 (by decide))]; exact o3, fun i od hi => ?_⟩
    obtain ⟨p, p1, p2, p3, p4⟩ := o5 i od hi
    exact ⟨p, by rw [f.2.1 ob i (j5 ob o2 hom i)]; exact p1, b_at_keep p2 fun k k1 k2 => hbk f k (by omega) (by omega), p3, p4⟩
  refine m_X12_putJoined hqhR hqtR ⟨by omega, by omega⟩ ⟨by omega, by omega⟩ ⟨by omega, by omega⟩ fun _ => ⟨hW.1.1, e_put (d := d + 51) hW ⟨by decide, by decide⟩ fun M2 f2 W2 => ?_⟩
  intro _ _
  have x2 : e_fr (J_EW m b l lo) M M2 := f2.up fun _ _ => hwx
  have X2 := hX.tr (x2.up fun _ _ z => z.up)
  have S2 := hS.wr f2
  refine e_putBytes (d := d + 50) W2 (hnm2 X2) hfm (by omega) (Or.inl (by omega)) fun M5 f5 W5 => ?_
  intro _ _
  have x5 := x2.tr (f5.up fun _ _ => hwx)
  have S5 := S2.wr f5
  refine e_put (d := d + 51) W5 ⟨by decide, by decide⟩ fun M8 f8 W8 => ?_
  intro _ _
  have x8 := x5.tr (f8.up fun _ _ => hwx)
  have S8 := S5.wr f8
  obtain ⟨pre, hpre⟩ : ∃ pre, pre = x ++ [g_w8 4] ++ nm ++ [g_w8 0] := ⟨_, rfl⟩
  rw [← hpre] at W8
  refine e_open (d := d + 49) W8 fun r14 M11 f11 W11 hr14 => ?_
  intro _ _ hrR
  have x11 := x8.tr (f11.up fun _ _ => hwx)
  have S11 := S8.wr f11
  have X11 := hX.tr (x11.up fun _ _ z => z.up)
  have h10 : g_i M11 m 10 = L.length := S11.2.2.2.1
  rw [h10]
  -- one of the other documents after another
  obtain ⟨A, hA⟩ : ∃ A, A = J_ka dc es sh := ⟨_, rfl⟩
  have hAl : A.length ≤ 14001 := by rw [hA]; exact J_ka_len (hct X11) hl hshn hsh8
  have hlp : ∀ (P : List Int), (∃ T, P = L ++ T ∧ T.length ≤ 3301) → ∀ (o2 o1 : List (List b_E)) (M3 : g_M), os = o1 ++ o2 → e_fr (J_EW m b l lo) M M3 → E_S m b l (g_i M3 b) M3 (P ++ A) → e_Wr m b lo (lo + 60000) (pre ++ ([0, 0, 0, 0] ++ b_ser (J_row 0 (J_fd sh st o1 es)))) M3 → g_Run (d + 52) 346 81 [(0, .ref m), (1, g_n qh), (2, g_n qt), (3, g_n fm), (4, g_n (fm + nm.length)), (5, g_n dc), (6, g_n r14), (7, g_n (J_fd sh st o1 es).length), (8, g_n L.length), (9, g_n P.length), (10, g_n (P ++ A).length), (11, g_n o1.length)] [] M3 (g_qV Q) := by
    intro P hPT o2
    obtain ⟨T0, hP0, hT0⟩ := id hPT
    have hPl : P.length ≤ 3401 := by rw [hP0, List.length_append]; omega
    have hPA : (((P ++ A).length : Nat) : Int) = (P.length : Int) + A.length := by rw [List.length_append]; omega
    induction o2 with
    | nil =>
      intro o1 M3 k1 x3 S3 W3
      rw [List.append_nil] at k1
      subst k1
      have X3 := hX.tr (x3.up fun _ _ z => z.up)
      obtain ⟨e1, e2, e3, e4⟩ := hoe X3
      have hfl := List.length_filter_le (J_hb sh st es) os
      have hfR : g_InR ((J_fd sh st os es).length : Int) := by unfold J_fd; exact ⟨by omega, by omega⟩
      refine s_X12_putJoined_81 hqhR hqtR ⟨by omega, by omega⟩ ⟨by omega, by omega⟩ ⟨by omega, by omega⟩ hrR hfR ⟨by omega, by omega⟩ ⟨by omega, by omega⟩ (by rw [hPA]; exact ⟨by omega, by omega⟩) ⟨by omega, by omega⟩ fun _ => ⟨W3.1.1, fun z => absurd z (by rw [e3]; omega), fun _ => ?_⟩
      rintro M2' rfl _
      have hcut : E_S m b l (g_i M3 b) M3 (L ++ (T0 ++ A)) := by
        rw [hP0, List.append_assoc] at S3
        exact S3
      obtain ⟨Sc, fc⟩ := hcut.cut
      have Wc := W3.lf (L2 := []) S3 fc
      refine e_close (d := d + 50) Wc hr14 fun M6 f6 W6 => ?_
      intro _ _
      refine hq M6 ((x3.tr (fc.up fun _ _ => hlx)).tr (f6.up fun _ _ => hwx)) (Sc.sf.wr f6) ?_
      rw [← b_doc_app, hpre] at W6
      have ew : x ++ [g_w8 4] ++ nm ++ [g_w8 0] ++ b_doc (J_row 0 (J_fd sh st os es)) = x ++ b_el 4 nm (b_doc (J_row 0 (J_fd sh st os es))) := by
        have h4 : g_w8 4 = 4 := by decide
        have h0 : g_w8 0 = 0 := by decide
        rw [h4, h0]
        unfold b_el
        simp
      rw [ew] at W6
      exact W6
    | cons od o2 ih =>
      intro o1 M3 k1 x3 S3 W3
      have hol := congrArg List.length k1
      rw [List.length_append, List.length_cons] at hol
      have hfl := List.length_filter_le (J_hb sh st es) o1
      have hf1 : (J_fd sh st o1 es).length ≤ o1.length := hfl
      have X3 := hX.tr (x3.up fun _ _ z => z.up)
      obtain ⟨e1, e2, e3, e4⟩ := hoe X3
      have hoi : os[o1.length]? = some od := by rw [k1, List.getElem?_append_right (Nat.le_refl _), Nat.sub_self]; rfl
      obtain ⟨p, p1, p2, p3, p4⟩ := e4 o1.length od hoi
      obtain ⟨m1, m2⟩ := o4.2.2 od (by rw [k1]; simp)
      have hcto : ∀ {M2 : g_M}, e_fr (J_E m b ma l lo) M0 M2 → E_ct (g_i M2 b) p 15 od := fun f => by
        obtain ⟨p', q1, q2, q3, q4⟩ := (hoe f).2.2.2 o1.length od hoi
        have : p' = p := by
          rw [← q1, ← p1, f.2.1 ob _ (j5 ob ho.2.1 hom _), X3.2.1 ob _ (j5 ob ho.2.1 hom _)]
        subst this
        exact ⟨q2, by omega, by omega, m2⟩
      have hsn : J_fd sh st (o1 ++ [od]) es = J_fd sh st o1 es ++ if J_hb sh st es od = true then [od] else [] := by
        unfold J_fd
        rw [List.filter_append, List.filter_cons, List.filter_nil]
      refine s_X12_putJoined_81 hqhR hqtR ⟨by omega, by omega⟩ ⟨by omega, by omega⟩ ⟨by omega, by omega⟩ hrR ⟨by omega, by omega⟩ ⟨by omega, by omega⟩ ⟨by omega, by omega⟩ (by rw [hPA]; exact ⟨by omega, by omega⟩) ⟨by omega, by omega⟩ fun _ => ⟨W3.1.1, fun _ => ⟨ob, e1, _, e2, ⟨by omega, by omega⟩, ?_⟩, fun z => absurd (by rw [e3]; omega) z⟩
      rw [p1]
      refine e_valsOn (d := d + 1) (R := fun r28 M36 => g_Run (d + 52) 346 142 [(0, .ref m), (1, g_n qh), (2, g_n qt), (3, g_n fm), (4, g_n (fm + nm.length)), (5, g_n dc), (6, g_n r14), (7, g_n (J_fd sh st o1 es).length), (8, g_n L.length), (9, g_n P.length), (10, g_n (P ++ A).length), (11, g_n o1.length), (12, g_n r28), (13, g_n 0), (14, g_n P.length)] [] M36 (g_qV Q)) S3 (hcto X3) m1 (hreq X3 ht) ht5 ht2 htp (by rw [List.length_append]; omega) fun M5 P5 f5 hP5 S5 => ?_
      obtain ⟨T, hPT5, hTl⟩ := hP5
      rw [hPT5, ← hst] at S5
      rw [hPT5]
      obtain ⟨B, hB⟩ : ∃ B, B = J_ka p od st := ⟨_, rfl⟩
      rw [← hB] at S5
      have x5' := x3.tr (f5.up fun _ _ => hlx)
      have X5 := hX.tr (x5'.up fun _ _ z => z.up)
      have W5' := W3.lf (L2 := []) S3 f5
      have hBl : B.length ≤ 14001 := by rw [hB]; exact J_ka_len (hcto X5) m1 hstn hst8
      obtain ⟨a1, a2, a3⟩ := J_kl_at (hct X5) hl hshn hsh8
      obtain ⟨b1, b2, b3⟩ := J_kl_at (hcto X5) m1 hstn hst8
      have hhas := J_kl_has (F := g_i M5 b) (F2 := g_i M5 b) a3 b3
      have hS5b := S5.2.2.2.2.2.1
      refine e_someSame (d := d + 5) (F := g_i M5 b) (K1 := J_kl dc es sh) (K2 := J_kl p od st) S5.sf (hno2 X5) (fun v => by rw [hA]; exact J_ka_mem) (fun v => by rw [hB]; exact J_ka_mem) a2 b2 hqhR hqtR ⟨by omega, by omega⟩ ⟨by omega, by omega⟩ ⟨by omega, by omega⟩ hrR ⟨by omega, by omega⟩ ⟨by omega, by omega⟩ ⟨by omega, by omega⟩ (by simp only [List.length_append]; omega) fun w13 w14 h14R hsome => ?_
      have hlP2 : (((P ++ A ++ T).length : Nat) : Int) = (P.length : Int) + A.length + T.length := by simp only [List.length_append]; omega
      have h13R : g_InR w13 := by rcases hsome with ⟨z, -⟩ | ⟨z, -⟩ <;> rw [z] <;> exact ⟨by decide, by decide⟩
      refine s_X12_putJoined_210 hqhR hqtR ⟨by omega, by omega⟩ ⟨by omega, by omega⟩ ⟨by omega, by omega⟩ hrR ⟨by omega, by omega⟩ ⟨by omega, by omega⟩ ⟨by omega, by omega⟩ (by rw [hPA]; exact ⟨by omega, by omega⟩) ⟨by omega, by omega⟩ (by rw [hlP2]; exact ⟨by omega, by omega⟩) h13R h14R fun _ => ⟨W5'.1.1, ?_⟩
      rintro M2' rfl _
      have hcut : E_S m b l (g_i M5 b) M5 ((P ++ A) ++ (T ++ B)) := by
        have := S5.sf
        rw [List.append_assoc] at this
        exact this
      obtain ⟨Sc, fc⟩ := hcut.cut
      have Wc := W5'.lf (L2 := []) hcut fc
      have xc := x5'.tr (fc.up fun _ _ => hlx)
      have Xc := hX.tr (xc.up fun _ _ z => z.up)
      rcases hsome with ⟨rfl, hh⟩ | ⟨rfl, hh⟩
      · have hb := J_hb_t (hhas.mp hh)
        rw [if_pos hb] at hsn
        refine ⟨fun g => absurd g (by decide), fun _ => e_put (d := d + 51) Wc ⟨by decide, by decide⟩ fun M6 f6 W6 => ?_⟩
        intro _ _
        have x6 := xc.tr (f6.up fun _ _ => hwx)
        have S6 := Sc.sf.wr f6
        refine e_putDigits (d := d + 50) W6 (by omega) fun M9 f9 W9 => ?_
        intro _ _
        have x9 := x6.tr (f9.up fun _ _ => hwx)
        have X9 := hX.tr (x9.up fun _ _ z => z.up)
        have S9 := S6.wr f9
        obtain ⟨e1', e2', e3', e4'⟩ := hoe X9
        obtain ⟨p', q1, q2, q3, q4⟩ := e4' o1.length od hoi
        refine ⟨ob, e1', _, e2', ⟨by omega, by omega⟩, ob, e1', _, e2', ⟨by omega, by omega⟩, ob, e1', _, e2', ⟨by omega, by omega⟩, ?_⟩
        rw [q1]
        refine e_int4 (d := d + 50) S9.1 (by omega) (by omega) ?_
        rw [e_w4doc q2 (by omega)]
        intro _ _ _
        refine ⟨⟨by omega, by omega⟩, e_putBytes (d := d + 50) W9 q2 (by omega) (by omega) (Or.inl (by omega)) fun M33 f33 W33 => ?_⟩
        intro _ _
        refine ⟨⟨by omega, by omega⟩, ⟨by omega, by omega⟩, ?_⟩
        have h9 := ih (o1 ++ [od]) M33 (by rw [k1]; simp) (x9.tr (f33.up fun _ _ => hwx)) (S9.wr f33) ?_
        · have hz1 : ((J_fd sh st (o1 ++ [od]) es).length : Int) = ((J_fd sh st o1 es).length : Int) + 1 := by rw [hsn, List.length_append, List.length_singleton]; omega
          have hz2 : ((o1 ++ [od]).length : Int) = (o1.length : Int) + 1 := by rw [List.length_append, List.length_singleton]; omega
          rwa [hz1, hz2] at h9
        · rw [hsn, J_row_snoc, b_ser_app, b_ser_1, Nat.zero_add]
          have h3 : g_w8 3 = 3 := by decide
          have ew : pre ++ ([0, 0, 0, 0] ++ b_ser (J_row 0 (J_fd sh st o1 es))) ++ [g_w8 3] ++ (b_dg (J_fd sh st o1 es).length ++ [0]) ++ b_doc od = pre ++ ([0, 0, 0, 0] ++ (b_ser (J_row 0 (J_fd sh st o1 es)) ++ b_el 3 (b_dg (J_fd sh st o1 es).length) (b_doc od))) := by
            rw [h3]
            unfold b_el
            simp
          rw [ew] at W33
          exact W33
      · have hb := J_hb_f fun z => by
          obtain ⟨y, hy, u, hu, hyu⟩ := hhas.mpr z
          exact hh y hy u hu hyu
        rw [hb, if_neg (by decide), List.append_nil] at hsn
        refine ⟨fun _ => ⟨⟨by omega, by omega⟩, ?_⟩, fun g => absurd rfl g⟩
        have h9 := ih (o1 ++ [od]) _ (by rw [k1]; simp) xc Sc.sf (by rw [hsn]; exact Wc)
        have hz2 : ((o1 ++ [od]).length : Int) = (o1.length : Int) + 1 := by rw [List.length_append, List.length_singleton]; omega
        rwa [hsn, hz2] at h9
  refine e_valsOn (d := d + 1) (R := fun r30 M38 => g_Run (d + 52) 346 81 [(0, .ref m), (1, g_n qh), (2, g_n qt), (3, g_n fm), (4, g_n (fm + nm.length)), (5, g_n dc), (6, g_n r14), (7, g_n 0), (8, g_n L.length), (9, g_n r30), (10, g_n (g_i M38 m 10)), (11, g_n 0)] [] M38 (g_qV Q)) S11 (hct X11) hl (hreq X11 hh) hh5 hh2 hhp (by omega) fun M5 P f5 hP S5 => ?_
  rw [← hsh, ← hA] at S5
  show g_Run (d + 52) 346 81 [(0, .ref m), (1, g_n qh), (2, g_n qt), (3, g_n fm), (4, g_n (fm + nm.length)), (5, g_n dc), (6, g_n r14), (7, g_n 0), (8, g_n L.length), (9, g_n P.length), (10, g_n (g_i M5 m 10)), (11, g_n 0)] [] M5 (g_qV Q)
  rw [S5.2.2.2.1]
  refine hlp P hP os [] M5 rfl (x11.tr (f5.up fun _ _ => hlx)) S5.sf ?_
  have : b_ser (J_row 0 (J_fd sh st [] es)) = [] := rfl
  rw [this, List.append_nil]
  exact W11.lf (L2 := []) S11 f5
end EJOIN
