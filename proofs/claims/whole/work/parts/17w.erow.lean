/-! STAGES: $group, the reference: rows of values; an element of a group -/
section EGATHER
variable {m b ma be go fo gi l n : Nat} {M0 M M1 : g_M} {lo g : Int} {ds : List (List b_E)} {yb a x : b_E} {U : List Int}
theorem e_isAhead {d Da k : Nat} {Q : Int → g_M → Prop} {qa p l1 : Int} {y : b_E} (h0 : G_e0 m b ma be go fo lo g ds M0) (h : G_eX n yb ds m b ma go fo lo M0 M) (hg : (G_lk n yb ds ds.length)[gi]? = some l) (ha : b_st (g_i M0 b) 2100 qa Da a.1 a.2.1 a.2.2) (hDa : Da ≤ 30) (hef : S_ef a = false) (hn : 16 ≤ n) (hk : k < ds.length) (h26 : g_i M m 26 = l1) (hl1 : 2606200 ≤ l1) (hl2 : l1 ≤ 2608202) (hy : G_eo (g_i M b) lo l1 p y) (hq : ∀ M1, e_fr (E_VF m b l1) M M1 → Q (if (((G_pv n yb ds l a k).filterMap id).any fun z => F_eq z y) = true then 1 else 0) M1) : g_Call (d + 67) 355 [.ref m, g_n qa, g_n gi, g_n k, g_n p] M (g_qI Q) := by
  obtain ⟨q1, q2, q3⟩ := G_lk_mem hg
  have hl200 := h0.2.2.2.1.2.1.1
  have hgl := (List.getElem?_eq_some_iff.mp hg).1
  have hlk := @G_lk_len n yb ds ds.length
  have hmb : m ≠ b := h0.1.1.ne.1
  have hqaR : g_InR qa := by have := ha.2.2.2.1; have := ha.2.2.2.2; exact ⟨by omega, by omega⟩
  have hpR : g_InR p := by obtain ⟨nm, z, -⟩ := hy; exact z.R (by decide)
  have hup : ∀ {Ma Mb : g_M}, e_fr (E_VF m b l1) Ma Mb → e_fr (E_VF m b 2606200) Ma Mb := fun f => f.up fun y k z => by
    rcases z with z | ⟨z, z2, z3⟩
    · exact Or.inl z
    · exact Or.inr ⟨z, by omega, z3⟩
  have hbk : ∀ {Ma Mb : g_M}, e_fr (E_VF m b l1) Ma Mb → ∀ k, k < l1 → g_i Mb b k = g_i Ma b k := fun f k hk => f.2.1 b k fun z => by
    rcases z with ⟨z, -⟩ | ⟨-, z⟩
    · exact hmb z.symm
    · omega
  have hlp : ∀ (t i : Nat) (M2 : g_M), i + t = k → e_fr (E_VF m b l1) M M2 → (((G_pv n yb ds l a i).filterMap id).any fun z => F_eq z y) = false → g_Run (d + 66) 355 12 [(0, .ref m), (1, g_n qa), (2, g_n gi), (3, g_n k), (4, g_n p), (5, g_n l1), (6, g_n 0), (7, g_n i)] [] M2 (g_qI Q) := by
    intro t
    induction t with
    | zero =>
      intro i M2 hi f2 hno
      have hik : i = k := by omega
      subst hik
      have h9 := hq M2 f2
      rw [hno, if_neg (by decide)] at h9
      exact s_X12_isAhead_12 hqaR ⟨by omega, by omega⟩ ⟨by omega, by omega⟩ hpR ⟨by omega, by omega⟩ ⟨by decide, by decide⟩ ⟨by omega, by omega⟩ fun _ => ⟨fun z => absurd z (by omega), fun _ => ⟨Or.inl rfl, h9⟩⟩
    | succ t ih =>
      intro i M2 hi f2 hno
      have h2 := h.vf h0 (hup f2)
      obtain ⟨-, -, k3, k4, k5, k6⟩ := h0.st h2
      have hps := @G_pv_s n yb ds l a i
      have hm := G_gk_mem h2.2 hg (k := i) (by omega)
      have hnx : ∀ (M3 : g_M), e_fr (E_VF m b l1) M M3 → (((G_pv n yb ds l a (i + 1)).filterMap id).any fun z => F_eq z y) = false → g_InR ((i : Int) + 1) ∧ g_Run (d + 66) 355 12 [(0, .ref m), (1, g_n qa), (2, g_n gi), (3, g_n k), (4, g_n p), (5, g_n l1), (6, g_n 0), (7, g_n ((i : Int) + 1))] [] M3 (g_qI Q) := by
        intro M3 f3 hno3
        refine ⟨⟨by omega, by omega⟩, ?_⟩
        have h9 := ih (i + 1) M3 (by omega) f3 hno3
        rwa [show ((i + 1 : Nat) : Int) = (i : Int) + 1 by omega] at h9
      refine s_X12_isAhead_12 hqaR ⟨by omega, by omega⟩ ⟨by omega, by omega⟩ hpR ⟨by omega, by omega⟩ ⟨by decide, by decide⟩ ⟨by omega, by omega⟩ fun _ => ⟨fun _ => ⟨fun _ => ⟨k3.1.1.1, go, k3.2.1.1, _, k3.2.2.1.1, ⟨by omega, by omega⟩, fun g1 => ?_, fun g1 => ?_⟩, fun z => absurd rfl z⟩, fun z => absurd (by omega) z⟩
      rotate_left
      · rw [if_neg fun z => g1 (hm.mpr z), List.append_nil] at hps
        exact hnx M2 f2 (by rw [hps]; exact hno)
      rw [if_pos (hm.mp g1)] at hps
      obtain ⟨es, hes⟩ : ∃ es, ds[i]? = some es := ⟨_, List.getElem?_eq_getElem (by omega)⟩
      have hgk : ds.getD i [] = es := by rw [List.getD_eq_getElem?_getD, hes]; rfl
      rw [hgk] at hps
      have hany : (((G_pv n yb ds l a (i + 1)).filterMap id).any fun z => F_eq z y) = (([V_of n a es].filterMap id).any fun z => F_eq z y) := by
        rw [hps, List.filterMap_append, List.any_append, hno, Bool.false_or]
      rw [hany] at hnx
      intro M7 e7 _
      have f7 : e_fr (E_VF m b l1) M2 M7 := by rw [e7]; exact e_fr.wi _ (Or.inl ⟨rfl, by decide, by decide⟩)
      have f27 := f2.tr f7
      have h7 := h.vf h0 (hup f27)
      obtain ⟨-, -, m3, m4, -, -⟩ := h0.st h7
      obtain ⟨p', p1', p2', p3'⟩ := h0.ed h7 hes
      refine ⟨be, m3.1.2.2.1, _, m3.1.2.2.2.2.1, ⟨by omega, by omega⟩, ?_⟩
      rw [p1']
      refine e_valE (n := n) (ls := l1) (by omega) m3.1.1 k5 k6 (h0.rq h7 ha) hef hDa p2'.1 p2'.2.1 p2'.2.2.1 p2'.2.2.2.1 hn p2'.2.2.2.2.1 p2'.2.2.2.2.2 (by rw [e7, g_i_wi, if_pos ⟨rfl, rfl⟩]) hl1 (by omega) fun M3 v ls f3 h263 hl13 hl23 hv => ?_
      intro _ _ hvR
      have f23 := f27.tr f3
      rcases hv with ⟨v1, v2⟩ | ⟨z, v1, v2⟩
      · rw [v1] at hnx
        exact ⟨fun _ => hnx M3 f23 rfl, fun z => absurd v2 z⟩
      rw [v1] at hnx hany
      have hone : (([some z].filterMap id).any fun z => F_eq z y) = F_eq z y := by
        show (F_eq z y || false) = _
        rw [Bool.or_false]
      rw [hone] at hnx hany
      obtain ⟨nm, z1, z2, z3⟩ := id v2
      have hv0 := z1.2.2.2.1
      obtain ⟨nm2, y1, -⟩ := hy.kp (B1 := g_i M3 b) fun k k1 _ => hbk f23 k k1
      refine ⟨fun z => absurd z (by omega), fun _ => e_isSame3 (d := d) (f3.R m3.1.1) z1 y1 ?_⟩
      intro _ _ _
      by_cases hs : F_eq z y = true
      · rw [if_pos hs]
        have hyes : (((G_pv n yb ds l a k).filterMap id).any fun z => F_eq z y) = true := by
          obtain ⟨r, hr⟩ := G_pv_pre (n := n) (yb := yb) (a := a) (ds := ds) (l := l) (m := i + 1) (k - (i + 1))
          rw [show i + 1 + (k - (i + 1)) = k by omega] at hr
          rw [hr, List.filterMap_append, List.any_append, hany, hs]
          rfl
        have h9 := hq M3 f23
        rw [hyes, if_pos rfl] at h9
        refine ⟨fun z => absurd z (by decide), fun _ => ⟨⟨by omega, by omega⟩, s_X12_isAhead_12 hqaR ⟨by omega, by omega⟩ ⟨by omega, by omega⟩ hpR ⟨by omega, by omega⟩ ⟨by decide, by decide⟩ ⟨by omega, by omega⟩ fun _ => ⟨fun _ => ⟨fun z => absurd z (by decide), fun _ => ⟨Or.inr rfl, h9⟩⟩, fun _ => ⟨Or.inr rfl, h9⟩⟩⟩⟩
      · rw [if_neg hs]
        exact ⟨fun _ => hnx M3 f23 (by simpa using hs), fun z => absurd rfl z⟩
  refine m_X12_isAhead hqaR ⟨by omega, by omega⟩ ⟨by omega, by omega⟩ hpR fun _ => ⟨(h0.st h).2.2.1.1.1.1, ?_⟩
  rw [h26]
  exact hlp k 0 M (by omega) (e_fr.rf _ _) rfl
theorem e_putGathered {d Da : Nat} {Q : g_M → Prop} {qa : Int} {once : Bool} (h0 : G_e0 m b ma be go fo lo g ds M0) (h : G_eX n yb ds m b ma go fo lo M0 M) (hg : (G_lk n yb ds ds.length)[gi]? = some l) (ha : b_st (g_i M0 b) 2100 qa Da a.1 a.2.1 a.2.2) (hDa : Da ≤ 30) (hef : S_ef a = false) (hn : 16 ≤ n) (hW : e_Wr m b lo (lo + 60000) U M) (hq : ∀ M1, e_fr (fun y k => e_WL m b lo (lo + 60000) y k ∨ E_VF m b 2606200 y k) M M1 → e_Wr m b lo (lo + 60000) (U ++ b_doc (G_row 0 (G_st once [] (G_pv n yb ds l a ds.length)))) M1 → Q M1) : g_Call (d + 69) 354 [.ref m, g_n qa, g_n gi, g_n (if once = true then 1 else 0)] M (g_qV Q) := by
  obtain ⟨q1, q2, q3⟩ := G_lk_mem hg
  have hl200 := h0.2.2.2.1.2.1.1
  have hgl := (List.getElem?_eq_some_iff.mp hg).1
  have hlk := @G_lk_len n yb ds ds.length
  have hqaR : g_InR qa := by have := ha.2.2.2.1; have := ha.2.2.2.2; exact ⟨by omega, by omega⟩
  have honR : g_InR (if once = true then 1 else 0) := by split <;> exact ⟨by decide, by decide⟩
  have hmb : m ≠ b := h0.1.1.ne.1
  have hupW : ∀ {y : Nat} {k : Int}, (e_WL m b lo (lo + 60000) y k ∨ E_VF m b 2606200 y k) → G_eW m b lo y k := fun z => z.elim Or.inl fun z => Or.inr (Or.inl z)
  obtain ⟨pv, hpv⟩ : ∃ pv : Nat → List (Option b_E), pv = G_pv n yb ds l a := ⟨_, rfl⟩
  rw [← hpv] at hq
  have hpl : ∀ k, (pv k).length ≤ k := fun k => by rw [hpv]; exact G_pv_len
  have hlp : ∀ (r : Int), g_InR r → w_r lo (lo + 60000) r U.length → ∀ (t k : Nat) (M2 : g_M), k + t = ds.length → e_fr (fun y k => e_WL m b lo (lo + 60000) y k ∨ E_VF m b 2606200 y k) M M2 → e_Wr m b lo (lo + 60000) (U ++ ([0, 0, 0, 0] ++ b_ser (G_row 0 (G_st once [] (pv k))))) M2 → g_Run (d + 68) 354 12 [(0, .ref m), (1, g_n qa), (2, g_n gi), (3, g_n (if once = true then 1 else 0)), (4, g_n r), (5, g_n (G_st once [] (pv k)).length), (6, g_n k)] [] M2 (g_qV Q) := by
    intro r hrR hr t
    induction t with
    | zero =>
      intro k M2 hk f2 W2
      have hkN : k = ds.length := by omega
      subst hkN
      have h2 := h.w h0 (f2.up fun _ _ => hupW)
      obtain ⟨-, -, k3, k4, k5, k6⟩ := h0.st h2
      have hgs := G_st_len (once := once) (pv ds.length) []
      have hple := hpl ds.length
      refine s_X12_putGathered_12 hqaR ⟨by omega, by omega⟩ honR hrR ⟨by omega, by omega⟩ ⟨by omega, by omega⟩ fun _ => ⟨k3.1.1.1, fun z => absurd z (by rw [k4]; omega), fun _ => e_close (d := d + 66) W2 hr fun M3 f3 W3 => ?_⟩
      intro _ _
      rw [← b_doc_app] at W3
      exact hq M3 (f2.tr (f3.up fun _ _ z => Or.inl z)) W3
    | succ t ih =>
      intro k M2 hk f2 W2
      have h2 := h.w h0 (f2.up fun _ _ => hupW)
      obtain ⟨-, -, k3, k4, k5, k6⟩ := h0.st h2
      have hgs := G_st_len (once := once) (pv k) []
      have hple := hpl k
      have hps := @G_pv_s n yb ds l a k
      rw [← hpv] at hps
      have hm := G_gk_mem h2.2 hg (k := k) (by omega)
      have hstR : g_InR ((G_st once [] (pv k)).length : Int) := ⟨by omega, by omega⟩
      have hsame : ∀ (M3 : g_M), e_fr (fun y k => e_WL m b lo (lo + 60000) y k ∨ E_VF m b 2606200 y k) M M3 → e_Wr m b lo (lo + 60000) (U ++ ([0, 0, 0, 0] ++ b_ser (G_row 0 (G_st once [] (pv k))))) M3 → G_st once [] (pv (k + 1)) = G_st once [] (pv k) → g_InR ((k : Int) + 1) ∧ g_Run (d + 68) 354 12 [(0, .ref m), (1, g_n qa), (2, g_n gi), (3, g_n (if once = true then 1 else 0)), (4, g_n r), (5, g_n (G_st once [] (pv k)).length), (6, g_n ((k : Int) + 1))] [] M3 (g_qV Q) := by
        intro M3 f3 W3 hs
        refine ⟨⟨by omega, by omega⟩, ?_⟩
        have h9 := ih (k + 1) M3 (by omega) f3 (by rw [hs]; exact W3)
        rw [hs] at h9
        rwa [show ((k + 1 : Nat) : Int) = (k : Int) + 1 by omega] at h9
      refine s_X12_putGathered_12 hqaR ⟨by omega, by omega⟩ honR hrR hstR ⟨by omega, by omega⟩ fun _ => ⟨k3.1.1.1, fun _ => ⟨go, k3.2.1.1, _, k3.2.2.1.1, ⟨by omega, by omega⟩, fun g1 => ?_, fun g1 => ?_⟩, fun z => absurd (by rw [k4]; omega) z⟩
      rotate_left
      · rw [if_neg fun z => g1 (hm.mpr z), List.append_nil] at hps
        exact hsame M2 f2 W2 (by rw [hps])
      rw [if_pos (hm.mp g1)] at hps
      obtain ⟨es, hes⟩ : ∃ es, ds[k]? = some es := ⟨_, List.getElem?_eq_getElem (by omega)⟩
      have hgk : ds.getD k [] = es := by rw [List.getD_eq_getElem?_getD, hes]; rfl
      rw [hgk] at hps
      have hsn : G_st once [] (pv (k + 1)) = G_st once [] (pv k) ++ G_st once ((pv k).filterMap id) [V_of n a es] := by
        rw [hps, G_st_snoc]
        rfl
      obtain ⟨p, p1, p2, p3⟩ := h0.ed h2 hes
      refine ⟨be, k3.1.2.2.1, _, k3.1.2.2.2.2.1, ⟨by omega, by omega⟩, ?_⟩
      rw [p1]
      refine e_freshE (n := n) (by omega) k3.1.1 k5 k6 (h0.rq h2 ha) hef hDa p2.1 p2.2.1 p2.2.2.1 p2.2.2.2.1 hn p2.2.2.2.2.1 p2.2.2.2.2.2 fun M3 v ls f3 h26 hl1 hl2 hv => ?_
      intro _ _ hvR
      have f23 := f2.tr (f3.up fun _ _ z => Or.inr z)
      have W3 := e_Wr.vf W2.1 k6 (by decide) W2 f3
      rcases hv with ⟨v1, v2⟩ | ⟨y, v1, v2⟩
      · rw [v1] at hsn
        have hnil : G_st once ((pv k).filterMap id) [none] = [] := rfl
        rw [hnil, List.append_nil] at hsn
        exact ⟨fun _ => hsame M3 f23 W3 hsn, fun z => absurd v2 z⟩
      rw [v1] at hsn
      have hG : G_st once ((pv k).filterMap id) [some y] = if once = true ∧ (((pv k).filterMap id).any fun z => F_eq z y) = true then [] else [y] := by
        show (if _ then _ else _) = _
        rfl
      have hv0 : 0 ≤ v := by obtain ⟨nm, z, -⟩ := v2; exact z.2.2.2.1
      -- it is written
      have h75 : ∀ (M4 : g_M) (ls4 : Int), e_fr (fun y k => e_WL m b lo (lo + 60000) y k ∨ E_VF m b 2606200 y k) M M4 → e_Wr m b lo (lo + 60000) (U ++ ([0, 0, 0, 0] ++ b_ser (G_row 0 (G_st once [] (pv k))))) M4 → G_eo (g_i M4 b) lo ls4 v y → G_st once ((pv k).filterMap id) [some y] = [y] → g_Run (d + 68) 354 75 [(0, .ref m), (1, g_n qa), (2, g_n gi), (3, g_n (if once = true then 1 else 0)), (4, g_n r), (5, g_n (G_st once [] (pv k)).length), (6, g_n k), (7, g_n v)] [] M4 (g_qV Q) := by
        intro M4 ls4 f4 W4 hy hG1
        rw [hG1] at hsn
        obtain ⟨nm, y1, y2, -⟩ := hy
        obtain ⟨kd1, kd2⟩ := G_kd y1.2.2.1
        have hkw : g_w8 y.1 = y.1 := g_w8_of (by omega) (by omega)
        have hlen := b_el_len y.1 nm y.2.2
        have hst : ∀ {M5 : g_M}, e_fr (e_WL m b lo (lo + 60000)) M4 M5 → b_st (g_i M5 b) 2706210 v 30 y.1 nm y.2.2 := fun f => ⟨b_at_keep y1.1 fun j j1 j2 => f.2.1 b j fun z => by
          rcases z with ⟨z, -⟩ | ⟨-, z⟩
          · exact hmb z.symm
          · omega, y1.2⟩
        have hy4 := y1.2.2.2.1
        have hy5 := y1.2.2.2.2
        refine s_X12_putGathered_75 hqaR ⟨by omega, by omega⟩ honR hrR hstR ⟨by omega, by omega⟩ hvR fun _ => ⟨W4.1.1, b, W4.1.2.1, _, W4.1.2.2, ⟨by omega, by omega⟩, ?_⟩
        rw [y1.val.2.2.2]
        refine e_put (d := d + 67) W4 ⟨by omega, by omega⟩ fun M7 f7 W7 => ?_
        intro _ _
        refine e_putDigits (d := d + 66) W7 (by omega) fun M10 f10 W10 => ?_
        intro _ _
        refine e_putValue (d := d + 64) W10 (hst (f7.tr f10)) y2 fun M13 f13 W13 => ?_
        intro _ _
        refine ⟨⟨by omega, by omega⟩, ⟨by omega, by omega⟩, ?_⟩
        have h9 := ih (k + 1) M13 (by omega) (f4.tr (((f7.tr f10).tr f13).up fun _ _ z => Or.inl z)) (by
          rw [hsn, G_row_snoc, b_ser_app, b_ser_1, Nat.zero_add]
          rw [hkw] at W13
          have ew : U ++ ([0, 0, 0, 0] ++ b_ser (G_row 0 (G_st once [] (pv k)))) ++ [y.1] ++ (b_dg (G_st once [] (pv k)).length ++ [0]) ++ y.2.2 = U ++ ([0, 0, 0, 0] ++ (b_ser (G_row 0 (G_st once [] (pv k))) ++ b_el y.1 (b_dg (G_st once [] (pv k)).length) y.2.2)) := by
            unfold b_el
            simp
          rw [ew] at W13
          exact W13)
        have hz1 : ((G_st once [] (pv (k + 1))).length : Int) = ((G_st once [] (pv k)).length : Int) + 1 := by rw [hsn, List.length_append, List.length_singleton]; omega
        rwa [hz1, show ((k + 1 : Nat) : Int) = (k : Int) + 1 by omega] at h9
      refine ⟨fun z => absurd z (by omega), fun _ => ⟨fun go => ?_, fun go => ?_⟩⟩
      · have ho : ¬ once = true := fun z => by rw [if_pos z] at go; exact absurd go (by decide)
        exact h75 M3 ls f23 W3 v2 (by rw [hG, if_neg fun z => ho z.1])
      · have ho : once = true := Classical.byContradiction fun z => go (if_neg z)
        have h3 := h.w h0 (f23.up fun _ _ => hupW)
        refine e_isAhead (d := d + 1) h0 h3 hg ha hDa hef hn (by omega) h26 hl1 hl2 v2 fun M5 f5 => ?_
        intro _ _ _
        rw [← hpv]
        have f5' : e_fr (E_VF m b 2606200) M3 M5 := f5.up fun y k z => by
          rcases z with z | ⟨z, z2, z3⟩
          · exact Or.inl z
          · exact Or.inr ⟨z, by omega, z3⟩
        have f25 := f23.tr (f5'.up fun _ _ z => Or.inr z)
        have W5 := e_Wr.vf W3.1 k6 hl1 W3 f5
        by_cases hs : (((pv k).filterMap id).any fun z => F_eq z y) = true
        · rw [if_pos hs]
          rw [if_pos ⟨ho, hs⟩] at hG
          rw [hG, List.append_nil] at hsn
          exact ⟨fun z => absurd z (by decide), fun _ => hsame M5 f25 W5 hsn⟩
        · rw [if_neg hs]
          refine ⟨fun _ => h75 M5 ls f25 W5 (v2.kp fun k k1 _ => f5.2.1 b k fun z => ?_) (by rw [hG, if_neg fun z => hs z.2]), fun z => absurd rfl z⟩
          rcases z with ⟨z, -⟩ | ⟨-, z⟩
          · exact hmb z.symm
          · omega
  refine m_X12_putGathered hqaR ⟨by omega, by omega⟩ honR fun _ => ⟨hW.1.1, e_open (d := d + 65) hW fun r M2 f2 W2 hr => ?_⟩
  intro _ _ hrR
  have h9 := hlp r hrR hr ds.length 0 M2 (by omega) (f2.up fun _ _ z => Or.inl z) (by
    have hp0 : pv 0 = [] := by rw [hpv]; rfl
    rw [hp0]
    have : b_ser (G_row 0 (G_st once [] [])) = [] := rfl
    rw [this, List.append_nil]
    exact W2)
  have hp0 : pv 0 = [] := by rw [hpv]; rfl
  rw [hp0] at h9
  exact h9
end EGATHER
