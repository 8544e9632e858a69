/-! STAGES: $group, the reference: the first, the last, the greatest of a group -/
section GPV
variable {n : Nat} {yb a : b_E} {ds : List (List b_E)} {l m : Nat}
theorem G_pv_pre : ∀ t : Nat, ∃ r, G_pv n yb ds l a (m + t) = G_pv n yb ds l a m ++ r := by
  intro t
  induction t with
  | zero => exact ⟨[], by rw [Nat.add_zero, List.append_nil]⟩
  | succ t ih =>
    obtain ⟨r, hr⟩ := ih
    rw [← Nat.add_assoc, G_pv_s, hr]
    exact ⟨_, List.append_assoc _ _ _⟩
theorem G_pv_hd (hl : l < ds.length) (hf : G_f n yb ds l = l) : (G_pv n yb ds l a ds.length).headD none = V_of n a (ds.getD l []) := by
  obtain ⟨r, hr⟩ := G_pv_pre (n := n) (yb := yb) (a := a) (ds := ds) (l := l) (m := l + 1) (ds.length - (l + 1))
  rw [show l + 1 + (ds.length - (l + 1)) = ds.length by omega] at hr
  rw [hr, G_pv_s, G_pv_0, if_pos hf]
  rfl
/-- the members of the g-th group -/
theorem G_gk_mem {M : g_M} {go fo mm g k : Nat} (h : G_gk n yb ds mm go fo ds.length M) (hg : (G_lk n yb ds ds.length)[g]? = some l) (hk : k < ds.length) : g_i M go k = (g : Int) ↔ G_f n yb ds k = l := by
  rw [h.2.2 k hk]
  obtain ⟨h1, h2, h3⟩ := G_lk_mem hg
  have h4 := G_f_ff n yb ds k
  constructor
  · intro h5
    rcases Nat.lt_trichotomy (G_f n yb ds k) l with g1 | g1 | g1
    · have := G_lk_mono (n := n) (y := yb) (ds := ds) h4 g1
      omega
    · exact g1
    · have := G_lk_mono (n := n) (y := yb) (ds := ds) h2 g1
      omega
  · intro h5
    rw [h5, h3]
end GPV
/-- the reference's state in a group -/
def G_eX (n : Nat) (yb : b_E) (ds : List (List b_E)) (m b ma go fo : Nat) (lo : Int) (M0 M : g_M) : Prop := e_fr (E_GR m b ma go fo lo) M0 M ∧ G_gk n yb ds m go fo ds.length M
/-- what does not change of it -/
def G_e0 (m b ma be go fo : Nat) (lo g : Int) (ds : List (List b_E)) (M0 : g_M) : Prop := E_gT m b ma be go fo M0 ∧ lo = E_lo g ∧ (g = 0 ∨ g = 1) ∧ E_belt m b be g ds M0 ∧ b_at (g_i M0 b) 2706200 [10, 0]
section EMOST
variable {m b ma be go fo gi l n : Nat} {M0 M M1 : g_M} {lo g : Int} {ds : List (List b_E)} {yb a : b_E}
theorem G_eX.vf (h0 : G_e0 m b ma be go fo lo g ds M0) (h : G_eX n yb ds m b ma go fo lo M0 M) (f : e_fr (E_VF m b 2606200) M M1) : G_eX n yb ds m b ma go fo lo M0 M1 := by
  have hgn := E_VF.gn h0.1
  exact ⟨h.1.tr (f.up fun _ _ z => z.gr), h.2.kp f hgn.1 hgn.2.2.1 hgn.2.2.2.1⟩
theorem G_e0.st (h0 : G_e0 m b ma be go fo lo g ds M0) (h : G_eX n yb ds m b ma go fo lo M0 M) : (∀ k, k < 922000 → ¬ (lo ≤ k ∧ k < lo + 60000) → g_i M b k = g_i M0 b k) ∧ b_at (g_i M b) 2706200 [10, 0] ∧ E_gT m b ma be go fo M ∧ g_i M m 19 = ds.length ∧ 802000 ≤ lo ∧ lo ≤ 862000 := by
  obtain ⟨hT, hlo, hg01, hbt, hno⟩ := h0
  obtain ⟨hlo1, hlo2, -⟩ := E_lo_R hg01
  rw [← hlo] at hlo1 hlo2
  obtain ⟨j1, j2, j3, j4⟩ := E_GR.no (lo := lo) hT
  exact ⟨fun k k1 k2 => h.1.2.1 b k (j1 k k1 (by omega)), b_at_keep hno fun i i1 _ => h.1.2.1 b i (j2 i i1 hlo2), hT.fr h.1, by rw [h.1.2.1 m 19 (j3 19 (by decide))]; exact hbt.1, hlo1, hlo2⟩
theorem G_e0.rq (h0 : G_e0 m b ma be go fo lo g ds M0) (h : G_eX n yb ds m b ma go fo lo M0 M) {q : Int} {D : Nat} {k : Int} {nm vb : List Int} (hs : b_st (g_i M0 b) 2100 q D k nm vb) : b_st (g_i M b) 2100 q D k nm vb := by
  obtain ⟨h1, -, -, -, h5, h6⟩ := h0.st h
  exact ⟨b_at_keep hs.1 fun j j1 j2 => h1 j (by have := hs.2.2.2.2; omega) (by have := hs.2.2.2.2; omega), hs.2⟩
theorem G_e0.ed (h0 : G_e0 m b ma be go fo lo g ds M0) (h : G_eX n yb ds m b ma go fo lo M0 M) {i : Nat} {es : List b_E} (hi : ds[i]? = some es) : ∃ p, g_i M be i = p ∧ G_ed (g_i M b) lo p es ∧ i < 200 := by
  obtain ⟨h1, -⟩ := h0.st h
  obtain ⟨p, p1, p2, p3⟩ := h0.2.2.2.1.ed h0.2.1 hi
  obtain ⟨-, -, -, j4⟩ := E_GR.no (lo := lo) h0.1
  exact ⟨p, by rw [h.1.2.1 be _ (j4 _)]; exact p1, p2.kp h1, p3⟩
theorem e_end {d : Nat} {Q : Int → g_M → Prop} {last : Bool} (h0 : G_e0 m b ma be go fo lo g ds M0) (h : G_eX n yb ds m b ma go fo lo M0 M) (hg : (G_lk n yb ds ds.length)[gi]? = some l) (hq : ∀ i : Nat, i < ds.length → (if last = true then (G_pv n yb ds l a ds.length).getLastD none else (G_pv n yb ds l a ds.length).headD none) = V_of n a (ds.getD i []) → Q i M) : g_Call (d + 1) 351 [.ref m, g_n gi, g_n (if last = true then 1 else 0)] M (g_qI Q) := by
  obtain ⟨h1, h2, h3, h4, h5, h6⟩ := h0.st h
  obtain ⟨l1, l2, l3⟩ := G_lk_mem hg
  have hl200 := h0.2.2.2.1.2.1.1
  have hgl := (List.getElem?_eq_some_iff.mp hg).1
  have hlk := @G_lk_len n yb ds ds.length
  have hlR : g_InR (if last = true then 1 else 0) := by split <;> exact ⟨by decide, by decide⟩
  have hlp : ∀ (t k fd : Nat), k + t = ds.length → fd < ds.length → ((G_pv n yb ds l a k = [] ∧ fd = l) ∨ ∃ r, G_pv n yb ds l a k = r ++ [V_of n a (ds.getD fd [])]) → last = true → g_Run d 351 10 [(0, .ref m), (1, g_n gi), (2, g_n (if last = true then 1 else 0)), (3, g_n fd), (4, g_n k)] [] M (g_qI Q) := by
    intro t
    induction t with
    | zero =>
      intro k fd hk hfd hc hlast
      have hkN : k = ds.length := by omega
      subst hkN
      refine s_X12_end_10 ⟨by omega, by omega⟩ hlR ⟨by omega, by omega⟩ ⟨by omega, by omega⟩ fun _ => ⟨h3.1.1.1, fun z => absurd z (by rw [h4]; omega), fun _ => hq fd hfd ?_⟩
      rw [if_pos hlast]
      rcases hc with ⟨c1, -⟩ | ⟨r, c1⟩
      · have := G_pv_pos (a := a) l1 l2
        rw [c1] at this
        exact absurd this (by decide)
      · rw [c1]
        simp
    | succ t ih =>
      intro k fd hk hfd hc hlast
      have hps := @G_pv_s n yb ds l a k
      have hm := G_gk_mem h.2 hg (k := k) (by omega)
      refine s_X12_end_10 ⟨by omega, by omega⟩ hlR ⟨by omega, by omega⟩ ⟨by omega, by omega⟩ fun _ => ⟨h3.1.1.1, fun _ => ⟨fun z => absurd z (by rw [if_pos hlast]; decide), fun _ => ⟨go, h3.2.1.1, _, h3.2.2.1.1, ⟨by omega, by omega⟩, fun g1 => ⟨⟨by omega, by omega⟩, ?_⟩, fun g1 => ⟨⟨by omega, by omega⟩, ?_⟩⟩⟩, fun z => absurd (by rw [h4]; omega) z⟩
      · rw [if_pos (hm.mp g1)] at hps
        have h9 := ih (k + 1) k (by omega) (by omega) (Or.inr ⟨_, hps⟩) hlast
        rwa [show ((k + 1 : Nat) : Int) = (k : Int) + 1 by omega] at h9
      · rw [if_neg fun z => g1 (hm.mpr z), List.append_nil] at hps
        have h9 := ih (k + 1) fd (by omega) hfd (by rw [hps]; exact hc) hlast
        rwa [show ((k + 1 : Nat) : Int) = (k : Int) + 1 by omega] at h9
  refine m_X12_end ⟨by omega, by omega⟩ hlR fun _ => ⟨h3.1.1.1, fo, h3.2.1.2, _, h3.2.2.1.2, ⟨by omega, by omega⟩, ?_⟩
  rw [h.2.2.1 gi l hg]
  by_cases hlast : last = true
  · exact hlp ds.length 0 l (by omega) l1 (Or.inl ⟨rfl, rfl⟩) hlast
  · refine s_X12_end_10 ⟨by omega, by omega⟩ hlR ⟨by omega, by omega⟩ ⟨by decide, by decide⟩ fun _ => ⟨h3.1.1.1, fun _ => ⟨fun _ => hq l l1 (by rw [if_neg hlast]; exact G_pv_hd l1 l2), fun z => absurd (if_neg hlast) z⟩, fun _ => hq l l1 (by rw [if_neg hlast]; exact G_pv_hd l1 l2)⟩
theorem e_most {d Da : Nat} {Q : Int → g_M → Prop} {qa w3 w : Int} (h0 : G_e0 m b ma be go fo lo g ds M0) (h : G_eX n yb ds m b ma go fo lo M0 M) (hg : (G_lk n yb ds ds.length)[gi]? = some l) (ha : b_st (g_i M0 b) 2100 qa Da a.1 a.2.1 a.2.2) (hDa : Da ≤ 30) (hef : S_ef a = false) (hn : 16 ≤ n) (hw : (w3 = 0 ∧ w = -1) ∨ (w3 = 1 ∧ w = 1)) (hq1 : ∀ M1, e_fr (E_VF m b 2606200) M M1 → G_ext w (G_pv n yb ds l a ds.length) = none → Q (-1) M1) (hq2 : ∀ M1 (i : Nat), e_fr (E_VF m b 2606200) M M1 → i < ds.length → G_ext w (G_pv n yb ds l a ds.length) = V_of n a (ds.getD i []) → Q i M1) : g_Call (d + 67) 352 [.ref m, g_n qa, g_n gi, g_n w3] M (g_qI Q) := by
  obtain ⟨l1, l2, l3⟩ := G_lk_mem hg
  have hl200 := h0.2.2.2.1.2.1.1
  have hgl := (List.getElem?_eq_some_iff.mp hg).1
  have hlk := @G_lk_len n yb ds ds.length
  have hmb : m ≠ b := h0.1.1.ne.1
  have hqaR : g_InR qa := by have := ha.2.2.2.1; have := ha.2.2.2.2; exact ⟨by omega, by omega⟩
  have hw3R : g_InR w3 := by rcases hw with ⟨z, -⟩ | ⟨z, -⟩ <;> rw [z] <;> exact ⟨by decide, by decide⟩
  have hbk : ∀ {Ma Mb : g_M} {ls : Int}, e_fr (E_VF m b ls) Ma Mb → ∀ k, k < ls ∨ 2706200 ≤ k → g_i Mb b k = g_i Ma b k := fun f k hk => f.2.1 b k fun z => by
    rcases z with ⟨z, -⟩ | ⟨-, z⟩
    · exact hmb z.symm
    · omega
  have hlp : ∀ (t k : Nat) (bs : Int) (M2 : g_M), k + t = ds.length → e_fr (E_VF m b 2606200) M M2 → ((bs = -1 ∧ G_ext w (G_pv n yb ds l a k) = none) ∨ ∃ (i : Nat) (z : b_E), bs = i ∧ i < ds.length ∧ V_of n a (ds.getD i []) = some z ∧ G_ext w (G_pv n yb ds l a k) = some z) → g_Run (d + 66) 352 6 [(0, .ref m), (1, g_n qa), (2, g_n gi), (3, g_n w3), (4, g_n bs), (5, g_n k)] [] M2 (g_qI Q) := by
    intro t
    induction t with
    | zero =>
      intro k bs M2 hk f2 hc
      have hkN : k = ds.length := by omega
      subst hkN
      have h2 := h.vf h0 f2
      obtain ⟨-, -, k3, k4, -⟩ := h0.st h2
      have hbR : g_InR bs := by
        rcases hc with ⟨z, -⟩ | ⟨i, z, z1, z2, -⟩
        · rw [z]; exact ⟨by decide, by decide⟩
        · exact ⟨by omega, by omega⟩
      refine s_X12_most_6 hqaR ⟨by omega, by omega⟩ hw3R hbR ⟨by omega, by omega⟩ fun _ => ⟨k3.1.1.1, fun z => absurd z (by rw [k4]; omega), fun _ => ?_⟩
      rcases hc with ⟨z, z1⟩ | ⟨i, z, z1, z2, z3, z4⟩
      · rw [z]
        exact hq1 M2 f2 z1
      · rw [z1]
        exact hq2 M2 i f2 z2 (z4.trans z3.symm)
    | succ t ih =>
      intro k bs M2 hk f2 hc
      have h2 := h.vf h0 f2
      obtain ⟨-, -, k3, k4, k5, k6⟩ := h0.st h2
      have hbR : g_InR bs := by
        rcases hc with ⟨z, -⟩ | ⟨i, z, z1, z2, -⟩
        · rw [z]; exact ⟨by decide, by decide⟩
        · exact ⟨by omega, by omega⟩
      have hps := @G_pv_s n yb ds l a k
      have hm := G_gk_mem h2.2 hg (k := k) (by omega)
      have hnx : ∀ (M3 : g_M) (bs2 : Int), e_fr (E_VF m b 2606200) M M3 → ((bs2 = -1 ∧ G_ext w (G_pv n yb ds l a (k + 1)) = none) ∨ ∃ (i : Nat) (z : b_E), bs2 = i ∧ i < ds.length ∧ V_of n a (ds.getD i []) = some z ∧ G_ext w (G_pv n yb ds l a (k + 1)) = some z) → g_InR ((k : Int) + 1) ∧ g_Run (d + 66) 352 6 [(0, .ref m), (1, g_n qa), (2, g_n gi), (3, g_n w3), (4, g_n bs2), (5, g_n ((k : Int) + 1))] [] M3 (g_qI Q) := by
        intro M3 bs2 f3 hc2
        refine ⟨⟨by omega, by omega⟩, ?_⟩
        have h9 := ih (k + 1) bs2 M3 (by omega) f3 hc2
        rwa [show ((k + 1 : Nat) : Int) = (k : Int) + 1 by omega] at h9
      refine s_X12_most_6 hqaR ⟨by omega, by omega⟩ hw3R hbR ⟨by omega, by omega⟩ fun _ => ⟨k3.1.1.1, fun _ => ⟨go, k3.2.1.1, _, k3.2.2.1.1, ⟨by omega, by omega⟩, fun g1 => ?_, fun g1 => ?_⟩, fun z => absurd (by rw [k4]; omega) z⟩
      rotate_left
      · rw [if_neg fun z => g1 (hm.mpr z), List.append_nil] at hps
        exact hnx M2 bs f2 (by rw [hps]; exact hc)
      rw [if_pos (hm.mp g1)] at hps
      obtain ⟨es, hes⟩ : ∃ es, ds[k]? = some es := ⟨_, List.getElem?_eq_getElem (by omega)⟩
      have hgk : ds.getD k [] = es := by rw [List.getD_eq_getElem?_getD, hes]; rfl
      obtain ⟨p, p1, p2, p3⟩ := h0.ed h2 hes
      have hex : G_ext w (G_pv n yb ds l a (k + 1)) = G_bt w (G_ext w (G_pv n yb ds l a k)) (V_of n a es) := by
        rw [hps, hgk]
        unfold G_ext
        rw [List.foldl_append]
        rfl
      rw [hex] at hnx
      refine ⟨be, k3.1.2.2.1, _, k3.1.2.2.2.2.1, ⟨by omega, by omega⟩, ?_⟩
      rw [p1]
      refine e_freshE (n := n) (by omega) k3.1.1 k5 k6 (h0.rq h2 ha) hef hDa p2.1 p2.2.1 p2.2.2.1 p2.2.2.2.1 hn p2.2.2.2.2.1 p2.2.2.2.2.2 fun M3 v ls f3 h26 hl1 hl2 hv => ?_
      intro _ _ hvR
      have f23 := f2.tr f3
      rcases hv with ⟨v1, v2⟩ | ⟨y, v1, v2⟩
      · rw [v1] at hnx
        exact ⟨fun _ => hnx M3 bs f23 hc, fun z => absurd v2 z⟩
      rw [v1] at hnx
      obtain ⟨nm, y1, y2, y3⟩ := id v2
      have hv0 := y1.2.2.2.1
      refine ⟨fun z => absurd z (by omega), fun _ => ?_⟩
      rcases hc with ⟨c1, c2⟩ | ⟨i, z, c1, c2, c3, c4⟩
      · rw [c2] at hnx
        exact ⟨fun _ => hnx M3 k f23 (Or.inr ⟨k, y, rfl, by omega, by rw [hgk]; exact v1, rfl⟩), fun z => absurd (by omega) z⟩
      rw [c4] at hnx
      have h3 := h.vf h0 f23
      obtain ⟨-, -, m3, m4, -, -⟩ := h0.st h3
      obtain ⟨ez, hez⟩ : ∃ ez, ds[i]? = some ez := ⟨_, List.getElem?_eq_getElem c2⟩
      have hgi : ds.getD i [] = ez := by rw [List.getD_eq_getElem?_getD, hez]; rfl
      obtain ⟨p', p1', p2', p3'⟩ := h0.ed h3 hez
      refine ⟨fun g2 => absurd g2 (by omega), fun _ => ⟨be, m3.1.2.2.1, _, m3.1.2.2.2.2.1, by rw [c1]; exact ⟨by omega, by omega⟩, ?_⟩⟩
      rw [c1, p1']
      refine e_valE (n := n) (ls := ls) (by omega) m3.1.1 k5 k6 (h0.rq h3 ha) hef hDa p2'.1 p2'.2.1 p2'.2.2.1 p2'.2.2.2.1 hn p2'.2.2.2.2.1 p2'.2.2.2.2.2 h26 hl1 (by omega) fun M4 v' l2' f4 h264 hl14 hl24 hv' => ?_
      intro _ _ hv'R
      have f4' : e_fr (E_VF m b 2606200) M3 M4 := f4.up fun y k z => by
        rcases z with z | ⟨z, z2, z3⟩
        · exact Or.inl z
        · exact Or.inr ⟨z, by omega, z3⟩
      have f24 := f23.tr f4'
      rw [hgi] at c3
      rcases hv' with ⟨v1', -⟩ | ⟨z', v1', v2'⟩
      · rw [c3] at v1'
        exact absurd v1' (by simp)
      have hzz : z' = z := Option.some.inj (v1'.symm.trans c3)
      subst hzz
      obtain ⟨nm2, z1, -⟩ := id v2'
      obtain ⟨nm1, y1', -⟩ := v2.kp (B1 := g_i M4 b) fun k k1 _ => hbk f4 k (Or.inl k1)
      have h4 := h.vf h0 f24
      obtain ⟨-, -, o3, o4, -, -⟩ := h0.st h4
      refine e_compare o3.1.1 30 (F := 60) (d := d + 1) y1' z1 (by decide) fun r hr => ?_
      intro _ _ _
      obtain ⟨s1, s2⟩ : (r < 0 ↔ v_cmp 61 y.1 y.2.2 z'.1 z'.2.2 < 0) ∧ (0 < r ↔ 0 < v_cmp 61 y.1 y.2.2 z'.1 z'.2.2) := hr.sgn
      have hbt : G_bt w (some z') (some y) = if w * v_cmp 61 y.1 y.2.2 z'.1 z'.2.2 > 0 then some y else some z' := rfl
      rw [hbt] at hnx
      have hyes : w * v_cmp 61 y.1 y.2.2 z'.1 z'.2.2 > 0 → g_InR ((k : Int) + 1) ∧ g_Run (d + 66) 352 6 [(0, .ref m), (1, g_n qa), (2, g_n gi), (3, g_n w3), (4, g_n k), (5, g_n ((k : Int) + 1))] [] M4 (g_qI Q) := fun g2 => hnx M4 k f24 (Or.inr ⟨k, y, rfl, by omega, by rw [hgk]; exact v1, by rw [if_pos g2]⟩)
      have hno : ¬ w * v_cmp 61 y.1 y.2.2 z'.1 z'.2.2 > 0 → g_InR ((k : Int) + 1) ∧ g_Run (d + 66) 352 6 [(0, .ref m), (1, g_n qa), (2, g_n gi), (3, g_n w3), (4, g_n i), (5, g_n ((k : Int) + 1))] [] M4 (g_qI Q) := fun g2 => hnx M4 i f24 (Or.inr ⟨i, z', rfl, c2, by rw [hgi]; exact c3, by rw [if_neg g2]⟩)
      rcases hw with ⟨w1, w2⟩ | ⟨w1, w2⟩
      · refine ⟨fun _ => ⟨fun g2 => hyes ?_, fun g2 => hno ?_⟩, fun z => absurd w1 z⟩
        · rw [w2]
          omega
        · rw [w2]
          omega
      · refine ⟨fun z => absurd z (by omega), fun _ => ⟨fun g2 => hyes ?_, fun g2 => hno ?_⟩⟩
        · rw [w2]
          omega
        · rw [w2]
          omega
  refine m_X12_most hqaR ⟨by omega, by omega⟩ hw3R fun _ => ?_
  exact hlp ds.length 0 (-1) M (by omega) (e_fr.rf _ _) (Or.inl ⟨rfl, rfl⟩)
end EMOST
