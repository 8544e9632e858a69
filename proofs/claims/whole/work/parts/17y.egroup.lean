/-! STAGES: $group, the reference, whole -/
section EGROUP
variable {m b ma be go fo n : Nat} {M0 M M1 : g_M} {lo g : Int} {ds : List (List b_E)} {yb : b_E} {xs : List b_E}
theorem e_Wr.gp {y : List Int} {S : Nat → Int → Prop} (h : e_Wr m b lo (lo + 60000) y M) (f : e_fr S M M1) (h1 : ∀ k, 4 ≤ k → k ≤ 6 → ¬ S m k) (h2 : ∀ k, lo ≤ k → k < lo + 60000 → ¬ S b k) : e_Wr m b lo (lo + 60000) y M1 := h.kp f h1 h2
theorem e_group {d De : Nat} {Q : Int → g_M → Prop} {pe : Int} {e : b_E} (h0 : G_e0 m b ma be go fo lo g ds M0) (he : b_st (g_i M0 b) 2100 pe De e.1 e.2.1 e.2.2) (hk : e.1 = 3) (hch : b_ch e.2.2 = yb :: xs) (hyn : yb.2.1 = b_tx 48) (hye : S_ef yb = false) (hxs : ∀ x ∈ xs, G_okx x) (hDe : De ≤ 30) (hn : 16 ≤ n) (hW : e_Wr m b lo (lo + 60000) [] M0) (hF : E_F m ma lo [] M0) (hq : ∀ M1, e_fr (E_GR m b ma go fo lo) M0 M1 → e_Wr m b lo (lo + 60000) (E_wr (G_mk n yb xs ds)) M1 → E_F m ma lo (G_mk n yb xs ds) M1 → ((g_i M1 m 33 = 0 ∧ G_tb n yb xs ds) ∨ (g_i M1 m 33 = 1 ∧ ¬ G_tb n yb xs ds)) → Q (g_i M1 m 33) M1) : g_Call (d + 73) 348 [.ref m, g_n (pe + 2 + e.2.1.length)] M0 (g_qI Q) := by
  obtain ⟨hT, hlo, hg01, hbt, hno⟩ := id h0
  have hl200 := hbt.2.1.1
  have he4 := he.2.2.2.1
  have he5 := he.2.2.2.2
  have hel := b_el_len e.1 e.2.1 e.2.2
  obtain ⟨D1, eD, hkids, hkl⟩ := he.kids (Or.inl hk)
  rw [hch] at hkids hkl
  obtain ⟨hy, hr⟩ := hkids.cons
  have hy4 := hy.2.2.2.1
  have hy5 := hy.2.2.2.2
  have hyel := b_el_len yb.1 yb.2.1 yb.2.2
  obtain ⟨cp, hcp⟩ : ∃ cp : Int, cp = pe + 2 + e.2.1.length := ⟨_, rfl⟩
  obtain ⟨qy, hqy⟩ : ∃ q : Int, q = pe + 6 + e.2.1.length := ⟨_, rfl⟩
  rw [← hqy] at hy hr hy4 hy5
  have hcpR : g_InR cp := ⟨by omega, by omega⟩
  have hqyR : g_InR qy := ⟨by omega, by omega⟩
  have hmb : Unit → (m ≠ b ∧ m ≠ ma ∧ b ≠ ma) ∧ (m ≠ go ∧ m ≠ fo) ∧ (go ≠ ma ∧ fo ≠ ma) := fun _ => ⟨⟨hT.1.ne.1, hT.1.ne.2.1, hT.1.ne.2.2.2.1⟩, ⟨g_neOA hT.1.1.1 hT.2.2.1.1, g_neOA hT.1.1.1 hT.2.2.1.2⟩, hT.2.2.2.1, hT.2.2.2.2.2.1⟩
  have hlk := @G_lk_len n yb ds ds.length
  have hgn := E_VF.gn hT
  rw [← hcp]
  refine m_X12_group hcpR fun _ => e_first (d := d + 71) (by omega) (by omega) ?_
  rw [show cp + 4 = qy by omega]
  intro _ _ _
  refine ⟨hT.1.1.1, fun M7 e7 _ => ?_⟩
  have f7 : e_fr (fun y k => y = m ∧ k = 32) M0 M7 := by rw [e7]; exact e_fr.wi _ ⟨rfl, rfl⟩
  have hb7 : g_i M7 b = g_i M0 b := funext fun k => f7.2.1 b k fun z => (hmb ()).1.1 z.1.symm
  have W7 : e_Wr m b lo (lo + 60000) [] M7 := hW.kp f7 (fun k k1 k2 z => by have := z.2; omega) fun k _ _ z => (hmb ()).1.1 z.1.symm
  have F7 : E_F m ma lo [] M7 := hF.fr (fun k hk => f7.2.1 m k fun z => by have := z.2; omega) fun k => f7.2.1 ma k fun z => (hmb ()).1.2.1 z.1.symm
  have hbt7 : E_belt m b be g ds M7 := hbt.keep f7 (fun z => by have := z.2; omega) (fun k z => hT.1.ne.2.2.1 z.1.symm) fun k _ _ z => (hmb ()).1.1 z.1.symm
  refine e_groupKeys (d := d + 4) (n := n) (hT.fr f7) hlo hg01 hbt7 (by rw [hb7]; exact hno) (by rw [hb7]; exact hy) (by omega) hye hn hcpR W7 F7 (by rw [e7, g_i_wi, if_pos ⟨rfl, rfl⟩]) fun M8 f8 W8 F8 G8 h338 => ?_
  have x8 : G_eX n yb ds m b ma go fo lo M0 M8 := ⟨(f7.up fun y k z => Or.inl ⟨z.1, Or.inr (Or.inr (Or.inr (Or.inr (Or.inl z.2))))⟩).tr f8, G8⟩
  obtain ⟨ld, hld⟩ : ∃ ld, ld = G_lk n yb ds ds.length := ⟨_, rfl⟩
  -- which sums were none
  have hlp : ∀ (t gi : Nat) (M : g_M), gi + t = ld.length → G_eX n yb ds m b ma go fo lo M0 M → e_Wr m b lo (lo + 60000) (E_wr ((ld.take gi).map (G_doc n yb xs ds))) M → E_F m ma lo ((ld.take gi).map (G_doc n yb xs ds)) M → ((g_i M m 33 = 0 ∧ ∃ i ∈ ld.take gi, ∃ x ∈ xs, G_bd n (G_ms n yb ds i) x) ∨ (g_i M m 33 = 1 ∧ ¬ ∃ i ∈ ld.take gi, ∃ x ∈ xs, G_bd n (G_ms n yb ds i) x)) → g_Run (d + 72) 348 112 [(0, .ref m), (1, g_n cp), (2, g_n qy), (3, g_n gi)] [] M (g_qI Q) := by
    intro t
    induction t with
    | zero =>
      intro gi M hgi hx W F h33
      obtain ⟨-, hno2, k3, k4, k5, k6⟩ := h0.st hx
      rw [List.take_of_length_le (by omega)] at W F h33
      rw [hld] at hgi W F h33
      refine s_X12_group_112 hcpR hqyR ⟨by omega, by omega⟩ fun _ => ⟨k3.1.1.1, fun z => absurd (by rw [hx.2.1] at z; exact z) (by omega), fun _ => ⟨?_, hq M hx.1 W F h33⟩⟩
      rcases h33 with ⟨z, -⟩ | ⟨z, -⟩
      · exact Or.inl z
      · exact Or.inr z
    | succ t ih =>
      intro gi M hgi hx W F h33
      obtain ⟨-, hno2, k3, k4, k5, k6⟩ := h0.st hx
      obtain ⟨l, hl⟩ : ∃ l, ld[gi]? = some l := ⟨_, List.getElem?_eq_getElem (by omega)⟩
      have hl' := hl
      rw [hld] at hl'
      obtain ⟨l1, l2, l3⟩ := G_lk_mem hl'
      have htk : ld.take (gi + 1) = ld.take gi ++ [l] := by rw [List.take_add_one, hl]; rfl
      have hgi2 : gi < (G_lk n yb ds ds.length).length := by rw [← hld]; omega
      obtain ⟨es, hes⟩ : ∃ es, ds[l]? = some es := ⟨_, List.getElem?_eq_getElem l1⟩
      have hgl : ds.getD l [] = es := by rw [List.getD_eq_getElem?_getD, hes]; rfl
      have hupW : ∀ {y : Nat} {k : Int}, e_WL m b lo (lo + 60000) y k → G_eW m b lo y k := fun z => Or.inl z
      have hupV : ∀ {y : Nat} {k : Int}, E_VF m b 2606200 y k → G_eW m b lo y k := fun z => Or.inr (Or.inl z)
      have hFk : ∀ {Ma Mb : g_M}, E_F m ma lo ((ld.take gi).map (G_doc n yb xs ds)) Ma → e_fr (G_eW m b lo) Ma Mb → E_F m ma lo ((ld.take gi).map (G_doc n yb xs ds)) Mb := fun h f => h.fr (fun k hk => f.2.1 m k fun z => by
          rcases z with (⟨-, z⟩ | ⟨z, -⟩) | (⟨-, z⟩ | ⟨z, -⟩) | ⟨-, z⟩
          · omega
          · exact (hmb ()).1.1 z
          · omega
          · exact (hmb ()).1.1 z
          · omega) fun k => f.2.1 ma k fun z => by
          rcases z with (⟨z, -⟩ | ⟨z, -⟩) | (⟨z, -⟩ | ⟨z, -⟩) | ⟨z, -⟩
          · exact (hmb ()).1.2.1 z.symm
          · exact (hmb ()).1.2.2 z.symm
          · exact (hmb ()).1.2.1 z.symm
          · exact (hmb ()).1.2.2 z.symm
          · exact (hmb ()).1.2.1 z.symm
      refine s_X12_group_112 hcpR hqyR ⟨by omega, by omega⟩ fun _ => ⟨k3.1.1.1, fun _ => e_open (d := d + 69) W fun r5 M2 f2 W2 hr5 => ?_, fun z => absurd (by rw [hx.2.1]; omega) z⟩
      intro _ _ h5R
      have x2 := hx.w h0 (f2.up fun _ _ => hupW)
      have F2 := hFk F (f2.up fun _ _ => hupW)
      have hy2 := h0.rq x2 hy
      have hyM : ∀ {B : Int → Int}, b_st B 2100 qy D1 yb.1 yb.2.1 yb.2.2 → b_st B 2706210 qy D1 yb.1 yb.2.1 yb.2.2 := fun h => ⟨h.1, h.2.1, h.2.2.1, h.2.2.2.1, by omega⟩
      refine ⟨⟨by omega, by omega⟩, e_nameEnd (d := d + 71) W2.1 (hyM hy2).nm ?_⟩
      intro _ _ _
      obtain ⟨-, -, m3, m4, -, -⟩ := h0.st x2
      obtain ⟨p, p1, p2, p3⟩ := h0.ed x2 hes
      refine ⟨be, m3.1.2.2.1, fo, m3.2.1.2, _, m3.2.2.1.2, ⟨by omega, by omega⟩, _, m3.1.2.2.2.2.1, by rw [x2.2.2.1 gi l hl']; exact ⟨by omega, by omega⟩, ?_⟩
      rw [x2.2.2.1 gi l hl', p1]
      refine e_freshE (n := n) (by omega) m3.1.1 k5 k6 hy2 hye (by omega) p2.1 p2.2.1 p2.2.2.1 p2.2.2.2.1 hn p2.2.2.2.2.1 p2.2.2.2.2.2 fun M3 v ls f3 h26 hl1 hl2 hv => ?_
      intro _ _ hvR
      refine e_orN (d := d + 71) hvR ?_
      intro _ _ _
      have x3 := x2.vf h0 f3
      have W3 := e_Wr.vf W2.1 k6 (by decide) W2 f3
      have F3 := hFk F2 (f3.up fun _ _ => hupV)
      obtain ⟨nm, v1, v2⟩ := hv.no (h0.st x3).2.1 k6
      have hy3 := h0.rq x3 hy
      refine e_putAs (d := d + 67) W3 v1 v2 hy3.nmb (by omega) (by omega) (Or.inl (by omega)) fun M4 f4 W4 => ?_
      intro _ _
      have x4 := x3.w h0 (f4.up fun _ _ => hupW)
      have F4 := hFk F3 (f4.up fun _ _ => hupW)
      refine e_bh2 (d := d + 68) W4.1 (hyM (h0.rq x4 hy)) ?_
      intro _ _ _
      have h334 : g_i M4 m 33 = g_i M m 33 := by rw [G_eX.e33 h0 f4, G_eX.v33 h0 f3, G_eX.e33 h0 f2]
      -- one element after another
      have h164 : ∀ (xs2 X1 : List b_E) (q : Int) (M5 : g_M), xs = X1 ++ xs2 → b_sts (g_i M0 b) 2100 q D1 xs2 → q + (b_ser xs2).length = cp + 4 + (b_ser (yb :: xs)).length → G_eX n yb ds m b ma go fo lo M0 M5 → E_F m ma lo ((ld.take gi).map (G_doc n yb xs ds)) M5 → e_Wr m b lo (lo + 60000) (E_wr ((ld.take gi).map (G_doc n yb xs ds)) ++ ([0, 0, 0, 0] ++ b_ser (G_by n yb es :: X1.map (G_el n (G_ms n yb ds l))))) M5 → ((g_i M5 m 33 = 0 ∧ ((∃ i ∈ ld.take gi, ∃ x ∈ xs, G_bd n (G_ms n yb ds i) x) ∨ ∃ x ∈ X1, G_bd n (G_ms n yb ds l) x)) ∨ (g_i M5 m 33 = 1 ∧ ¬ ((∃ i ∈ ld.take gi, ∃ x ∈ xs, G_bd n (G_ms n yb ds i) x) ∨ ∃ x ∈ X1, G_bd n (G_ms n yb ds l) x))) → g_Run (d + 72) 348 164 [(0, .ref m), (1, g_n cp), (2, g_n qy), (3, g_n gi), (4, g_n r5), (5, g_n q)] [] M5 (g_qI Q) := by
        intro xs2
        induction xs2 with
        | nil =>
          intro X1 q M5 e1 e2 e3 x5 F5 W5 h335
          rw [List.append_nil] at e1
          subst e1
          obtain ⟨o1, -, o3, o4, -, -⟩ := h0.st x5
          have hqR : g_InR q := by have := e2.2.2.1; have := e2.2.2.2.1; exact ⟨by omega, by omega⟩
          have htl : e_tl (g_i M5 b) cp q D1 (yb :: xs) [] := by
            have hat := (h0.rq x5 he).1
            obtain ⟨D9, ys, c1, c2, c3, c4, c5, c6, c7⟩ := b_gv_doc he.2.2.1 (Or.inl hk)
            have hys : ys = yb :: xs := by rw [← c7]; exact hch
            obtain ⟨z1, z2, z3, z4⟩ := b_st.val ⟨hat, he.2⟩
            rw [c2, hys] at z1 z2
            have h9 : e_tl (g_i M5 b) cp (cp + 4) D1 (yb :: xs) ((yb :: xs) ++ []) := by
              rw [List.append_nil]
              exact e_tl.start (by rw [hcp]; exact z1) (fun e he => ⟨(c5 e (by rw [hys]; exact he)).1, b_gv_le (c5 e (by rw [hys]; exact he)).2 (by omega)⟩) (by omega) (by omega)
            have h10 := h9.app
            have : cp + 4 + ((b_ser (yb :: xs)).length : Int) = q := by
              have h0' : ((b_ser ([] : List b_E)).length : Int) = 0 := rfl
              omega
            rwa [this] at h10
          refine s_X12_group_164 hcpR hqyR ⟨by omega, by omega⟩ h5R hqR fun _ => ⟨o3.1.1.1, e_lastE (d := d + 69) o3.1.1 htl ?_⟩
          intro _ _ _
          refine ⟨fun z => absurd z (by omega), fun _ => e_close (d := d + 70) W5 hr5 fun M7 f7' W7' => ?_⟩
          intro _ _
          have x7 := x5.w h0 (f7'.up fun _ _ => hupW)
          have F7' := hFk F5 (f7'.up fun _ _ => hupW)
          have hdoc : G_by n yb es :: xs.map (G_el n (G_ms n yb ds l)) = G_doc n yb xs ds l := by
            unfold G_doc
            rw [hgl]
          rw [← b_doc_app, ← E_wr_snoc, hdoc] at W7'
          refine e_deliver (d := d + 71) (es := G_doc n yb xs ds l) W7'.1 (by rw [x7.1.2.2]; exact hT.1.2.1) (x7.1.A hT.1.2.2.2.1) hr5 h5R F7' fun M10 f10 hF10 => ?_
          intro _ _
          have hno10 : ∀ {z : Nat}, z ≠ m → z ≠ ma → ∀ k : Int, ¬ ((z = m ∧ (k = 23 ∨ k = 25)) ∨ z = ma) := fun k1 k2 k z => z.elim (fun z => k1 z.1) k2
          refine ⟨⟨by omega, by omega⟩, ?_⟩
          have h9 := ih (gi + 1) M10 (by omega) ⟨x7.1.tr (f10.up fun y k z => ?_), x7.2.kp f10 (fun z => ?_) (hno10 (hmb ()).2.1.1.symm (hmb ()).2.2.1) (hno10 (hmb ()).2.1.2.symm (hmb ()).2.2.2)⟩ (by
            rw [htk, List.map_append]
            refine W7'.kp f10 (fun k k1 k2 z => ?_) fun k _ _ z => ?_
            · rcases z with ⟨-, z⟩ | z
              · omega
              · exact (hmb ()).1.2.1 z
            · rcases z with ⟨z, -⟩ | z
              · exact (hmb ()).1.1 z.symm
              · exact (hmb ()).1.2.2 z) (by rw [htk, List.map_append]; exact hF10) ?_
          · rwa [show ((gi + 1 : Nat) : Int) = (gi : Int) + 1 by omega] at h9
          · rcases z with ⟨z, z2⟩ | z
            · exact Or.inl ⟨z, by omega⟩
            · exact Or.inr (Or.inl z)
          · rcases z with ⟨-, z⟩ | z
            · omega
            · exact (hmb ()).1.2.1 z
          · have h3310 : g_i M10 m 33 = g_i M5 m 33 := by
              rw [f10.2.1 m 33 fun z => by
                rcases z with ⟨-, z⟩ | z
                · omega
                · exact (hmb ()).1.2.1 z]
              exact G_eX.e33 h0 f7'
            have hiff : (∃ i ∈ ld.take (gi + 1), ∃ x ∈ xs, G_bd n (G_ms n yb ds i) x) ↔ ((∃ i ∈ ld.take gi, ∃ x ∈ xs, G_bd n (G_ms n yb ds i) x) ∨ ∃ x ∈ xs, G_bd n (G_ms n yb ds l) x) := by
              rw [htk]
              constructor
              · rintro ⟨i, hi, h⟩
                rcases List.mem_append.mp hi with hi | hi
                · exact Or.inl ⟨i, hi, h⟩
                · rw [List.mem_singleton.mp hi] at h
                  exact Or.inr h
              · rintro (⟨i, hi, h⟩ | h)
                · exact ⟨i, List.mem_append_left _ hi, h⟩
                · exact ⟨l, by simp, h⟩
            rw [h3310, hiff]
            exact h335
        | cons x xs2 ihx =>
          intro X1 q M5 e1 e2 e3 x5 F5 W5 h335
          obtain ⟨o1, -, o3, o4, -, -⟩ := h0.st x5
          obtain ⟨hx0, hr2⟩ := e2.cons
          have hx4 := hx0.2.2.2.1
          have hx5 := hx0.2.2.2.2
          have hxel := b_el_len x.1 x.2.1 x.2.2
          have hx5M := h0.rq x5 hx0
          have hx5M2 : ∀ {B : Int → Int}, b_st B 2100 q D1 x.1 x.2.1 x.2.2 → b_st B 2706210 q D1 x.1 x.2.1 x.2.2 := fun h => ⟨h.1, h.2.1, h.2.2.1, h.2.2.2.1, by omega⟩
          have hqR : g_InR q := ⟨by omega, by omega⟩
          obtain ⟨z1, z2, a, z3, z4, z5⟩ := hxs x (by rw [e1]; simp)
          have hax : G_a x = a := by unfold G_a; rw [z3]; rfl
          obtain ⟨D2, eD2, hk2, -⟩ := hx0.kids (Or.inl z2)
          rw [z3] at hk2
          have ha := hk2.cons.1
          have haR : g_InR (q + 2 + x.2.1.length + 4) := by have := ha.2.2.2.1; have := ha.2.2.2.2; exact ⟨by omega, by omega⟩
          have htl : e_tl (g_i M5 b) cp q D1 (yb :: xs) (x :: xs2) := by
            have hat := (h0.rq x5 he).1
            obtain ⟨D9, ys, c1, c2, c3, c4, c5, c6, c7⟩ := b_gv_doc he.2.2.1 (Or.inl hk)
            have hys : ys = yb :: xs := by rw [← c7]; exact hch
            obtain ⟨w1, w2, w3, w4⟩ := b_st.val ⟨hat, he.2⟩
            rw [c2, hys] at w1 w2
            have h9 : e_tl (g_i M5 b) cp (cp + 4) D1 (yb :: xs) ((yb :: X1) ++ (x :: xs2)) := by
              have : (yb :: X1) ++ (x :: xs2) = yb :: xs := by rw [e1]; rfl
              rw [this]
              exact e_tl.start (by rw [hcp]; exact w1) (fun e he => ⟨(c5 e (by rw [hys]; exact he)).1, b_gv_le (c5 e (by rw [hys]; exact he)).2 (by omega)⟩) (by omega) (by omega)
            have h10 := h9.app
            have hlen : (b_ser (yb :: xs)).length = (b_ser (yb :: X1)).length + (b_ser (x :: xs2)).length := by
              rw [e1, ← List.length_append, ← b_ser_app]
              rfl
            rwa [show cp + 4 + ((b_ser (yb :: X1)).length : Int) = q by omega] at h10
          refine s_X12_group_164 hcpR hqyR ⟨by omega, by omega⟩ h5R hqR fun _ => ⟨o3.1.1.1, e_lastC (d := d + 69) o3.1.1 htl fun r hl1 _ => ?_⟩
          intro _ _ _
          refine ⟨fun _ => e_vl2 (d := d + 70) o3.1.1 (hx5M2 hx5M) ?_, fun z => absurd hl1 z⟩
          intro _ _ _
          refine e_first (d := d + 71) (by omega) (by omega) ?_
          intro _ _ _
          have ha' : b_st (g_i M0 b) 2100 (q + 2 + x.2.1.length + 4) D2 a.1 a.2.1 a.2.2 := by
            have hq6 : q + 2 + (x.2.1.length : Int) + 4 = q + 6 + x.2.1.length := by omega
            rw [hq6]
            exact ha
          refine e_gather (d := d + 1) (l := l) h0 x5 hl' hx0 ha' hax (G_ac_0 z4) (by omega) z5 hn W5 (by
            rcases h335 with ⟨w, -⟩ | ⟨w, -⟩
            · exact Or.inl w
            · exact Or.inr w) fun M6 f6 W6 h336 h336' => ?_
          intro _ _
          have x6 := x5.w h0 f6
          refine e_bh2 (d := d + 68) (h0.st x6).2.2.1.1.1 (hx5M2 (h0.rq x6 hx0)) ?_
          intro _ _ _
          refine ihx (X1 ++ [x]) _ M6 (by rw [e1]; simp) hr2 (by rw [b_ser_len] at e3; omega) x6 (hFk F5 f6) ?_ ?_
          · have hnm6 : (G_el n (G_ms n yb ds l) x).2.1 = x.2.1 := G_w_n
            have ew : E_wr ((ld.take gi).map (G_doc n yb xs ds)) ++ ([0, 0, 0, 0] ++ b_ser (G_by n yb es :: X1.map (G_el n (G_ms n yb ds l)))) ++ b_el (G_el n (G_ms n yb ds l) x).1 x.2.1 (G_el n (G_ms n yb ds l) x).2.2 = E_wr ((ld.take gi).map (G_doc n yb xs ds)) ++ ([0, 0, 0, 0] ++ b_ser (G_by n yb es :: (X1 ++ [x]).map (G_el n (G_ms n yb ds l)))) := by
              rw [List.map_append, List.map_cons, List.map_nil, ← List.cons_append, b_ser_app, b_ser_1, hnm6]
              simp
            rw [ew] at W6
            exact W6
          · by_cases hb : G_bd n (G_ms n yb ds l) x
            · exact Or.inl ⟨h336 hb, Or.inr ⟨x, by simp, hb⟩⟩
            · have hiff : (∃ w ∈ X1 ++ [x], G_bd n (G_ms n yb ds l) w) ↔ ∃ w ∈ X1, G_bd n (G_ms n yb ds l) w := by
                constructor
                · rintro ⟨w, hw, h⟩
                  rcases List.mem_append.mp hw with hw | hw
                  · exact ⟨w, hw, h⟩
                  · rw [List.mem_singleton.mp hw] at h
                    exact absurd h hb
                · rintro ⟨w, hw, h⟩
                  exact ⟨w, List.mem_append_left _ hw, h⟩
              rw [h336' hb, hiff]
              exact h335
      refine h164 xs [] _ M4 rfl hr (by rw [b_ser_len]; omega) x4 F4 ?_ ?_
      · have ew : E_wr ((ld.take gi).map (G_doc n yb xs ds)) ++ [0, 0, 0, 0] ++ b_el (J_v (V_of n yb es)).1 yb.2.1 (J_v (V_of n yb es)).2.2 = E_wr ((ld.take gi).map (G_doc n yb xs ds)) ++ ([0, 0, 0, 0] ++ b_ser (G_by n yb es :: ([] : List b_E).map (G_el n (G_ms n yb ds l)))) := by
          have h1 : b_ser (G_by n yb es :: ([] : List b_E).map (G_el n (G_ms n yb ds l))) = b_el (J_v (V_of n yb es)).1 (b_tx 48) (J_v (V_of n yb es)).2.2 := b_ser_1 _
          rw [h1, hyn, List.append_assoc]
        rw [ew] at W4
        exact W4
      · rw [h334]
        rcases h33 with ⟨w1, w2⟩ | ⟨w1, w2⟩
        · exact Or.inl ⟨w1, Or.inl w2⟩
        · refine Or.inr ⟨w1, fun z => z.elim w2 ?_⟩
          rintro ⟨x, hx, -⟩
          exact absurd hx (by simp)
  exact hlp ld.length 0 M8 (by omega) x8 W8 F8 (Or.inr ⟨h338, by rintro ⟨i, hi, -⟩; exact absurd hi (by simp)⟩)
def G_SG (m b ma be go fo : Nat) (y : Nat) (k : Int) : Prop := E_SG m b ma be y k ∨ y = go ∨ y = fo ∨ (y = m ∧ (k = 32 ∨ k = 33))
theorem e_stGroup {d De : Nat} {Q : Int → g_M → Prop} {pe : Int} {e : b_E} (hT : E_gT m b ma be go fo M) (hg : g_i M m 24 = g) (hg01 : g = 0 ∨ g = 1) (hbt : E_belt m b be g ds M) (hno : b_at (g_i M b) 2706200 [10, 0]) (he : b_st (g_i M b) 2100 pe De e.1 e.2.1 e.2.2) (hnm : e.2.1 = b_tx 43) (hgf : G_gf e = 0) (hDe : De ≤ 17) (hn : 16 ≤ n) (hq4 : G_tbE n e ds → ∀ M1, e_fr (G_SG m b ma be go fo) M M1 → g_i M1 m 24 = 1 - g → Q 4 M1) (hq5 : ¬ G_tbE n e ds → S_bad (G_mkE n e ds) → ∀ M1, e_fr (G_SG m b ma be go fo) M M1 → g_i M1 m 24 = 1 - g → Q 5 M1) (hq0 : ¬ G_tbE n e ds → ¬ S_bad (G_mkE n e ds) → ∀ M1, e_fr (G_SG m b ma be go fo) M M1 → g_i M1 m 24 = 1 - g → E_belt m b be (1 - g) (G_mkE n e ds) M1 → Q 0 M1) : g_Call (d + 75) 339 [.ref m, g_n pe] M (g_qI Q) := by
  obtain ⟨hk, yb, xs, hch, hyn, hye, hxs⟩ := G_gf_0 hgf
  have hmk : G_mkE n e ds = G_mk n yb xs ds := by unfold G_mkE; rw [hch]
  have htb : G_tbE n e ds ↔ G_tb n yb xs ds := by unfold G_tbE; rw [hch]
  rw [hmk] at hq5 hq0
  rw [htb] at hq4 hq5 hq0
  have he4 := he.2.2.2.1
  have he5 := he.2.2.2.2
  have heM : b_st (g_i M b) 2706210 pe De e.1 e.2.1 e.2.2 := ⟨he.1, he.2.1, he.2.2.1, he4, by omega⟩
  have hno4 : ∀ j : Nat, (j = 44 ∨ j = 45 ∨ j = 46) → e.2.1 ≠ b_tx j := fun j hj z => by
    rcases hj with rfl | rfl | rfl <;> exact absurd (hnm.symm.trans z) (by decide +kernel)
  obtain ⟨hlo1, hlo2, hlo3⟩ := E_lo_R hg01
  have hok := hbt.2.1
  -- what is made is good
  have hgd : ∀ es ∈ G_mk n yb xs ds, X_gd 30 es := fun es hes => by
    obtain ⟨i, hi, rfl⟩ := List.mem_map.mp hes
    have hi1 := List.mem_range.mp (List.mem_filter.mp hi).1
    obtain ⟨D1, eD, hkids, -⟩ := he.kids (Or.inl hk)
    rw [hch] at hkids
    obtain ⟨hy, hr⟩ := hkids.cons
    have hy5 := hy.2.2.2.2
    rw [b_el_len] at hy5
    have hy4 := hy.2.2.2.1
    refine G_doc_good hok hi1 (b_gv_le hy.2.2.1 (by omega)) (by omega) fun x hx => ?_
    have h1 := hr.2.1 x hx
    refine ⟨hxs x hx, b_gv_le h1.2 (by omega), ?_⟩
    have h3 : ∀ l : List b_E, x ∈ l → x.2.2.length ≤ (b_ser l).length := by
      intro l
      induction l with
      | nil => exact fun h => absurd h (by simp)
      | cons z l ih =>
        intro h
        rw [b_ser_len, b_el_len]
        rcases List.mem_cons.mp h with h | h
        · rw [h]
          omega
        · have := ih h
          omega
    have h4 := h3 xs hx
    have h5 := hr.2.2.2.1
    have h6 := hr.2.2.1
    omega
  refine m_X12_stage (heM.R (by decide)) fun _ => ⟨hT.1.1.1, e_nm3 (d := d + 70) (j := 121) (j2 := 44) (by decide) rfl hT.1.1 heM (fun z => absurd z (hno4 44 (by decide))) fun _ => ?_⟩
  intro _ _ _
  refine ⟨fun _ => e_nm3 (d := d + 70) (j := 122) (j2 := 45) (by decide) rfl hT.1.1 heM (fun z => absurd z (hno4 45 (by decide))) fun _ => ?_, fun z => absurd rfl z⟩
  intro _ _ _
  refine ⟨fun _ => e_nm3 (d := d + 70) (j := 123) (j2 := 46) (by decide) rfl hT.1.1 heM (fun z => absurd z (hno4 46 (by decide))) fun _ => ?_, fun z => absurd rfl z⟩
  intro _ _ _
  refine ⟨fun _ => e_beginE (d := d + 72) hT.1 hg hg01 hbt fun M1 f h24 hbt1 W F hb => ?_, fun z => absurd rfl z⟩
  intro _ _
  have hT1 := hT.fr f
  have heM1 : b_st (g_i M1 b) 2706210 pe De e.1 e.2.1 e.2.2 := by rw [hb]; exact heM
  refine e_nm3 (d := d + 70) (j := 111) (j2 := 43) (by decide) rfl hT1.1.1 heM1 (fun _ => ?_) fun z => absurd hnm z
  intro _ _ _
  refine ⟨fun z => absurd z (by decide), fun _ => e_vl2 (d := d + 72) hT1.1.1 heM1 ?_⟩
  intro _ _ _
  have h01 : G_e0 m b ma be go fo (E_lo g) g ds M1 := ⟨hT1, rfl, hg01, hbt1, by rw [hb]; exact hno⟩
  refine e_group (d := d + 1) (n := n) (e := e) (yb := yb) (xs := xs) h01 (by rw [hb]; exact he) hk hch hyn hye hxs (by omega) hn W F fun M2 f2 W2 F2 h33 => ?_
  intro _ _ _
  have hsg : ∀ {y : Nat} {k : Int}, E_GR m b ma go fo (E_lo g) y k → G_SG m b ma be go fo y k := fun {y k} z => by
    rcases z with ⟨z, z2⟩ | z | z | z | ⟨z, z2⟩
    · by_cases h3 : k = 32 ∨ k = 33
      · exact Or.inr (Or.inr (Or.inr ⟨z, h3⟩))
      · exact Or.inl (Or.inl ⟨z, by omega⟩)
    · exact Or.inl (Or.inr (Or.inl z))
    · exact Or.inr (Or.inl z)
    · exact Or.inr (Or.inr (Or.inl z))
    · exact Or.inl (Or.inr (Or.inr (Or.inr ⟨z, by omega⟩)))
  have f12 : e_fr (G_SG m b ma be go fo) M M2 := (f.up fun _ _ z => Or.inl z).tr (f2.up fun _ _ => hsg)
  rcases h33 with ⟨z1, z2⟩ | ⟨z1, z2⟩
  · refine ⟨fun _ => hq4 z2 M2 f12 ?_, fun z => absurd z1 z⟩
    obtain ⟨-, -, j3, -⟩ := E_GR.no (lo := E_lo g) hT1
    rw [f2.2.1 m 24 (j3 24 (by decide))]
    exact h24
  · refine ⟨fun z => absurd (z1.symm.trans z) (by decide), fun _ => ?_⟩
    obtain ⟨-, -, j3, -⟩ := E_GR.no (lo := E_lo g) hT1
    refine e_endE (d := d + 4) (g := g) (hT1.fr f2).1 (by rw [f2.2.1 m 24 (j3 24 (by decide))]; exact h24) hg01 W2 F2 hgd ⟨fun z M4 h4 k1 => ?_, fun z M4 h4 k1 k2 => ?_⟩
    · intro _ _ _
      exact hq5 z2 z M4 (f12.tr (h4.up fun _ _ z => Or.inl z)) k1
    · intro _ _ _
      exact hq0 z2 z M4 (f12.tr (h4.up fun _ _ z => Or.inl z)) k1 k2
end EGROUP
