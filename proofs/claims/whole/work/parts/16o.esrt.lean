/-! STAGES: $sort, the reference: whole; what may be wrong -/
section ESRT
variable {m b l kr be ma : Nat} {M0 M : g_M} {L : List Int} {Q : Int → g_M → Prop} {g : Int} {ds : List (List b_E)}
def E_sS (m l kr ma be : Nat) (y : Nat) (k : Int) : Prop := E_kS m l kr y k ∨ y = ma ∨ y = be
theorem e_sort {d De : Nat} {pe : Int} {e : b_E} (hT : E_T m b ma be M0) (h34 : g_r M0 m 34 = some kr) (hkr : g_A M0 kr 1 800) (hS0 : E_S m b l (g_i M0 b) M0 L) (hL : L.length ≤ 1000) (hbt : E_belt m b be g ds M0) (he : b_st (g_i M0 b) 2100 pe De e.1 e.2.1 e.2.2) (hsf : O_sf e = 0) (hq : ∀ M1, e_fr (E_sS m l kr ma be) M0 M1 → E_S m b l (g_i M0 b) M1 L → E_belt m b be g (O_srt (b_ch e.2.2) ds) M1 → Q 0 M1) : g_Call (d + 52) 356 [.ref m, g_n (pe + 2 + e.2.1.length)] M0 (g_qI Q) := by
  obtain ⟨hk3, hn1, hn4, hso⟩ := O_sf_0 hsf
  obtain ⟨hR, h22, h18, hma, hbe, hbm⟩ := id hT
  obtain ⟨n1, n2, n3, n4, n5, n6⟩ := hT.ne
  obtain ⟨h19, hok, hpl⟩ := id hbt
  have he4 := he.2.2.2.1
  have he5 := he.2.2.2.2
  have hel := b_el_len e.1 e.2.1 e.2.2
  have heM : b_st (g_i M0 b) 2706210 pe De e.1 e.2.1 e.2.2 := ⟨he.1, he.2.1, he.2.2.1, he4, by omega⟩
  obtain ⟨D1, es, eD, ee, hoke, htl, hch, -⟩ := heM.tl (Or.inl hk3)
  have hvl := congrArg List.length ee
  rw [b_doc_len] at hvl
  obtain ⟨c, hc⟩ : ∃ c : Int, c = pe + 2 + e.2.1.length := ⟨_, rfl⟩
  rw [← hc] at htl ⊢
  rw [show pe + 6 + (e.2.1.length : Int) = c + 4 by omega] at htl
  rw [hch] at hn1 hn4 hso hq
  have hcR : g_InR c := ⟨by omega, by omega⟩
  have hlA := hS0.2.2.1
  have hlk : l ≠ kr := g_neAA hlA hkr (by omega)
  have hlb : l ≠ be := g_neAA hlA hbe (by omega)
  have hlm : l ≠ ma := g_neAA hlA hma (by omega)
  have hkb : kr ≠ be := g_neAA hkr hbe (by omega)
  have hkm : kr ≠ ma := g_neAA hkr hma (by omega)
  have hkbb : kr ≠ b := g_neAA hkr hR.2.2 (by omega)
  have hmk : m ≠ kr := g_neOA hR.1 hkr
  have hml : m ≠ l := g_neOA hR.1 hlA
  have hways := O_so_0 hso
  refine m_X12_sort hcR fun _ => ⟨hR.1, e_countE (d := d + 46) (D := D1) hR htl ?_⟩
  intro _ _ _
  refine e_keys (d := d) (D := D1) (g := g) (kr := kr) (be := be) h18 hbe h34 hkr hlk hlb hS0 hL hbt htl (by omega) hn4 hways fun M1 f1 S1 hkk => ?_
  have hb1 : g_i M1 b = g_i M0 b := S1.2.2.2.2.2.1
  refine e_sortLoops (d := d + 3) (D := D1) (ds := ds) (hT.fr f1) (by rw [f1.2.2]; exact h34) (f1.A hkr) ?_ (by rw [hb1]; exact hkk) (by rw [hb1]; exact htl) hn4 hways hok.1 hcR fun M2 f2 hbe2 => ?_
  · rw [f1.2.1 m 19 fun z => ?_]
    · exact h19
    · rcases z with (z | z) | z
      · exact hml z
      · exact absurd z.2 (by decide)
      · exact hmk z
  · have hb2 : g_i M2 b = g_i M1 b := funext fun k => f2.2.1 b k fun z => z.elim n4 n5
    have f02 : e_fr (E_sS m l kr ma be) M0 M2 := (f1.up fun _ _ z => Or.inl z).tr (f2.up fun _ _ z => Or.inr z)
    refine hq M2 f02 ?_ ⟨?_, S_ok_perm (O_srt_perm _ _) hok, fun i es2 hi => ?_⟩
    · obtain ⟨a1, a2, a3, a4, a5, a6, a7⟩ := S1
      exact ⟨f2.R a1, by rw [f2.2.2]; exact a2, f2.A a3, by rw [f2.2.1 m 10 fun z => z.elim n2 n3]; exact a4, b_at_keep a5 fun k _ _ => f2.2.1 l k fun z => z.elim hlm hlb, by rw [hb2]; exact a6, a7⟩
    · rw [f02.2.1 m 19 fun z => ?_, O_srt_len]
      · exact h19
      · rcases z with ((z | z) | z) | z | z
        · exact hml z
        · exact absurd z.2 (by decide)
        · exact hmk z
        · exact n2 z
        · exact n3 z
    · obtain ⟨k, hk, hdk⟩ := O_srt_at hi
      obtain ⟨p, p1, p2, p3, p4, p5⟩ := hpl k es2 hdk
      refine ⟨p, ?_, by rw [hb2, hb1]; exact p2, p3, p4, p5⟩
      rw [hbe2 i k hk, f1.2.1 be k fun z => ?_]
      · exact p1
      · rcases z with (z | z) | z
        · exact hlb z.symm
        · exact n3 z.1.symm
        · exact hkb z.symm
theorem e_sortFault {d De : Nat} {pe : Int} {e : b_E} (hR : e_R M m b) (he : b_st (g_i M b) 2100 pe De e.1 e.2.1 e.2.2) (hq : Q (O_sf e) M) : g_Call (d + 9) 334 [.ref m, g_n pe] M (g_qI Q) := by
  have he4 := he.2.2.2.1
  have he5 := he.2.2.2.2
  have hel := b_el_len e.1 e.2.1 e.2.2
  have heM : b_st (g_i M b) 2706210 pe De e.1 e.2.1 e.2.2 := ⟨he.1, he.2.1, he.2.2.1, he4, by omega⟩
  have hpeR := heM.R (by decide)
  have h2' : ¬ (e.1 = 3 ∧ 1 ≤ (b_ch e.2.2).length ∧ (b_ch e.2.2).length ≤ 4) → Q 2 M := fun h => by
    unfold O_sf at hq
    rwa [if_neg h] at hq
  have hkd := heM.val.2.2.2
  refine m_X12_sortFault hpeR fun _ => ⟨hR.1, b, hR.2.1, _, hR.2.2, ⟨by omega, by omega⟩, ?_⟩
  rw [hkd]
  refine ⟨fun hk3 => ?_, fun hk3 => h2' fun z => hk3 z.1⟩
  obtain ⟨D1, es, eD, ee, hoke, htl, hch, -⟩ := heM.tl (Or.inl hk3)
  have hvl := congrArg List.length ee
  rw [b_doc_len] at hvl
  obtain ⟨c, hc⟩ : ∃ c : Int, c = pe + 2 + e.2.1.length := ⟨_, rfl⟩
  rw [← hc] at htl
  rw [show pe + 6 + (e.2.1.length : Int) = c + 4 by omega] at htl
  rw [hch] at h2'
  have hval : ∀ {Q1 : Int → g_M → Prop}, Q1 c M → g_Call (d + 8) 233 [.ref m, g_n pe] M (g_qI Q1) := fun h => e_vl2 (d := d + 6) hR heM (by rw [← hc]; exact h)
  refine hval ?_
  intro _ _ _
  refine e_countE (d := d + 3) (D := D1) hR htl ?_
  intro _ _ _
  refine ⟨fun g1 => h2' fun z => by omega, fun g1 => hval ?_⟩
  intro _ _ _
  refine e_countE (d := d + 3) (D := D1) hR htl ?_
  intro _ _ _
  refine ⟨fun g4 => h2' fun z => by omega, fun g4 => hval ?_⟩
  intro _ _ _
  refine e_first (d := d + 7) (by omega) (by omega) ?_
  intro _ _ _
  have hsf : O_sf e = O_so es := by
    unfold O_sf
    rw [hch, if_pos ⟨hk3, by omega, by omega⟩]
  rw [hsf] at hq
  have hlp : ∀ (xs : List b_E) (q : Int), e_tl (g_i M b) c q D1 es xs → q + (b_ser xs).length ≤ 2100 → O_so es = O_so xs → g_Run (d + 8) 334 47 [(0, .ref m), (1, g_n pe), (2, g_n q)] [] M (g_qI Q) := by
    intro xs
    induction xs with
    | nil =>
      intro q ht h21 hso
      have hqR : g_InR q := by
        have := ht.2.2.2.1.2.2.1
        have := ht.2.2.2.1.2.2.2.1
        exact ⟨by omega, by omega⟩
      refine s_X12_sortFault_47 hpeR hqR fun _ => ⟨hR.1, hval ?_⟩
      intro _ _ _
      refine e_lastE (d := d + 5) hR ht ?_
      intro _ _ _
      rw [hso] at hq
      exact ⟨fun z => absurd z (by omega), fun _ => hq⟩
    | cons x xs ih =>
      intro q ht h21 hso
      obtain ⟨hx, ht2⟩ := ht.cons
      have hqR := hx.R (by decide)
      have hx4 := hx.2.2.2.1
      have hxl := b_el_len x.1 x.2.1 x.2.2
      rw [b_ser_len] at h21
      obtain ⟨e0, e1, e2, e3⟩ := b_el_at hx.1
      rw [hso] at hq
      refine s_X12_sortFault_47 hpeR hqR fun _ => ⟨hR.1, hval ?_⟩
      intro _ _ _
      refine e_lastC (d := d + 5) hR ht fun r hr1 hr2 => ?_
      intro _ _ _
      refine ⟨fun _ => e_isNumR (d := d + 7) hR hx ?_, fun z => absurd hr1 z⟩
      intro _ _ _
      by_cases hxk : x.1 = 16 ∨ x.1 = 18
      rotate_left
      · rw [if_neg hxk]
        rw [O_so_2 (fun z => by unfold O_w at z; rw [if_neg hxk] at z; omega)] at hq
        exact ⟨fun _ => hq, fun z => absurd rfl z⟩
      rw [if_pos hxk]
      refine ⟨fun z => absurd z (by decide), fun _ => e_num (d := d + 4) hR hx hxk ?_⟩
      intro _ _
      have hxw : O_w x = (v_num x.1 x.2.2).toInt := by
        unfold O_w
        rw [if_pos hxk]
      have hl1 : g_lc (v_num x.1 x.2.2) 1 = 0 ↔ O_w x = 1 := by
        have a1 := u_lt (v_num x.1 x.2.2) 1
        have a2 := u_gt (v_num x.1 x.2.2) 1
        have a3 : (1 : Int64).toInt = 1 := by decide
        omega
      have hl2 : g_lc (v_num x.1 x.2.2) (-1) = 0 ↔ O_w x = -1 := by
        have a1 := u_lt (v_num x.1 x.2.2) (-1)
        have a2 := u_gt (v_num x.1 x.2.2) (-1)
        have a3 : (-1 : Int64).toInt = -1 := by decide
        omega
      have h92 : (O_w x = 1 ∨ O_w x = -1) → g_Run (d + 8) 334 92 [(0, .ref m), (1, g_n pe), (2, g_n q)] [] M (g_qI Q) := by
        intro hw
        refine s_X12_sortFault_92 hpeR hqR fun _ => ⟨⟨by omega, by omega⟩, hR.1, e_nm2 (d := d + 7) hR hx ?_⟩
        intro _ _ _
        refine e_plain (d := d + 4) (x := x.2.1) hR e1 (by omega) (by omega) (fun hp => ?_) fun hp => ?_
        · intro _ _ _
          rw [O_so_r hw hp] at hq
          refine ⟨fun z => absurd z (by decide), fun _ => e_behind (d := d + 4) hR hx.1 hx.2.1 (b_gv_vs hx.2.2.1) hx.2.2.2.1 hx.2.2.2.2 ?_⟩
          intro _ _ _
          exact ih _ ht2 (by omega) (by rw [hso, O_so_r hw hp])
        · intro _ _ _
          rw [O_so_3 hw hp] at hq
          exact ⟨fun _ => hq, fun z => absurd rfl z⟩
      refine ⟨fun z => h92 (Or.inl (hl1.mp z)), fun z => e_num (d := d + 4) hR hx hxk ?_⟩
      intro _ _
      refine ⟨fun z2 => h92 (Or.inr (hl2.mp z2)), fun z2 => ?_⟩
      rw [O_so_2 (fun w => w.elim (fun w => z (hl1.mpr w)) fun w => z2 (hl2.mpr w))] at hq
      exact hq
  exact hlp es (c + 4) htl (by omega) rfl
end ESRT
