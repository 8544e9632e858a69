/-! STAGES: $unwind of an item, the class -/
def S_Pa (F : Int → Int) (b po pf pt s : Nat) (st : List (List Int)) (M : g_M) : Prop := g_r M po 0 = some b ∧ g_i M po 3 = s + st.length ∧ p_rb F (g_i M pf) (g_i M pt) 2100 s st
theorem S_Pa.x {F : Int → Int} {b po pf pt s : Nat} {x : List Int} {r : List (List Int)} {M : g_M} (h : S_Pa F b po pf pt s (x :: r) M) : 0 ≤ g_i M pf s ∧ g_i M pt s = g_i M pf s + x.length ∧ g_i M pt s ≤ 2100 ∧ b_at F (g_i M pf s) x := by
  obtain ⟨-, -, h1, h2, h3, h4, -⟩ := h
  exact ⟨h1, h2, h3, h4⟩
theorem S_Pa.tl {F : Int → Int} {b po pf pt s : Nat} {x : List Int} {r : List (List Int)} {M : g_M} (h : S_Pa F b po pf pt s (x :: r) M) : S_Pa F b po pf pt (s + 1) r M := by
  obtain ⟨h1, h2, -, -, -, -, h3⟩ := h
  rw [List.length_cons] at h2
  exact ⟨h1, by omega, h3⟩
theorem b_at_drop {B : Int → Int} {q : Int} {x : List Int} {n : Nat} (h : b_at B q x) (hn : n ≤ x.length) : b_at B (q + n) (x.drop n) := by
  rw [← List.take_append_drop n x] at h
  have := (b_app.mp h).2
  rwa [List.length_take, Nat.min_eq_left hn] at this
def U_J (i : Nat) (u : List Int) (J : Int) : Prop := 40000 ≤ J ∧ J ≤ 80400 + 40402 * i ∧ (u.length ≤ 40400 → J ≤ 40000 + 40402 * i + u.length)
section UITEM
variable {so b po pf pt ou sc be fr : Nat} {M0 M M1 : g_M} {lo : Int}
theorem S_Pa.ef {F : Int → Int} {s : Nat} {st : List (List Int)} {S : Nat → Int → Prop} (h : S_Pa F b po pf pt s st M) (f : e_fr S M M1) (h1 : ∀ k, ¬ S po k) (h2 : ∀ k, ¬ S pf k) (h3 : ∀ k, ¬ S pt k) : S_Pa F b po pf pt s st M1 := by
  obtain ⟨a1, a2, a3⟩ := h
  have e2 : g_i M1 pf = g_i M pf := funext fun k => f.2.1 pf k (h2 k)
  have e3 : g_i M1 pt = g_i M pt := funext fun k => f.2.1 pt k (h3 k)
  exact ⟨by rw [f.2.2]; exact a1, by rw [f.2.1 po 3 (h1 3)]; exact a2, by rw [e2, e3]; exact a3⟩
theorem c_copyT {d a o buf : Nat} {Q : g_M → Prop} {n l2 lim p t n1 : Int} {x y : List Int} (h : c_Wr o buf n l2 lim x M) (hA : g_A M a 0 n1) (hn1 : n1 ≤ 1000000000) (hy : b_at (g_i M a) p y) (h0 : 0 ≤ p) (h1 : p + y.length ≤ n1) (ht : p + y.length = t) (hq : ∀ M1, e_fr (c_WL o buf l2 lim) M M1 → c_Wr o buf n l2 lim (x ++ y) M1 → Q M1) : g_Call (d + 1) 80 [.ref o, .ref a, g_n p, g_n t] M (g_qV Q) := by
  rw [← ht]
  exact c_copy h hA hn1 hy h0 h1 hq
theorem c_unwItem {d iD Di : Nat} {Q : g_M → Prop} {dp q qi J : Int} {x it : b_E} {es : List b_E} {ds : List (List b_E)} {st : List (List Int)} {c : List h_F} {u : List Int} (hT : S_T so b po pf pt ou sc be fr M0) (hlo : 82808 ≤ lo) (hlo2 : lo ≤ 123208) (hd : b_st (g_i M0 b) 163608 dp 16 3 [] (b_doc es)) (hav : ∀ k, dp ≤ k → k < dp + (b_el 3 [] (b_doc es)).length → ¬ (lo ≤ k ∧ k < lo + 40400)) (hl : (b_doc es).length ≤ 2000) (hg : X_gd 15 es) (hcx : U_cx x st (3, [], b_doc es) c) (hv : V_res st es = some (x, [])) (hx4 : x.1 = 4) (hitm : it ∈ b_ch x.2.2) (hcl : c.length = st.length) (hst8 : st.length ≤ 8) (hqc : q = h_at dp c) (hit : b_st (g_i M0 b) 163608 qi Di it.1 it.2.1 it.2.2) (hqi : dp ≤ qi) (hqi2 : qi + (b_el it.1 it.2.1 it.2.2).length ≤ dp + (b_el 3 [] (b_doc es)).length) (hxs : b_st (g_i M0 b) 163608 q 15 x.1 x.2.1 x.2.2) (hiD : iD < 200) (hX : S_X so b po pf pt ou sc fr M0 M lo) (hP : S_Pa (g_i M0 b) b po pf pt 0 st M) (hD : S_D so b ou fr lo J ds u M) (hJ : U_J iD u J) (hq : ∀ M1 u1 J1, S_X so b po pf pt ou sc fr M0 M1 lo → S_Pa (g_i M0 b) b po pf pt 0 st M1 → S_D so b ou fr lo J1 (ds ++ [U_put st it es]) u1 M1 → U_J iD u1 J1 → Q M1) : g_Call (d + 70) 154 [.ref so, g_n dp, g_n q, g_n qi] M (g_qV Q) := by
  obtain ⟨hu, hF, h18⟩ := hD
  obtain ⟨hJ0, hJ1, hJ2⟩ := hJ
  have hav' : dp + (b_el 3 [] (b_doc es)).length ≤ lo ∨ lo + 40400 ≤ dp := by
    rcases Int.lt_or_le dp lo with g | g
    · rcases Int.lt_or_le lo (dp + (b_el 3 [] (b_doc es)).length) with g2 | g2
      · exact absurd ⟨Int.le_refl _, by omega⟩ (hav lo (by omega) g2)
      · exact Or.inl g2
    · rcases Int.lt_or_le dp (lo + 40400) with g2 | g2
      · exact absurd ⟨g, g2⟩ (hav dp (Int.le_refl _) (by rw [b_el_len]; omega))
      · exact Or.inr g2
  clear hav
  -- what the class may change here, and what stays
  have hno : ∀ {S : Nat → Int → Prop}, (∀ y k, S y k → y = ou ∨ y = b) → (∀ k, ¬ S po k) ∧ (∀ k, ¬ S pf k) ∧ (∀ k, ¬ S pt k) ∧ (∀ k, ¬ S so k) ∧ ∀ k, ¬ S fr k := by
    intro S hS
    obtain ⟨a1, -, -, -, a5, -, -, -⟩ := hT.n1
    obtain ⟨b1, b2, b3, -, -, -, b7⟩ := hT.n2
    obtain ⟨⟨c1, -⟩, ⟨d1, -⟩, ⟨e1, -⟩, ⟨-, -, f3⟩, -⟩ := hT.n3
    refine ⟨fun k z => ?_, fun k z => ?_, fun k z => ?_, fun k z => ?_, fun k z => ?_⟩
    · rcases hS _ _ z with z | z
      · exact c1 z
      · exact b1 z.symm
    · rcases hS _ _ z with z | z
      · exact d1 z
      · exact b2 z.symm
    · rcases hS _ _ z with z | z
      · exact e1 z
      · exact b3 z.symm
    · rcases hS _ _ z with z | z
      · exact a5 z
      · exact a1 z
    · rcases hS _ _ z with z | z
      · exact f3 z.symm
      · exact b7 z.symm
  have hoB : ∀ {y : Nat} {k : Int}, c_WL ou b lo (lo + 40400) y k → y = ou ∨ y = b := fun h => by
    rcases h with ⟨h, -⟩ | ⟨h, -⟩
    · exact Or.inl h
    · exact Or.inr h
  have hXou : ∀ {Ma Mb : g_M}, S_X so b po pf pt ou sc fr M0 Ma lo → e_fr (c_WL ou b lo (lo + 40400)) Ma Mb → S_X so b po pf pt ou sc fr M0 Mb lo := fun h f => h.e hT f fun y k z => by
    rcases z with ⟨z, -⟩ | ⟨z, z2⟩
    · exact Or.inr (Or.inl z)
    · exact Or.inr (Or.inr (Or.inr (Or.inr ⟨z, Or.inr z2⟩)))
  have hFou : ∀ {Ma Mb : g_M}, S_F so fr lo J ds Ma → e_fr (c_WL ou b lo (lo + 40400)) Ma Mb → S_F so fr lo J ds Mb ∧ g_i Mb so 18 = g_i Ma so 18 := by
    intro Ma Mb h f
    obtain ⟨-, -, -, k4, k5⟩ := hno (S := c_WL ou b lo (lo + 40400)) fun y k z => hoB z
    exact ⟨h.fr (fun k _ => f.2.1 so k (k4 k)) fun k => f.2.1 fr k (k5 k), f.2.1 so 18 (k4 18)⟩
  have hPou : ∀ {Ma Mb : g_M}, S_Pa (g_i M0 b) b po pf pt 0 st Ma → e_fr (c_WL ou b lo (lo + 40400)) Ma Mb → S_Pa (g_i M0 b) b po pf pt 0 st Mb := by
    intro Ma Mb h f
    obtain ⟨k1, k2, k3, -⟩ := hno (S := c_WL ou b lo (lo + 40400)) fun y k z => hoB z
    exact h.ef f k1 k2 k3
  have hel := b_el_len 3 [] (b_doc es)
  rw [List.length_nil] at hel
  have hd4 := hd.2.2.2.1
  have hd5 := hd.2.2.2.2
  have hxel := b_el_len x.1 x.2.1 x.2.2
  have hitel := b_el_len it.1 it.2.1 it.2.2
  have hwel := b_el_len it.1 x.2.1 it.2.2
  obtain ⟨hZ0, hbx0, hhs⟩ := U_cx_fwd (B := g_i M0 b) st (3, [], b_doc es) c dp hcx hd.1
  have hat1 := h_at_ge c dp
  have hat2 := h_at_in (b_el x.1 x.2.1 x.2.2).length c dp
  have hhs' : h_hs (b_el x.1 x.2.1 x.2.2).length c = (b_el 3 [] (b_doc es)).length := hhs
  rw [hhs', ← hqc] at hat2
  rw [← hqc] at hat1 hbx0
  have hbk : ∀ {M2 : g_M}, S_X so b po pf pt ou sc fr M0 M2 lo → ∀ k, dp ≤ k → k < dp + (b_el 3 [] (b_doc es)).length → g_i M2 b k = g_i M0 b k := fun h k k1 k2 => h.2.2.2.2.1 k (by omega) (by omega)
  have hlow : ∀ {M2 : g_M}, S_X so b po pf pt ou sc fr M0 M2 lo → ∀ k, k < 2100 → g_i M2 b k = g_i M0 b k := fun h k hk => h.2.2.2.2.1 k (by omega) (by omega)
  have hin : ∀ {M2 : g_M} {p : Int} {D : Nat} {k : Int} {nm vb : List Int}, S_X so b po pf pt ou sc fr M0 M2 lo → b_st (g_i M0 b) 163608 p D k nm vb → dp ≤ p → p + (b_el k nm vb).length ≤ dp + (b_el 3 [] (b_doc es)).length → b_st (g_i M2 b) 246408 p D k nm vb := by
    intro M2 p D k nm vb h hs h1 h2
    exact ⟨b_at_keep hs.1 fun j j1 j2 => hbk h j (by omega) (by omega), hs.2.1, hs.2.2.1, hs.2.2.2.1, by omega⟩
  have hdpR := hd.R (by decide)
  have hqR := hxs.R (by decide)
  have hqiR := hit.R (by decide)
  have hitk := b_vs_pos (b_gv_vs hit.2.2.1)
  obtain ⟨T, hTd⟩ : ∃ T, T = U_put st it es := ⟨_, rfl⟩
  rw [← hTd] at hq
  obtain ⟨hTg, hTl⟩ := U_put_good st 15 es hg (by rw [b_doc_len] at hl; omega) hv hx4 hitm
  rw [← hTd] at hTg hTl
  obtain ⟨w, hw⟩ : ∃ w, w = b_el it.1 x.2.1 it.2.2 := ⟨_, rfl⟩
  obtain ⟨n1, hn1⟩ : ∃ n1 : Nat, dp + n1 = q := ⟨(q - dp).toNat, by omega⟩
  obtain ⟨y1, hy1⟩ : ∃ y1, y1 = (b_el 3 [] (b_doc es)).take n1 := ⟨_, rfl⟩
  obtain ⟨y2, hy2⟩ : ∃ y2, y2 = (b_el 3 [] (b_doc es)).drop (n1 + (b_el x.1 x.2.1 x.2.2).length) := ⟨_, rfl⟩
  have hy1l : y1.length = n1 := by rw [hy1, List.length_take]; omega
  have hy2l : y2.length = (b_el 3 [] (b_doc es)).length - (n1 + (b_el x.1 x.2.1 x.2.2).length) := by rw [hy2, List.length_drop]
  have hy1a : b_at (g_i M0 b) dp y1 := by rw [hy1]; exact b_at_take hd.1
  have hy2a : b_at (g_i M0 b) (q + (b_el x.1 x.2.1 x.2.2).length) y2 := by
    have := b_at_drop (n := n1 + (b_el x.1 x.2.1 x.2.2).length) hd.1 (by omega)
    rw [← hy2] at this
    rwa [show dp + ((n1 + (b_el x.1 x.2.1 x.2.2).length : Nat) : Int) = q + (b_el x.1 x.2.1 x.2.2).length by omega] at this
  -- lengths
  have hhsw : (h_hs w.length c : Int) = (b_el 3 [] (b_doc es)).length - (b_el x.1 x.2.1 x.2.2).length + w.length := by
    have k1 := h_hs_add 0 (b_el x.1 x.2.1 x.2.2).length c
    have k2 := h_hs_add 0 w.length c
    rw [Nat.zero_add] at k1 k2
    omega
  have hZl : (y1 ++ w ++ y2).length = h_hs w.length c := by
    rw [List.length_append, List.length_append, hy1l, hy2l]
    omega
  have htlen : h_hs w.length c = (b_el 3 [] (b_doc T)).length := by
    rw [hw, hTd]
    rw [U_cx_len (it := it) st (3, [], b_doc es) c hcx]
    show (b_el 3 [] (b_doc (U_put st it (b_ch (b_doc es))))).length = _
    rw [b_ch_doc hg.ok]
  have hTl2 := b_el_len 3 [] (b_doc T)
  rw [List.length_nil] at hTl2
  obtain ⟨⟨s1, s2, s3⟩, -, hPp, ⟨w4, w5, w6, w7⟩, -, -, -, -⟩ := hX.T hT
  have hitM := hin hX hit hqi hqi2
  have hxM := hin hX hxs (by omega) (by omega)
  refine m_X9_unwindItem hdpR hqR hqiR fun hok => ⟨s1, ou, w4, hu.1.1, b, s2, c_nx2 (d := d + 68) s3 (by decide) hitM ?_⟩
  intro _ _ _
  refine ⟨b, s2, c_va2 (d := d + 68) s3 (by decide) hitM ?_⟩
  intro _ _ _
  refine ⟨⟨by omega, by omega⟩, b, s2, c_nx2 (d := d + 68) s3 (by decide) hxM ?_⟩
  intro _ _ _
  refine ⟨b, s2, c_va2 (d := d + 68) s3 (by decide) hxM ?_⟩
  intro _ _ _
  obtain ⟨mo, hmo⟩ : ∃ mo : Int, mo = (w.length : Int) - (b_el x.1 x.2.1 x.2.2).length := ⟨_, rfl⟩
  have hmo2 : (qi + (b_el it.1 it.2.1 it.2.2).length - (qi + 2 + it.2.1.length)) - (q + (b_el x.1 x.2.1 x.2.2).length - (q + 2 + x.2.1.length)) = mo := by
    rw [hmo, hw, hwel]
    omega
  rw [hmo2]
  refine ⟨⟨by omega, by omega⟩, ⟨by omega, by omega⟩, ou, w4, b, s2, hu.1.1, ?_⟩
  refine c_copyT (d := d + 68) (p := dp) (y := y1) hu s3 (by decide) (b_at_keep hy1a fun k k1 k2 => hbk hX k k1 (by omega)) hd4 (by omega) (by omega) fun M41 f41 W41 => ?_
  intro _ _
  have hX41 := hXou hX f41
  obtain ⟨⟨s1, s2, s3⟩, -, -, ⟨w4, -⟩, -⟩ := hX41.T hT
  refine ⟨ou, w4, b, s2, c_kd2 (d := d + 68) s3 (by decide) (hin hX41 hit hqi hqi2) ?_⟩
  intro _ _ _
  refine ⟨b, s2, ⟨by omega, by omega⟩, b, s2, c_va2 (d := d + 68) s3 (by decide) (hin hX41 hxs (by omega) (by omega)) ?_⟩
  intro _ _ _
  rw [show q + 2 + (x.2.1.length : Int) - 1 = q + 1 + x.2.1.length by omega]
  refine ⟨⟨by omega, by omega⟩, W41.1.1, c_headOf (d := d + 67) W41 (by omega) (by omega) s3 (by decide) (fun M3 f3 => (hin (hXou hX41 f3) hxs (by omega) (by omega)).nmb) (by omega) (by omega) fun M65 f65 W65 => ?_⟩
  intro _ _
  have hX65 := hXou hX41 f65
  obtain ⟨⟨s1, s2, s3⟩, -, -, ⟨w4, -⟩, -⟩ := hX65.T hT
  refine ⟨ou, w4, b, s2, W65.1.1, c_outVal (d := d + 67) W65 s3 (by decide) (hin hX65 hit hqi hqi2) fun M73 f73 W73 => ?_⟩
  intro _ _
  have hX73 := hXou hX65 f73
  obtain ⟨⟨s1, s2, s3⟩, -, -, ⟨w4, -⟩, -⟩ := hX73.T hT
  refine ⟨ou, w4, b, s2, b, s2, c_nx2 (d := d + 68) s3 (by decide) (hin hX73 hxs (by omega) (by omega)) ?_⟩
  intro _ _ _
  refine ⟨b, s2, c_nx2 (d := d + 68) s3 (by decide) (hin hX73 hd (Int.le_refl _) (Int.le_refl _)) ?_⟩
  intro _ _ _
  refine ⟨W73.1.1, ?_⟩
  refine c_copyT (d := d + 68) (p := q + (b_el x.1 x.2.1 x.2.2).length) (y := y2) W73 s3 (by decide) (b_at_keep hy2a fun k k1 k2 => hbk hX73 k (by omega) (by omega)) (by omega) (by omega) (by omega) fun M95 f95 W95 => ?_
  intro _ _
  have fa := ((f41.tr f65).tr f73).tr f95
  have hX95 := hXou hX73 f95
  obtain ⟨hF95, h1895⟩ := hFou hF fa
  have hP95 := hPou hP fa
  have ew : u ++ y1 ++ (it.1 :: (x.2.1 ++ [0])) ++ it.2.2 ++ y2 = u ++ (y1 ++ w ++ y2) := by
    rw [hw]
    unfold b_el
    simp
  rw [ew] at W95
  obtain ⟨⟨s1, s2, s3⟩, -, hPp95, ⟨w4, -, -, w7⟩, ⟨-, q2, -⟩, -⟩ := hX95.T hT
  refine ⟨ou, w4, W95.1.1, fun g3 => ?_, fun g3 => ?_⟩
  · -- the sizes
    have hnov : lo + (u ++ (y1 ++ w ++ y2)).length ≤ lo + 40400 ∧ g_i M95 ou 1 = lo + (u ++ (y1 ++ w ++ y2)).length ∧ b_at (g_i M95 b) lo (u ++ (y1 ++ w ++ y2)) := by
      rcases W95.2.2.2.2 with ⟨-, a2, a3, a4⟩ | ⟨a1, -⟩
      · exact ⟨a3, a2, a4⟩
      · exact absurd (g3.symm.trans a1) (by decide)
    obtain ⟨v1, v2, v3⟩ := hnov
    rw [List.length_append, hZl] at v1 v2
    have hat0 : g_i M ou 1 = lo + u.length := by
      rcases hu.2.2.2.2 with ⟨-, a2, -⟩ | ⟨-, -, -, a4⟩
      · exact a2
      · omega
    rw [hat0]
    obtain ⟨P, hPd⟩ : ∃ P : Int, P = lo + u.length := ⟨_, rfl⟩
    rw [← hPd]
    obtain ⟨sh, hsh⟩ : ∃ sh : Int, sh = P - dp := ⟨_, rfl⟩
    have hlim : g_i M95 ou 2 = lo + 40400 := W95.2.2.2.1
    have hfin : ∀ M3, e_fr (fun y k => y = b ∧ h_fl P c k) M95 M3 → h_sd (g_i M3 b) w.length P c → g_Call (d + 69) 143 [.ref so, g_n (P + 2)] M3 (g_qV fun M6 => g_ext M3 M6 → g_ok M6 → Q M6) := by
      intro M3 f3 hsd
      have hflr : ∀ k, h_fl P c k → P ≤ k ∧ k < h_at P c := fun k hk => h_fl_lt c P k hk
      have hatP : h_at P c = q + sh := by
        have := h_at_sh c dp sh
        rw [show dp + sh = P by omega] at this
        rw [this, ← hqc]
      have hxx : b_at (g_i M95 b) P (y1 ++ w ++ y2) := by
        have := (b_app.mp v3).2
        rwa [← hPd] at this
      obtain ⟨hx12, hx3⟩ := b_app.mp hxx
      obtain ⟨hx1, hx2⟩ := b_app.mp hx12
      rw [hy1l] at hx2
      rw [List.length_append, hy1l] at hx3
      have hX3 : S_X so b po pf pt ou sc fr M0 M3 lo := hX95.e hT f3 fun y k z => Or.inr (Or.inr (Or.inr (Or.inr ⟨z.1, Or.inr (by
        have := hflr k z.2
        omega)⟩)))
      have hkeep3 : ∀ k, ¬ h_fl P c k → g_i M3 b k = g_i M95 b k := fun k hk => f3.2.1 b k fun z => hk z.2
      have hZP : h_Z (g_i M3 b) w.length P c := by
        have hz := h_Z_sh sh c dp hZ0
        rw [show dp + sh = P by omega] at hz
        refine h_Z_move (a := h_at P c) (old := (b_el x.1 x.2.1 x.2.2).length) (fresh := w.length) (by omega) c P hz (Int.le_refl _) (by omega) (by omega) (fun k k1 k2 k3 => ?_) (fun k k1 k2 => ?_) hsd
        · rw [hkeep3 k k3]
          show g_i M95 b k = g_i M0 b (k - sh)
          obtain ⟨j, hj⟩ : ∃ j : Nat, k = P + j := ⟨(k - P).toNat, by omega⟩
          obtain ⟨v, hv'⟩ : ∃ v, y1[j]? = some v := ⟨_, List.getElem?_eq_getElem (by omega)⟩
          rw [hj, hx1 j v hv', show P + (j : Int) - sh = dp + j by omega, hy1a j v hv']
        · rw [hhs'] at k2
          rw [hkeep3 _ fun z => by have := hflr _ z; omega]
          show g_i M95 b (k + ((w.length : Int) - (b_el x.1 x.2.1 x.2.2).length)) = g_i M0 b (k - sh)
          obtain ⟨j, hj⟩ : ∃ j : Nat, k = h_at P c + (b_el x.1 x.2.1 x.2.2).length + j := ⟨(k - (h_at P c + (b_el x.1 x.2.1 x.2.2).length)).toNat, by omega⟩
          obtain ⟨v, hv'⟩ : ∃ v, y2[j]? = some v := ⟨_, List.getElem?_eq_getElem (by omega)⟩
          have e1 := hx3 j v hv'
          have e2 := hy2a j v hv'
          rw [show k + ((w.length : Int) - (b_el x.1 x.2.1 x.2.2).length) = P + ((n1 + w.length : Nat) : Int) + j by omega, e1, show k - sh = q + (b_el x.1 x.2.1 x.2.2).length + j by omega, e2]
      have hbw : b_at (g_i M3 b) (h_at P c) w := by
        refine b_at_keep (B := g_i M95 b) ?_ fun k k1 k2 => hkeep3 k fun z => by have := hflr k z; omega
        rwa [show h_at P c = P + (n1 : Int) by omega]
      rw [hw] at hZP hbw
      have hbT := (U_cx_bwd (it := it) st (3, [], b_doc es) c P hcx hZP hbw).1
      have hbT' : b_at (g_i M3 b) P (b_el 3 [] (b_doc T)) := by
        have h9 : b_at (g_i M3 b) P (b_el 3 [] (b_doc (U_put st it (b_ch (b_doc es))))) := hbT
        rw [b_ch_doc hg.ok, ← hTd] at h9
        exact h9
      have hou3 : ∀ k, g_i M3 ou k = g_i M95 ou k := fun k => f3.2.1 ou k fun z => hT.n2.2.2.2.1 z.1.symm
      have W3 : c_Wr ou b 246408 lo (lo + 40400) (u ++ b_el 3 [] (b_doc T)) M3 := by
        obtain ⟨⟨o1, o2, o3, o4⟩, o5, o6, o7⟩ := W95
        refine ⟨⟨f3.O o1, by rw [f3.2.2]; exact o2, f3.A o3, o4⟩, o5, o6, ?_⟩
        unfold w_W
        rw [hou3, hou3, hou3]
        refine ⟨hlim, Or.inl ⟨g3, ?_, ?_, b_app.mpr ⟨?_, by rw [← hPd]; exact hbT'⟩⟩⟩
        · rw [List.length_append, ← htlen]
          omega
        · rw [List.length_append, ← htlen]
          omega
        · exact b_at_keep (b_app.mp v3).1 fun k k1 k2 => hkeep3 k fun z => by have := hflr k z; omega
      obtain ⟨hn1', hn2, hn3, hn4, hn5⟩ := hno (S := fun y k => y = b ∧ h_fl P c k) fun y k z => Or.inr z.1
      have hF3 := hF95.fr (fun k _ => f3.2.1 so k (hn4 k)) fun k => f3.2.1 fr k (hn5 k)
      have h183 : g_i M3 so 18 = g_i M so 18 := (f3.2.1 so 18 (hn4 18)).trans h1895
      obtain ⟨hS3, -, -, ⟨x4, -, -, x7⟩, ⟨-, xq2, -⟩, -⟩ := hX3.T hT
      have hP3 := hP95.ef f3 hn1' hn2 hn3
      refine c_finish (d := d + 1) (J := J) (J2 := J + (b_doc T).length) (es := T) (ds := ds) (u := u) hS3 x4 x7 xq2 (by omega) (by omega) (fun z => h18 (by rw [← h183]; exact z)) W3 ⟨by omega, by omega, Or.inl (by omega)⟩ (hTg.le (by decide)) hF3 hJ0 (by omega) (Or.inr (Or.inr ⟨by rw [hou3]; exact g3, Int.le_refl _⟩)) fun M4 f4 hF4 h184 => ?_
      intro _ _
      obtain ⟨a1, -, -, -, a5, -, -, a8⟩ := hT.n1
      obtain ⟨b1, b2, b3, -, -, -, b7⟩ := hT.n2
      obtain ⟨⟨-, -, -, c4⟩, ⟨-, -, -, d4'⟩, ⟨-, -, -, e4⟩, ⟨-, -, f3'⟩, -⟩ := hT.n3
      obtain ⟨-, a2, a3, a4, -⟩ := hT.n1
      refine hq M4 (u ++ b_el 3 [] (b_doc T)) _ (hX3.e hT f4 fun y k z => ?_) (hP3.ef f4 (fun k z => ?_) (fun k z => ?_) fun k z => ?_) ⟨W3.kp f4.1 (f4.2.2 _ _) (fun k => f4.2.1 ou k fun z => ?_) (fun k _ _ => f4.2.1 b k fun z => ?_), hF4, fun z => ?_⟩ ⟨by omega, ?_, fun _ => ?_⟩
      · rcases z with z | z
        · exact Or.inl z
        · exact Or.inr (Or.inr (Or.inr (Or.inl z)))
      · rcases z with ⟨z, -⟩ | z
        · exact a2 z.symm
        · exact c4 z
      · rcases z with ⟨z, -⟩ | z
        · exact a3 z.symm
        · exact d4' z
      · rcases z with ⟨z, -⟩ | z
        · exact a4 z.symm
        · exact e4 z
      · rcases z with ⟨z, -⟩ | z
        · exact a5 z.symm
        · exact f3' z
      · rcases z with ⟨z, -⟩ | z
        · exact a1 z.symm
        · exact b7 z
      · rw [S_wr_snoc, h18 (by rw [← h183]; exact h184 z)]
      · clear a1 a2 a3 a4 a5 a8 b1 b2 b3 b7 c4 d4' e4 f3'
        have := hJ2 (by omega)
        omega
      · clear a1 a2 a3 a4 a5 a8 b1 b2 b3 b7 c4 d4' e4 f3'
        have := hJ2 (by omega)
        rw [List.length_append]
        omega
    have hpatch : ∀ (st2 : List (List Int)) (c2 : List h_F) (e2 : b_E) (p : Int) (D2 s : Nat) (M2 : g_M), U_cx x st2 e2 c2 → h_at p c2 = q → b_st (g_i M0 b) 163608 p D2 e2.1 e2.2.1 e2.2.2 → dp ≤ p → p + (b_el e2.1 e2.2.1 e2.2.2).length ≤ dp + (b_el 3 [] (b_doc es)).length → s + st2.length ≤ 8 → S_Pa (g_i M0 b) b po pf pt s st2 M2 → e_fr (fun y k => y = b ∧ P ≤ k ∧ k < lo + 40400) M95 M2 → (∀ M3, e_fr (fun y k => y = b ∧ h_fl (p + sh) c2 k) M2 M3 → h_sd (g_i M3 b) w.length (p + sh) c2 → g_Call (d + 69) 143 [.ref so, g_n (P + 2)] M3 (g_qV fun M6 => g_ext M3 M6 → g_ok M6 → Q M6)) → g_Run (d + 69) 154 152 [(0, .ref so), (1, g_n dp), (2, g_n q), (3, g_n qi), (4, g_n P), (5, g_n mo), (6, g_n p), (7, g_n s)] [] M2 (g_qV Q) := by
      intro st2
      induction st2 with
      | nil => exact fun c2 e2 p D2 s M2 h => h.elim
      | cons s0 r ih =>
        intro c2 e2 p D2 s M2 hc hcq hb hp1 hp2 hs8 hPa f2 hfin2
        obtain ⟨l, t, x0, c3, k1, k2, k3, k4, k5, k6, k7⟩ := hc
        have hX2 : S_X so b po pf pt ou sc fr M0 M2 lo := hX95.e hT f2 fun y k z => Or.inr (Or.inr (Or.inr (Or.inr ⟨z.1, Or.inr (by have := z.2; omega)⟩)))
        obtain ⟨⟨z1, z2, z3⟩, zz2, ⟨R1, R2, R3, R4, R5, R6⟩, ⟨z4, -⟩, -⟩ := hX2.T hT
        obtain ⟨x1, x2', x3', x4'⟩ := hPa.x
        have hb2 := hin hX2 hb hp1 hp2
        have hbR := hb.R (by decide)
        have hb4 := hb.2.2.2.1
        have hbl := b_el_len e2.1 e2.2.1 e2.2.2
        have hvl := congrArg List.length k3
        rw [b_doc_len] at hvl
        have hvb := hb2.val.1
        have hw4 : b_w4 (g_i M2 b) (p + 2 + e2.2.1.length) = e2.2.2.length := by
          rw [k3] at hvb ⊢
          exact e_w4doc hvb (by rw [← k3]; omega)
        have hPa3 := hPa.2.1
        rw [List.length_cons] at hPa3 hs8
        have hou2 : g_i M2 ou 2 = lo + 40400 := (f2.2.1 ou 2 fun z => hT.n2.2.2.2.1 z.1.symm).trans hlim
        refine s_X9_unwindItem_152 hdpR hqR hqiR ⟨by omega, by omega⟩ ⟨by omega, by omega⟩ hbR ⟨by omega, by omega⟩ fun _ => ⟨z1, po, zz2, R1, fun _ => ⟨fun z => absurd z (by omega), fun _ => ⟨b, z2, c_va2 (d := d + 68) z3 (by decide) hb2 ?_⟩⟩, fun z => absurd (by omega) z⟩
        intro _ _ _
        refine ⟨ou, z4, ⟨by omega, by omega⟩, ⟨by omega, by omega⟩, b, z2, c_w4 (d := d + 68) z3 ⟨by decide, by decide⟩ (by omega) (by omega) ?_⟩
        rw [hw4]
        intro _ _ _
        rw [show P + (p + 2 + (e2.2.1.length : Int)) - dp = p + sh + 2 + e2.2.1.length by omega]
        obtain ⟨o1, o2⟩ := (hX2.T hT).2.2.2.2.2.1
        have hser3 := congrArg List.length (b_ser_app l (x0 :: t))
        rw [List.length_append, b_ser_len] at hser3
        have hx3 : h_hs (b_el x.1 x.2.1 x.2.2).length c3 = (b_el x0.1 x0.2.1 x0.2.2).length := by
          rcases k7 with ⟨-, rfl, rfl⟩ | ⟨hr, h8⟩
          · rfl
          · have hk2 := (hb.kids (Or.inl k1))
            obtain ⟨D3, -, hkk, -⟩ := hk2
            rw [k2] at hkk
            exact (U_cx_fwd (B := g_i M0 b) r x0 c3 _ h8 hkk.app.cons.1.1).2.2
        have hw3 : (h_hs w.length c3 : Int) = (b_el x0.1 x0.2.1 x0.2.2).length + mo := by
          have j1 := h_hs_add 0 (b_el x.1 x.2.1 x.2.2).length c3
          have j2 := h_hs_add 0 w.length c3
          rw [Nat.zero_add] at j1 j2
          omega
        have hsz : (h_sz w.length (e2.1, e2.2.1, l, t) c3 : Int) = (e2.2.2.length : Int) + mo := by
          show (((b_ser l).length + h_hs w.length c3 + (b_ser t).length + 5 : Nat) : Int) = _
          omega
        have hcq3 : h_at (h_q p (e2.1, e2.2.1, l, t)) c3 = q := by
          rw [k6] at hcq
          exact hcq
        have hcq4 := h_at_ge c3 (h_q p (e2.1, e2.2.1, l, t))
        have hcq5 : h_q p (e2.1, e2.2.1, l, t) = p + 6 + e2.2.1.length + (b_ser l).length := rfl
        have hpl0 : lo ≤ p + sh + 2 + e2.2.1.length ∧ p + sh + 2 + e2.2.1.length + 4 ≤ lo + 40400 := by
          constructor
          · omega
          · omega
        refine ⟨⟨by omega, by omega⟩, o1, c_patch (d := d + 68) o1 o2 z3 (by decide) hou2 (by omega) (by omega) (by omega) ⟨by omega, by omega⟩ fun M33 f33 hb33 => ?_⟩
        intro _ _
        have f23 : e_fr (fun y k => y = b ∧ P ≤ k ∧ k < lo + 40400) M95 M33 := f2.tr (f33.up fun y k z => ⟨z.1, by have := z.2; omega, by have := z.2; omega⟩)
        have hX33 : S_X so b po pf pt ou sc fr M0 M33 lo := hX95.e hT f23 fun y k z => Or.inr (Or.inr (Or.inr (Or.inr ⟨z.1, Or.inr (by have := z.2; omega)⟩)))
        obtain ⟨hn1', hn2, hn3, hn4, hn5⟩ := hno (S := fun y k => y = b ∧ P ≤ k ∧ k < lo + 40400) fun y k z => Or.inr z.1
        have hPa33 : S_Pa (g_i M0 b) b po pf pt s (s0 :: r) M33 := hPa.ef (f33.up (T := fun y k => y = b) fun y k z => z.1) (fun k z => hT.n2.1 z.symm) (fun k z => hT.n2.2.1 z.symm) fun k z => hT.n2.2.2.1 z.symm
        obtain ⟨⟨z1, z2, z3⟩, zz2, ⟨R1, R2, R3, R4, R5, R6⟩, -⟩ := hX33.T hT
        obtain ⟨x1, x2', x3', x4'⟩ := hPa33.x
        have hPb := hPa33.2.1
        rw [List.length_cons] at hPb
        refine ⟨b, z2, po, zz2, R1, b, hPa33.1, po, zz2, R1, pf, R2, _, R4, ⟨by omega, by omega⟩, po, zz2, R1, pt, R3, _, R5, ⟨by omega, by omega⟩, ?_⟩
        rw [x2']
        refine c_find2 (d := d + 66) z3 (by decide) z3 (by decide) (b_at_keep x4' fun k j1 j2 => hlow hX33 k (by omega)) x1 (by omega) (hin hX33 hb hp1 hp2) (Or.inl k1) (by omega) ?_
        have hLc : L_ch p (e2.1, e2.2.1, e2.2.2) = L_at (p + 6 + e2.2.1.length) (l ++ x0 :: t) := by
          show L_at (p + 6 + e2.2.1.length) (b_ch e2.2.2) = _
          rw [k2]
        rw [hLc, L_find_app l x0 t _ k4 k5]
        intro _ _ hq1R
        have hpl1 : L_opt (some (p + 6 + e2.2.1.length + (b_ser l).length, x0)) = h_q p (e2.1, e2.2.1, l, t) := rfl
        rw [hpl1] at hq1R ⊢
        have hsd0 : ∀ M3, e_fr (fun y k => y = b ∧ h_fl (h_q p (e2.1, e2.2.1, l, t) + sh) c3 k) M33 M3 → h_sd (g_i M3 b) w.length (h_q p (e2.1, e2.2.1, l, t) + sh) c3 → g_Call (d + 69) 143 [.ref so, g_n (P + 2)] M3 (g_qV fun M6 => g_ext M3 M6 → g_ok M6 → Q M6) := by
          intro M3 f3 hsd3
          have hqq : h_q (p + sh) (e2.1, e2.2.1, l, t) = h_q p (e2.1, e2.2.1, l, t) + sh := h_q_sh p sh _
          have hqv : h_q (p + sh) (e2.1, e2.2.1, l, t) = p + sh + 6 + e2.2.1.length + (b_ser l).length := rfl
          rw [k6] at hfin2
          refine hfin2 M3 ((f33.up fun y k z => ⟨z.1, Or.inl ⟨by have := z.2; show p + sh + 2 + (e2.2.1.length : Int) ≤ k; omega, by have := z.2; show k < p + sh + 6 + (e2.2.1.length : Int); omega⟩⟩).tr (f3.up fun y k z => ⟨z.1, Or.inr (by rw [hqq]; exact z.2)⟩)) ⟨?_, by rw [hqq]; exact hsd3⟩
          rw [hsz]
          refine b_at_keep hb33 fun k j1 j2 => f3.2.1 b k fun z => ?_
          have h8 := (h_fl_lt c3 _ _ z.2).1
          have h4' : (b_le4 ((e2.2.2.length : Int) + mo)).length = 4 := rfl
          rw [h4'] at j2
          rw [← hqq, hqv] at h8
          have j2' : k < p + sh + 2 + (e2.2.1.length : Int) + ((4 : Nat) : Int) := j2
          clear hcq3 hcq4 hcq5 hsz hw3 hx3 hser3
          omega
        obtain ⟨D3, -, hkk, -⟩ := hb.kids (Or.inl k1)
        rw [k2] at hkk
        have hx0 : b_st (g_i M0 b) 163608 (h_q p (e2.1, e2.2.1, l, t)) D3 x0.1 x0.2.1 x0.2.2 := hkk.app.cons.1
        have hqv2 : h_q p (e2.1, e2.2.1, l, t) = p + 6 + e2.2.1.length + (b_ser l).length := rfl
        have hs1 : ((s : Int) + 1) = ((s + 1 : Nat) : Int) := by omega
        rw [hs1]
        refine ⟨⟨by omega, by omega⟩, ?_⟩
        rcases k7 with ⟨rfl, rfl, rfl⟩ | ⟨hr, h8⟩
        · rw [List.length_nil] at hPb
          refine s_X9_unwindItem_152 hdpR hqR hqiR ⟨by omega, by omega⟩ ⟨by omega, by omega⟩ hq1R ⟨by omega, by omega⟩ fun _ => ⟨z1, po, zz2, R1, fun z => absurd z (by omega), fun _ => ⟨⟨by omega, by omega⟩, hsd0 M33 (e_fr.rf _ _) trivial⟩⟩
        · exact ih c3 x0 _ D3 (s + 1) M33 h8 hcq3 hx0 (by omega) (by omega) (by omega) hPa33.tl f23 hsd0
    have h0 := hpatch st c (3, [], b_doc es) dp 16 0 M95 hcx hqc.symm hd (Int.le_refl _) (Int.le_refl _) (by omega) hP95 (e_fr.rf _ _) fun M3 f3 h3 => ?_
    · exact h0
    · rw [show dp + sh = P by omega] at f3 h3
      exact hfin M3 f3 h3
  · -- too much
    rintro M101 rfl _
    have hov : lo + 40400 < lo + (u ++ (y1 ++ w ++ y2)).length := by
      rcases W95.2.2.2.2 with ⟨a1, -⟩ | ⟨-, -, -, a4⟩
      · exact absurd a1 g3
      · exact a4
    rw [List.length_append, hZl] at hov
    have f101 : e_fr (fun y k => y = so ∧ k = 18) M95 (g_wi M95 so 18 1) := e_fr.wi _ ⟨rfl, rfl⟩
    obtain ⟨a1, a2, a3, a4, a5, -, -, -⟩ := hT.n1
    have hbad : S_bad (ds ++ [T]) := by
      rcases hF95 with ⟨c1, -⟩ | ⟨-, hb, -⟩
      · have hul := congrArg List.length (h18 (by rw [← h1895]; exact c1))
        refine S_bad_len ?_
        rw [S_wr_snoc, List.length_append, ← htlen]
        omega
      · exact S_bad_mono hb
    have hb16 : 0 ≤ g_i M95 so 15 ∧ g_i M95 so 15 ≤ 200 ∧ -J ≤ g_i M95 so 16 ∧ g_i M95 so 16 ≤ J := by
      rcases hF95 with ⟨-, hb, e1, e2, -⟩ | ⟨-, -, e1, e2, e3, e4⟩
      · have h1 : ¬ 200 < ds.length := fun z => hb (Or.inl z)
        have h2 : ¬ 40000 < S_sum ds := fun z => hb (Or.inr (Or.inl z))
        omega
      · exact ⟨e1, e2, e3, e4⟩
    refine hq _ (u ++ (y1 ++ w ++ y2)) J (hX95.e hT f101 fun y k z => Or.inl ⟨z.1, Or.inr (Or.inr z.2)⟩) (hP95.ef f101 (fun k z => a2 z.1.symm) (fun k z => a3 z.1.symm) fun k z => a4 z.1.symm) ⟨W95.kp f101.1 (f101.2.2 _ _) (fun k => f101.2.1 ou k fun z => a5 z.1.symm) (fun k _ _ => f101.2.1 b k fun z => a1 z.1.symm), Or.inr ⟨?_, hbad, ?_, ?_, ?_, ?_⟩, fun z => ?_⟩ ⟨hJ0, hJ1, fun z => ?_⟩
    · rw [g_i_wi, if_pos ⟨rfl, rfl⟩]
    · rw [g_i_wi, if_neg (by omega)]
      exact hb16.1
    · rw [g_i_wi, if_neg (by omega)]
      exact hb16.2.1
    · rw [g_i_wi, if_neg (by omega)]
      exact hb16.2.2.1
    · rw [g_i_wi, if_neg (by omega)]
      exact hb16.2.2.2
    · rw [g_i_wi, if_pos ⟨rfl, rfl⟩] at z
      exact absurd z (by decide)
    · rw [List.length_append, hZl] at z
      omega
end UITEM
