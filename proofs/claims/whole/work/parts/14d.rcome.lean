/-! CHANGES: the reference puts a value in place of another -/
section RCOME
variable {d m b ch : Nat} {F : Int → Int} {M M1 : g_M} {c : List h_F} {e e1 : b_E} {es l t : List b_E} {Q : Int → g_M → Prop}
theorem R_St.fr (h : R_St F m b ch c e M) (f : e_fr (fun y k => (y = m ∧ k ≠ 13 ∧ k ≠ 14) ∨ (y = b ∧ 952000 ≤ k)) M M1) (hmx : h_hs (b_el e.1 e.2.1 e.2.2).length c ≤ 25000) : R_St F m b ch c e M1 := by
  obtain ⟨hO, hF, hcl, hrt, hZ, hat, h13, hch, h14⟩ := h
  obtain ⟨n1, n2, n3⟩ := hO.ne
  have hin := h_at_in (b_el e.1 e.2.1 e.2.2).length c 921998
  have hge := h_at_ge c 921998
  have hb : ∀ k, k < 952000 → g_i M1 b k = g_i M b k := fun k hk => f.2.1 b k fun z => by
    rcases z with ⟨z, -⟩ | ⟨-, z⟩
    · exact n1 z.symm
    · omega
  have hm : ∀ k, (k = 13 ∨ k = 14) → g_i M1 m k = g_i M m k := fun k hk => f.2.1 m k fun z => by
    rcases z with ⟨-, z⟩ | ⟨z, -⟩
    · omega
    · exact n1 z
  refine ⟨hO.fr f, fun k hk => by rw [hb k (by omega)]; exact hF k hk, hcl, hrt, h_Z_keep c 921998 hZ fun k k1 k2 _ => e_B_eq (fun _ => hb k (by omega)) k1, b_at_keep hat fun k k1 k2 => e_B_eq (fun _ => hb k (by omega)) (by omega), by rw [hm 13 (Or.inl rfl)]; exact h13, b_at_keep hch fun k _ _ => f.2.1 ch k fun z => ?_, by rw [hm 14 (Or.inr rfl)]; exact h14⟩
  rcases z with ⟨z, -⟩ | ⟨z, -⟩
  · exact n3 z.symm
  · exact n2 z
theorem e_come1 {Qv : g_M → Prop} {D : Nat} {k2 : Int} {x : List Int} (hSt : R_St F m b ch c e M) (hE : X_E D e es) (hes : es = l ++ e1 :: t) (hx : b_at (g_i M b) 2606200 x) (hw : g_i M m 4 = 2606200 + x.length) (hk0 : 0 ≤ k2) (hk2 : k2 < 128) (hmx : h_hs (b_el e.1 e.2.1 e.2.2).length c + x.length ≤ 15000) (hq : ∀ M1, e_fr (R_WK b) M M1 → h_Z (e_B M1 b) (b_el k2 e1.2.1 x).length 921998 (c ++ [(e.1, e.2.1, l, t)]) → b_at (e_B M1 b) (h_at 921998 (c ++ [(e.1, e.2.1, l, t)])) (b_el k2 e1.2.1 x) → Qv M1) : g_Call (d + 6) 314 [.ref m, g_n (h_at 921998 (c ++ [(e.1, e.2.1, l, t)])), g_n k2] M (g_qV Qv) := by
  obtain ⟨hst1, hZ1, hat1, hhs1, hpos, hge1⟩ := hSt.item hE hes (by omega)
  obtain ⟨hO, hF, hcl, hrt, hZ, hat, h13, hch, h14⟩ := hSt
  obtain ⟨n1, n2, n3⟩ := hO.ne
  obtain ⟨hR, h12, hA⟩ := id hO
  have hqR := hst1.R (by decide)
  have hst5 := hst1.2.2.2.2
  have hel1 := b_el_len e1.1 e1.2.1 e1.2.2
  have hel2 := b_el_len k2 e1.2.1 x
  have hin := h_at_in (b_el e1.1 e1.2.1 e1.2.2).length (c ++ [(e.1, e.2.1, l, t)]) 921998
  have hhs := h_hs_ge (b_el e1.1 e1.2.1 e1.2.2).length (c ++ [(e.1, e.2.1, l, t)])
  have hcl1 : (c ++ [((e.1, e.2.1, l, t) : h_F)]).length = c.length + 1 := by rw [List.length_append, List.length_singleton]
  obtain ⟨f0, c0, hc0, hf0⟩ := hrt.hd l t
  have hg2 := h_hs_add 0 (b_el k2 e1.2.1 x).length (c ++ [(e.1, e.2.1, l, t)])
  have hg3 := h_hs_add 0 (b_el e1.1 e1.2.1 e1.2.2).length (c ++ [(e.1, e.2.1, l, t)])
  rw [Nat.zero_add] at hg2 hg3
  have hq' : ∃ q, q = h_at 921998 (c ++ [(e.1, e.2.1, l, t)]) := ⟨_, rfl⟩
  obtain ⟨q, hqe⟩ := hq'
  rw [← hqe] at hst1 hat1 hqR hst5 hin hq hge1 ⊢
  have hvs := b_gv_vs hst1.2.2.1
  obtain ⟨v1, v2, v3, v4⟩ := hst1.val
  refine m_X12_come hqR ⟨by omega, by omega⟩ fun _ => ⟨fun g => absurd g (by omega), fun _ => ⟨hR.1, b, hR.2.1, _, hR.2.2, ⟨by omega, by omega⟩, e_value (d := d + 3) hR hst1.nm ?_⟩⟩
  intro _ _ _
  rw [v4, show q + 1 + (e1.2.1.length : Int) + 1 = q + 2 + e1.2.1.length by omega]
  refine e_lengthOf (d := d + 2) hR hvs v1 (by omega) (by omega) ?_
  intro _ _ _
  refine ⟨b, hR.2.1, _, hR.2.2, ⟨by omega, by omega⟩, ?_⟩
  rintro M27 rfl _
  have hk28 : g_w8 (g_w8 k2) = k2 := by rw [g_w88, g_w8_of (by omega) (by omega)]
  rw [hk28]
  have f27 : e_fr (R_WK b) M (g_wi M b q k2) := e_fr.wi _ ⟨rfl, by omega, by omega⟩
  have hO27 := hO.fr f27
  have hb27 : ∀ k, k ≠ q → g_i (g_wi M b q k2) b k = g_i M b k := fun k hk => by rw [g_i_wi, if_neg fun z => hk z.2]
  have hbq : g_i (g_wi M b q k2) b q = k2 := by rw [g_i_wi, if_pos ⟨rfl, rfl⟩]
  have hm27 : ∀ k, g_i (g_wi M b q k2) m k = g_i M m k := fun k => by rw [g_i_wi, if_neg fun z => n1 z.1]
  have hc27 : ∀ k, g_i (g_wi M b q k2) ch k = g_i M ch k := fun k => by rw [g_i_wi, if_neg fun z => n2 z.1]
  have hnmb := hst1.nmb
  have he1 : b_el e1.1 e1.2.1 e1.2.2 = e1.1 :: ((e1.2.1 ++ [0]) ++ e1.2.2) := by unfold b_el; simp
  have hst1' := hst1.1
  rw [he1] at hst1'
  have hnm0 := (b_app.mp (b_cons.mp hst1').2).1
  have hnl0 : ((e1.2.1 ++ [0] : List Int)).length = e1.2.1.length + 1 := by rw [List.length_append, List.length_singleton]
  have hnm27 : b_at (g_i (g_wi M b q k2) b) q (b_el k2 e1.2.1 []) := by
    have he : b_el k2 e1.2.1 [] = k2 :: (e1.2.1 ++ [0]) := by unfold b_el; simp
    rw [he]
    exact b_cons.mpr ⟨hbq, b_at_keep hnm0 fun k k1 k2 => hb27 k (by omega)⟩
  refine e_value (d := d + 3) hO27.1 (b_el_nm hnm27 hst1.2.1 (by omega) (by omega)) ?_
  intro _ _ _
  rw [show q + 1 + (e1.2.1.length : Int) + 1 = q + 2 + e1.2.1.length by omega]
  have hZ27 : h_Z (e_B (g_wi M b q k2) b) (b_el e1.1 e1.2.1 e1.2.2).length 921998 (c ++ [(e.1, e.2.1, l, t)]) := h_Z_keep _ 921998 hZ1 fun k k1 k2' k3 => e_B_eq (fun _ => hb27 k fun z => k3 ⟨by rw [← hqe]; omega, by rw [← hqe]; omega⟩) k1
  refine e_splice (d := d + 1) (h2 := (b_el k2 e1.2.1 x).length) hO27.1 hO27.2.1 hO27.2.2 hc0 hf0 (by omega) hZ27 (by rw [hm27]; omega) (b_at_keep (by rw [h_vc_snoc]; exact hch) fun k _ _ => hc27 k) (b_at_keep hx fun k k1 k2 => hb27 k (by omega)) (by rw [hm27]; exact hw) (by omega) (by rw [← hqe]; omega) (by omega) (by rw [← hqe]; omega) (by omega) (by omega) (by omega) fun M1 f1 hZ' kp1 _ hx1 => ?_
  intro _ _
  rw [← hqe] at kp1
  refine hq M1 (f27.tr f1) hZ' ?_
  have he2 : b_el k2 e1.2.1 x = k2 :: ((e1.2.1 ++ [0]) ++ x) := by unfold b_el; simp
  rw [he2]
  refine b_cons.mpr ⟨?_, b_app.mpr ⟨b_at_keep hnm0 fun k k1 k2 => ?_, ?_⟩⟩
  · rw [e_B_ge (by omega), kp1 q (Int.le_refl _) (by omega), hbq]
  · rw [e_B_ge (by omega), kp1 k (by omega) (by omega), hb27 k (by omega)]
  · rw [hnl0, show q + 1 + ((e1.2.1.length + 1 : Nat) : Int) = q + 2 + e1.2.1.length by omega]
    exact (e_B_at (by omega)).mpr hx1
end RCOME
