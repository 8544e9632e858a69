/-! CHANGES: what the reference's steps meet; into an element -/
section RMEET
variable {d m b ch : Nat} {F : Int → Int} {M M1 : g_M} {c : List h_F} {e e1 : b_E} {es l t : List b_E} {Q : Int → g_M → Prop}
theorem R_St.tl {D : Nat} (h : R_St F m b ch c e M) (hE : X_E D e es) (hmx : h_hs (b_el e.1 e.2.1 e.2.2).length c ≤ 20000) : e_tl (g_i M b) (h_at 921998 c + 2 + e.2.1.length) (h_at 921998 c + 2 + e.2.1.length + 4) D es es := by
  have hvb := h.vb
  have hge := h.ge
  have hin := h_at_in (b_el e.1 e.2.1 e.2.2).length c 921998
  have hel := b_el_len e.1 e.2.1 e.2.2
  rw [hE.2.2.1] at hvb hel
  refine e_tl.start hvb hE.2.2.2.1 (by omega) ?_
  rw [hE.2.2.1] at hin
  rw [hE.2.2.1] at hmx
  omega
/-- an item of it stands in the bytes -/
theorem R_St.item {D : Nat} (h : R_St F m b ch c e M) (hE : X_E D e es) (hes : es = l ++ e1 :: t) (hmx : h_hs (b_el e.1 e.2.1 e.2.2).length c ≤ 20000) : b_st (g_i M b) 2706210 (h_at 921998 (c ++ [(e.1, e.2.1, l, t)])) D e1.1 e1.2.1 e1.2.2 ∧ h_Z (e_B M b) (b_el e1.1 e1.2.1 e1.2.2).length 921998 (c ++ [(e.1, e.2.1, l, t)]) ∧ b_at (e_B M b) (h_at 921998 (c ++ [(e.1, e.2.1, l, t)])) (b_el e1.1 e1.2.1 e1.2.2) ∧ h_hs (b_el e1.1 e1.2.1 e1.2.2).length (c ++ [(e.1, e.2.1, l, t)]) = h_hs (b_el e.1 e.2.1 e.2.2).length c ∧ h_at 921998 (c ++ [(e.1, e.2.1, l, t)]) = h_at 921998 c + 2 + e.2.1.length + 4 + (b_ser l).length ∧ 922004 ≤ h_at 921998 (c ++ [(e.1, e.2.1, l, t)]) := by
  have hge := h.ge
  obtain ⟨hO, hF, hcl, hrt, hZ, hat, h13, hch, h14⟩ := h
  have hpair := (h_in (B := e_B M b) (c := c) (f := (e.1, e.2.1, l, t)) (p := 921998) (mid := [e1])).mp (by
    show h_Z _ (b_el e.1 e.2.1 (b_doc (l ++ [e1] ++ t))).length _ _ ∧ b_at _ _ (b_el e.1 e.2.1 (b_doc (l ++ [e1] ++ t)))
    rw [show l ++ [e1] ++ t = es by rw [hes]; simp, ← hE.2.2.1]
    exact ⟨hZ, hat⟩)
  have hpos : h_at 921998 (c ++ [(e.1, e.2.1, l, t)]) = h_at 921998 c + 2 + e.2.1.length + 4 + (b_ser l).length := by
    rw [h_at_snoc]
    show h_at 921998 c + 6 + (e.2.1.length : Int) + ((b_ser l).length : Nat) = _
    omega
  have hhs : h_hs (b_el e1.1 e1.2.1 e1.2.2).length (c ++ [(e.1, e.2.1, l, t)]) = h_hs (b_el e.1 e.2.1 e.2.2).length c := by
    rw [← b_ser_1, h_hs_snoc, h_hs_one, hE.2.2.1, hes]
    simp
  rw [b_ser_1] at hpair
  have hin := h_at_in (b_el e1.1 e1.2.1 e1.2.2).length (c ++ [(e.1, e.2.1, l, t)]) 921998
  have hg := hE.2.2.2.1 e1 (by rw [hes]; simp)
  exact ⟨⟨(e_B_at (by omega)).mp hpair.2, hg.1, hg.2, by omega, by omega⟩, hpair.1, hpair.2, hhs, hpos, by omega⟩
theorem e_meet {D : Nat} {p : Int} {x : List Int} (hSt : R_St F m b ch c e M) (hE : X_E D e es) (hmx : h_hs (b_el e.1 e.2.1 e.2.2).length c ≤ 15000) (hx : b_at (g_i M b) p x) (h0 : 0 ≤ p) (h1 : p + x.length < 2706210) (h : Q (L_opt (L_find x (L_at (h_at 921998 c + 2 + e.2.1.length + 4) es))) M) : g_Call (d + 6) 311 [.ref m, g_n p, g_n (p + x.length)] M (g_qI Q) := by
  have htl := hSt.tl hE (by omega)
  have hge := hSt.ge
  obtain ⟨hO, hF, hcl, hrt, hZ, hat, h13, hch, h14⟩ := hSt
  obtain ⟨hR, h12, hA⟩ := id hO
  have c3 := (b_cons.mp (b_app.mp hch).2).1
  rw [h_vc_len] at c3
  have hel := b_el_len e.1 e.2.1 e.2.2
  have hdl := congrArg List.length hE.2.2.1
  rw [b_doc_len] at hdl
  have hhs := h_hs_ge (b_el e.1 e.2.1 e.2.2).length c
  have hmany := b_ser_many es
  refine m_X12_meet ⟨by omega, by omega⟩ ⟨by omega, by omega⟩ fun _ => ⟨hR.1, ch, h12, by rw [h13]; exact ⟨by omega, by omega⟩, _, hA, ⟨by omega, by omega⟩, ?_⟩
  rw [show g_i M m 13 - 1 = 0 + (c.length : Int) by omega, c3, h14]
  by_cases hk : e.1 = 4
  · rw [if_pos hk]
    have hnm := hE.2.2.2.2 (by simp [hk])
    have hrow := L_find_row (s := x) es (h_at 921998 c + 2 + e.2.1.length + 4) 0 (fun i f hf => by rw [Nat.zero_add]; exact hnm i f hf) (by omega)
    refine ⟨fun g => absurd g (by decide), fun _ => e_stepNo (d := d + 3) hR hx h0 h1 (fun i hi hxi => ?_) (fun hno r hr => ?_)⟩
    · have hf := hrow.1 i hi (Nat.zero_le _) hxi
      rw [Nat.sub_zero] at hf
      intro _ _ _
      refine ⟨fun g => absurd g (by omega), fun _ => e_itemE hR htl (by omega) ⟨by omega, by omega⟩ ?_⟩
      rw [show ((i : Int)).toNat = i by omega, ← hf]
      exact fun _ _ _ => h
    · have hf := hrow.2 hno
      rw [hf] at h
      intro _ _ hrR
      refine ⟨fun _ => h, fun g => e_itemE hR htl (by omega) hrR ?_⟩
      rw [List.getElem?_eq_none (by rw [L_at_len]; omega)]
      exact fun _ _ _ => h
  · rw [if_neg hk]
    exact ⟨fun _ => e_findE hR htl hx h0 (by omega) fun _ _ _ => h, fun g => absurd rfl g⟩
theorem e_into {Qv : g_M → Prop} {D : Nat} (hSt : R_St F m b ch c e M) (hE : X_E D e es) (hes : es = l ++ e1 :: t) (hk1 : e1.1 = 3 ∨ e1.1 = 4) (hcl9 : c.length ≤ 9) (hmx : h_hs (b_el e.1 e.2.1 e.2.2).length c ≤ 15000) (hq : ∀ M1, e_fr (fun y k => (y = m ∧ (k = 13 ∨ k = 14)) ∨ y = ch) M M1 → R_St F m b ch (c ++ [(e.1, e.2.1, l, t)]) e1 M1 → Qv M1) : g_Call (d + 3) 309 [.ref m, g_n (h_at 921998 (c ++ [(e.1, e.2.1, l, t)]))] M (g_qV Qv) := by
  obtain ⟨hst1, hZ1, hat1, hhs1, hpos, hge1⟩ := hSt.item hE hes (by omega)
  obtain ⟨hO, hF, hcl, hrt, hZ, hat, h13, hch, h14⟩ := hSt
  obtain ⟨n1, n2, n3⟩ := hO.ne
  obtain ⟨hR, h12, hA⟩ := id hO
  have hqR := hst1.R (by decide)
  have hbk := hst1.val.2.2.2
  have hst5 := hst1.2.2.2.2
  have hel1 := b_el_len e1.1 e1.2.1 e1.2.2
  have hvl := h_vc_len c 921998
  have h16 : ∀ w : Int, w = (if e1.1 = 4 then 1 else 0) → g_Run (d + 2) 309 16 [(0, .ref m), (1, g_n (h_at 921998 (c ++ [(e.1, e.2.1, l, t)])))] [g_n w, .ref m] M (g_qV Qv) := by
    intro w hw
    have hw01 : w = 0 ∨ w = 1 := by
      rw [hw]
      split
      · exact Or.inr rfl
      · exact Or.inl rfl
    have hwR : g_InR w := by
      rcases hw01 with g | g
      · rw [g]; exact ⟨by decide, by decide⟩
      · rw [g]; exact ⟨by decide, by decide⟩
    refine s_X12_into_16 hqR hwR fun _ => ⟨hR.1, hw01, ?_⟩
    rintro M3 rfl _
    have f3 : e_fr (fun y k => (y = m ∧ (k = 13 ∨ k = 14)) ∨ y = ch) M (g_wi M m 14 w) := e_fr.wi _ (Or.inl ⟨rfl, Or.inr rfl⟩)
    have hO3 := hO.fr f3
    have hb3 : g_i (g_wi M m 14 w) b = g_i M b := funext fun k => by rw [g_i_wi, if_neg fun z => n1 z.1.symm]
    refine ⟨hO3.1.1, ch, hO3.2.1, e_value hO3.1 (by rw [hb3]; exact hst1.nm) ?_⟩
    intro _ _ _
    have e13 : g_i (g_wi M m 14 w) m 13 = c.length + 1 := by rw [g_i_wi, if_neg (by omega), h13]
    refine ⟨_, hO3.2.2, by rw [e13]; exact ⟨by omega, by omega⟩, ?_⟩
    rintro M18 rfl _
    rw [e13]
    have e13b : g_i (g_wi (g_wi M m 14 w) ch (c.length + 1) (h_at 921998 (c ++ [(e.1, e.2.1, l, t)]) + 1 + e1.2.1.length + 1)) m 13 = c.length + 1 := by rw [g_i_wi, if_neg fun z => n3 z.1, e13]
    rw [e13b]
    refine ⟨⟨by omega, by omega⟩, ?_⟩
    rintro M23 rfl _
    have f := (f3.tr (e_fr.wi (S := fun y k => (y = m ∧ (k = 13 ∨ k = 14)) ∨ y = ch) (a := ch) (k := c.length + 1) (h_at 921998 (c ++ [(e.1, e.2.1, l, t)]) + 1 + e1.2.1.length + 1) (Or.inr rfl))).tr (e_fr.wi (a := m) (k := 13) ((c.length : Int) + 1 + 1) (Or.inl ⟨rfl, Or.inl rfl⟩))
    have hb : ∀ k, g_i (g_wi (g_wi (g_wi M m 14 w) ch (c.length + 1) (h_at 921998 (c ++ [(e.1, e.2.1, l, t)]) + 1 + e1.2.1.length + 1)) m 13 (c.length + 1 + 1)) b k = g_i M b k := fun k => f.2.1 b k fun z => by
      rcases z with ⟨z, -⟩ | z
      · exact n1 z.symm
      · exact n2 z.symm
    have heB : e_B (g_wi (g_wi (g_wi M m 14 w) ch (c.length + 1) (h_at 921998 (c ++ [(e.1, e.2.1, l, t)]) + 1 + e1.2.1.length + 1)) m 13 (c.length + 1 + 1)) b = e_B M b := funext fun k => by
      unfold e_B
      rw [hb]
    have hchv : ∀ k, g_i (g_wi (g_wi (g_wi M m 14 w) ch (c.length + 1) (h_at 921998 (c ++ [(e.1, e.2.1, l, t)]) + 1 + e1.2.1.length + 1)) m 13 (c.length + 1 + 1)) ch k = if k = c.length + 1 then h_at 921998 (c ++ [(e.1, e.2.1, l, t)]) + 1 + e1.2.1.length + 1 else g_i M ch k := fun k => by
      rw [g_i_wi, if_neg fun z => n3 z.1.symm, g_i_wi]
      by_cases hkk : k = c.length + 1
      · rw [if_pos ⟨rfl, hkk⟩, if_pos hkk]
      · rw [if_neg fun z => hkk z.2, if_neg hkk, g_i_wi, if_neg fun z => n3 z.1.symm]
    refine hq _ f ⟨hO.fr f, fun k hk => by rw [hb]; exact hF k hk, by rw [List.length_append, List.length_singleton]; omega, ?_, by rw [heB]; exact hZ1, by rw [heB]; exact hat1, ?_, ?_, ?_⟩
    · obtain ⟨f0, c0, hc0, hf0⟩ := hrt.hd l t
      exact Or.inr ⟨f0, c0, hc0, hf0⟩
    · rw [g_i_wi, if_pos ⟨rfl, rfl⟩, List.length_append, List.length_singleton]
      omega
    · rw [h_vc_snoc]
      have hl2 : (h_vc 921998 c ++ [h_at 921998 c + 2 + e.2.1.length]).length = c.length + 1 := by rw [List.length_append, hvl]; rfl
      refine b_app.mpr ⟨b_at_keep hch fun k k1 k2 => ?_, b_cons.mpr ⟨?_, b_nil _ _⟩⟩
      · show g_i _ ch k = g_i M ch k
        rw [hl2] at k2
        rw [hchv, if_neg (by omega)]
      · show g_i _ ch (0 + ((h_vc 921998 c ++ [h_at 921998 c + 2 + e.2.1.length]).length : Nat)) = _
        rw [hl2, hchv, if_pos (by omega)]
        omega
    · rw [g_i_wi, if_neg (by omega), g_i_wi, if_neg fun z => n3 z.1, g_i_wi, if_pos ⟨rfl, rfl⟩]
      exact hw
  refine m_X12_into hqR fun _ => ⟨hR.1, b, hR.2.1, _, hR.2.2, ⟨by omega, by omega⟩, fun g => h16 1 ?_, fun g => h16 0 ?_⟩
  · rw [if_pos (by omega)]
  · rw [if_neg (by omega)]
end RMEET
