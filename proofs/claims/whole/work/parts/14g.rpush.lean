/-! CHANGES: the reference makes a row of one item -/
section RPUSH
variable {d m b ch : Nat} {F : Int → Int} {M M1 : g_M} {c : List h_F} {e e1 p : b_E} {es l t : List b_E} {Q : Int → g_M → Prop}
/-- what loose writing may touch -/
def R_LW (m b : Nat) (y : Nat) (k : Int) : Prop := (y = m ∧ (k = 4 ∨ k = 5 ∨ k = 6)) ∨ (y = b ∧ 2606200 ≤ k ∧ k < 2666200)
theorem R_LW.fl {y : Nat} {k : Int} (h : R_LW m b y k) : R_FL m b ch y k := by
  rcases h with ⟨g1, g2⟩ | ⟨g1, g2⟩
  · exact Or.inl ⟨g1, Or.inl (by omega)⟩
  · exact Or.inr (Or.inr ⟨g1, Or.inr g2⟩)
theorem R_LW.wl {y : Nat} {k : Int} (h : e_WL m b 2606200 2666200 y k) : R_LW m b y k := by
  rcases h with ⟨g1, g2⟩ | g
  · exact Or.inl ⟨g1, by omega⟩
  · exact Or.inr g
theorem R_St.lw (h : R_St F m b ch c e M) (f : e_fr (R_LW m b) M M1) (hmx : h_hs (b_el e.1 e.2.1 e.2.2).length c ≤ 25000) : R_St F m b ch c e M1 := h.fr (f.up fun y k hy => by
  rcases hy with ⟨y1, y2⟩ | ⟨y1, y2, -⟩
  · exact Or.inl ⟨y1, by omega, by omega⟩
  · exact Or.inr ⟨y1, by omega⟩) hmx
theorem R_LW.lo (hne : m ≠ b) (f : e_fr (R_LW m b) M M1) {k : Int} (hk : k < 2606200) : g_i M1 b k = g_i M b k := f.2.1 b k fun z => by
  rcases z with ⟨z, -⟩ | ⟨-, z, -⟩
  · exact hne z.symm
  · omega
theorem R_LW.mk (hne : m ≠ b) (f : e_fr (R_LW m b) M M1) {k : Int} (hk : k < 4 ∨ 6 < k) : g_i M1 m k = g_i M m k := f.2.1 m k fun z => by
  rcases z with ⟨-, z⟩ | ⟨z, -⟩
  · omega
  · exact hne z
theorem b_st.up {B B2 : Int → Int} {q : Int} {D : Nat} {k : Int} {nm vb : List Int} (h : b_st B 900000 q D k nm vb) (hB : ∀ k, k < 922000 → B2 k = B k) : b_st B2 2706210 q D k nm vb := by
  obtain ⟨h1, h2, h3, h4, h5⟩ := h
  exact ⟨b_at_keep h1 fun k k1 k2 => hB k (by omega), h2, h3, h4, by omega⟩
theorem e_isNumR {q : Int} {D : Nat} {k : Int} {nm vb : List Int} (hR : e_R M m b) (hs : b_st (g_i M b) 2706210 q D k nm vb) (h : Q (if k = 16 ∨ k = 18 then 1 else 0) M) : g_Call (d + 1) 242 [.ref m, g_n q] M (g_qI Q) := by
  have hqR := hs.R (by decide)
  have h4 := hs.2.2.2.1
  have h5 := hs.2.2.2.2
  have hl := b_el_len k nm vb
  have hk := hs.val.2.2.2
  refine m_X12_isNumber hqR fun _ => ⟨fun g => absurd g (by omega), fun _ => ⟨hR.1, b, hR.2.1, _, hR.2.2, ⟨by omega, by omega⟩, fun g => ?_, fun g => ⟨b, hR.2.1, _, hR.2.2, ⟨by omega, by omega⟩, fun g2 => ?_, fun g2 => ?_⟩⟩⟩
  · rwa [if_pos (Or.inl (by omega))] at h
  · rwa [if_pos (Or.inr (by omega))] at h
  · rwa [if_neg (fun z => z.elim (fun z => g (by omega)) fun z => g2 (by omega))] at h
theorem e_push0 {pp q w3 : Int} {s : List Int} {Dp : Nat} (hSt : R_St F m b ch c e M) (he : e.2.2 = b_doc es) (hp : b_st F 900000 pp Dp p.1 p.2.1 p.2.2) (hs : b_at (g_i M b) q s) (hq0 : 0 ≤ q) (hq1 : q + s.length ≤ 900000) (h15 : g_i M m 15 = q) (h16 : g_i M m 16 = q + s.length) (hw3 : g_InR w3) (hmx : h_hs (b_el e.1 e.2.1 e.2.2).length c + p.2.2.length + s.length + 10 ≤ 15000) (hq : ∀ M1, e_fr (R_FL m b ch) M M1 → h_Z (e_B M1 b) (b_el 4 s (b_doc [(p.1, b_dg 0, p.2.2)])).length 921998 (c ++ [(e.1, e.2.1, es, [])]) → b_at (e_B M1 b) (h_at 921998 (c ++ [(e.1, e.2.1, es, [])])) (b_el 4 s (b_doc [(p.1, b_dg 0, p.2.2)])) → Q 0 M1) : g_Call (d + 7) 317 [.ref m, g_n (-1), g_n pp, g_n w3] M (g_qI Q) := by
  obtain ⟨hO, hF, -⟩ := id hSt
  obtain ⟨n1, n2, n3⟩ := hO.ne
  have hR := hO.1
  have hpR := hp.R (by decide)
  have hp5 := hp.2.2.2.2
  have hp4 := hp.2.2.2.1
  have hpl := b_el_len p.1 p.2.1 p.2.2
  have hpk := b_vs_pos (b_gv_vs hp.2.2.1)
  refine m_X12_push ⟨by decide, by decide⟩ hpR hw3 fun _ => ⟨fun _ => ⟨hR.1, e_loose (d := d + 4) hR fun M2 f2 W2 => ?_⟩, fun g => absurd rfl g⟩
  intro _ _
  have g2 : e_fr (R_LW m b) M M2 := f2.up fun y k hy => Or.inl hy
  refine e_open (d := d + 3) W2 fun rr M3 f3 W3 hr3 => ?_
  intro _ _ _
  have g3 := g2.tr (f3.up fun y k hy => R_LW.wl hy)
  have hF3 : ∀ k, k < 922000 → g_i M3 b k = F k := fun k hk => by rw [R_LW.lo n1 g3 (by omega)]; exact hF k hk
  have hkp : g_i M3 b pp = p.1 := (hp.up hF3).val.2.2.2
  refine ⟨b, W3.1.2.1, _, W3.1.2.2, ⟨by omega, by omega⟩, ?_⟩
  rw [hkp]
  refine e_put (d := d + 5) W3 ⟨by omega, by omega⟩ fun M4 f4 W4 => ?_
  intro _ _
  have g4 := g3.tr (f4.up fun y k hy => R_LW.wl hy)
  refine e_putDigits (d := d + 4) (i := 0) W4 (by decide) fun M5 f5 W5 => ?_
  intro _ _
  have g5 := g4.tr (f5.up fun y k hy => R_LW.wl hy)
  have hF5 : ∀ k, k < 922000 → g_i M5 b k = F k := fun k hk => by rw [R_LW.lo n1 g5 (by omega)]; exact hF k hk
  refine e_putValue (d := d + 2) W5 (hp.up hF5) (Or.inl (by omega)) fun M6 f6 W6 => ?_
  intro _ _
  have g6 := g5.tr (f6.up fun y k hy => R_LW.wl hy)
  have ew : [] ++ [0, 0, 0, 0] ++ [g_w8 p.1] ++ (b_dg 0 ++ [0]) ++ p.2.2 = [] ++ ([0, 0, 0, 0] ++ (b_ser [(p.1, b_dg 0, p.2.2)])) := by
    rw [g_w8_of (by omega) (by omega)]
    simp [b_ser, b_el]
  rw [ew] at W6
  refine e_close (d := d + 4) W6 hr3 fun M7 f7 W7 => ?_
  intro _ _
  have g7 := g6.tr (f7.up fun y k hy => R_LW.wl hy)
  have ex : [] ++ (b_le4 ((b_ser [(p.1, b_dg 0, p.2.2)]).length + 5) ++ (b_ser [(p.1, b_dg 0, p.2.2)] ++ [0])) = b_doc [(p.1, b_dg 0, p.2.2)] := by
    unfold b_doc
    simp
  rw [ex] at W7
  have hl2 : (b_doc [(p.1, b_dg 0, p.2.2)]).length = p.2.2.length + 8 := by
    rw [b_doc_len, b_ser_one]
    show (b_dg 0).length + p.2.2.length + 2 + 5 = _
    rw [show (b_dg 0).length = 1 from rfl]
    omega
  obtain ⟨w1, w2⟩ := W7.at (by rw [hl2]; omega)
  refine e_come0 (d := d) (hSt.lw g7 (by omega)) he w1 w2 (b_at_keep hs fun k k1 k2 => R_LW.lo n1 g7 (by omega)) hq0 hq1 (by rw [R_LW.mk n1 g7 (Or.inr (by decide))]; exact h15) (by rw [R_LW.mk n1 g7 (Or.inr (by decide))]; exact h16) (by decide) (by decide) (by omega) fun M8 f8 hZ8 hb8 => ?_
  intro _ _
  exact hq M8 ((g7.up fun y k hy => R_LW.fl hy).tr f8) hZ8 hb8
end RPUSH
