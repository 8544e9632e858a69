/-! CHANGES: the reference puts an element at a free place -/
section RFREE
variable {d m b ch : Nat} {F : Int → Int} {M M1 : g_M} {c : List h_F} {e e1 : b_E} {es l t : List b_E} {Qv : g_M → Prop}
theorem e_putX {v w lim : Int} (hR : e_R M m b) (hw : g_i M m 4 = w) (hl : g_i M m 5 = lim) (h0 : 0 ≤ w) (hlt : w < lim) (hlim : lim ≤ 2706210) (hv : g_InR v) (hq : ∀ M1, e_fr (fun y k => (y = m ∧ k = 4) ∨ (y = b ∧ k = w)) M M1 → g_i M1 m 4 = w + 1 → g_i M1 b w = g_w8 v → Qv M1) : g_Call (d + 1) 246 [.ref m, g_n v] M (g_qV Qv) := by
  have hob : m ≠ b := g_neOA hR.1 hR.2.2
  refine m_X12_put hv fun _ => ⟨hR.1, fun g => ⟨b, hR.2.1, _, hR.2.2, ⟨by omega, by omega⟩, ?_⟩, fun g => absurd (by omega) g⟩
  rintro M11 rfl _
  have e21 : g_i (g_wi M b (g_i M m 4) (g_w8 (g_w8 v))) m 4 = w := by rw [g_i_wi, if_neg (fun z => hob z.1), hw]
  rw [e21]
  refine ⟨⟨by omega, by omega⟩, ?_⟩
  rintro M16 rfl _
  rw [hw]
  refine hq _ ((e_fr.wi _ (Or.inr ⟨rfl, rfl⟩)).tr (e_fr.wi _ (Or.inl ⟨rfl, rfl⟩))) ?_ ?_
  · rw [g_i_wi, if_pos ⟨rfl, rfl⟩]
  · rw [g_i_wi, if_neg (fun z => hob z.1.symm), g_i_wi, if_pos ⟨rfl, rfl⟩, g_w88]
theorem e_putBytesX {p w lim : Int} {y : List Int} (hR : e_R M m b) (hw : g_i M m 4 = w) (hl : g_i M m 5 = lim) (h0 : 0 ≤ w) (hlt : w + y.length ≤ lim) (hlim : lim ≤ 2706210) (hy : b_at (g_i M b) p y) (hp0 : 0 ≤ p) (hp : p + y.length ≤ w) (hq : ∀ M1, e_fr (fun z k => (z = m ∧ k = 4) ∨ (z = b ∧ w ≤ k ∧ k < w + y.length)) M M1 → g_i M1 m 4 = w + y.length → b_at (g_i M1 b) w y → Qv M1) : g_Call (d + 2) 248 [.ref m, g_n p, g_n (p + y.length)] M (g_qV Qv) := by
  have hob : m ≠ b := g_neOA hR.1 hR.2.2
  have hlp : ∀ (z u : List Int) (M1 : g_M), y = u ++ z → e_fr (fun z k => (z = m ∧ k = 4) ∨ (z = b ∧ w ≤ k ∧ k < w + y.length)) M M1 → g_i M1 m 4 = w + u.length → b_at (g_i M1 b) w u → g_Run (d + 1) 248 2 [(0, .ref m), (1, g_n p), (2, g_n (p + y.length)), (3, g_n (p + u.length))] [] M1 (g_qV Qv) := by
    intro z
    induction z with
    | nil =>
      intro u M1 hyu f1 hw1 hu
      rw [List.append_nil] at hyu
      subst hyu
      exact s_X12_putBytes_2 ⟨by omega, by omega⟩ ⟨by omega, by omega⟩ ⟨by omega, by omega⟩ fun _ => ⟨fun g => absurd g (by omega), fun _ => hq M1 f1 hw1 hu⟩
    | cons a z ih =>
      intro u M1 hyu f1 hw1 hu
      have hyl := congrArg List.length hyu
      rw [List.length_append, List.length_cons] at hyl
      have hR1 := f1.R hR
      have hl1 : g_i M1 m 5 = lim := by
        rw [f1.2.1 m 5 fun zz => ?_, hl]
        rcases zz with ⟨-, zz⟩ | ⟨zz, -⟩
        · omega
        · exact hob zz
      have hya : b_at (g_i M b) (p + u.length) (a :: z) := by
        rw [hyu] at hy
        exact (b_app.mp hy).2
      have ha : g_i M1 b (p + u.length) = a := by
        rw [f1.2.1 b _ fun zz => ?_]
        · exact (b_cons.mp hya).1
        · rcases zz with ⟨zz, -⟩ | ⟨-, zz, -⟩
          · exact hob zz.symm
          · omega
      refine s_X12_putBytes_2 ⟨by omega, by omega⟩ ⟨by omega, by omega⟩ ⟨by omega, by omega⟩ fun hok => ⟨fun _ => ⟨hR1.1, b, hR1.2.1, _, hR1.2.2, ⟨by omega, by omega⟩, ?_⟩, fun g => absurd (by omega) g⟩
      have hby := hok.byte hR1.2.2 (p + u.length)
      rw [ha] at hby ⊢
      refine e_putX hR1 hw1 hl1 (by omega) (by omega) hlim ⟨by omega, by omega⟩ fun M2 f2 hw2 hb2 => ?_
      intro _ _
      refine ⟨⟨by omega, by omega⟩, ?_⟩
      have hul : (u ++ [a]).length = u.length + 1 := by rw [List.length_append, List.length_singleton]
      have h9 := ih (u ++ [a]) M2 (by rw [hyu]; simp) (f1.tr (f2.up fun zz k hz => ?_)) (by rw [hw2, hul]; omega) (b_app.mpr ⟨b_at_keep hu fun k k1 k2 => f2.2.1 b k fun zz => ?_, b_cons.mpr ⟨by rw [hb2, g_w8_of hby.1 hby.2], b_nil _ _⟩⟩)
      · rwa [hul, show p + ((u.length + 1 : Nat) : Int) = p + u.length + 1 by omega] at h9
      · rcases hz with hz | ⟨hz, hk⟩
        · exact Or.inl hz
        · exact Or.inr ⟨hz, by omega, by omega⟩
      · rcases zz with ⟨zz, -⟩ | ⟨-, zz⟩
        · exact hob zz.symm
        · omega
  have h1 := hlp y [] M rfl (e_fr.rf _ _) (by rw [hw]; show w = w + ((0 : Nat) : Int); omega) (b_nil _ _)
  refine m_X12_putBytes ⟨by omega, by omega⟩ ⟨by omega, by omega⟩ fun _ => ?_
  rwa [show p + (([] : List Int).length : Int) = p by show p + ((0 : Nat) : Int) = p; omega] at h1
theorem e_come0 {k2 p : Int} {s x : List Int} (hSt : R_St F m b ch c e M) (he : e.2.2 = b_doc es) (hx : b_at (g_i M b) 2606200 x) (hw : g_i M m 4 = 2606200 + x.length) (hs : b_at (g_i M b) p s) (hp0 : 0 ≤ p) (hp : p + s.length ≤ 900000) (h15 : g_i M m 15 = p) (h16 : g_i M m 16 = p + s.length) (hk0 : 0 ≤ k2) (hk2 : k2 < 128) (hmx : h_hs (b_el e.1 e.2.1 e.2.2).length c + x.length + s.length + 2 ≤ 15000) (hq : ∀ M1, e_fr (R_FL m b ch) M M1 → h_Z (e_B M1 b) (b_el k2 s x).length 921998 (c ++ [(e.1, e.2.1, es, [])]) → b_at (e_B M1 b) (h_at 921998 (c ++ [(e.1, e.2.1, es, [])])) (b_el k2 s x) → Qv M1) : g_Call (d + 6) 314 [.ref m, g_n (-1), g_n k2] M (g_qV Qv) := by
  have hSt0 := hSt
  obtain ⟨hO, hF, hcl, hrt, hZ, hat, h13, hch, h14⟩ := hSt
  obtain ⟨n1, n2, n3⟩ := hO.ne
  obtain ⟨hR, h12, hA⟩ := id hO
  have hel2 := b_el_len k2 s x
  have hfl : ∀ {y : Nat} {k : Int}, ((y = m ∧ (k = 4 ∨ k = 5 ∨ k = 6)) ∨ (y = b ∧ 2606200 ≤ k ∧ k < 2666200)) → R_FL m b ch y k := fun h => by
    rcases h with ⟨h1, h2⟩ | ⟨h1, h2⟩
    · exact Or.inl ⟨h1, Or.inl (by omega)⟩
    · exact Or.inr (Or.inr ⟨h1, Or.inr h2⟩)
  have hSfr : ∀ {M2 : g_M}, e_fr (fun y k => (y = m ∧ (k = 4 ∨ k = 5 ∨ k = 6)) ∨ (y = b ∧ 2606200 ≤ k ∧ k < 2666200)) M M2 → R_St F m b ch c e M2 := fun f2 => hSt0.fr (f2.up fun y k hy => by
    rcases hy with ⟨y1, y2⟩ | ⟨y1, y2, -⟩
    · exact Or.inl ⟨y1, by omega, by omega⟩
    · exact Or.inr ⟨y1, by omega⟩) (by omega)
  -- the value's bytes go up
  have hlp : ∀ (r : Nat) (M2 : g_M), r ≤ x.length → e_fr (fun y k => (y = m ∧ (k = 4 ∨ k = 5 ∨ k = 6)) ∨ (y = b ∧ 2606200 ≤ k ∧ k < 2666200)) M M2 → (∀ k, k < 4 ∨ 6 < k → g_i M2 m k = g_i M m k) → g_i M2 m 4 = g_i M m 4 → (∀ k, 0 ≤ k → k < r → g_i M2 b (2606200 + k) = g_i M b (2606200 + k)) → (∀ k, (r : Int) ≤ k → k < x.length → g_i M2 b (2606200 + (s.length + 2) + k) = g_i M b (2606200 + k)) → g_Run (d + 5) 314 67 [(0, .ref m), (1, g_n (-1)), (2, g_n k2), (3, g_n x.length), (4, g_n ((s.length : Int) + 2)), (5, g_n ((r : Int) - 1))] [] M2 (g_qV Qv) := by
    intro r
    induction r with
    | zero =>
      intro M2 hr f2 hm2 hw2 hlo hhi
      have hO2 := hO.fr f2
      refine s_X12_come_67 ⟨by decide, by decide⟩ ⟨by omega, by omega⟩ ⟨by omega, by omega⟩ ⟨by omega, by omega⟩ ⟨by omega, by omega⟩ fun _ => ⟨fun _ => ⟨hO2.1.1, e_write (d := d + 4) hO2.1 (by decide) (by decide) (by decide) fun M3 f3 W3 => ?_⟩, fun g => absurd (by omega) g⟩
      intro _ _
      have f3' : e_fr (fun y k => (y = m ∧ (k = 4 ∨ k = 5 ∨ k = 6)) ∨ (y = b ∧ 2606200 ≤ k ∧ k < 2666200)) M2 M3 := f3.up fun y k hy => Or.inl hy
      obtain ⟨hR3, -, -, hl3, hw3⟩ := W3
      have hw3' : g_i M3 m 4 = 2606200 := by
        rcases hw3 with ⟨-, z, -⟩ | ⟨-, z1, z2, z3⟩
        · rw [z]; rfl
        · rw [List.length_nil] at z3; omega
      refine e_putX (d := d + 4) hR3 hw3' hl3 (by decide) (by decide) (by decide) ⟨by omega, by omega⟩ fun M5 f5 hw5 hb5 => ?_
      intro _ _
      have hob := n1
      have hm5 : ∀ k, k < 4 ∨ 6 < k → g_i M5 m k = g_i M m k := fun k hk => by
        rw [f5.2.1 m k fun z => ?_, f3.2.1 m k fun z => ?_, hm2 k hk]
        · omega
        · rcases z with ⟨-, z⟩ | ⟨z, -⟩
          · omega
          · exact hob z
      have hl5 : g_i M5 m 5 = 2666200 := by
        rw [f5.2.1 m 5 fun z => ?_, hl3]
        rcases z with ⟨-, z⟩ | ⟨z, -⟩
        · omega
        · exact hob z
      have hb5k : ∀ k : Int, k ≠ 2606200 → g_i M5 b k = g_i M2 b k := fun k hk => by
        rw [f5.2.1 b k fun z => ?_, f3.2.1 b k fun z => hob z.1.symm]
        rcases z with ⟨z, -⟩ | ⟨-, z⟩
        · exact hob z.symm
        · exact hk z
      have hb2lo : ∀ k, k < 2606200 → g_i M2 b k = g_i M b k := fun k hk => f2.2.1 b k fun z => by
        rcases z with ⟨z, -⟩ | ⟨-, z, -⟩
        · exact hob z.symm
        · omega
      rw [hm5 15 (Or.inr (by decide)), hm5 16 (Or.inr (by decide)), h15, h16]
      refine e_putBytesX (d := d + 3) (f5.R hR3) hw5 hl5 (by decide) (by omega) (by decide) (b_at_keep hs fun k k1 k2 => by rw [hb5k k (by omega), hb2lo k (by omega)]) hp0 (by omega) fun M8 f8 hw8 hb8 => ?_
      intro _ _
      have hl8 : g_i M8 m 5 = 2666200 := by
        rw [f8.2.1 m 5 fun z => ?_, hl5]
        rcases z with ⟨-, z⟩ | ⟨z, -⟩
        · omega
        · exact hob z
      refine e_putX (d := d + 4) (f8.R (f5.R hR3)) hw8 hl8 (by omega) (by omega) (by decide) ⟨by decide, by decide⟩ fun M11 f11 hw11 hb11 => ?_
      intro _ _
      rw [hw11]
      refine ⟨⟨by omega, by omega⟩, ?_⟩
      rintro M15 rfl _
      have f15 : e_fr (fun y k => (y = m ∧ (k = 4 ∨ k = 5 ∨ k = 6)) ∨ (y = b ∧ 2606200 ≤ k ∧ k < 2666200)) M (g_wi M11 m 4 (2606200 + 1 + s.length + 1 + x.length)) := by
        refine ((((f2.tr f3').tr (f5.up fun y k hy => ?_)).tr (f8.up fun y k hy => ?_)).tr (f11.up fun y k hy => ?_)).tr (e_fr.wi _ (Or.inl ⟨rfl, Or.inl rfl⟩))
        · rcases hy with ⟨y1, y2⟩ | ⟨y1, y2⟩
          · exact Or.inl ⟨y1, Or.inl y2⟩
          · exact Or.inr ⟨y1, by omega, by omega⟩
        · rcases hy with ⟨y1, y2⟩ | ⟨y1, y2, y3⟩
          · exact Or.inl ⟨y1, Or.inl y2⟩
          · exact Or.inr ⟨y1, by omega, by omega⟩
        · rcases hy with ⟨y1, y2⟩ | ⟨y1, y2⟩
          · exact Or.inl ⟨y1, Or.inl y2⟩
          · exact Or.inr ⟨y1, by omega, by omega⟩
      have hbF : ∀ k, g_i (g_wi M11 m 4 (2606200 + 1 + s.length + 1 + x.length)) b k = g_i M11 b k := fun k => by rw [g_i_wi, if_neg fun z => hob z.1.symm]
      have hb11k : ∀ k : Int, k ≠ 2606200 + 1 + s.length → g_i M11 b k = g_i M8 b k := fun k hk => f11.2.1 b k fun z => by
        rcases z with ⟨z, -⟩ | ⟨-, z⟩
        · exact hob z.symm
        · exact hk z
      have hb8k : ∀ k : Int, ¬ (2606201 ≤ k ∧ k < 2606201 + s.length) → g_i M8 b k = g_i M5 b k := fun k hk => f8.2.1 b k fun z => by
        rcases z with ⟨z, -⟩ | ⟨-, z⟩
        · exact hob z.symm
        · exact hk (by omega)
      have hloose : b_at (g_i (g_wi M11 m 4 (2606200 + 1 + s.length + 1 + x.length)) b) 2606200 (b_el k2 s x) := by
        have he2 : b_el k2 s x = k2 :: (s ++ (0 :: x)) := by unfold b_el; simp
        rw [he2]
        refine b_cons.mpr ⟨?_, b_app.mpr ⟨b_at_keep hb8 fun k k1 k2 => ?_, b_cons.mpr ⟨?_, ?_⟩⟩⟩
        · rw [hbF, hb11k _ (by omega), hb8k _ (by omega), hb5, g_w8_of (by omega) (by omega)]
        · rw [hbF, hb11k k (by omega)]
        · rw [hbF, show (2606200 : Int) + 1 + (s.length : Nat) = 2606200 + 1 + s.length from rfl, hb11]
          rfl
        · have := b_at_move (B2 := g_i (g_wi M11 m 4 (2606200 + 1 + s.length + 1 + x.length)) b) (s := (s.length : Int) + 2) hx fun k k1 k2 => by
            have h9 := hhi (k - 2606200) (by omega) (by omega)
            rw [hbF, hb11k _ (by omega), hb8k _ (by omega), hb5k _ (by omega)]
            rw [show 2606200 + ((s.length : Int) + 2) + (k - 2606200) = k + (s.length + 2) by omega, show 2606200 + (k - 2606200) = k by omega] at h9
            exact h9
          rwa [show (2606200 : Int) + ((s.length : Int) + 2) = 2606200 + 1 + s.length + 1 by omega] at this
      refine e_append (d := d) (hSfr f15) he hloose ?_ (by omega) fun M19 f19 hZ19 hb19 => ?_
      · rw [g_i_wi, if_pos ⟨rfl, rfl⟩]
        omega
      · intro _ _ _
        exact hq M19 ((f15.up fun y k hy => hfl hy).tr (f19.up fun y k hy => R_WK.fl hy)) hZ19 hb19
    | succ r ih =>
      intro M2 hr f2 hm2 hw2 hlo hhi
      have hO2 := hO.fr f2
      refine s_X12_come_67 ⟨by decide, by decide⟩ ⟨by omega, by omega⟩ ⟨by omega, by omega⟩ ⟨by omega, by omega⟩ ⟨by omega, by omega⟩ fun hg => ⟨fun g => absurd g (by omega), fun _ => ⟨hO2.1.1, b, hO2.1.2.1, ⟨by omega, by omega⟩, ⟨by omega, by omega⟩, b, hO2.1.2.1, ⟨by omega, by omega⟩, _, hO2.1.2.2, ⟨by omega, by omega⟩, _, hO2.1.2.2, ⟨by omega, by omega⟩, ?_⟩⟩
      rintro M38 rfl _
      refine ⟨⟨by omega, by omega⟩, ?_⟩
      have hby := hg.byte hO2.1.2.2 (2606200 + (((r + 1 : Nat) : Int) - 1))
      have hv : g_w8 (g_i M2 b (2606200 + (((r + 1 : Nat) : Int) - 1))) = g_i M b (2606200 + r) := by
        rw [g_w8_of hby.1 hby.2, show (((r + 1 : Nat) : Int) - 1) = r by omega]
        exact hlo r (by omega) (by omega)
      rw [hv]
      have hpl : 2606200 + ((s.length : Int) + 2) + (((r + 1 : Nat) : Int) - 1) = 2606200 + (s.length + 2) + r := by omega
      rw [hpl, show (((r + 1 : Nat) : Int) - 1) + (-1) = (r : Int) - 1 by omega]
      refine ih _ (by omega) (f2.tr (e_fr.wi _ (Or.inr ⟨rfl, by omega, by omega⟩))) (fun k hk => by rw [g_i_wi, if_neg fun z => n1 z.1]; exact hm2 k hk) (by rw [g_i_wi, if_neg fun z => n1 z.1]; exact hw2) (fun k k0 k1 => ?_) fun k k0 k1 => ?_
      · rw [g_i_wi, if_neg (by omega)]
        exact hlo k k0 (by omega)
      · by_cases hk : k = r
        · rw [hk, g_i_wi, if_pos ⟨rfl, rfl⟩]
        · rw [g_i_wi, if_neg (by omega)]
          exact hhi k (by omega) k1
  refine m_X12_come ⟨by decide, by decide⟩ ⟨by omega, by omega⟩ fun _ => ⟨fun _ => ⟨hR.1, ⟨by omega, by omega⟩, ⟨by omega, by omega⟩, ⟨by omega, by omega⟩, ⟨by omega, by omega⟩, ?_⟩, fun g => absurd rfl g⟩
  rw [show g_i M m 4 - 2606200 = (x.length : Int) by omega, show g_i M m 16 - g_i M m 15 + 2 = (s.length : Int) + 2 by omega]
  exact hlp x.length M (Nat.le_refl _) (e_fr.rf _ _) (fun _ _ => rfl) rfl (fun _ _ _ => rfl) fun k k0 k1 => absurd k1 (by omega)
end RFREE
