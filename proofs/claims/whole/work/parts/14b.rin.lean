/-! CHANGES: the reference's way in -/
def R_O (m b ch : Nat) (M : g_M) : Prop := e_R M m b ∧ g_r M m 12 = some ch ∧ g_A M ch 1 12
def R_rt (c : List h_F) (e : b_E) : Prop := (c = [] ∧ e.2.1 = []) ∨ ∃ f0 c0, c = f0 :: c0 ∧ f0.2.1 = []
theorem R_rt.hd {c : List h_F} {e : b_E} (h : R_rt c e) (l t : List b_E) : ∃ (f0 : h_F) (c0 : List h_F), c ++ [(e.1, e.2.1, l, t)] = f0 :: c0 ∧ f0.2.1 = [] := by
  rcases h with ⟨rfl, h2⟩ | ⟨f0, c0, rfl, h2⟩
  · exact ⟨_, [], rfl, h2⟩
  · exact ⟨f0, c0 ++ [(e.1, e.2.1, l, t)], rfl, h2⟩
/-- the reference is in the element e of the documents c around -/
def R_St (F : Int → Int) (m b ch : Nat) (c : List h_F) (e : b_E) (M : g_M) : Prop := R_O m b ch M ∧ (∀ k, k < 922000 → g_i M b k = F k) ∧ c.length ≤ 10 ∧ R_rt c e ∧ h_Z (e_B M b) (b_el e.1 e.2.1 e.2.2).length 921998 c ∧ b_at (e_B M b) (h_at 921998 c) (b_el e.1 e.2.1 e.2.2) ∧ g_i M m 13 = c.length + 1 ∧ b_at (g_i M ch) 0 (h_vc 921998 c ++ [h_at 921998 c + 2 + e.2.1.length]) ∧ g_i M m 14 = (if e.1 = 4 then 1 else 0)
/-- what it may change -/
def R_FL (m b ch : Nat) (y : Nat) (k : Int) : Prop := (y = m ∧ ((4 ≤ k ∧ k ≤ 6) ∨ (13 ≤ k ∧ k ≤ 16))) ∨ y = ch ∨ (y = b ∧ ((922000 ≤ k ∧ k < 952000) ∨ (2606200 ≤ k ∧ k < 2666200)))
section RIN
variable {d m b ch : Nat} {F : Int → Int} {M M1 : g_M} {c : List h_F} {e : b_E} {es l t : List b_E} {Q : Int → g_M → Prop}
theorem R_O.ne (h : R_O m b ch M) : m ≠ b ∧ ch ≠ b ∧ m ≠ ch := ⟨g_neOA h.1.1 h.1.2.2, g_neAA h.2.2 h.1.2.2 (by omega), g_neOA h.1.1 h.2.2⟩
theorem R_O.fr {S : Nat → Int → Prop} (h : R_O m b ch M) (f : e_fr S M M1) : R_O m b ch M1 := ⟨f.R h.1, by rw [f.2.2]; exact h.2.1, f.A h.2.2⟩
theorem R_WK.fl {y : Nat} {k : Int} (h : R_WK b y k) : R_FL m b ch y k := Or.inr (Or.inr ⟨h.1, Or.inl h.2⟩)
theorem R_St.ge (h : R_St F m b ch c e M) : 922000 ≤ h_at 921998 c + 2 + e.2.1.length := by
  have := h_at_ge c 921998
  omega
/-- the value stands in the bytes themselves -/
theorem R_St.vb (h : R_St F m b ch c e M) : b_at (g_i M b) (h_at 921998 c + 2 + e.2.1.length) e.2.2 := by
  have hge := h.ge
  obtain ⟨-, -, -, -, -, h1, -⟩ := h
  have he : b_el e.1 e.2.1 e.2.2 = (e.1 :: (e.2.1 ++ [0])) ++ e.2.2 := by unfold b_el; simp
  rw [he] at h1
  have h2 := (b_app.mp h1).2
  have hl : (((e.1 :: (e.2.1 ++ [0]) : List Int)).length : Int) = e.2.1.length + 2 := by
    rw [List.length_cons, List.length_append, List.length_singleton]
    omega
  rw [hl, show h_at 921998 c + ((e.2.1.length : Int) + 2) = h_at 921998 c + 2 + e.2.1.length by omega] at h2
  exact (e_B_at hge).mp h2
theorem e_outermost {Qv : g_M → Prop} (hO : R_O m b ch M) (hF : ∀ k, k < 922000 → g_i M b k = F k) (hd : b_at (g_i M b) 922000 (b_doc es)) (hq : ∀ M1, e_fr (fun y k => (y = m ∧ (k = 13 ∨ k = 14)) ∨ y = ch) M M1 → R_St F m b ch [] (3, [], b_doc es) M1 → Qv M1) : g_Call (d + 1) 310 [.ref m] M (g_qV Qv) := by
  obtain ⟨n1, n2, n3⟩ := hO.ne
  obtain ⟨hR, h12, hA⟩ := id hO
  refine m_X12_fromOutermost fun _ => ⟨hR.1, ch, h12, _, hA, ⟨by decide, by decide⟩, ?_⟩
  rintro M7 rfl _ M11 rfl _ M15 rfl _
  have f : e_fr (fun y k => (y = m ∧ (k = 13 ∨ k = 14)) ∨ y = ch) M (g_wi (g_wi (g_wi M ch 0 922000) m 13 1) m 14 0) := ((e_fr.wi _ (Or.inr rfl)).tr (e_fr.wi _ (Or.inl ⟨rfl, Or.inl rfl⟩))).tr (e_fr.wi _ (Or.inl ⟨rfl, Or.inr rfl⟩))
  have hb : ∀ k, g_i (g_wi (g_wi (g_wi M ch 0 922000) m 13 1) m 14 0) b k = g_i M b k := fun k => f.2.1 b k fun z => by
    rcases z with ⟨z, -⟩ | z
    · exact n1 z.symm
    · exact n2 z.symm
  refine hq _ f ⟨hO.fr f, fun k hk => by rw [hb]; exact hF k hk, by simp, Or.inl ⟨rfl, rfl⟩, trivial, ?_, ?_, ?_, ?_⟩
  · have he : b_el 3 [] (b_doc es) = 3 :: 0 :: b_doc es := by unfold b_el; simp
    show b_at _ 921998 (b_el 3 [] (b_doc es))
    rw [he]
    refine b_cons.mpr ⟨if_pos rfl, b_cons.mpr ⟨?_, ?_⟩⟩
    · unfold e_B
      rw [if_neg (by decide), if_pos (by decide)]
    · exact (e_B_at (by decide)).mpr (b_at_keep hd fun k _ _ => hb k)
  · rw [g_i_wi, if_neg (by omega), g_i_wi, if_pos ⟨rfl, rfl⟩]
    rfl
  · refine b_cons.mpr ⟨?_, b_nil _ _⟩
    rw [g_i_wi, if_neg fun z => n3 z.1.symm, g_i_wi, if_neg fun z => n3 z.1.symm, g_i_wi, if_pos ⟨rfl, rfl⟩]
    rfl
  · rw [g_i_wi, if_pos ⟨rfl, rfl⟩]
    rfl
theorem e_loose {Qv : g_M → Prop} (hR : e_R M m b) (hq : ∀ M1, e_fr (fun y k => y = m ∧ (k = 4 ∨ k = 5 ∨ k = 6)) M M1 → e_Wr m b 2606200 2666200 [] M1 → Qv M1) : g_Call (d + 2) 307 [.ref m] M (g_qV Qv) := by
  refine m_X12_writeLoose fun _ => ⟨hR.1, e_write hR (by decide) (by decide) (by decide) fun M1 f1 W1 => ?_⟩
  intro _ _
  exact hq M1 f1 W1
/-- behind the others -/
theorem e_append {x : List Int} (hSt : R_St F m b ch c e M) (he : e.2.2 = b_doc es) (hx : b_at (g_i M b) 2606200 x) (hw : g_i M m 4 = 2606200 + x.length) (hmx : h_hs (b_el e.1 e.2.1 e.2.2).length c + x.length ≤ 20000) (hq : ∀ M1, e_fr (R_WK b) M M1 → h_Z (e_B M1 b) x.length 921998 (c ++ [(e.1, e.2.1, es, [])]) → b_at (e_B M1 b) (h_at 921998 (c ++ [(e.1, e.2.1, es, [])])) x → Q (h_at 921998 (c ++ [(e.1, e.2.1, es, [])])) M1) : g_Call (d + 5) 308 [.ref m] M (g_qI Q) := by
  have hvb := hSt.vb
  have hge := hSt.ge
  obtain ⟨hO, hF, hcl, hrt, hZ, hat, h13, hch, h14⟩ := hSt
  obtain ⟨hR, h12, hA⟩ := id hO
  have hcl2 := b_app.mp hch
  have c3 := (b_cons.mp hcl2.2).1
  rw [h_vc_len] at c3
  have hel := b_el_len e.1 e.2.1 e.2.2
  have hdl := congrArg List.length he
  rw [b_doc_len] at hdl
  have hin := h_at_in (b_el e.1 e.2.1 e.2.2).length c 921998
  have hhs := h_hs_ge (b_el e.1 e.2.1 e.2.2).length c
  obtain ⟨f0, c0, hc0, hf0⟩ := hrt.hd es []
  have hpair := (h_in (B := e_B M b) (c := c) (f := (e.1, e.2.1, es, [])) (p := 921998) (mid := [])).mp (by
    show h_Z _ (b_el e.1 e.2.1 (b_doc (es ++ [] ++ []))).length _ _ ∧ b_at _ _ (b_el e.1 e.2.1 (b_doc (es ++ [] ++ [])))
    rw [List.append_nil, List.append_nil, ← he]
    exact ⟨hZ, hat⟩)
  have hpos : h_at 921998 (c ++ [(e.1, e.2.1, es, [])]) = h_at 921998 c + 2 + e.2.1.length + 4 + (b_ser es).length := by
    rw [h_at_snoc]
    show h_at 921998 c + 6 + (e.2.1.length : Int) + ((b_ser es).length : Nat) = _
    omega
  have hhs0 : h_hs (b_ser []).length (c ++ [(e.1, e.2.1, es, [])]) = h_hs (b_el e.1 e.2.1 e.2.2).length c := by
    rw [h_hs_snoc, h_hs_one, he]
    simp
  have hhx : h_hs x.length (c ++ [(e.1, e.2.1, es, [])]) = h_hs (b_ser []).length (c ++ [(e.1, e.2.1, es, [])]) + x.length := by
    have hz := h_hs_add 0 x.length (c ++ [(e.1, e.2.1, es, [])])
    rw [Nat.zero_add] at hz
    exact hz
  have hs0 : (b_ser []).length = 0 := rfl
  have hcl1 : (c ++ [((e.1, e.2.1, es, []) : h_F)]).length = c.length + 1 := by rw [List.length_append, List.length_singleton]
  refine m_X12_append fun _ => ⟨hR.1, ch, h12, by rw [h13]; exact ⟨by omega, by omega⟩, _, hA, ⟨by omega, by omega⟩, ?_⟩
  rw [show g_i M m 13 - 1 = 0 + (c.length : Int) by omega, c3]
  rw [he] at hvb
  refine e_last (d := d + 1) hR hvb (by omega) (by rw [b_doc_len]; omega) ?_
  rw [← hpos]
  intro _ _ _
  refine e_splice (d := d) (h := (b_ser []).length) (h2 := x.length) hR h12 hA hc0 hf0 (by omega) hpair.1 (by omega) (by rw [h_vc_snoc]; exact hch) hx hw (by omega) (Int.le_refl _) (by decide) (by omega) (by omega) (by omega) (by omega) fun M1 f1 hZ1 _ _ hx1 => ?_
  intro _ _
  exact hq M1 f1 hZ1 ((e_B_at (by omega)).mpr hx1)
end RIN
