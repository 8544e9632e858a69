/-! STAGES: the reference's documents one by one -/
section EONE
variable {m b ma be : Nat} {M0 M M1 : g_M} {lo g : Int} {ds : List (List b_E)}
theorem e_endBad {d : Nat} {Q : Int → g_M → Prop} (hR : e_R M m b) (hF : E_F m ma lo ds M) (hl : 200 < ds.length) (hq : Q 5 M) : g_Call (d + 1) 338 [.ref m] M (g_qI Q) := by
  refine m_X12_endMaking fun _ => ⟨hR.1, fun _ => ⟨fun g2 => ?_, fun _ => hq⟩, fun _ => hq⟩
  rcases hF with ⟨-, a2, -⟩ | ⟨a1, -⟩
  · omega
  · exact absurd (a1.symm.trans g2) (by decide)
/-- what each document gives, up to where it is too many -/
def E_up (ds3 U : List (List b_E)) : Prop := ds3 = U ∨ (200 < ds3.length ∧ ds3.length ≤ U.length)
theorem E_up.app {ds3 ds4 U V : List (List b_E)} (h : E_up ds3 U) (h2 : ds4 = ds3 ++ V ∨ (200 < ds4.length ∧ ds4.length ≤ (ds3 ++ V).length)) : E_up ds4 (U ++ V) := by
  unfold E_up
  rw [List.length_append]
  rcases h with rfl | ⟨h, h'⟩
  · rcases h2 with rfl | ⟨h2, h3⟩
    · exact Or.inl rfl
    · rw [List.length_append] at h3
      exact Or.inr ⟨h2, h3⟩
  · rcases h2 with rfl | ⟨h2, h3⟩
    · rw [List.length_append]
      exact Or.inr ⟨by omega, by omega⟩
    · rw [List.length_append] at h3
      exact Or.inr ⟨h2, by omega⟩
theorem e_loop {d De : Nat} {Q : Int → g_M → Prop} {pe : Int} {e : b_E} {T : List b_E → List (List b_E)} (hT : E_T m b ma be M0) (hg : g_i M0 m 24 = 1 - g) (hg01 : g = 0 ∨ g = 1) (hbt : E_belt m b be g ds M0) (he : b_st (g_i M0 b) 2100 pe De e.1 e.2.1 e.2.2) (hgd : ∀ es ∈ ds, ∀ ys ∈ T es, X_gd 30 ys) (hf : E_fin m b ma be M0 g Q (ds.flatMap T)) (hstep : ∀ (i : Nat) (es : List b_E) (dp : Int) (M1 : g_M) (ds3 : List (List b_E)), ds[i]? = some es → i < 200 → g_i M1 be i = dp → b_at (g_i M0 b) dp (b_doc es) → 2000 ≤ dp → dp + (b_doc es).length ≤ 922000 → (dp + (b_doc es).length ≤ E_lo g ∨ E_lo g + 60000 ≤ dp) → (b_doc es).length ≤ 2000 → X_gd 15 es → g_InR dp → e_fr (E_ST m b ma (E_lo g)) M0 M1 → E_T m b ma be M1 → b_st (g_i M1 b) 2706210 pe De e.1 e.2.1 e.2.2 → g_i M1 m 19 = ds.length → e_Wr m b (E_lo g) (E_lo g + 60000) (E_wr ds3) M1 → E_F m ma (E_lo g) ds3 M1 → (∀ M2 ds4, e_fr (E_ST m b ma (E_lo g)) M0 M2 → e_Wr m b (E_lo g) (E_lo g + 60000) (E_wr ds4) M2 → E_F m ma (E_lo g) ds4 M2 → (ds4 = ds3 ++ T es ∨ (200 < ds4.length ∧ ds4.length ≤ (ds3 ++ T es).length)) → g_Run (d + 70) 339 169 [(0, .ref m), (1, g_n pe), (2, g_n ((i : Int) + 1))] [] M2 (g_qI Q)) → g_Run (d + 70) 339 169 [(0, .ref m), (1, g_n pe), (2, g_n i)] [] M1 (g_qI Q)) : ∀ (r i : Nat) (M1 : g_M) (ds3 : List (List b_E)), i + r = ds.length → e_fr (E_ST m b ma (E_lo g)) M0 M1 → e_Wr m b (E_lo g) (E_lo g + 60000) (E_wr ds3) M1 → E_F m ma (E_lo g) ds3 M1 → E_up ds3 ((ds.take i).flatMap T) → g_Run (d + 70) 339 169 [(0, .ref m), (1, g_n pe), (2, g_n i)] [] M1 (g_qI Q) := by
  obtain ⟨n1, n2, n3, n4, n5, n6⟩ := hT.ne
  obtain ⟨hlo1, hlo2, hlo3⟩ := E_lo_R hg01
  obtain ⟨h19, hok, hpl⟩ := id hbt
  have he4 := he.2.2.2.1
  have he5 := he.2.2.2.2
  have hel := b_el_len e.1 e.2.1 e.2.2
  have hpeR : g_InR pe := ⟨by omega, by omega⟩
  have hl200 := hok.1
  have hm : ∀ {M1 : g_M}, e_fr (E_ST m b ma (E_lo g)) M0 M1 → ∀ k, ¬ ((4 ≤ k ∧ k ≤ 6) ∨ k = 23 ∨ k = 25 ∨ (26 ≤ k ∧ k ≤ 29)) → g_i M1 m k = g_i M0 m k := fun f k hk => f.2.1 m k fun z => by
    rcases z with ⟨-, z⟩ | z | ⟨z, -⟩
    · exact hk z
    · exact n2 z
    · exact n1 z
  have hbe : ∀ {M1 : g_M}, e_fr (E_ST m b ma (E_lo g)) M0 M1 → ∀ k, g_i M1 be k = g_i M0 be k := fun f k => f.2.1 be k fun z => by
    rcases z with ⟨z, -⟩ | z | ⟨z, -⟩
    · exact n3 z.symm
    · exact n6 z
    · exact n5 z.symm
  have hbk : ∀ {M1 : g_M}, e_fr (E_ST m b ma (E_lo g)) M0 M1 → ∀ k, k < 922000 → (k < E_lo g ∨ E_lo g + 60000 ≤ k) → g_i M1 b k = g_i M0 b k := fun f k k1 k2 => f.2.1 b k fun z => by
    rcases z with ⟨z, -⟩ | z | ⟨-, z⟩
    · exact n1 z.symm
    · exact n4 z
    · omega
  intro r
  induction r with
  | zero =>
    intro i M1 ds3 hi f W F hup
    have hT1 := hT.fr f
    rw [List.take_of_length_le (by omega)] at hup
    refine s_X12_stage_169 hpeR ⟨by omega, by omega⟩ fun _ => ⟨hT1.1.1, fun z => absurd z (by rw [hm f 19 (by decide), h19]; omega), fun _ => ?_⟩
    have hf1 := hf.tr (f.up fun y k z => z.sg (be := be) hlo1 hlo2)
    rcases hup with rfl | ⟨u1, u2⟩
    · refine e_endE (d := d) (g := g) hT1 (by rw [hm f 24 (by decide)]; exact hg) hg01 W F ?_ ⟨fun z M4 h4 k1 => fun _ _ _ => hf1.1 z M4 h4 k1, fun z M4 h4 k1 k2 => fun _ _ _ => hf1.2 z M4 h4 k1 k2⟩
      intro es2 hes2
      obtain ⟨es, hes, hes3⟩ := List.mem_flatMap.mp hes2
      exact hgd es hes es2 hes3
    · refine e_endBad (d := d + 69) hT1.1 F u1 ?_
      intro _ _ _
      exact hf1.1 (Or.inl (by omega)) M1 (e_fr.rf _ _) (by rw [hm f 24 (by decide)]; exact hg)
  | succ r ih =>
    intro i M1 ds3 hi f W F hup
    obtain ⟨es, hes⟩ : ∃ es, ds[i]? = some es := ⟨_, List.getElem?_eq_getElem (by omega)⟩
    obtain ⟨dp, p1, p2, p3, p4, p5⟩ := hpl i es hes
    obtain ⟨m1, m2⟩ := hok.2.2 es (List.mem_of_getElem? hes)
    have htk : ds.take (i + 1) = ds.take i ++ [es] := by rw [List.take_add_one, hes]; rfl
    refine hstep i es dp M1 ds3 hes (by omega) (by rw [hbe f]; exact p1) p2 p3 p4 p5 m1 m2 ⟨by omega, by omega⟩ f (hT.fr f) ⟨b_at_keep he.1 fun j j1 j2 => hbk f j (by omega) (by omega), he.2.1, he.2.2.1, he4, by omega⟩ (by rw [hm f 19 (by decide)]; exact h19) W F fun M2 ds4 f2 W2 F2 h2 => ?_
    have h9 := ih (i + 1) M2 ds4 (by omega) f2 W2 F2 (by rw [htk, List.flatMap_append, List.flatMap_cons, List.flatMap_nil, List.append_nil]; exact hup.app h2)
    rwa [show ((i + 1 : Nat) : Int) = (i : Int) + 1 by omega] at h9
theorem e_project {d n De : Nat} {Q : Int → g_M → Prop} {pe : Int} {e : b_E} (hT : E_T m b ma be M0) (hg : g_i M0 m 24 = 1 - g) (hg01 : g = 0 ∨ g = 1) (hbt : E_belt m b be g ds M0) (he : b_st (g_i M0 b) 2100 pe De e.1 e.2.1 e.2.2) (hnm : e.2.1 = b_tx 41) (hk : e.1 = 3) (hpf : S_pfL (b_ch e.2.2) = 0) (hDe : De ≤ 30) (hn : 16 ≤ n) (hW : e_Wr m b (E_lo g) (E_lo g + 60000) [] M0) (hF : E_F m ma (E_lo g) [] M0) (hf : E_fin m b ma be M0 g Q (ds.map (S_pj n (b_ch e.2.2)))) : g_Run (d + 70) 339 169 [(0, .ref m), (1, g_n pe), (2, g_n 0)] [] M0 (g_qI Q) := by
  obtain ⟨h19, hok, hpl⟩ := id hbt
  obtain ⟨hlo1, hlo2, hlo3⟩ := E_lo_R hg01
  have he4 := he.2.2.2.1
  have he5 := he.2.2.2.2
  have hel := b_el_len e.1 e.2.1 e.2.2
  have hpeR : g_InR pe := ⟨by omega, by omega⟩
  have hfm : ∀ l : List (List b_E), l.flatMap (fun es => [S_pj n (b_ch e.2.2) es]) = l.map (S_pj n (b_ch e.2.2)) := by
    intro l
    induction l with
    | nil => rfl
    | cons a t ih =>
      rw [List.flatMap_cons, ih]
      rfl
  refine e_loop (d := d) (g := g) (T := fun es => [S_pj n (b_ch e.2.2) es]) hT hg hg01 hbt he (fun es hes ys hys => ?_) (by rw [hfm]; exact hf) (fun i es dp M1 ds3 hes hi200 a1 a2 a3 a4 a5 a6 a7 a8 f hT1 he1 h191 W F hnext => ?_) ds.length 0 M0 [] (by omega) (e_fr.rf _ _) hW hF (Or.inl (by rw [List.take_zero]; rfl))
  · rw [List.mem_singleton.mp hys]
    have := hok.2.2 es hes
    refine S_pj_good (this.2.le (by decide)) (by have h9 := this.1; rw [b_doc_len] at h9; omega) ?_
    obtain ⟨D1, eD, hkids, -⟩ := he.kids (Or.inl hk)
    exact fun x hx => ⟨(hkids.2.1 x hx).1, b_gv_le (hkids.2.1 x hx).2 (by omega)⟩
  · have hil : i < ds.length := (List.getElem?_eq_some_iff.mp hes).1
    refine s_X12_stage_169 hpeR ⟨by omega, by omega⟩ fun _ => ⟨hT1.1.1, fun _ => e_nm3 (d := d + 66) (j := 109) (j2 := 41) (by decide) rfl hT1.1 he1 (fun _ => ?_) fun z => absurd hnm z, fun z => absurd (by rw [h191]; omega) z⟩
    intro _ _ _
    refine ⟨fun z => absurd z (by decide), fun _ => e_value (d := d + 68) hT1.1 he1.nm ?_⟩
    intro _ _ _
    refine ⟨be, hT1.2.2.1, _, hT1.2.2.2.2.1, ⟨by omega, by omega⟩, ?_⟩
    rw [a1, show pe + 1 + (e.2.1.length : Int) + 1 = pe + 2 + e.2.1.length by omega]
    refine e_projDoc (d := d + 30) (n := n) hT hlo1 hlo2 he hk hpf hDe a2 a3 a4 a5 hn a6 a7 f W F fun M2 f2 W2 F2 => ?_
    intro _ _
    exact ⟨⟨by omega, by omega⟩, hnext M2 _ f2 W2 F2 (Or.inl rfl)⟩
theorem e_unwind {d De : Nat} {Q : Int → g_M → Prop} {pe : Int} {e : b_E} (hT : E_T m b ma be M0) (hg : g_i M0 m 24 = 1 - g) (hg01 : g = 0 ∨ g = 1) (hbt : E_belt m b be g ds M0) (he : b_st (g_i M0 b) 2100 pe De e.1 e.2.1 e.2.2) (hnm : e.2.1 = b_tx 42) (hdol : S_dol e = true) (hpl : p_plain (S_pt e)) (hW : e_Wr m b (E_lo g) (E_lo g + 60000) [] M0) (hF : E_F m ma (E_lo g) [] M0) (hf : E_fin m b ma be M0 g Q (ds.flatMap (U_doc (p_sp (S_pt e))))) : g_Run (d + 70) 339 169 [(0, .ref m), (1, g_n pe), (2, g_n 0)] [] M0 (g_qI Q) := by
  obtain ⟨h19, hok, -⟩ := id hbt
  obtain ⟨hlo1, hlo2, hlo3⟩ := E_lo_R hg01
  have he4 := he.2.2.2.1
  have he5 := he.2.2.2.2
  have hel := b_el_len e.1 e.2.1 e.2.2
  have hpeR : g_InR pe := ⟨by omega, by omega⟩
  refine e_loop (d := d) (g := g) (T := U_doc (p_sp (S_pt e))) hT hg hg01 hbt he (fun es hes ys hys => ?_) hf (fun i es dp M1 ds3 hes hi200 a1 a2 a3 a4 a5 a6 a7 a8 f hT1 he1 h191 W F hnext => ?_) ds.length 0 M0 [] (by omega) (e_fr.rf _ _) hW hF (Or.inl (by rw [List.take_zero]; rfl))
  · have hm := hok.2.2 es hes
    exact (U_doc_good hm.2 (by have h9 := hm.1; rw [b_doc_len] at h9; omega) ys hys).le (by decide)
  · have hil : i < ds.length := (List.getElem?_eq_some_iff.mp hes).1
    refine s_X12_stage_169 hpeR ⟨by omega, by omega⟩ fun _ => ⟨hT1.1.1, fun _ => e_nm3 (d := d + 66) (j := 109) (j2 := 41) (by decide) rfl hT1.1 he1 (fun z => absurd (hnm.symm.trans z) (by decide +kernel)) fun _ => ?_, fun z => absurd (by rw [h191]; omega) z⟩
    intro _ _ _
    refine ⟨fun _ => e_nm3 (d := d + 66) (j := 110) (j2 := 42) (by decide) rfl hT1.1 he1 (fun _ => ?_) fun z => absurd hnm z, fun z => absurd rfl z⟩
    intro _ _ _
    refine ⟨fun z => absurd z (by decide), fun _ => ⟨be, hT1.2.2.1, _, hT1.2.2.2.2.1, ⟨by omega, by omega⟩, ?_⟩⟩
    rw [a1]
    refine e_unwDoc (d := d + 30) hT hlo1 hlo2 he hdol hpl a2 a3 a4 a5 a6 a7 f W F fun M2 ds4 f2 W2 F2 h2 => ?_
    intro _ _
    exact ⟨⟨by omega, by omega⟩, hnext M2 _ f2 W2 F2 h2⟩
end EONE
