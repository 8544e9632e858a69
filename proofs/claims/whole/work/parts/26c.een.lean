/-! INDEX, THE REFERENCE: the entries of a document -/
def E_le (m l : Nat) (y : Nat) (k : Int) : Prop := y = l ∨ (y = m ∧ (k = 10 ∨ k = 40 ∨ k = 41 ∨ k = 42 ∨ k = 43 ∨ k = 44))
theorem E_lk.le {m l y : Nat} {k : Int} (h : E_lk m l y k) : E_le m l y k := by
  rcases h with h | ⟨h, g | g⟩
  · exact Or.inl h
  · exact Or.inr ⟨h, Or.inl g⟩
  · exact Or.inr ⟨h, Or.inr (Or.inl g)⟩
/-- a path of an index in the reference: the text, where it stands, where it ends -/
def R_pt (F : Int → Int) (M : g_M) (pe : Nat) (k : Nat) (st : List (List Int)) : Prop := ∃ x : List Int, p_sp x = st ∧ b_at F (982000 + 2000 * k) x ∧ x.length ≤ 2000 ∧ st.length ≤ 8 ∧ g_i M pe k = 982000 + 2000 * k + x.length
/-- the ways and paths of index x -/
def R_V (m pa pe dn : Nat) (F : Int → Int) (x : Nat) (V : I_V) (M : g_M) : Prop := (g_r M m 36 = some pa ∧ g_A M pa 1 8 ∧ g_r M m 37 = some pe ∧ g_A M pe 1 16 ∧ g_r M m 38 = some dn ∧ g_A M dn 2 16) ∧ x < 8 ∧ R_pt F M pe (2 * x) V.2.2.1 ∧ (g_i M pa x = 1 ∨ g_i M pa x = 2) ∧ (V.2.2.2 = none ↔ g_i M pa x = 1) ∧ (∀ st, V.2.2.2 = some st → R_pt F M pe (2 * x + 1) st) ∧ I_w V.1 ∧ I_w V.2.1 ∧ g_i M dn ((2 * x : Nat) : Int) = (if V.1 = -1 then 1 else 0) ∧ g_i M dn ((2 * x + 1 : Nat) : Int) = (if V.2.1 = -1 then 1 else 0)
/-- the keys at a path, each once, as they are met -/
noncomputable def I_u (c : Int) (es : List b_E) (st : List (List Int)) : List (Option (Int × b_E)) := I_un (I_oc 1) (I_cs (L_doc 15 (L_at (c + 4) es) st))
noncomputable def I_u2 (V : I_V) (c : Int) (es : List b_E) : List (Option (Int × b_E)) := match V.2.2.2 with
  | none => [none]
  | some st => I_u c es st
def I_tl2 (tl : Int) (b : Bool) : Int := if b = true then 1 else tl
section EEN
variable {m b l d pa pe dn : Nat} {F : Int → Int} {M : g_M} {L : List Int}
theorem R_V.fr {x : Nat} {V : I_V} {S : Nat → Int → Prop} {M1 : g_M} (h : R_V m pa pe dn F x V M) (f : e_fr S M M1) (h1 : ∀ k, ¬ S pa k) (h2 : ∀ k, ¬ S pe k) (h3 : ∀ k, ¬ S dn k) : R_V m pa pe dn F x V M1 := by
  obtain ⟨⟨a1, a2, a3, a4, a5, a6⟩, b1, ⟨x1, q1, q2, q3, q4, q5⟩, b3, b4, b5, b6, b7, b8, b9⟩ := h
  have hp : ∀ k, g_i M1 pa k = g_i M pa k := fun k => f.2.1 pa k (h1 k)
  have he : ∀ k, g_i M1 pe k = g_i M pe k := fun k => f.2.1 pe k (h2 k)
  have hd : ∀ k, g_i M1 dn k = g_i M dn k := fun k => f.2.1 dn k (h3 k)
  refine ⟨⟨by rw [f.2.2]; exact a1, f.A a2, by rw [f.2.2]; exact a3, f.A a4, by rw [f.2.2]; exact a5, f.A a6⟩, b1, ⟨x1, q1, q2, q3, q4, by rw [he]; exact q5⟩, by rw [hp]; exact b3, by rw [hp]; exact b4, fun st hst => ?_, b6, b7, by rw [hd]; exact b8, by rw [hd]; exact b9⟩
  obtain ⟨x2, g1, g2, g3, g4, g5⟩ := b5 st hst
  exact ⟨x2, g1, g2, g3, g4, by rw [he]; exact g5⟩
theorem R_V.ne {x : Nat} {V : I_V} (h : R_V m pa pe dn F x V M) (hm : g_O M m 12) (hl : g_A M l 1 80000) : (pa ≠ l ∧ pe ≠ l ∧ dn ≠ l) ∧ pa ≠ m ∧ pe ≠ m ∧ dn ≠ m := by
  obtain ⟨⟨a1, a2, a3, a4, a5, a6⟩, -⟩ := h
  refine ⟨⟨fun z => ?_, fun z => ?_, fun z => ?_⟩, fun z => g_neOA hm a2 z.symm, fun z => g_neOA hm a4 z.symm, fun z => g_neOA hm a6 z.symm⟩
  · subst z
    exact absurd (a2.fn hl).2 (by decide)
  · subst z
    exact absurd (a4.fn hl).2 (by decide)
  · subst z
    exact absurd (a6.fn hl).1 (by decide)
theorem E_S.fld {k v : Int} {M1 : g_M} (hS : E_S m b l F M L) (hk : k = 40 ∨ k = 41 ∨ k = 42 ∨ k = 43 ∨ k = 44) (hM : M1 = g_wi M m k v) : E_S m b l F M1 L ∧ e_fr (E_le m l) M M1 := by
  obtain ⟨n1, n2, n3⟩ := hS.ne
  obtain ⟨a1, a2, a3, a4, a5, a6, a7⟩ := hS
  have f2 : e_fr (E_le m l) M M1 := by
    rw [hM]
    exact e_fr.wi v (Or.inr ⟨rfl, by omega⟩)
  refine ⟨⟨f2.R a1, by rw [f2.2.2]; exact a2, f2.A a3, ?_, b_at_keep a5 fun q _ _ => ?_, ?_, a7⟩, f2⟩
  · rw [hM, g_i_wi, if_neg (fun z => by have := z.2; omega)]
    exact a4
  · rw [hM, g_i_wi, if_neg (fun z => n2 z.1)]
  · rw [← a6]
    funext q
    rw [hM, g_i_wi, if_neg (fun z => n3 z.1.symm)]
theorem e_entriesOf {Q : Int → g_M → Prop} {c tl : Int} {x : Nat} {V : I_V} {es : List b_E} (hS : E_S m b l F M L) (hV : R_V m pa pe dn F x V M) (hct : E_ct F c 15 es) (hdl : (b_doc es).length ≤ 2000) (hno : b_at F 2706200 [10, 0]) (hL : L.length ≤ 1000) (ht : tl = 0 ∨ tl = 1) (h40 : g_i M m 40 = tl) (h : ∀ M1 P1 P2, e_fr (E_le m l) M M1 → (∃ T1 T2, P1 = L ++ T1 ∧ P2 = T2 ∧ T1.length ≤ 3301 ∧ T2.length ≤ 3301) → E_S m b l F M1 (P1 ++ (I_u c es V.2.2.1).map (L_on 2706200) ++ P2 ++ (I_u2 V c es).map (L_on 2706200)) → (I_u c es V.2.2.1).length ≤ 14001 → (I_u2 V c es).length ≤ 14001 → g_i M1 m 40 = I_tl2 (I_tl tl (I_cs (L_doc 15 (L_at (c + 4) es) V.2.2.1))) (match V.2.2.2 with | none => false | some st => (I_cs (L_doc 15 (L_at (c + 4) es) st)).any (fun y => decide (64 < (I_ko y).2.length))) → g_i M1 m 41 = P1.length → g_i M1 m 42 = (I_u c es V.2.2.1).length → g_i M1 m 43 = (P1 ++ (I_u c es V.2.2.1).map (L_on 2706200) ++ P2).length → g_i M1 m 44 = (P1 ++ (I_u c es V.2.2.1).map (L_on 2706200) ++ P2 ++ (I_u2 V c es).map (L_on 2706200)).length → Q (((I_u c es V.2.2.1).length * (I_u2 V c es).length : Nat) : Int) M1) : g_Call (d + 70) 361 [.ref m, g_n x, g_n c] M (g_qI Q) := by
  have hcR : g_InR c := by
    have h1 := hct.2.1
    have h2 := hct.2.2.1
    exact ⟨by omega, by omega⟩
  have hulen : ∀ (x1 : List Int) (st : List (List Int)), p_sp x1 = st → st.length ≤ 8 → (L_doc 15 (L_at (c + 4) es) st).length ≤ 3301 ∧ (I_u c es st).length ≤ 14001 := by
    intro x1 st hx1 h8
    have hne : st ≠ [] := by rw [← hx1, p_sp_eq]; simp
    obtain ⟨k1, k2, -, -⟩ := e_keyVals hct hdl hne h8 rfl
    have h1 := I_un_len (I_cs (L_doc 15 (L_at (c + 4) es) st))
    have h2 := I_cs_len (L_doc 15 (L_at (c + 4) es) st)
    exact ⟨k1, by unfold I_u; omega⟩
  obtain ⟨⟨a1, a2, a3, a4, a5, a6⟩, b1, ⟨x1, q1, q2, q3, q4, q5⟩, b3, b4, b5, b6, b7, b8, b9⟩ := id hV
  obtain ⟨⟨n1, n2, n3⟩, n4, n5, n6⟩ := hV.ne hS.1.1 hS.2.2.1
  have hSpa : ∀ k, ¬ E_le m l pa k := fun k z => z.elim n1 fun z => n4 z.1
  have hSpe : ∀ k, ¬ E_le m l pe k := fun k z => z.elim n2 fun z => n5 z.1
  have hSdn : ∀ k, ¬ E_le m l dn k := fun k z => z.elim n3 fun z => n6 z.1
  have hR := hS.1
  obtain ⟨hl1, hu1⟩ := hulen x1 _ q1 q4
  refine m_X12_entriesOf ⟨by omega, by omega⟩ hcR fun _ => ⟨hR.1, m_X12_pathOf ⟨by omega, by omega⟩ ⟨by decide, by decide⟩ fun _ => ⟨⟨by omega, by omega⟩, ⟨by omega, by omega⟩, ⟨by omega, by omega⟩, ⟨by omega, by omega⟩, ?_⟩⟩
  intro _ _ _
  rw [show (982000 : Int) + 2000 * (2 * (x : Int) + 0) = 982000 + 2000 * ((2 * x : Nat) : Int) by omega]
  have hc2 : (2 * (x : Int)) = ((2 * x : Nat) : Int) := by omega
  refine ⟨pe, a3, ⟨by omega, by omega⟩, 16, a4, ⟨by omega, by omega⟩, ?_⟩
  rw [hc2, q5]
  refine e_keys2 (d := d) (x := x1) hS hct hdl q2 (by omega) (by omega) (by rw [q1]; exact q4) hno (by omega) ht h40 rfl fun M13 f13 S13 t13 => ?_
  rw [q1] at S13 t13 ⊢
  intro _ _ _
  obtain ⟨P1, hP1⟩ : ∃ P1, P1 = L ++ (L_doc 15 (L_at (c + 4) es) V.2.2.1).map L_opt := ⟨_, rfl⟩
  have S13 : E_S m b l F M13 (P1 ++ (I_u c es V.2.2.1).map (L_on 2706200)) := by rw [hP1]; exact S13
  rw [← hP1]
  have hP1l : P1.length = L.length + (L_doc 15 (L_at (c + 4) es) V.2.2.1).length := by rw [hP1, List.length_append, List.length_map]
  have h13 := S13.2.2.2.1
  rw [List.length_append, List.length_map] at h13
  rw [h13, show (((P1.length + (I_u c es V.2.2.1).length : Nat) : Int) - ((P1.length : Nat) : Int)) = (I_u c es V.2.2.1).length by omega]
  refine ⟨⟨by omega, by omega⟩, fun M19 e19 _ => ?_⟩
  obtain ⟨S19, f19⟩ := S13.fld (by omega) e19
  have f13' : e_fr (E_le m l) M M13 := f13.up fun _ _ z => z.le
  have ff19 := f13'.tr f19
  have hV19 := hV.fr ff19 hSpa hSpe hSdn
  obtain ⟨⟨c1, c2, c3, c4, c5, c6⟩, -, -, c7, c8, c9, -⟩ := id hV19
  have t19 : g_i M19 m 40 = I_tl tl (I_cs (L_doc 15 (L_at (c + 4) es) V.2.2.1)) := by
    rw [e19, g_i_wi, if_neg (fun z => absurd z.2 (by decide))]
    exact t13
  have h42 : g_i M19 m 42 = (I_u c es V.2.2.1).length := by rw [e19, g_i_wi, if_pos ⟨rfl, rfl⟩]
  have h10 := S19.2.2.2.1
  -- the end
  have h82 : ∀ (M2 : g_M) (P2 : List Int), e_fr (E_le m l) M M2 → P2.length ≤ 3301 → E_S m b l F M2 (P1 ++ (I_u c es V.2.2.1).map (L_on 2706200) ++ P2 ++ (I_u2 V c es).map (L_on 2706200)) → (I_u2 V c es).length ≤ 14001 → g_i M2 m 40 = I_tl2 (I_tl tl (I_cs (L_doc 15 (L_at (c + 4) es) V.2.2.1))) (match V.2.2.2 with | none => false | some st => (I_cs (L_doc 15 (L_at (c + 4) es) st)).any (fun y => decide (64 < (I_ko y).2.length))) → g_i M2 m 42 = (I_u c es V.2.2.1).length → g_i M2 m 43 = (P1 ++ (I_u c es V.2.2.1).map (L_on 2706200) ++ P2).length → g_Run (d + 69) 361 82 [(0, .ref m), (1, g_n x), (2, g_n c), (3, g_n P1.length)] [] M2 (g_qI Q) := by
    intro M2 P2 f2 hp2 S2 hu2 t2 w42 w43
    refine s_X12_entriesOf_82 ⟨by omega, by omega⟩ hcR ⟨by omega, by omega⟩ fun _ => ⟨S2.1.1, fun M3 e3 _ M4 e4 _ => ?_⟩
    obtain ⟨S3, f3⟩ := S2.fld (by omega) e3
    obtain ⟨S4, f4⟩ := S3.fld (by omega) e4
    have hm10 : g_i M3 m 10 = (P1 ++ (I_u c es V.2.2.1).map (L_on 2706200) ++ P2 ++ (I_u2 V c es).map (L_on 2706200)).length := S3.2.2.2.1
    have g44 : g_i M4 m 44 = (P1 ++ (I_u c es V.2.2.1).map (L_on 2706200) ++ P2 ++ (I_u2 V c es).map (L_on 2706200)).length := by rw [e4, g_i_wi, if_pos ⟨rfl, rfl⟩]; exact hm10
    have gne : ∀ k : Int, k ≠ 41 → k ≠ 44 → g_i M4 m k = g_i M2 m k := fun k h1 h2 => by rw [e4, g_i_wi, if_neg (fun z => h2 z.2), e3, g_i_wi, if_neg (fun z => h1 z.2)]
    have g43 : g_i M4 m 43 = _ := (gne 43 (by decide) (by decide)).trans w43
    have g42 : g_i M4 m 42 = _ := (gne 42 (by decide) (by decide)).trans w42
    have g41 : g_i M4 m 41 = P1.length := by rw [e4, g_i_wi, if_neg (fun z => absurd z.2 (by decide)), e3, g_i_wi, if_pos ⟨rfl, rfl⟩]
    have h9 := h M4 P1 P2 ((f2.tr f3).tr f4) ⟨_, P2, hP1, rfl, by rw [List.length_map]; exact hl1, hp2⟩ S4 hu1 hu2 ((gne 40 (by decide) (by decide)).trans t2) g41 g42 g43 g44
    have hsub : g_i M4 m 44 - g_i M4 m 43 = (I_u2 V c es).length := by
      rw [g44, g43, List.length_append (as := P1 ++ (I_u c es V.2.2.1).map (L_on 2706200) ++ P2), List.length_map]
      omega
    rw [hsub, g42]
    have hmul : (I_u c es V.2.2.1).length * (I_u2 V c es).length ≤ 14001 * 14001 := Nat.mul_le_mul hu1 hu2
    have hcm : ((I_u c es V.2.2.1).length : Int) * ((I_u2 V c es).length : Int) = (((I_u c es V.2.2.1).length * (I_u2 V c es).length : Nat) : Int) := (Int.natCast_mul _ _).symm
    rw [hcm]
    exact ⟨⟨by omega, by omega⟩, ⟨by omega, by omega⟩, h9⟩
  refine ⟨pa, c1, 8, c2, ⟨by omega, by omega⟩, fun g => ?_, fun g => ?_⟩
  · have hn : V.2.2.2 = none := c8.mpr (by omega)
    intro M49 e49 _
    obtain ⟨S49, f49⟩ := S19.fld (by omega) e49
    have hu2 : I_u2 V c es = [none] := by unfold I_u2; rw [hn]
    refine e_addL (d := d + 68) S49 (by rw [List.length_append, List.length_map]; omega) ⟨by decide, by decide⟩ fun M53 f53 S53 => ?_
    intro _ _
    have hml : l ≠ m := S49.ne.2.1
    have hkeep : ∀ k : Int, k ≠ 10 → g_i M53 m k = g_i M49 m k := fun k hk => f53.2.1 m k fun z => z.elim (fun z => hml z.symm) fun z => hk z.2
    refine h82 M53 [] ((ff19.tr f49).tr (f53.up fun _ _ z => z.lk.le)) (by decide) (by rw [hu2, List.append_nil]; exact S53) (by rw [hu2]; decide) ?_ ?_ ?_
    · rw [hkeep 40 (by decide), e49, g_i_wi, if_neg (fun z => absurd z.2 (by decide)), t19, hn]
      rfl
    · rw [hkeep 42 (by decide), e49, g_i_wi, if_neg (fun z => absurd z.2 (by decide)), h42]
    · rw [hkeep 43 (by decide), e49, g_i_wi, if_pos ⟨rfl, rfl⟩, h10, List.append_nil]
  · obtain ⟨st2, hn⟩ : ∃ st2, V.2.2.2 = some st2 := by
      rcases hVc : V.2.2.2 with _ | st2
      · have := c8.mp hVc
        omega
      · exact ⟨st2, rfl⟩
    obtain ⟨x2, r1, r2, r3, r4, r5⟩ := c9 st2 hn
    obtain ⟨hl2, hu2l⟩ := hulen x2 st2 r1 r4
    have hu2 : I_u2 V c es = I_u c es st2 := by unfold I_u2; rw [hn]
    refine m_X12_pathOf ⟨by omega, by omega⟩ ⟨by decide, by decide⟩ fun _ => ⟨⟨by omega, by omega⟩, ⟨by omega, by omega⟩, ⟨by omega, by omega⟩, ⟨by omega, by omega⟩, ?_⟩
    intro _ _ _
    rw [show (982000 : Int) + 2000 * (2 * (x : Int) + 1) = 982000 + 2000 * ((2 * x + 1 : Nat) : Int) by omega]
    refine ⟨pe, c3, ⟨by omega, by omega⟩, ⟨by omega, by omega⟩, 16, c4, ⟨by omega, by omega⟩, ?_⟩
    rw [show ((2 * x : Nat) : Int) + 1 = ((2 * x + 1 : Nat) : Int) by omega, r5]
    have hS19l : (P1 ++ (I_u c es V.2.2.1).map (L_on 2706200)).length ≤ 40000 := by rw [List.length_append, List.length_map]; omega
    refine e_keys2 (d := d) (x := x2) S19 hct hdl r2 (by omega) (by omega) (by rw [r1]; exact r4) hno hS19l (I_tl_01 ht _) t19 rfl fun M40 f40 S40 t40 => ?_
    rw [r1] at S40 t40 ⊢
    intro _ _ _
    intro M45 e45 _
    obtain ⟨S45, f45⟩ := S40.fld (by omega) e45
    have hml : l ≠ m := S19.ne.2.1
    have hkeep : ∀ k : Int, k ≠ 10 → k ≠ 40 → g_i M40 m k = g_i M19 m k := fun k hk hk2 => f40.2.1 m k fun z => z.elim (fun z => hml z.symm) fun z => by have := z.2; omega
    refine h82 M45 ((L_doc 15 (L_at (c + 4) es) st2).map L_opt) ((ff19.tr (f40.up fun _ _ z => z.le)).tr f45) (by rw [List.length_map]; exact hl2) (by rw [hu2]; exact S45) (by rw [hu2]; exact hu2l) ?_ ?_ ?_
    · rw [e45, g_i_wi, if_neg (fun z => absurd z.2 (by decide)), t40, hn]
      rfl
    · rw [e45, g_i_wi, if_neg (fun z => absurd z.2 (by decide)), hkeep 42 (by decide) (by decide), h42]
    · rw [e45, g_i_wi, if_pos ⟨rfl, rfl⟩]
end EEN
