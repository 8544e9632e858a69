/-! REQUESTS, THE REFERENCE: update; the documents are another, the new entries come -/
theorem U_nodup {l : List (Nat × Int × List b_E)} (h : (l.map fun z => z.1).Nodup) {i j : Nat} {a b : Nat × Int × List b_E} (hi : l[i]? = some a) (hj : l[j]? = some b) (hij : i ≠ j) : a.1 ≠ b.1 := by
  intro e
  have h1 : (l.map fun z => z.1)[i]? = some a.1 := by rw [List.getElem?_map, hi]; rfl
  have h2 : (l.map fun z => z.1)[j]? = some b.1 := by rw [List.getElem?_map, hj]; rfl
  exact hij ((List.getElem?_inj (by rw [List.length_map]; exact (List.getElem?_eq_some_iff.mp hi).1) h).mp (by rw [h1, h2, e]))
/-- what comes into an index of the marked ones -/
noncomputable def I_inn (l : List (Bool × Int × List b_E)) (t : I_T) : I_T := match t with
  | none => none
  | some (V, T, m1, m2) => some (V, I_in V (I_mk V l) T, I_mn (I_key1 V) m1 l, I_mn (I_key2 V) m2 l)
theorem I_inn_nil (t : I_T) : I_inn [] t = t := by rcases t with _ | ⟨V, T, m1, m2⟩ <;> rfl
theorem I_inn_snoc (A : List (Bool × Int × List b_E)) (z : Bool × Int × List b_E) (t : I_T) : I_inn (A ++ [z]) t = if z.1 = true then I_add1 z.2.2 z.2.1 (I_inn A t) else I_inn A t := by
  rcases t with _ | ⟨V, T, m1, m2⟩
  · by_cases g : z.1 = true
    · rw [if_pos g]
      rfl
    · rw [if_neg g]
      rfl
  · show some (V, I_in V (I_mk V (A ++ [z])) T, I_mn (I_key1 V) m1 (A ++ [z]), I_mn (I_key2 V) m2 (A ++ [z])) = _
    by_cases g : z.1 = true
    · rw [I_mk_app, I_mk_1, if_pos g, if_pos g, I_in_app, I_mn_yes _ _ _ g, I_mn_yes _ _ _ g]
      rfl
    · rw [I_mk_app, I_mk_1, if_neg g, if_neg g, List.append_nil, I_mn_no _ _ _ g, I_mn_no _ _ _ g]
      rfl
/-- what the changing of a shelf's documents may touch -/
def R_uC (m : Nat) (ρ : Nat → Nat) (w : Nat) (y : Nat) (k : Int) : Prop := R_CH m (ρ 0) (ρ 12) y k ∨ (y = ρ 0 ∧ 2000 + 400000 * (w : Int) ≤ k ∧ k < 2000 + 400000 * w + 400000)
section EUP4
variable {m d : Nat} {ρ : Nat → Nat} {M M1 : g_M} {st : Nat → I_T} {q : Nat → List (Nat × Int × List b_E)} {v : Nat → Int}
theorem R_uC_n (h : E_bk m ρ M) {w i : Nat} (hi : i ∈ E_bf) (hn : i ≠ 0 ∧ i ≠ 12) {k : Int} : ¬ R_uC m ρ w (ρ i) k := by
  rintro (z | ⟨z, -⟩)
  · exact R_CH_n h hi hn z
  · exact h.ne hi (by decide) hn.1 z
theorem R_uC_m (h : E_bk m ρ M) {w : Nat} {k : Int} (g : R_uC m ρ w m k) : (4 ≤ k ∧ k ≤ 8) ∨ (13 ≤ k ∧ k ≤ 17) := by
  rcases g with z | ⟨z, -⟩
  · exact R_CH_m h z
  · exact absurd z.symm (h.nm (by decide))
theorem R_CH_b (h : E_bk m ρ M) {k : Int} (g : R_CH m (ρ 0) (ρ 12) (ρ 0) k) : (922000 ≤ k ∧ k < 982000) ∨ (2606200 ≤ k ∧ k < 2666200) := R_uF_b h (Or.inl g)
theorem E_H0.uC {w : Nat} (hw : w < 2) (h : E_H0 m ρ st M) (f : e_fr (R_uC m ρ w) M M1) : E_H0 m ρ st M1 := h.fr f (fun x hx y k z g => by
  rcases g with g | g
  · rcases E_HP_y h.1 (Or.inl ⟨x, hx, z⟩) with ⟨e, z2⟩ | ⟨e, z2⟩ | ⟨j, hj, hn, e⟩
    · rw [e] at g
      have := R_CH_b h.1 g
      omega
    · rw [e] at g
      have := R_CH_m h.1 g
      omega
    · rw [e] at g
      exact R_CH_n h.1 hj ⟨hn.1, hn.2.2.1⟩ g
  · exact R_hP_xP h.1 hw z (Or.inr (Or.inr g))) (fun z => by
  have := R_uC_m h.1 z
  omega) fun k hk z => by
  rcases z with z | ⟨-, z1, z2⟩
  · have := R_CH_b h.1 z
    omega
  · omega
theorem e_copyU {Q : Int → g_M → Prop} {w : Nat} {pc v1 v3 v5 v6 v8 qc : Int} {ce : b_E} {cs : List b_E} {hd : List b_E → Bool} {qs : List (Nat × Int × List b_E)} (h : E_H0 m ρ st M) (hS : E_S m (ρ 0) (ρ 9) (g_i M (ρ 0)) M []) (hw : w < 2) (hs : b_st (g_i M (ρ 0)) 900000 pc 22 ce.1 ce.2.1 ce.2.2) (hlow : 802000 ≤ pc ∨ pc + (b_el ce.1 ce.2.1 ce.2.2).length ≤ 2000) (hk : ce.1 = 3) (hgood : ∀ z ∈ b_ch ce.2.2, X_op z.2.1 ≠ 0 ∧ z.1 = 3 ∧ ∀ y ∈ b_ch z.2.2, p_ok y.2.1 ∧ (X_op z.2.1 = 3 → y.1 = 16 ∨ y.1 = 18)) (hcl : ce.2.2.length ≤ 3000) (hqc : qc = pc + 6 + ce.2.1.length) (hce : cs = b_ch ce.2.2) (hcs : U_cs cs) (hl : qs.length ≤ 200) (t68 : g_i M (ρ 68) w = qs.length) (hnd : (qs.map fun z => z.1).Nodup) (hat : ∀ (i : Nat) (z : Nat × Int × List b_E), qs[i]? = some z → (200 * w ≤ z.1 ∧ z.1 < 200 * w + 200) ∧ g_i M (ρ 71) (200 * w + i) = z.1 ∧ b_at (g_i M (ρ 0)) (2000 + 2000 * (z.1 : Int)) (b_doc z.2.2)) (hdoc : ∀ z ∈ qs, (b_doc z.2.2).length ≤ 2000 ∧ X_gd 15 z.2.2) (t75 : ∀ (i : Nat) (z : Nat × Int × List b_E), qs[i]? = some z → g_i M (ρ 75) i = if U_al hd qc cs z.2.2 = true then 1 else 0) (h0 : ∀ z ∈ qs, hd z.2.2 = true → (U_R (-1) qc cs z.2.2).1.1 = 0) (h1 : g_InR v1) (h3 : g_InR v3) (h5 : g_InR v5) (h6 : g_InR v6) (h8 : g_InR v8) (hq : ∀ M1, e_fr (R_uC m ρ w) M M1 → E_S m (ρ 0) (ρ 9) (g_i M1 (ρ 0)) M1 [] → (∀ (i : Nat) (z : Nat × Int × List b_E), qs[i]? = some z → b_at (g_i M1 (ρ 0)) (2000 + 2000 * (z.1 : Int)) (b_doc (U_nd hd qc cs z.2.2))) → g_Run (d + 72) 420 589 [(0, .ref m), (1, g_n v1), (2, g_n w), (3, g_n v3), (4, g_n (pc + 2 + ce.2.1.length)), (5, g_n v5), (6, g_n v6), (7, g_n 0), (8, g_n v8), (9, g_n 1), (10, g_n 0)] [] M1 (g_qI Q)) : g_Run (d + 72) 420 521 [(0, .ref m), (1, g_n v1), (2, g_n w), (3, g_n v3), (4, g_n (pc + 2 + ce.2.1.length)), (5, g_n v5), (6, g_n v6), (7, g_n 0), (8, g_n v8), (9, g_n 1), (10, g_n 0)] [] M (g_qI Q) := by
  have hB := h.1
  have hwR : g_InR (w : Int) := ⟨by omega, by omega⟩
  have h4R : g_InR (pc + 2 + (ce.2.1.length : Int)) := by
    have e1 := hs.2.2.2.1
    have e2 := hs.2.2.2.2
    have e3 := b_el_len ce.1 ce.2.1 ce.2.2
    exact ⟨by omega, by omega⟩
  have hlp : ∀ (B A : List (Nat × Int × List b_E)) (M' : g_M), qs = A ++ B → e_fr (R_uC m ρ w) M M' → E_S m (ρ 0) (ρ 9) (g_i M' (ρ 0)) M' [] → (∀ (i : Nat) (z : Nat × Int × List b_E), qs[i]? = some z → b_at (g_i M' (ρ 0)) (2000 + 2000 * (z.1 : Int)) (b_doc (if i < A.length then U_nd hd qc cs z.2.2 else z.2.2))) → g_Run (d + 72) 420 521 [(0, .ref m), (1, g_n v1), (2, g_n w), (3, g_n v3), (4, g_n (pc + 2 + ce.2.1.length)), (5, g_n v5), (6, g_n v6), (7, g_n 0), (8, g_n v8), (9, g_n 1), (10, g_n A.length)] [] M' (g_qI Q) := by
    intro B
    induction B with
    | nil =>
      intro A M' hA f' S' hd'
      rw [List.append_nil] at hA
      subst hA
      have hB' := hB.fr f'
      have b68' := hB'.at (k := 68) (by decide)
      have b68A' : g_A M' (ρ 68) 1 2 := b68'.2
      have t68' : g_i M' (ρ 68) w = qs.length := by rw [f'.2.1 _ _ (R_uC_n hB (by decide) (by decide))]; exact t68
      exact s_X12_update_521 h1 hwR h3 h4R h5 h6 ⟨by decide, by decide⟩ h8 ⟨by decide, by decide⟩ ⟨by omega, by omega⟩ fun _ => ⟨hB'.1, ρ 68, b68'.1, 2, b68A', ⟨by omega, by omega⟩, fun g => absurd g (by rw [t68']; omega), fun _ => hq M' f' S' fun i z hi => by
        have := hd' i z hi
        rw [if_pos (List.getElem?_eq_some_iff.mp hi).1] at this
        exact this⟩
    | cons z B ih =>
      intro A M' hA f' S' hd'
      have hll := congrArg List.length hA
      rw [List.length_append, List.length_cons] at hll
      have hzi : qs[A.length]? = some z := by
        rw [hA, List.getElem?_append_right (Nat.le_refl _), Nat.sub_self]
        rfl
      have hzm : z ∈ qs := List.mem_of_getElem? hzi
      obtain ⟨zl, zg⟩ := hdoc z hzm
      obtain ⟨k1, k2, -⟩ := hat A.length z hzi
      have hzd := hd' A.length z hzi
      rw [if_neg (Nat.lt_irrefl _)] at hzd
      have hB' := hB.fr f'
      have hAz : qs = (A ++ [z]) ++ B := by rw [hA]; simp
      have hA1 : (A.length : Int) + 1 = ((A ++ [z]).length : Int) := by rw [List.length_append, List.length_singleton]; omega
      have b68' := hB'.at (k := 68) (by decide)
      have b68A' : g_A M' (ρ 68) 1 2 := b68'.2
      have b75' := hB'.at (k := 75) (by decide)
      have b75A' : g_A M' (ρ 75) 2 200 := b75'.2
      have t68' : g_i M' (ρ 68) w = qs.length := by rw [f'.2.1 _ _ (R_uC_n hB (by decide) (by decide))]; exact t68
      have t75' : g_i M' (ρ 75) A.length = if U_al hd qc cs z.2.2 = true then 1 else 0 := by
        rw [f'.2.1 _ _ (R_uC_n hB (by decide) (by decide))]
        exact t75 A.length z hzi
      obtain ⟨n1, n2, n3⟩ := U_nd_ok (hd := hd) hcs zg zl (h0 z hzm)
      -- the next one
      have hnx : ∀ M2, e_fr (R_uC m ρ w) M M2 → E_S m (ρ 0) (ρ 9) (g_i M2 (ρ 0)) M2 [] → b_at (g_i M2 (ρ 0)) (2000 + 2000 * (z.1 : Int)) (b_doc (U_nd hd qc cs z.2.2)) → (∀ k : Int, 2000 ≤ k → k < 802000 → (k < 2000 + 2000 * (z.1 : Int) ∨ 2000 + 2000 * (z.1 : Int) + 2000 ≤ k) → g_i M2 (ρ 0) k = g_i M' (ρ 0) k) → g_Run (d + 72) 420 521 [(0, .ref m), (1, g_n v1), (2, g_n w), (3, g_n v3), (4, g_n (pc + 2 + ce.2.1.length)), (5, g_n v5), (6, g_n v6), (7, g_n 0), (8, g_n v8), (9, g_n 1), (10, g_n ((A ++ [z]).length : Nat))] [] M2 (g_qI Q) := by
        intro M2 f2 S2 a2 e2
        refine ih (A ++ [z]) M2 hAz f2 S2 fun i u hi => ?_
        by_cases g : i = A.length
        · subst g
          rw [hzi] at hi
          have hi : z = u := Option.some.inj hi
          subst hi
          rw [if_pos (by rw [List.length_append, List.length_singleton]; omega)]
          exact a2
        · have hne := U_nodup hnd hi hzi g
          obtain ⟨j1, -, -⟩ := hat i u hi
          obtain ⟨ul, ug⟩ := hdoc u (List.mem_of_getElem? hi)
          obtain ⟨-, m2, -⟩ := U_nd_ok (hd := hd) hcs ug ul (h0 u (List.mem_of_getElem? hi))
          have h9 := hd' i u hi
          have hif : (if i < (A ++ [z]).length then U_nd hd qc cs u.2.2 else u.2.2) = if i < A.length then U_nd hd qc cs u.2.2 else u.2.2 := by
            by_cases g2 : i < A.length
            · rw [if_pos g2, if_pos (by rw [List.length_append]; omega)]
            · rw [if_neg g2, if_neg (by rw [List.length_append, List.length_singleton]; omega)]
          rw [hif]
          have hlen : (b_doc (if i < A.length then U_nd hd qc cs u.2.2 else u.2.2)).length ≤ 2000 := by
            split
            · exact m2
            · exact ul
          exact b_at_keep h9 fun k e3 e4 => e2 k (by omega) (by omega) (by omega)
      refine s_X12_update_521 h1 hwR h3 h4R h5 h6 ⟨by decide, by decide⟩ h8 ⟨by decide, by decide⟩ ⟨by omega, by omega⟩ fun _ => ⟨hB'.1, ρ 68, b68'.1, 2, b68A', ⟨by omega, by omega⟩, fun _ => ⟨ρ 75, b75'.1, 200, b75A', ⟨by omega, by omega⟩, ?_⟩, fun g => absurd (by rw [t68']; omega) g⟩
      rw [t75', hA1]
      by_cases gal : U_al hd qc cs z.2.2 = true
      · rw [if_pos gal]
        refine ⟨fun g => absurd g (by decide), fun _ => ?_⟩
        have ghd : hd z.2.2 = true := by
          unfold U_al at gal
          exact (Bool.and_eq_true _ _ ▸ gal).1
        have hT : ∀ {M2 : g_M}, E_bk m ρ M2 → R_tb m (ρ 68) (ρ 71) M2 := fun h' => ⟨(h'.at (k := 68) (by decide)).1, (h'.at (k := 68) (by decide)).2, (h'.at (k := 71) (by decide)).1, (h'.at (k := 71) (by decide)).2⟩
        have t71 : ∀ {M2 : g_M}, e_fr (R_uC m ρ w) M M2 → g_i M2 (ρ 71) (200 * w + A.length) = z.1 := fun f => by rw [f.2.1 _ _ (R_uC_n hB (by decide) (by decide))]; exact k2
        refine e_doc1 (d := d + 71) (w := (w : Int)) (i := A.length) (s := z.1) hB'.R (hT hB') (by omega) (by omega) (t71 f') (by omega) (by omega) ?_
        intro _ _ _
        have hs' : b_st (g_i M' (ρ 0)) 900000 pc 22 ce.1 ce.2.1 ce.2.2 := by
          refine ⟨?_, hs.2⟩
          have hp := hs.2.2.2.2
          have hlo : 802000 ≤ pc ∨ pc + (b_el ce.1 ce.2.1 ce.2.2).length ≤ 2000 := hlow
          exact b_at_keep hs.1 fun j j1 j2 => f'.2.1 _ j fun g => by
            rcases g with g | ⟨-, g1, g2⟩
            · have := R_CH_b hB g
              omega
            · omega
        have hO' : R_O m (ρ 0) (ρ 12) M' := ⟨hB'.R, (hB'.at (k := 12) (by decide)).1, (hB'.at (k := 12) (by decide)).2⟩
        refine e_change (d := d) hO' (fun _ _ => rfl) hs' hk hgood (by omega) (by omega) hzd (zg.le (by decide)) (by rw [b_doc_len] at zl; omega) ?_
        have hUR : Z_end (-1) (Z_os (z.2.2, 0) (L_ch pc ce)) = U_R (-1) qc cs z.2.2 := by
          unfold U_R L_ch
          rw [hqc, hce]
        rw [hUR]
        have g0 := h0 z hzm ghd
        have hnde : U_nd hd qc cs z.2.2 = (U_R (-1) qc cs z.2.2).2.1 := by unfold U_nd; rw [if_pos ghd]
        intro M17 f17 _ y17
        intro _ _ _
        obtain ⟨y1, -⟩ := y17 g0
        rw [← hnde] at y1
        have F17 := f'.tr (f17.up fun y k g => Or.inl g)
        have hB17 := hB.fr F17
        have S17 : E_S m (ρ 0) (ρ 9) (g_i M17 (ρ 0)) M17 [] := S'.fx f17 (fun g => by have := R_CH_m hB g; omega) fun k => R_CH_n hB (by decide) (by decide)
        refine e_doc1 (d := d + 71) (w := (w : Int)) (i := A.length) (s := z.1) hB17.R (hT hB17) (by omega) (by omega) (t71 F17) (by omega) (by omega) ?_
        intro _ _ _
        refine e_int4 (d := d + 70) hB17.R (by decide) (by decide) ?_
        intro _ _ _
        rw [e_w4doc y1 (by omega)]
        refine e_copy (d := d + 71) hB17.R y1 (by decide) (by omega) (by omega) (by omega) (Or.inr (by omega)) fun M32 f32 a32 => ?_
        intro _ _
        have f32' : e_fr (R_uC m ρ w) M17 M32 := f32.up fun y k g => Or.inr ⟨g.1, by have := g.2; omega, by have := g.2; omega⟩
        have F32 := F17.tr f32'
        have hB32 := hB.fr F32
        have S32 : E_S m (ρ 0) (ρ 9) (g_i M32 (ρ 0)) M32 [] := S17.fx f32 (fun g => hB.nm (k := 0) (by decide) g.1.symm) fun k g => hB.ne (k := 9) (k2 := 0) (by decide) (by decide) (by decide) g.1
        refine ⟨⟨by omega, by omega⟩, hnx M32 F32 S32 a32 fun k e3 e4 e5 => ?_⟩
        rw [f32.2.1 _ k fun g => by have := g.2; omega, f17.2.1 _ k fun g => by have := R_CH_b hB g; omega]
      · rw [if_neg gal]
        refine ⟨fun _ => ⟨⟨by omega, by omega⟩, ?_⟩, fun g => absurd rfl g⟩
        refine hnx M' f' S' ?_ fun k _ _ _ => rfl
        rw [n3 (Bool.eq_false_iff.mpr gal)]
        exact hzd
  exact hlp qs [] M rfl (e_fr.rf _ _) hS fun i z hi => by
    have e : ¬ i < ([] : List (Nat × Int × List b_E)).length := Nat.not_lt_zero _
    rw [if_neg e]
    exact (hat i z hi).2.2
end EUP4
