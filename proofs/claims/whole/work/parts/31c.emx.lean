/-! THE REFERENCE'S HOUSE: marks of an index; how many entries a document has -/
theorem I_u_len1 {V : I_V} {c : Int} {es : List b_E} (hv : I_vok V) (hg : X_gd 15 es) : (I_u c es V.2.2.1).length = (I_key1 V es).length ∧ (I_u2 V c es).length = (I_key2 V es).length := by
  refine ⟨?_, ?_⟩
  · obtain ⟨s, r, hsr⟩ := List.exists_cons_of_ne_nil hv.2.2.1
    unfold I_key1
    rw [hsr, ← I_ar_key hv.1 hg (c := c), List.length_map, I_ar_len]
  · unfold I_u2 I_key2
    cases hs : V.2.2.2 with
    | none => rfl
    | some st =>
      obtain ⟨s, r, hsr⟩ := List.exists_cons_of_ne_nil (hv.2.2.2 st hs)
      subst hsr
      show (I_u c es (s :: r)).length = (I_key V.2.1 es (s :: r)).length
      rw [← I_ar_key hv.2.1 hg (c := c), List.length_map, I_ar_len]
theorem I_lng_doc {c : Int} {es : List b_E} {st : List (List Int)} (hst : st ≠ []) (hg : X_gd 15 es) : (I_cs (L_doc 15 (L_at (c + 4) es) st)).any (fun y => decide (64 < (I_ko y).2.length)) = I_lng (I_csv (O_lv es st)) := by
  obtain ⟨s, r, rfl⟩ := List.exists_cons_of_ne_nil hst
  have h2 : (I_cs (L_doc 15 (L_at (c + 4) es) (s :: r))).map I_ko = ((I_cs (L_doc 15 (L_at (c + 4) es) (s :: r))).map L_nop).map I_kv := by
    rw [List.map_map]
    exact List.map_congr_left fun y _ => I_ko_v y
  have h3 : (I_cs (L_doc 15 (L_at (c + 4) es) (s :: r))).map I_ko = (I_csv (O_lv es (s :: r))).map I_kv := by rw [h2, I_cs_v, L_doc_lv hg]
  rw [I_lng_map, ← h3, List.any_map]
  rfl
theorem I_tl2_long {V : I_V} {c tl : Int} {es : List b_E} (hv : I_vok V) (hg : X_gd 15 es) : I_tl2 (I_tl tl (I_cs (L_doc 15 (L_at (c + 4) es) V.2.2.1))) (match V.2.2.2 with | none => false | some st => (I_cs (L_doc 15 (L_at (c + 4) es) st)).any (fun y => decide (64 < (I_ko y).2.length))) = if I_long V es = true then 1 else tl := by
  unfold I_tl I_tl2 I_long
  rw [I_lng_doc hv.2.2.1 hg]
  cases hs : V.2.2.2 with
  | none =>
    show (if false = true then (1 : Int) else if I_lng (I_csv (O_lv es V.2.2.1)) = true then 1 else tl) = if (I_lng (I_csv (O_lv es V.2.2.1)) || false) = true then 1 else tl
    rw [Bool.or_false]
    rfl
  | some st =>
    show (if (I_cs (L_doc 15 (L_at (c + 4) es) st)).any (fun y => decide (64 < (I_ko y).2.length)) = true then (1 : Int) else if I_lng (I_csv (O_lv es V.2.2.1)) = true then 1 else tl) = if (I_lng (I_csv (O_lv es V.2.2.1)) || I_lng (I_csv (O_lv es st))) = true then 1 else tl
    rw [I_lng_doc (hv.2.2.2 st hs) hg]
    cases I_lng (I_csv (O_lv es V.2.2.1)) <;> cases I_lng (I_csv (O_lv es st)) <;> rfl
def R_MF (m : Nat) (ρ : Nat → Nat) (x : Nat) (y : Nat) (k : Int) : Prop := E_le m (ρ 9) y k ∨ (y = ρ 39 ∧ (k = ((2 * x : Nat) : Int) ∨ k = ((2 * x + 1 : Nat) : Int)))
section EMX
variable {m d : Nat} {ρ : Nat → Nat} {M M1 : g_M} {st : Nat → I_T} {q : Nat → List (Nat × Int × List b_E)} {v : Nat → Int} {L : List Int}
/-- places that the work at leaves does not reach -/
theorem E_le_n (h : E_bk m ρ M) {k : Nat} (hk : k ∈ E_bf) (h9 : k ≠ 9) {q : Int} : ¬ E_le m (ρ 9) (ρ k) q := by
  rintro (z | z)
  · exact h.ne hk (by decide) h9 z
  · exact h.nm hk z.1
theorem R_xP_k {x : Nat} {y : Nat} {q : Int} (g : R_xP ρ x y q) : ∃ k ∈ E_bf, k ≠ 9 ∧ y = ρ k ∧ (k = 39 → q = ((2 * x : Nat) : Int) ∨ q = ((2 * x + 1 : Nat) : Int)) := by
  rcases g with ((⟨z | z, -⟩ | ⟨z, -⟩ | ⟨z | z | z, -⟩ | ⟨z | z, -⟩ | ⟨z | z, -⟩) | ⟨z | z, -⟩ | ⟨z | z | z, z2⟩ | ⟨z, -⟩)
  · exact ⟨45, by decide, by decide, z, fun w => absurd w (by decide)⟩
  · exact ⟨46, by decide, by decide, z, fun w => absurd w (by decide)⟩
  · exact ⟨0, by decide, by decide, z, fun w => absurd w (by decide)⟩
  · exact ⟨48, by decide, by decide, z, fun w => absurd w (by decide)⟩
  · exact ⟨49, by decide, by decide, z, fun w => absurd w (by decide)⟩
  · exact ⟨50, by decide, by decide, z, fun w => absurd w (by decide)⟩
  · exact ⟨51, by decide, by decide, z, fun w => absurd w (by decide)⟩
  · exact ⟨52, by decide, by decide, z, fun w => absurd w (by decide)⟩
  · exact ⟨53, by decide, by decide, z, fun w => absurd w (by decide)⟩
  · exact ⟨54, by decide, by decide, z, fun w => absurd w (by decide)⟩
  · exact ⟨35, by decide, by decide, z, fun w => absurd w (by decide)⟩
  · exact ⟨36, by decide, by decide, z, fun w => absurd w (by decide)⟩
  · exact ⟨37, by decide, by decide, z, fun w => absurd w (by decide)⟩
  · exact ⟨38, by decide, by decide, z, fun w => absurd w (by decide)⟩
  · exact ⟨39, by decide, by decide, z, fun _ => z2⟩
  · exact ⟨0, by decide, by decide, z, fun w => absurd w (by decide)⟩
theorem R_hP_k {w : Nat} {y : Nat} {q : Int} (g : R_hP ρ w y q) : ∃ k ∈ E_bf, k ≠ 9 ∧ k ≠ 39 ∧ y = ρ k := by
  rcases g with ⟨z | z | z, -⟩ | ⟨z | z | z, -⟩ | ⟨z, -⟩
  · exact ⟨68, by decide, by decide, by decide, z⟩
  · exact ⟨69, by decide, by decide, by decide, z⟩
  · exact ⟨70, by decide, by decide, by decide, z⟩
  · exact ⟨71, by decide, by decide, by decide, z⟩
  · exact ⟨72, by decide, by decide, by decide, z⟩
  · exact ⟨73, by decide, by decide, by decide, z⟩
  · exact ⟨0, by decide, by decide, by decide, z⟩
/-- the work at leaves keeps the house -/
theorem E_H.le (h : E_H m ρ st q v M) (f : e_fr (E_le m (ρ 9)) M M1) : E_H m ρ st q v M1 := by
  refine h.fr f fun y k z => ?_
  rcases z with ⟨x, -, z⟩ | ⟨w, -, z⟩ | ⟨z1, z2⟩ | ⟨z1, z2⟩
  · obtain ⟨j, hj, h9, e, -⟩ := R_xP_k z
    rw [e]
    exact E_le_n h.1 hj h9
  · obtain ⟨j, hj, h9, -, e⟩ := R_hP_k z
    rw [e]
    exact E_le_n h.1 hj h9
  · rw [z1, z2]
    rintro (w | ⟨-, w⟩)
    · exact h.1.nm (k := 9) (by decide) w.symm
    · omega
  · rw [z1]
    exact E_le_n h.1 (by decide) (by decide)
theorem e_mkX {Q : g_M → Prop} {x : Nat} {V : I_V} {T : N_T I_E} {m1 m2 c : Int} {es : List b_E} (h : E_H m ρ st q v M) (hS : E_S m (ρ 0) (ρ 9) (g_i M (ρ 0)) M L) (h40 : g_i M m 40 = 0 ∨ g_i M m 40 = 1) (hx : x < 8) (hst : st x = some (V, T, m1, m2)) (hv : I_vok V) (hct : E_ct (g_i M (ρ 0)) c 15 es) (hdl : (b_doc es).length ≤ 2000) (hL : L.length ≤ 1000) (hq : ∀ M1, e_fr (R_MF m ρ x) M M1 → E_S m (ρ 0) (ρ 9) (g_i M1 (ρ 0)) M1 L → (g_i M1 m 40 = 0 ∨ g_i M1 m 40 = 1) → E_H m ρ (I_up st x (some (V, T, if 1 < (I_key1 V es).length then 1 else m1, if 1 < (I_key2 V es).length then 1 else m2))) q v M1 → Q M1) : g_Call (d + 72) 362 [.ref m, g_n x, g_n c] M (g_qV Q) := by
  have h1 := h.1
  have hix := h.2.2.2.1 x hx
  rw [hst] at hix
  obtain ⟨k1, k2, k3, ⟨k4, k5⟩, k6, k7⟩ := hix
  obtain ⟨l1, l2⟩ := I_u_len1 (c := c) hv hct.2.2.2
  have hk39 := h1.at (k := 39) (by decide)
  have hk39A : g_A M (ρ 39) 2 16 := hk39.2
  refine e_marks (d := d) hS k2 hct hdl h.2.2.1 hL h40 rfl hk39.1 hk39A (h1.ne (by decide) (by decide) (by decide)) k4 k5 k6 k7 fun M1 f1 S1 w1 w2 c1 => ?_
  rw [l1] at w1
  rw [l2] at w2
  have f1 : e_fr (R_MF m ρ x) M M1 := f1
  have hn : ∀ {k : Nat} {q : Int}, k ∈ E_bf → k ≠ 9 → k ≠ 39 → ¬ R_MF m ρ x (ρ k) q := fun hk h9 h39 z => z.elim (E_le_n h1 hk h9) fun z => h1.ne hk (by decide) h39 z.1
  have hb : g_i M1 (ρ 0) = g_i M (ρ 0) := funext fun k => f1.2.1 _ _ (hn (by decide) (by decide) (by decide))
  have h47 : g_i M1 m 47 = -1 := by
    rw [f1.2.1 m 47 fun z => ?_]
    · exact h.2.1
    · rcases z with (z | ⟨-, z⟩) | ⟨z, -⟩
      · exact h1.nm (k := 9) (by decide) z.symm
      · omega
      · exact h1.nm (k := 39) (by decide) z.symm
  have hPX : ∀ y k, R_PX (ρ 0) ρ x y k → ¬ R_MF m ρ x y k := fun y k z => by
    rcases R_PX_y h1.rw z with g | ⟨j, hj, g⟩
    · rw [g]
      exact hn (by decide) (by decide) (by decide)
    · rw [g]
      refine hn (E_fs_bf j hj).1 (fun w => ?_) fun w => ?_
      · rw [w] at hj
        exact absurd hj (by decide)
      · rw [w] at hj
        exact absurd hj (by decide)
  have S1 : E_S m (ρ 0) (ρ 9) (g_i M1 (ρ 0)) M1 L := by
    rw [hb]
    exact S1
  refine hq M1 f1 S1 c1 (h.upd f1 hx (fun w hw y k z => ?_) (fun x2 hx2 hxx y k z => ?_) (fun k _ => hn (by decide) (by decide) (by decide)) h47 ⟨?_, ?_, ?_, ⟨w1, w2⟩, ?_, ?_⟩)
  · obtain ⟨j, hj, h9, h39, e⟩ := R_hP_k z
    rw [e]
    exact hn hj h9 h39
  · obtain ⟨j, hj, h9, e, h39⟩ := R_xP_k z
    rw [e]
    rintro (w | ⟨w1, w2⟩)
    · exact E_le_n h1 hj h9 w
    · have := h39 (h1.2.2 j hj 39 (by decide) w1)
      omega
  · rw [f1.2.1 _ _ (hn (by decide) (by decide) (by decide))]
    exact k1
  · rw [hb]
    exact k2.fr f1 (fun k => hn (by decide) (by decide) (by decide)) (fun k => hn (by decide) (by decide) (by decide)) fun k => hn (by decide) (by decide) (by decide)
  · exact k3.frX f1 hPX (fun k => hn (by decide) (by decide) (by decide)) h47
  · split
    · exact Or.inr rfl
    · exact k6
  · split
    · exact Or.inr rfl
    · exact k7
end EMX
