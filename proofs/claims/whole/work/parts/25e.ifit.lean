/-! INDEX: what stays; whether entries fit, class -/
/-- the index's objects, its paths, the room -/
def I_St (V : I_V) (x r b p1 f1 t1 a1 p2 f2 t2 a2 t k1 k2 : Nat) (n c e : Int) (L : List Int) (M : g_M) : Prop := I_ob x r b p1 p2 t k1 k2 M ∧ I_pt V x p1 f1 t1 a1 p2 f2 t2 a2 M ∧ (g_A M b 0 n ∧ n ≤ 1000000000 ∧ b_at (g_i M b) 0 [10, 0]) ∧ g_i M t 12 = V.1 ∧ g_i M t 13 = V.2.1 ∧ k_P M r b c e L ∧ L.length ≤ 1000
def I_Fr (x k1 k2 r : Nat) (M M1 : g_M) : Prop := k_F (I_S3 x k1 k2) r M M1 ∧ (∀ k : Int, k ≠ 7 → k ≠ 8 → k ≠ 13 → g_i M1 x k = g_i M x k) ∧ g_r M1 x = g_r M x
theorem I_Fr.rf {x k1 k2 r : Nat} {M : g_M} : I_Fr x k1 k2 r M M := ⟨k_F.rf _ _ _, fun _ _ _ _ => rfl, rfl⟩
theorem I_Fr.tr {x k1 k2 r : Nat} {M M1 M2 : g_M} (h : I_Fr x k1 k2 r M M1) (h2 : I_Fr x k1 k2 r M1 M2) : I_Fr x k1 k2 r M M2 := ⟨h.1.tr h2.1, fun k h7 h8 h13 => (h2.2.1 k h7 h8 h13).trans (h.2.1 k h7 h8 h13), h2.2.2.trans h.2.2⟩
/-- documents whose places stand in a row -/
def I_ds (b da : Nat) (n : Int) (ds : List (List b_E)) (M : g_M) : Prop := ∀ (i : Nat) (es : List b_E), ds[i]? = some es → b_st (g_i M b) n (g_i M da i) 16 3 [] (b_doc es) ∧ (b_doc es).length ≤ 2000
section FITS
variable {d x r b p1 f1 t1 a1 p2 f2 t2 a2 t k1 k2 : Nat} {c e n : Int} {L : List Int} {M M1 : g_M} {V : I_V}
theorem I_ob.no (h : I_ob x r b p1 p2 t k1 k2 M) {y : Nat} (hy : (∃ ci, g_O M y ci ∧ ci ≠ 3) ∨ ∃ ty m, g_A M y ty m ∧ (ty = 1 → m ≠ 700)) : ¬ I_S3 x k1 k2 y := by
  obtain ⟨o1, -, -, -, -, -, -, -, o9, o10, -, -⟩ := h
  rintro (z | z | z)
  · rcases hy with ⟨ci, h1, h2⟩ | ⟨ty, m, h1, h2⟩
    · exact g_neOO h1 o1 h2 z
    · exact g_neOA o1 h1 z.symm
  · rcases hy with ⟨ci, h1, h2⟩ | ⟨ty, m, h1, h2⟩
    · exact g_neOA h1 o9 z
    · subst z
      exact h2 (h1.fn o9).1 (h1.fn o9).2
  · rcases hy with ⟨ci, h1, h2⟩ | ⟨ty, m, h1, h2⟩
    · exact g_neOA h1 o10 z
    · subst z
      exact h2 (h1.fn o10).1 (h1.fn o10).2
theorem I_St.bk (h : I_St V x r b p1 f1 t1 a1 p2 f2 t2 a2 t k1 k2 n c e L M) (f : I_Fr x k1 k2 r M M1) : g_i M1 b = g_i M b :=
  (f.1.A h.2.2.2.2.2.1 h.2.2.1.1 (fun g => absurd g (by decide)) (h.1.no (Or.inr ⟨0, n, h.2.2.1.1, fun g => absurd g (by decide)⟩))).1
theorem p_W.I (ho : I_ob x r b p1 p2 t k1 k2 M) (hP : k_P M r b c e L) (f : I_Fr x k1 k2 r M M1) {q ff tt aa : Nat} {n2 : Int} {s : Nat} {st : List (List Int)} (h : p_W M q ff tt aa n2 s st) : p_W M1 q ff tt aa n2 s st := by
  obtain ⟨⟨s1, s2, s3, s4, s5, s6⟩, w2, w3, -⟩ := id h
  exact h.kS hP f.1 (ho.no (Or.inl ⟨5, s1, by decide⟩)) (ho.no (Or.inr ⟨1, 8, s4, fun _ => by decide⟩)) (ho.no (Or.inr ⟨1, 8, s5, fun _ => by decide⟩)) (ho.no (Or.inr ⟨0, n2, w3, fun g => absurd g (by decide)⟩))
theorem I_St.fr (h : I_St V x r b p1 f1 t1 a1 p2 f2 t2 a2 t k1 k2 n c e L M) (f : I_Fr x k1 k2 r M M1) (hP : k_P M1 r b c e L) : I_St V x r b p1 f1 t1 a1 p2 f2 t2 a2 t k1 k2 n c e L M1 := by
  have hb := h.bk f
  obtain ⟨s1, ⟨⟨n1, q1⟩, q2, q3, q4, q5, q6, q7⟩, ⟨s3, s4, s5⟩, s6, s7, s8, s9⟩ := h
  have h10 := f.2.1 10 (by decide) (by decide) (by decide)
  have ht := (f.1.O s8 s1.2.2.2.2.2.2.2.2.2.2.2 (by decide) (s1.no (Or.inl ⟨10, s1.2.2.2.2.2.2.2.2.2.2.2, by decide⟩))).1
  refine ⟨s1.fr f.1 f.2.2, ⟨⟨n1, q1.I s1 s8 f⟩, q2, by rw [h10]; exact q3, by rw [h10]; exact q4, fun st hst => ?_, q6, q7⟩, ⟨s3.up f.1.1, s4, by rw [hb]; exact s5⟩, by rw [ht]; exact s6, by rw [ht]; exact s7, hP, s9⟩
  obtain ⟨⟨n2, g1⟩, g2⟩ := q5 st hst
  exact ⟨⟨n2, g1.I s1 s8 f⟩, g2⟩
theorem c_entriesI {Q : Int → g_M → Prop} {nm : List Int} (hnm : nm.length ≤ 50) {dp : Int} {es : List b_E} (h : I_St V x r b p1 f1 t1 a1 p2 f2 t2 a2 t k1 k2 n c e L M) (hd : b_st (g_i M b) n dp 16 3 nm (b_doc es)) (hl : (b_doc es).length ≤ 2000) (hq : ∀ M1 K1 K2, I_Fr x k1 k2 r M M1 → I_St V x r b p1 f1 t1 a1 p2 f2 t2 a2 t k1 k2 n c e L M1 → g_i M1 x 7 = K1.length → g_i M1 x 8 = K2.length → K1.length ≤ 700 → K2.length ≤ 700 → I_kr k1 b n (I_key1 V es) K1 M1 → I_kr k2 b n (I_key2 V es) K2 M1 → Q (I_num V es) M1) : g_Call (d + 61) 69 [.ref x, g_n dp] M (g_qI Q) := by
  obtain ⟨s1, s2, ⟨s3, s4, s5⟩, s6, s7, s8, s9⟩ := id h
  refine c_entriesOf hnm s1 s2 s3 s4 s6 s7 s8 hd hl s5 s9 fun M1 K1 K2 g1 g2 g3 g4 g5 g6 g7 g8 g9 g10 => ?_
  have f : I_Fr x k1 k2 r M M1 := ⟨g1, g3, g4⟩
  exact hq M1 K1 K2 f (h.fr f g2) g5 g6 g7 g8 g9 g10
theorem I_num_R (V : I_V) (es : List b_E) (h1 : (I_key1 V es).length ≤ 700) (h2 : (I_key2 V es).length ≤ 700) : I_num V es ≤ 490000 := by
  unfold I_num
  split
  · omega
  · exact Nat.mul_le_mul h1 h2
theorem I_ds.fr {da : Nat} {ds : List (List b_E)} (h : I_St V x r b p1 f1 t1 a1 p2 f2 t2 a2 t k1 k2 n c e L M) (f : I_Fr x k1 k2 r M M1) {m : Int} (hA : g_A M da 1 m) (hm : m ≠ 700) (hk : ¬ k_n m) (hd : I_ds b da n ds M) : I_ds b da n ds M1 := by
  have hb := h.bk f
  have hda := (f.1.A h.2.2.2.2.2.1 hA (fun _ => hk) (h.1.no (Or.inr ⟨1, m, hA, fun _ => hm⟩))).1
  intro i es hi
  rw [hb, hda]
  exact hd i es hi
/-- whether the entries of all these documents together fit -/
theorem c_fitsAll {Q : Int → g_M → Prop} {da : Nat} {m : Int} {ds : List (List b_E)} (h : I_St V x r b p1 f1 t1 a1 p2 f2 t2 a2 t k1 k2 n c e L M) (h9 : g_i M x 9 = 1) (hA : g_A M da 1 m) (hm : m ≠ 700) (hk : ¬ k_n m) (hd : I_ds b da n ds M) (hmB : m ≤ 100000) (hlm : (ds.length : Int) ≤ m) (hq : ∀ M1, I_Fr x k1 k2 r M M1 → I_St V x r b p1 f1 t1 a1 p2 f2 t2 a2 t k1 k2 n c e L M1 → Q (if (ds.map (I_num V)).sum ≤ 1000 then 1 else 0) M1) : g_Call (d + 63) 67 [.ref x, .ref da, g_n ds.length] M (g_qI Q) := by
  have hmR := hA.len
  have hlp : ∀ (l2 l1 : List (List b_E)) (M1 : g_M), ds = l1 ++ l2 → I_Fr x k1 k2 r M M1 → I_St V x r b p1 f1 t1 a1 p2 f2 t2 a2 t k1 k2 n c e L M1 → (l1.map (I_num V)).sum ≤ 491000 → g_Run (d + 62) 67 5 [(0, .ref x), (1, .ref da), (2, g_n ds.length), (3, g_n (l1.map (I_num V)).sum), (4, g_n l1.length)] [] M1 (g_qI Q) := by
    intro l2
    induction l2 with
    | nil =>
      intro l1 M1 hl f hS hs
      rw [List.append_nil] at hl
      subst hl
      have h8 := hq M1 f hS
      refine s_X3_fitsAll_5 ⟨by omega, by omega⟩ ⟨by omega, by omega⟩ ⟨by omega, by omega⟩ fun _ => ⟨fun z => absurd z (by omega), fun _ => ⟨fun z => ?_, fun z => ?_⟩⟩
      · rwa [if_neg (by omega)] at h8
      · rwa [if_pos (by omega)] at h8
    | cons es l2 ih =>
      intro l1 M1 hl f hS hs
      have hlen := congrArg List.length hl
      rw [List.length_append, List.length_cons] at hlen
      have hsum : (ds.map (I_num V)).sum = (l1.map (I_num V)).sum + (I_num V es + (l2.map (I_num V)).sum) := by
        rw [hl, List.map_append, List.sum_append, List.map_cons, List.sum_cons]
      have hi : ds[l1.length]? = some es := by
        rw [hl, List.getElem?_append_right (Nat.le_refl _), Nat.sub_self]
        rfl
      obtain ⟨g1, g2⟩ := (hd.fr h f hA hm hk) l1.length es hi
      have h91 : g_i M1 x 9 = 1 := by rw [f.2.1 9 (by decide) (by decide) (by decide)]; exact h9
      refine s_X3_fitsAll_5 ⟨by omega, by omega⟩ ⟨by omega, by omega⟩ ⟨by omega, by omega⟩ fun _ => ⟨fun _ => ⟨m, hA.up f.1.1, ⟨by omega, by omega⟩, fun _ => ⟨hS.1.1, fun z => absurd (h91.symm.trans z) (by decide), fun _ => ⟨fun z => ⟨fun _ => ?_, fun z2 => absurd z z2⟩, fun z => ⟨⟨by omega, by omega⟩, ?_⟩⟩⟩, fun z => absurd (by omega) z⟩, fun z => absurd (by omega) z⟩
      · have h8 := hq M1 f hS
        rwa [if_neg (by omega)] at h8
      · refine c_entriesI (d := d + 1) (nm := []) (by decide) hS g1 g2 fun M2 K1 K2 f2 hS2 _ _ q1 q2 q3 q4 => ?_
        intro _ _ _
        have hn1 := I_num_R V es (by rw [← q3.2.2, List.length_map]; exact q1) (by rw [← q4.2.2, List.length_map]; exact q2)
        refine ⟨⟨by omega, by omega⟩, ⟨by omega, by omega⟩, ?_⟩
        have h8 := ih (l1 ++ [es]) M2 (by rw [hl]; simp) (f.tr f2) hS2 (by
          rw [List.map_append, List.sum_append, List.map_singleton, List.sum_singleton]
          omega)
        rw [List.map_append, List.sum_append, List.map_singleton, List.sum_singleton, List.length_append, List.length_singleton] at h8
        rwa [show (((l1.map (I_num V)).sum + I_num V es : Nat) : Int) = ((l1.map (I_num V)).sum : Nat) + (I_num V es : Nat) by omega, show ((l1.length + 1 : Nat) : Int) = (l1.length : Int) + 1 by omega] at h8
  refine m_X3_fitsAll ⟨by omega, by omega⟩ fun _ => ?_
  exact hlp ds [] M rfl I_Fr.rf h (Nat.zero_le _)
theorem c_fitsAllN {Q : Int → g_M → Prop} {da : Nat} {m : Int} {v : Nat} (hx : g_O M x 3) (h9 : g_i M x 9 = 0) (hA : g_A M da 1 m) (hmB : m ≤ 100000) (hlm : (v : Int) ≤ m) (hq : Q 1 M) : g_Call (d + 2) 67 [.ref x, .ref da, g_n v] M (g_qI Q) := by
  have hmR := hA.len
  refine m_X3_fitsAll ⟨by omega, by omega⟩ fun _ => s_X3_fitsAll_5 ⟨by omega, by omega⟩ ⟨by decide, by decide⟩ ⟨by decide, by decide⟩ fun _ => ⟨fun _ => ⟨m, hA, ⟨by omega, by omega⟩, fun _ => ⟨hx, fun _ => ⟨fun z => absurd z (by decide), fun _ => hq⟩, fun z => absurd h9 z⟩, fun _ => ⟨fun z => absurd z (by decide), fun _ => hq⟩⟩, fun _ => ⟨fun z => absurd z (by decide), fun _ => hq⟩⟩
theorem c_fitsAnother {Q : Int → g_M → Prop} {nm : List Int} (hnm : nm.length ≤ 50) {dp : Int} {es : List b_E} {k : Nat} (h : I_St V x r b p1 f1 t1 a1 p2 f2 t2 a2 t k1 k2 n c e L M) (h9 : g_i M x 9 = 1) (h15 : g_i M t 15 = k) (hk : k ≤ 1000) (hd : b_st (g_i M b) n dp 16 3 nm (b_doc es)) (hl : (b_doc es).length ≤ 2000) (hq : ∀ M1, I_Fr x k1 k2 r M M1 → I_St V x r b p1 f1 t1 a1 p2 f2 t2 a2 t k1 k2 n c e L M1 → Q (if k + I_num V es ≤ 1000 then 1 else 0) M1) : g_Call (d + 62) 68 [.ref x, g_n dp] M (g_qI Q) := by
  have hdR := hd.R h.2.2.1.2.1
  obtain ⟨o1, o2, o3, o4, o5, o6, o7, o8, o9, o10, o11, o12⟩ := id h.1
  refine m_X3_fitsAnother hdR fun _ => ⟨o1, fun z => absurd (h9.symm.trans z) (by decide), fun _ => ⟨t, o6, o12, ?_⟩⟩
  rw [h15]
  refine c_entriesI (d := d) hnm h hd hl fun M1 K1 K2 f hS _ _ q1 q2 q3 q4 => ?_
  intro _ _ _
  have hn1 := I_num_R V es (by rw [← q3.2.2, List.length_map]; exact q1) (by rw [← q4.2.2, List.length_map]; exact q2)
  have h8 := hq M1 f hS
  refine ⟨⟨by omega, by omega⟩, fun z => ?_, fun z => ?_⟩
  · rwa [if_neg (by omega)] at h8
  · rwa [if_pos (by omega)] at h8
theorem c_fitsAnotherN {Q : Int → g_M → Prop} {v : Int} (hv : g_InR v) (hx : g_O M x 3) (h9 : g_i M x 9 = 0) (hq : Q 1 M) : g_Call (d + 1) 68 [.ref x, g_n v] M (g_qI Q) := by
  refine m_X3_fitsAnother hv fun _ => ⟨hx, fun _ => hq, fun z => absurd h9 z⟩
end FITS
