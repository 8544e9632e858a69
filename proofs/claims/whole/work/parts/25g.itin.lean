/-! INDEX: the entries of marked documents come into the tree, class -/
/-- documents with their marks and numbers, as the rows of a shelf tell them -/
def I_sh (b sh oa nu hb : Nat) (n : Int) (zs : List (Bool × Int × List b_E)) (M : g_M) : Prop := (g_O M sh 8 ∧ g_i M sh 6 = zs.length ∧ g_r M sh 2 = some oa ∧ g_r M sh 3 = some nu) ∧ (g_A M oa 1 200 ∧ g_A M nu 1 200 ∧ g_A M hb 2 200) ∧ zs.length ≤ 200 ∧ ∀ (i : Nat) (z : Bool × Int × List b_E), zs[i]? = some z → b_st (g_i M b) n (g_i M oa i) 16 3 [] (b_doc z.2.2) ∧ (b_doc z.2.2).length ≤ 2000 ∧ g_i M nu i = z.2.1 ∧ g_InR z.2.1 ∧ g_i M hb i = (if z.1 = true then 1 else 0)
noncomputable def I_mk (V : I_V) (zs : List (Bool × Int × List b_E)) : List I_E := zs.flatMap fun z => if z.1 = true then I_ens V z.2.2 z.2.1 else []
noncomputable def I_in (V : I_V) (E : List I_E) (T : N_T I_E) : N_T I_E := E.foldl (fun T e => N_enter (I_c V.1 V.2.1) e T) T
theorem I_in_app (V : I_V) (E F : List I_E) (T : N_T I_E) : I_in V (E ++ F) T = I_in V F (I_in V E T) := List.foldl_append
noncomputable def I_mn (f : List b_E → List I_K) (m : Int) (zs : List (Bool × Int × List b_E)) : Int := if zs.any (fun z => z.1 && decide (1 < (f z.2.2).length)) = true then 1 else m
theorem I_mn_01 {f : List b_E → List I_K} {m : Int} (h : m = 0 ∨ m = 1) (zs : List (Bool × Int × List b_E)) : I_mn f m zs = 0 ∨ I_mn f m zs = 1 := by
  unfold I_mn
  split
  · exact Or.inr rfl
  · exact h
theorem I_mn_no (f : List b_E → List I_K) (m : Int) (zs : List (Bool × Int × List b_E)) {z : Bool × Int × List b_E} (hz : ¬ z.1 = true) : I_mn f m (zs ++ [z]) = I_mn f m zs := by
  unfold I_mn
  have h : z.1 = false := by
    cases h : z.1
    · rfl
    · exact absurd h hz
  rw [List.any_append, List.any_cons, List.any_nil, h, Bool.false_and, Bool.false_or, Bool.or_false]
theorem I_mn_yes (f : List b_E → List I_K) (m : Int) (zs : List (Bool × Int × List b_E)) {z : Bool × Int × List b_E} (hz : z.1 = true) : I_mn f m (zs ++ [z]) = if 1 < (f z.2.2).length then 1 else I_mn f m zs := by
  unfold I_mn
  rw [List.any_append, List.any_cons, List.any_nil, hz, Bool.true_and, Bool.or_false]
  by_cases h : 1 < (f z.2.2).length
  · rw [if_pos h, decide_eq_true h, Bool.or_true, if_pos rfl]
  · rw [if_neg h, decide_eq_false h, Bool.or_false]
/-- the entries can all come -/
def I_can (V : I_V) (T : N_T I_E) (E : List I_E) : Prop := (∀ e ∈ E, I_eg e) ∧ (∀ e ∈ E, ∀ x ∈ N_all T, I_c V.1 V.2.1 x e ≠ 0) ∧ E.Pairwise (fun a b => I_c V.1 V.2.1 a b ≠ 0) ∧ (N_all T).length + E.length ≤ 1000
theorem I_can.step {V : I_V} {T : N_T I_E} {e : I_E} {E : List I_E} (hw1 : I_w V.1) (hw2 : I_w V.2.1) (hT : N_good (I_c V.1 V.2.1) T) (h : I_can V T (e :: E)) : I_can V (N_enter (I_c V.1 V.2.1) e T) E := by
  obtain ⟨h1, h2, h3, h4⟩ := h
  obtain ⟨g1, g2⟩ := N_enter_ok (I_c_T hw1 hw2) hT (fun a ha => h2 e List.mem_cons_self a ha)
  obtain ⟨h5, h6⟩ := List.pairwise_cons.mp h3
  refine ⟨fun a ha => h1 a (List.mem_cons_of_mem _ ha), fun a ha y hy => ?_, h6, ?_⟩
  · rcases List.mem_cons.mp (g2.mem_iff.mp hy) with g | g
    · rw [g]
      exact h5 a ha
    · exact h2 a (List.mem_cons_of_mem _ ha) y g
  · rw [g2.length_eq, List.length_cons]
    rw [List.length_cons] at h4
    omega
section TAKESIN
variable {d x r b p1 f1 t1 a1 p2 f2 t2 a2 t k1 k2 j i sh oa nu hb : Nat} {c e n : Int} {L : List Int} {M M1 : g_M} {V : I_V} {Y : Nat → Prop} {T : N_T I_E} {zs : List (Bool × Int × List b_E)}
theorem C_tr.gd {w1 w2 : Int} (h : C_tr t w1 w2 T j i M) : N_good (I_c w1 w2) T ∧ g_i M t 15 = (N_all T).length := by
  obtain ⟨S, FS, FN, sg, hh, rt, l, ⟨hB, ha, -, ⟨-, -, h15, -⟩, hgd⟩, rfl⟩ := h
  refine ⟨hgd, ?_⟩
  rw [hB.2.1 15, h15, V_ins_len]
/-- a field of the index that no contract speaks of -/
theorem I_Z.w (h : I_Z V Y x r b p1 f1 t1 a1 p2 f2 t2 a2 t k1 k2 n c e L T j i M) {k v : Int} (hk : k = 11 ∨ k = 12) (hM : M1 = g_wi M x k v) : I_Z V Y x r b p1 f1 t1 a1 p2 f2 t2 a2 t k1 k2 n c e L T j i M1 ∧ I_H x k1 k2 t r M M1 := by
  subst hM
  obtain ⟨⟨s1, ⟨⟨n1, q1⟩, q2, q3, q4, q5, q6, q7⟩, ⟨s3, s4, s5⟩, s6, s7, s8, s9⟩, hT0, hdj, y0⟩ := h
  have hxr : r ≠ x := g_neOO s8.1 s1.1 (by decide)
  have hff : k_F (fun y => y = x) r M (g_wi M x k v) := k_F.of (g_fr.wi k v rfl) hxr
  have hne : ∀ y q, y ≠ x → g_i (g_wi M x k v) y q = g_i M y q := fun y q hy => by rw [g_i_wi, if_neg (fun z => hy z.1)]
  have hex : g_ext M (g_wi M x k v) := hff.1
  have hxo : ¬ B_own t M x := hT0.t0.O s1.1 (by decide)
  obtain ⟨g1, g2⟩ := hT0.kF s8 hff (fun y hy => by rw [hy]; exact hxo)
  have hbx : b ≠ x := fun g => g_neOA s1.1 s3 g.symm
  have htx : t ≠ x := g_neOO s1.2.2.2.2.2.2.2.2.2.2.2 s1.1 (by decide)
  have hpx : ∀ {o ff tt aa : Nat} {m : Int} {st : List (List Int)}, p_W M o ff tt aa m 0 st → p_W (g_wi M x k v) o ff tt aa m 0 st := fun {o ff tt aa m st} g => by
    obtain ⟨⟨z1, z2, z3, z4, z5, z6⟩, w2, w3, -⟩ := id g
    exact g.sm hex ⟨funext fun q => hne _ q (g_neOO z1 s1.1 (by decide)), rfl⟩ (funext fun q => hne _ q (fun z => g_neOA s1.1 z4 z.symm)) (funext fun q => hne _ q (fun z => g_neOA s1.1 z5 z.symm)) (funext fun q => hne _ q (fun z => g_neOA s1.1 w3 z.symm))
  have hx10 : g_i (g_wi M x k v) x 10 = g_i M x 10 := by rw [g_i_wi, if_neg (fun z => by have := z.2; omega)]
  refine ⟨⟨⟨s1.fr hff rfl, ⟨⟨n1, hpx q1⟩, q2, by rw [hx10]; exact q3, by rw [hx10]; exact q4, fun st hst => ?_, q6, q7⟩, ⟨s3.up hex, s4, b_at_keep s5 fun q _ _ => hne b q hbx⟩, by rw [hne t 12 htx]; exact s6, by rw [hne t 13 htx]; exact s7, ?_, s9⟩, g1, fun y hy => ⟨(hdj y hy).1, fun z => (hdj y hy).2 ((g2 y).mp z)⟩, y0⟩, hff.up fun y z => Or.inl (Or.inl z), fun y hy => Or.inl ((g2 y).mp hy), fun q h7 h8 h11 h12 h13 => ?_, rfl⟩
  · obtain ⟨⟨m2, g1⟩, g2⟩ := q5 st hst
    exact ⟨⟨m2, hpx g1⟩, g2⟩
  · refine s8.of (g_fr.wi (S := fun q => q = x) k v rfl) hxr fun q m h1 _ z => ?_
    subst z
    exact g_neOA s1.1 h1 rfl
  · rw [g_i_wi, if_neg (fun z => by have := z.2; omega)]
theorem I_sh.fr (h : I_sh b sh oa nu hb n zs M) (hZ : I_Z V Y x r b p1 f1 t1 a1 p2 f2 t2 a2 t k1 k2 n c e L T j i M) (f : I_Fr x k1 k2 r M M1) : I_sh b sh oa nu hb n zs M1 := by
  obtain ⟨⟨h1, h2, h3, h4⟩, ⟨h5, h6, h7⟩, h8, h9⟩ := h
  have hb := hZ.1.bk f
  obtain ⟨s1, -, -, -, -, s8, -⟩ := hZ.1
  have e1 := f.1.O s8 h1 (by decide) (s1.no (Or.inl ⟨8, h1, by decide⟩))
  have e2 := f.1.A s8 h5 (fun _ z => by unfold k_n at z; omega) (s1.no (Or.inr ⟨1, 200, h5, fun _ => by decide⟩))
  have e3 := f.1.A s8 h6 (fun _ z => by unfold k_n at z; omega) (s1.no (Or.inr ⟨1, 200, h6, fun _ => by decide⟩))
  have e4 := f.1.A s8 h7 (fun z => absurd z (by decide)) (s1.no (Or.inr ⟨2, 200, h7, fun z => absurd z (by decide)⟩))
  refine ⟨⟨h1.up f.1.1, by rw [e1.1]; exact h2, by rw [e1.2]; exact h3, by rw [e1.2]; exact h4⟩, ⟨h5.up f.1.1, h6.up f.1.1, h7.up f.1.1⟩, h8, fun q z hq => ?_⟩
  rw [hb, e2.1, e3.1, e4.1]
  exact h9 q z hq
theorem I_sh.go (h : I_sh b sh oa nu hb n zs M) (hx : g_ext M M1) (hY : ∀ y, Y y → g_i M1 y = g_i M y ∧ g_r M1 y = g_r M y) (hO : ∀ y ci, g_O M y ci → ci ≠ 10 → g_i M1 y = g_i M y ∧ g_r M1 y = g_r M y) (y0 : Y b) (y1 : Y oa) (y2 : Y nu) (y3 : Y hb) : I_sh b sh oa nu hb n zs M1 := by
  obtain ⟨⟨h1, h2, h3, h4⟩, ⟨h5, h6, h7⟩, h8, h9⟩ := h
  have e1 := hO sh 8 h1 (by decide)
  refine ⟨⟨h1.up hx, by rw [e1.1]; exact h2, by rw [e1.2]; exact h3, by rw [e1.2]; exact h4⟩, ⟨h5.up hx, h6.up hx, h7.up hx⟩, h8, fun q z hq => ?_⟩
  rw [(hY b y0).1, (hY oa y1).1, (hY nu y2).1, (hY _ y3).1]
  exact h9 q z hq
theorem I_sh.w (h : I_sh b sh oa nu hb n zs M) (hx : g_O M x 3) (hA : g_A M b 0 n) {k v : Int} (hM : M1 = g_wi M x k v) : I_sh b sh oa nu hb n zs M1 := by
  subst hM
  obtain ⟨⟨h1, h2, h3, h4⟩, ⟨h5, h6, h7⟩, h8, h9⟩ := h
  have hne : ∀ y, y ≠ x → g_i (g_wi M x k v) y = g_i M y := fun y hy => funext fun q => by rw [g_i_wi, if_neg (fun z => hy z.1)]
  refine ⟨⟨h1, by rw [hne sh (g_neOO h1 hx (by decide))]; exact h2, h3, h4⟩, ⟨h5, h6, h7⟩, h8, fun q z hq => ?_⟩
  rw [hne b (fun g => g_neOA hx hA g.symm), hne oa (fun g => g_neOA hx h5 g.symm), hne nu (fun g => g_neOA hx h6 g.symm), hne _ (fun g => g_neOA hx h7 g.symm)]
  exact h9 q z hq
theorem c_takesIn {Q : g_M → Prop} {m1 m2 : Int} (hZ : I_Z V Y x r b p1 f1 t1 a1 p2 f2 t2 a2 t k1 k2 n c e L T j i M) (h9 : g_i M x 9 = 1) (hsh : I_sh b sh oa nu hb n zs M) (hsY : Y oa ∧ Y nu ∧ Y hb) (h11 : g_i M x 11 = m1) (h12 : g_i M x 12 = m2) (hm1 : m1 = 0 ∨ m1 = 1) (hm2 : m2 = 0 ∨ m2 = 1) (hcan : I_can V T (I_mk V zs)) (hq : ∀ M1 j1 i1, I_Z V Y x r b p1 f1 t1 a1 p2 f2 t2 a2 t k1 k2 n c e L (I_in V (I_mk V zs) T) j1 i1 M1 → I_H x k1 k2 t r M M1 → I_sh b sh oa nu hb n zs M1 → g_i M1 x 11 = I_mn (I_key1 V) m1 zs → g_i M1 x 12 = I_mn (I_key2 V) m2 zs → Q M1) : g_Call (d + 62) 72 [.ref x, .ref sh, .ref hb] M (g_qV Q) := by
  obtain ⟨sY1, sY2, sY3⟩ := hsY
  have hn := hZ.1.2.2.1.2.1
  have hw1 : I_w V.1 := hZ.1.2.1.2.2.2.2.2.1
  have hw2 : I_w V.2.1 := hZ.1.2.1.2.2.2.2.2.2
  have hlp : ∀ (zs2 zs1 : List (Bool × Int × List b_E)) (T1 : N_T I_E) (j1 i1 : Nat) (M1 : g_M), zs = zs1 ++ zs2 → I_Z V Y x r b p1 f1 t1 a1 p2 f2 t2 a2 t k1 k2 n c e L T1 j1 i1 M1 → I_H x k1 k2 t r M M1 → I_sh b sh oa nu hb n zs M1 → g_i M1 x 11 = I_mn (I_key1 V) m1 zs1 → g_i M1 x 12 = I_mn (I_key2 V) m2 zs1 → I_can V T1 (I_mk V zs2) → I_in V (I_mk V zs2) T1 = I_in V (I_mk V zs) T → g_Run (d + 61) 72 2 [(0, .ref x), (1, .ref sh), (2, .ref hb), (3, g_n zs1.length)] [] M1 (g_qV Q) := by
    intro zs2
    induction zs2 with
    | nil =>
      intro zs1 T1 j1 i1 M1 hz hZ1 hH hs1 g11 g12 _ hT
      rw [List.append_nil] at hz
      subst hz
      have hT : T1 = _ := hT
      rw [hT] at hZ1
      have hl := hs1.2.2.1
      exact s_X3_takesIn_2 ⟨by omega, by omega⟩ fun _ => ⟨hs1.1.1, fun z => absurd z (by rw [hs1.1.2.1]; omega), fun _ => hq M1 j1 i1 hZ1 hH hs1 g11 g12⟩
    | cons z zs2 ih =>
      intro zs1 T1 j1 i1 M1 hz hZ1 hH hs1 g11 g12 hcan1 hT
      have hlen := congrArg List.length hz
      rw [List.length_append, List.length_cons] at hlen
      have hi : zs[zs1.length]? = some z := by
        rw [hz, List.getElem?_append_right (Nat.le_refl _), Nat.sub_self]
        rfl
      obtain ⟨⟨u1, u2, u3, u4⟩, ⟨u5, u6, u7⟩, u8, u9⟩ := id hs1
      obtain ⟨z1, z2, z3, z4, z5⟩ := u9 _ z hi
      have h91 : g_i M1 x 9 = 1 := by rw [hH.2.2.1 9 (by decide) (by decide) (by decide) (by decide) (by decide)]; exact h9
      have hz9 : zs = (zs1 ++ [z]) ++ zs2 := by rw [hz]; simp
      have hc1 : ((zs1.length : Int) + 1) = ((zs1 ++ [z]).length : Nat) := by rw [List.length_append, List.length_singleton]; omega
      have hmk : I_mk V (z :: zs2) = (if z.1 = true then I_ens V z.2.2 z.2.1 else []) ++ I_mk V zs2 := List.flatMap_cons
      rw [hmk] at hcan1 hT
      refine s_X3_takesIn_2 ⟨by omega, by omega⟩ fun _ => ⟨u1, fun _ => ⟨200, u7, ⟨by decide, by decide⟩, fun _ => ⟨hZ1.1.1.1, fun g => absurd (h91.symm.trans g) (by decide), fun _ => ⟨⟨by omega, by omega⟩, fun g => ?_, fun g => ?_⟩⟩, fun g => absurd (by omega) g⟩, fun g => absurd (by rw [u2]; omega) g⟩
      · rw [z5] at g
        have hz1 : ¬ z.1 = true := fun h => by rw [if_pos h] at g; omega
        rw [if_neg hz1, List.nil_append] at hcan1 hT
        refine ⟨⟨by omega, by omega⟩, ?_⟩
        rw [hc1]
        exact ih (zs1 ++ [z]) T1 j1 i1 M1 hz9 hZ1 hH hs1 (by rw [I_mn_no _ _ _ hz1]; exact g11) (by rw [I_mn_no _ _ _ hz1]; exact g12) hcan1 hT
      · rw [z5] at g
        have hz1 : z.1 = true := by
          by_cases h : z.1 = true
          · exact h
          · rw [if_neg h] at g
            exact absurd rfl g
        rw [if_pos hz1] at hcan1 hT
        refine ⟨oa, u3, 200, u5, ⟨by omega, by omega⟩, ?_⟩
        refine c_entriesI (d := d) (nm := []) (by decide) hZ1.1 z1 z2 fun M12 K1 K2 f12 hS12 q7 q8 ql1 ql2 qk1 qk2 => ?_
        intro _ _ _
        have hZ12 := hZ1.fr f12 hS12
        have hH12 := hH.tr (f12.H hZ1)
        have hs12 := hs1.fr hZ1 f12
        have e11 : g_i M12 x 11 = I_mn (I_key1 V) m1 zs1 := by rw [f12.2.1 11 (by decide) (by decide) (by decide)]; exact g11
        have e12 : g_i M12 x 12 = I_mn (I_key2 V) m2 zs1 := by rw [f12.2.1 12 (by decide) (by decide) (by decide)]; exact g12
        have hl1 : K1.length = (I_key1 V z.2.2).length := by rw [← qk1.2.2, List.length_map]
        have hl2 : K2.length = (I_key2 V z.2.2).length := by rw [← qk2.2.2, List.length_map]
        -- both loops over the keys
        have hen : I_ens V z.2.2 z.2.1 = K1.flatMap fun y1 => K2.map fun y2 => (I_zk y1, I_zk y2, z.2.1) := by
          unfold I_ens
          rw [← qk1.2.2, ← qk2.2.2, List.flatMap_map]
          congr 1
          funext y1
          rw [List.map_map]
          rfl
        have h94 : ∀ (l2 l1 : List (Int × b_E)) (T2 : N_T I_E) (j2 i2 : Nat) (M2 : g_M), K1 = l1 ++ l2 → I_Z V Y x r b p1 f1 t1 a1 p2 f2 t2 a2 t k1 k2 n c e L T2 j2 i2 M2 → I_H x k1 k2 t r M M2 → I_sh b sh oa nu hb n zs M2 → I_kr k1 b n (I_key1 V z.2.2) K1 M2 → I_kr k2 b n (I_key2 V z.2.2) K2 M2 → g_i M2 x 7 = K1.length → g_i M2 x 8 = K2.length → g_i M2 x 11 = I_mn (I_key1 V) m1 (zs1 ++ [z]) → g_i M2 x 12 = I_mn (I_key2 V) m2 (zs1 ++ [z]) → I_can V T2 ((l2.flatMap fun y1 => K2.map fun y2 => (I_zk y1, I_zk y2, z.2.1)) ++ I_mk V zs2) → I_in V ((l2.flatMap fun y1 => K2.map fun y2 => (I_zk y1, I_zk y2, z.2.1)) ++ I_mk V zs2) T2 = I_in V (I_mk V zs) T → g_Run (d + 61) 72 94 [(0, .ref x), (1, .ref sh), (2, .ref hb), (3, g_n zs1.length), (4, g_n l1.length)] [] M2 (g_qV Q) := by
          intro l2
          induction l2 with
          | nil =>
            intro l1 T2 j2 i2 M2 hK hZ2 hH2 hs2 _ _ r7 r8 r11 r12 hcan2 hT2
            rw [List.append_nil] at hK
            refine s_X3_takesIn_94 ⟨by omega, by omega⟩ ⟨by omega, by rw [← hK]; omega⟩ fun _ => ⟨hZ2.1.1.1, fun g => absurd g (by rw [r7, hK]; omega), fun _ => ⟨⟨by omega, by omega⟩, ?_⟩⟩
            rw [hc1]
            exact ih (zs1 ++ [z]) T2 j2 i2 M2 hz9 hZ2 hH2 hs2 r11 r12 hcan2 hT2
          | cons y1 l2 ih1 =>
            intro l1 T2 j2 i2 M2 hK hZ2 hH2 hs2 hk1 hk2 r7 r8 r11 r12 hcan2 hT2
            have hKl := congrArg List.length hK
            rw [List.length_append, List.length_cons] at hKl
            rw [List.flatMap_cons, List.append_assoc] at hcan2 hT2
            have hK9 : K1 = (l1 ++ [y1]) ++ l2 := by rw [hK]; simp
            have hc2 : ((l1.length : Int) + 1) = ((l1 ++ [y1]).length : Nat) := by rw [List.length_append, List.length_singleton]; omega
            have h106 : ∀ (v2 v1 : List (Int × b_E)) (T3 : N_T I_E) (j3 i3 : Nat) (M3 : g_M), K2 = v1 ++ v2 → I_Z V Y x r b p1 f1 t1 a1 p2 f2 t2 a2 t k1 k2 n c e L T3 j3 i3 M3 → I_H x k1 k2 t r M M3 → I_sh b sh oa nu hb n zs M3 → I_kr k1 b n (I_key1 V z.2.2) K1 M3 → I_kr k2 b n (I_key2 V z.2.2) K2 M3 → g_i M3 x 7 = K1.length → g_i M3 x 8 = K2.length → g_i M3 x 11 = I_mn (I_key1 V) m1 (zs1 ++ [z]) → g_i M3 x 12 = I_mn (I_key2 V) m2 (zs1 ++ [z]) → I_can V T3 ((v2.map fun y2 => (I_zk y1, I_zk y2, z.2.1)) ++ ((l2.flatMap fun y1 => K2.map fun y2 => (I_zk y1, I_zk y2, z.2.1)) ++ I_mk V zs2)) → I_in V ((v2.map fun y2 => (I_zk y1, I_zk y2, z.2.1)) ++ ((l2.flatMap fun y1 => K2.map fun y2 => (I_zk y1, I_zk y2, z.2.1)) ++ I_mk V zs2)) T3 = I_in V (I_mk V zs) T → g_Run (d + 61) 72 106 [(0, .ref x), (1, .ref sh), (2, .ref hb), (3, g_n zs1.length), (4, g_n l1.length), (5, g_n v1.length)] [] M3 (g_qV Q) := by
              intro v2
              induction v2 with
              | nil =>
                intro v1 T3 j3 i3 M3 hK2 hZ3 hH3 hs3 hk13 hk23 r73 r83 r113 r123 hcan3 hT3
                rw [List.append_nil] at hK2
                refine s_X3_takesIn_106 ⟨by omega, by omega⟩ ⟨by omega, by omega⟩ ⟨by omega, by rw [← hK2]; omega⟩ fun _ => ⟨hZ3.1.1.1, fun g => absurd g (by rw [r83, hK2]; omega), fun _ => ⟨⟨by omega, by omega⟩, ?_⟩⟩
                rw [hc2]
                exact ih1 (l1 ++ [y1]) T3 j3 i3 M3 hK9 hZ3 hH3 hs3 hk13 hk23 r73 r83 r113 r123 hcan3 hT3
              | cons y2 v2 ih2 =>
                intro v1 T3 j3 i3 M3 hK2 hZ3 hH3 hs3 hk13 hk23 r73 r83 r113 r123 hcan3 hT3
                have hK2l := congrArg List.length hK2
                rw [List.length_append, List.length_cons] at hK2l
                obtain ⟨o1, o2, o3, o4, o5, o6, o7, o8, o9, o10, o11, o12⟩ := id hZ3.1.1
                obtain ⟨⟨x1, x2, x3, x4⟩, ⟨x5, x6, x7⟩, x8, x9⟩ := id hs3
                obtain ⟨w1, w2, w3, w4, w5⟩ := x9 _ z hi
                have e1 : g_i M3 k1 l1.length = y1.1 := by
                  have := hk13.1 l1.length y1.1 (by rw [hK, List.map_append, List.getElem?_append_right (by rw [List.length_map]; omega), List.length_map, Nat.sub_self]; rfl)
                  rwa [Int.zero_add] at this
                have e2 : g_i M3 k2 v1.length = y2.1 := by
                  have := hk23.1 v1.length y2.1 (by rw [hK2, List.map_append, List.getElem?_append_right (by rw [List.length_map]; omega), List.length_map, Nat.sub_self]; rfl)
                  rwa [Int.zero_add] at this
                have hy1 := hk13.2.1 y1 (by rw [hK]; simp)
                have hy2 := hk23.2.1 y2 (by rw [hK2]; simp)
                refine s_X3_takesIn_106 ⟨by omega, by omega⟩ ⟨by omega, by omega⟩ ⟨by omega, by omega⟩ fun _ => ⟨o1, fun _ => ⟨t, o6, b, o3, k1, o7, 700, o9, ⟨by omega, by omega⟩, k2, o8, 700, o10, ⟨by omega, by omega⟩, x1, nu, x4, 200, x6, ⟨by omega, by omega⟩, o12, ?_⟩, fun g => absurd (by rw [r83]; omega) g⟩
                rw [e1, e2, w3]
                have hcan3' : I_can V T3 ((I_zk y1, I_zk y2, z.2.1) :: ((v2.map fun y2 => (I_zk y1, I_zk y2, z.2.1)) ++ ((l2.flatMap fun y1 => K2.map fun y2 => (I_zk y1, I_zk y2, z.2.1)) ++ I_mk V zs2))) := hcan3
                have hgd := hZ3.2.1.gd
                refine c_comes (d := d + 13) hZ3.2.1 hZ3.1.2.2.1.1 hn (hZ3.2.2.1 b hZ3.2.2.2.1).2 hy1.1 hy2.1 (hcan3'.1 _ List.mem_cons_self) ?_ (fun a ha => hcan3'.2.1 _ List.mem_cons_self a ha) fun j4 i4 M4 hT4 f4 => ?_
                · have := hcan3'.2.2.2
                  rw [List.length_cons] at this
                  omega
                · intro _ _
                  obtain ⟨hZ4, hH4, hY4, hO4⟩ := hZ3.go hT4 f4
                  have hx4 := hO4 x 3 o1 (by decide)
                  have hb4 := (hY4 b hZ3.2.2.2.1).1
                  refine ⟨⟨by omega, by omega⟩, ?_⟩
                  rw [show ((v1.length : Int) + 1) = ((v1 ++ [y2]).length : Nat) by rw [List.length_append, List.length_singleton]; omega]
                  exact ih2 (v1 ++ [y2]) _ j4 i4 M4 (by rw [hK2]; simp) hZ4 (hH3.tr hH4) (hs3.go f4.1.1 hY4 hO4 hZ3.2.2.2.1 sY1 sY2 sY3) ⟨by rw [(hY4 k1 hZ3.2.2.2.2.1).1]; exact hk13.1, by rw [hb4]; exact hk13.2.1, hk13.2.2⟩ ⟨by rw [(hY4 k2 hZ3.2.2.2.2.2.1).1]; exact hk23.1, by rw [hb4]; exact hk23.2.1, hk23.2.2⟩ (by rw [hx4.1]; exact r73) (by rw [hx4.1]; exact r83) (by rw [hx4.1]; exact r113) (by rw [hx4.1]; exact r123) (hcan3'.step hw1 hw2 hgd.1) hT3
            refine s_X3_takesIn_94 ⟨by omega, by omega⟩ ⟨by omega, by omega⟩ fun _ => ⟨hZ2.1.1.1, fun _ => ?_, fun g => absurd (by rw [r7]; omega) g⟩
            exact h106 K2 [] T2 j2 i2 M2 rfl hZ2 hH2 hs2 hk1 hk2 r7 r8 r11 r12 hcan2 hT2
        -- whether paths are many-keyed
        have h64 : ∀ w0 : Int, w0 = I_mn (I_key1 V) m1 (zs1 ++ [z]) → g_Run (d + 61) 72 64 [(0, .ref x), (1, .ref sh), (2, .ref hb), (3, g_n zs1.length)] [g_n w0, .ref x] M12 (g_qV Q) := by
          intro w0 hw0
          have hw01 := I_mn_01 (f := I_key1 V) hm1 (zs1 ++ [z])
          rw [← hw0] at hw01
          have hend : ∀ (M3 M4 : g_M) (v : Int), M3 = g_wi M12 x 11 w0 → v = I_mn (I_key2 V) m2 (zs1 ++ [z]) → M4 = g_wi M3 x 12 v → g_Run (d + 61) 72 94 [(0, .ref x), (1, .ref sh), (2, .ref hb), (3, g_n zs1.length), (4, g_n 0)] [] M4 (g_qV Q) := by
            intro M3 M4 v e3 hv e4
            obtain ⟨hZ3, hH3⟩ := hZ12.w (Or.inl rfl) e3
            obtain ⟨hZ4, hH4⟩ := hZ3.w (Or.inr rfl) e4
            have hs3 := hs12.w hZ12.1.1.1 hZ12.1.2.2.1.1 e3
            have hs4 := hs3.w hZ3.1.1.1 hZ3.1.2.2.1.1 e4
            have hbx : b ≠ x := fun g => g_neOA hZ12.1.1.1 hZ12.1.2.2.1.1 g.symm
            have hk1x : k1 ≠ x := fun g => g_neOA hZ12.1.1.1 hZ12.1.1.2.2.2.2.2.2.2.2.1 g.symm
            have hk2x : k2 ≠ x := fun g => g_neOA hZ12.1.1.1 hZ12.1.1.2.2.2.2.2.2.2.2.2.1 g.symm
            have hne : ∀ y, y ≠ x → g_i M4 y = g_i M12 y := fun y hy => funext fun q => by rw [e4, g_i_wi, if_neg (fun z => hy z.1), e3, g_i_wi, if_neg (fun z => hy z.1)]
            have hxe : ∀ q : Int, q ≠ 11 → q ≠ 12 → g_i M4 x q = g_i M12 x q := fun q h1 h2 => by rw [e4, g_i_wi, if_neg (fun z => h2 z.2), e3, g_i_wi, if_neg (fun z => h1 z.2)]
            exact h94 K1 [] T1 j1 i1 M4 rfl hZ4 ((hH12.tr hH3).tr hH4) hs4 ⟨by rw [hne k1 hk1x]; exact qk1.1, by rw [hne b hbx]; exact qk1.2.1, qk1.2.2⟩ ⟨by rw [hne k2 hk2x]; exact qk2.1, by rw [hne b hbx]; exact qk2.2.1, qk2.2.2⟩ (by rw [hxe 7 (by decide) (by decide)]; exact q7) (by rw [hxe 8 (by decide) (by decide)]; exact q8) (by rw [e4, g_i_wi, if_neg (fun z => absurd z.2 (by decide)), e3, g_i_wi, if_pos ⟨rfl, rfl⟩]; exact hw0) (by rw [e4, g_i_wi, if_pos ⟨rfl, rfl⟩]; exact hv) (by rw [← hen]; exact hcan1) (by rw [← hen]; exact hT)
          refine s_X3_takesIn_64 ⟨by omega, by omega⟩ ⟨by omega, by omega⟩ fun _ => ⟨hZ12.1.1.1, hw01, fun M3 e3 _ => ?_⟩
          have hx3 : ∀ q : Int, q ≠ 11 → g_i M3 x q = g_i M12 x q := fun q h1 => by rw [e3, g_i_wi, if_neg (fun z => h1 z.2)]
          have hO3 : g_O M3 x 3 := by rw [e3]; exact hZ12.1.1.1
          have hyes := I_mn_yes (I_key2 V) m2 zs1 hz1
          have h01 := I_mn_01 (f := I_key2 V) hm2 zs1
          refine ⟨hO3, fun g => ⟨fun g2 => fun M16 e16 _ => ?_, fun g2 => fun M16 e16 _ => ?_⟩, fun g => fun M16 e16 _ => ?_⟩
          · rw [hx3 8 (by decide), q8] at g2
            exact hend M3 M16 1 e3 (by rw [hyes, if_pos (by omega)]) e16
          · rw [hx3 8 (by decide), q8] at g2
            rw [hx3 12 (by decide), e12] at g
            exact hend M3 M16 0 e3 (by rw [hyes, if_neg (by omega), g]) e16
          · rw [hx3 12 (by decide), e12] at g
            refine hend M3 M16 1 e3 ?_ e16
            rw [hyes]
            split
            · rfl
            · omega
        have hyes := I_mn_yes (I_key1 V) m1 zs1 hz1
        have h01 := I_mn_01 (f := I_key1 V) hm1 zs1
        refine ⟨fun g => ⟨fun g2 => h64 1 ?_, fun g2 => h64 0 ?_⟩, fun g => h64 1 ?_⟩
        · rw [q7] at g2
          rw [hyes, if_pos (by omega)]
        · rw [q7] at g2
          rw [e11] at g
          rw [hyes, if_neg (by omega), g]
        · rw [e11] at g
          rw [hyes]
          split
          · rfl
          · omega
  refine m_X3_takesIn fun _ => ?_
  exact hlp zs [] T j i M rfl hZ I_H.rf hsh h11 h12 hcan rfl
theorem c_takesInN {Q : g_M → Prop} (hx : g_O M x 3) (h9 : g_i M x 9 = 0) (hsh : I_sh b sh oa nu hb n zs M) (hq : Q M) : g_Call (d + 2) 72 [.ref x, .ref sh, .ref hb] M (g_qV Q) := by
  refine m_X3_takesIn fun _ => s_X3_takesIn_2 ⟨by decide, by decide⟩ fun _ => ⟨hsh.1.1, fun _ => ⟨200, hsh.2.1.2.2, ⟨by decide, by decide⟩, fun _ => ⟨hx, fun _ => hq, fun z => absurd h9 z⟩, fun _ => hq⟩, fun _ => hq⟩
end TAKESIN
