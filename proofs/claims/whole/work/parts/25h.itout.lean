/-! INDEX: the entries of marked documents go out of the tree, class -/
noncomputable def I_out (V : I_V) (E : List I_E) (T : N_T I_E) : N_T I_E := E.foldl (fun T e => N_leave (I_c V.1 V.2.1) e T) T
/-- the entries can all go -/
def I_cgo (V : I_V) (T : N_T I_E) (E : List I_E) : Prop := (∀ e ∈ E, I_eg e) ∧ (∀ e ∈ E, ∃ x ∈ N_all T, I_c V.1 V.2.1 x e = 0) ∧ E.Pairwise (fun a b => I_c V.1 V.2.1 a b ≠ 0) ∧ (N_all T).length ≤ 1000
theorem I_cgo.step {V : I_V} {T : N_T I_E} {e : I_E} {E : List I_E} (hw1 : I_w V.1) (hw2 : I_w V.2.1) (hT : N_good (I_c V.1 V.2.1) T) (h : I_cgo V T (e :: E)) : I_cgo V (N_leave (I_c V.1 V.2.1) e T) E := by
  obtain ⟨h1, h2, h3, h4⟩ := h
  have hc := I_c_T hw1 hw2
  obtain ⟨g1, a, g2, g3⟩ := N_leave_ok hc hT (h2 e List.mem_cons_self)
  obtain ⟨h5, h6⟩ := List.pairwise_cons.mp h3
  refine ⟨fun a ha => h1 a (List.mem_cons_of_mem _ ha), fun e2 he2 => ?_, h6, ?_⟩
  · obtain ⟨y, hy, hy0⟩ := h2 e2 (List.mem_cons_of_mem _ he2)
    rcases List.mem_cons.mp (g3.mem_iff.mp hy) with g | g
    · exfalso
      subst g
      have s1 := hc.s y e
      have s2 := hc.s y e2
      have s3 := hc.s e e2
      have t1 := hc.t e y e2 (by omega) (by omega)
      have t2 := hc.t e2 y e (by omega) (by omega)
      exact h5 e2 he2 (by omega)
    · exact ⟨y, g, hy0⟩
  · have := g3.length_eq
    rw [List.length_cons] at this
    omega
section TAKESOUT
variable {d x r b p1 f1 t1 a1 p2 f2 t2 a2 t k1 k2 j i sh oa nu hb : Nat} {c e n : Int} {L : List Int} {M M1 : g_M} {V : I_V} {Y : Nat → Prop} {T : N_T I_E} {zs : List (Bool × Int × List b_E)}
theorem c_takesOut {Q : g_M → Prop} (hZ : I_Z V Y x r b p1 f1 t1 a1 p2 f2 t2 a2 t k1 k2 n c e L T j i M) (h9 : g_i M x 9 = 1) (hsh : I_sh b sh oa nu hb n zs M) (hsY : Y oa ∧ Y nu ∧ Y hb) (hcan : I_cgo V T (I_mk V zs)) (hq : ∀ M1 j1, I_Z V Y x r b p1 f1 t1 a1 p2 f2 t2 a2 t k1 k2 n c e L (I_out V (I_mk V zs) T) j1 i M1 → I_H x k1 k2 t r M M1 → I_sh b sh oa nu hb n zs M1 → g_i M1 x 11 = g_i M x 11 → g_i M1 x 12 = g_i M x 12 → Q M1) : g_Call (d + 62) 73 [.ref x, .ref sh, .ref hb] M (g_qV Q) := by
  obtain ⟨sY1, sY2, sY3⟩ := hsY
  have hn := hZ.1.2.2.1.2.1
  have hw1 : I_w V.1 := hZ.1.2.1.2.2.2.2.2.1
  have hw2 : I_w V.2.1 := hZ.1.2.1.2.2.2.2.2.2
  have hlp : ∀ (zs2 zs1 : List (Bool × Int × List b_E)) (T1 : N_T I_E) (j1 : Nat) (M1 : g_M), zs = zs1 ++ zs2 → I_Z V Y x r b p1 f1 t1 a1 p2 f2 t2 a2 t k1 k2 n c e L T1 j1 i M1 → I_H x k1 k2 t r M M1 → I_sh b sh oa nu hb n zs M1 → g_i M1 x 11 = g_i M x 11 → g_i M1 x 12 = g_i M x 12 → I_cgo V T1 (I_mk V zs2) → I_out V (I_mk V zs2) T1 = I_out V (I_mk V zs) T → g_Run (d + 61) 73 2 [(0, .ref x), (1, .ref sh), (2, .ref hb), (3, g_n zs1.length)] [] M1 (g_qV Q) := by
    intro zs2
    induction zs2 with
    | nil =>
      intro zs1 T1 j1 M1 hz hZ1 hH hs1 g11 g12 _ hT
      rw [List.append_nil] at hz
      subst hz
      have hT : T1 = _ := hT
      rw [hT] at hZ1
      have hl := hs1.2.2.1
      exact s_X3_takesOut_2 ⟨by omega, by omega⟩ fun _ => ⟨hs1.1.1, fun z => absurd z (by rw [hs1.1.2.1]; omega), fun _ => hq M1 j1 hZ1 hH hs1 g11 g12⟩
    | cons z zs2 ih =>
      intro zs1 T1 j1 M1 hz hZ1 hH hs1 g11 g12 hcan1 hT
      have hlen := congrArg List.length hz
      rw [List.length_append, List.length_cons] at hlen
      have hi : zs[zs1.length]? = some z := by
        rw [hz, List.getElem?_append_right (Nat.le_refl _), Nat.sub_self]
        rfl
      obtain ⟨⟨u1, u2, u3, u4⟩, ⟨u5, u6, u7⟩, u8, u9⟩ := id hs1
      obtain ⟨z1, z2, z3, z4, z5⟩ := u9 _ z hi
      have h91 : g_i M1 x 9 = 1 := by rw [hH.2.2.1 9 (by decide) (by decide) (by decide) (by decide) (by decide)]; exact h9
      have hz9 : zs = (zs1 ++ [z]) ++ zs2 := by rw [hz]; simp
      have hc1 : ((zs1.length : Int) + 1) = ((zs1 ++ [z]).length : Nat) := by rw [List.length_append, List.length_singleton]; omega
      have hmk : I_mk V (z :: zs2) = (if z.1 = true then I_ens V z.2.2 z.2.1 else []) ++ I_mk V zs2 := List.flatMap_cons
      rw [hmk] at hcan1 hT
      refine s_X3_takesOut_2 ⟨by omega, by omega⟩ fun _ => ⟨u1, fun _ => ⟨200, u7, ⟨by decide, by decide⟩, fun _ => ⟨hZ1.1.1.1, fun g => absurd (h91.symm.trans g) (by decide), fun _ => ⟨⟨by omega, by omega⟩, fun g => ?_, fun g => ?_⟩⟩, fun g => absurd (by omega) g⟩, fun g => absurd (by rw [u2]; omega) g⟩
      · rw [z5] at g
        have hz1 : ¬ z.1 = true := fun h => by rw [if_pos h] at g; omega
        rw [if_neg hz1, List.nil_append] at hcan1 hT
        refine ⟨⟨by omega, by omega⟩, ?_⟩
        rw [hc1]
        exact ih (zs1 ++ [z]) T1 j1 M1 hz9 hZ1 hH hs1 g11 g12 hcan1 hT
      · rw [z5] at g
        have hz1 : z.1 = true := by
          by_cases h : z.1 = true
          · exact h
          · rw [if_neg h] at g
            exact absurd rfl g
        rw [if_pos hz1] at hcan1 hT
        refine ⟨oa, u3, 200, u5, ⟨by omega, by omega⟩, ?_⟩
        refine c_entriesI (d := d) (nm := []) (by decide) hZ1.1 z1 z2 fun M12 K1 K2 f12 hS12 q7 q8 ql1 ql2 qk1 qk2 => ?_
        intro _ _ _
        have hZ12 := hZ1.fr f12 hS12
        have hH12 := hH.tr (f12.H hZ1)
        have hs12 := hs1.fr hZ1 f12
        have e11 : g_i M12 x 11 = g_i M x 11 := by rw [f12.2.1 11 (by decide) (by decide) (by decide)]; exact g11
        have e12 : g_i M12 x 12 = g_i M x 12 := by rw [f12.2.1 12 (by decide) (by decide) (by decide)]; exact g12
        have hl1 : K1.length = (I_key1 V z.2.2).length := by rw [← qk1.2.2, List.length_map]
        have hl2 : K2.length = (I_key2 V z.2.2).length := by rw [← qk2.2.2, List.length_map]
        -- both loops over the keys
        have hen : I_ens V z.2.2 z.2.1 = K1.flatMap fun y1 => K2.map fun y2 => (I_zk y1, I_zk y2, z.2.1) := by
          unfold I_ens
          rw [← qk1.2.2, ← qk2.2.2, List.flatMap_map]
          congr 1
          funext y1
          rw [List.map_map]
          rfl
        have h94 : ∀ (l2 l1 : List (Int × b_E)) (T2 : N_T I_E) (j2 : Nat) (M2 : g_M), K1 = l1 ++ l2 → I_Z V Y x r b p1 f1 t1 a1 p2 f2 t2 a2 t k1 k2 n c e L T2 j2 i M2 → I_H x k1 k2 t r M M2 → I_sh b sh oa nu hb n zs M2 → I_kr k1 b n (I_key1 V z.2.2) K1 M2 → I_kr k2 b n (I_key2 V z.2.2) K2 M2 → g_i M2 x 7 = K1.length → g_i M2 x 8 = K2.length → g_i M2 x 11 = g_i M x 11 → g_i M2 x 12 = g_i M x 12 → I_cgo V T2 ((l2.flatMap fun y1 => K2.map fun y2 => (I_zk y1, I_zk y2, z.2.1)) ++ I_mk V zs2) → I_out V ((l2.flatMap fun y1 => K2.map fun y2 => (I_zk y1, I_zk y2, z.2.1)) ++ I_mk V zs2) T2 = I_out V (I_mk V zs) T → g_Run (d + 61) 73 46 [(0, .ref x), (1, .ref sh), (2, .ref hb), (3, g_n zs1.length), (4, g_n l1.length)] [] M2 (g_qV Q) := by
          intro l2
          induction l2 with
          | nil =>
            intro l1 T2 j2 M2 hK hZ2 hH2 hs2 _ _ r7 r8 r11 r12 hcan2 hT2
            rw [List.append_nil] at hK
            refine s_X3_takesOut_46 ⟨by omega, by omega⟩ ⟨by omega, by rw [← hK]; omega⟩ fun _ => ⟨hZ2.1.1.1, fun g => absurd g (by rw [r7, hK]; omega), fun _ => ⟨⟨by omega, by omega⟩, ?_⟩⟩
            rw [hc1]
            exact ih (zs1 ++ [z]) T2 j2 M2 hz9 hZ2 hH2 hs2 r11 r12 hcan2 hT2
          | cons y1 l2 ih1 =>
            intro l1 T2 j2 M2 hK hZ2 hH2 hs2 hk1 hk2 r7 r8 r11 r12 hcan2 hT2
            have hKl := congrArg List.length hK
            rw [List.length_append, List.length_cons] at hKl
            rw [List.flatMap_cons, List.append_assoc] at hcan2 hT2
            have hK9 : K1 = (l1 ++ [y1]) ++ l2 := by rw [hK]; simp
            have hc2 : ((l1.length : Int) + 1) = ((l1 ++ [y1]).length : Nat) := by rw [List.length_append, List.length_singleton]; omega
            have h106 : ∀ (v2 v1 : List (Int × b_E)) (T3 : N_T I_E) (j3 : Nat) (M3 : g_M), K2 = v1 ++ v2 → I_Z V Y x r b p1 f1 t1 a1 p2 f2 t2 a2 t k1 k2 n c e L T3 j3 i M3 → I_H x k1 k2 t r M M3 → I_sh b sh oa nu hb n zs M3 → I_kr k1 b n (I_key1 V z.2.2) K1 M3 → I_kr k2 b n (I_key2 V z.2.2) K2 M3 → g_i M3 x 7 = K1.length → g_i M3 x 8 = K2.length → g_i M3 x 11 = g_i M x 11 → g_i M3 x 12 = g_i M x 12 → I_cgo V T3 ((v2.map fun y2 => (I_zk y1, I_zk y2, z.2.1)) ++ ((l2.flatMap fun y1 => K2.map fun y2 => (I_zk y1, I_zk y2, z.2.1)) ++ I_mk V zs2)) → I_out V ((v2.map fun y2 => (I_zk y1, I_zk y2, z.2.1)) ++ ((l2.flatMap fun y1 => K2.map fun y2 => (I_zk y1, I_zk y2, z.2.1)) ++ I_mk V zs2)) T3 = I_out V (I_mk V zs) T → g_Run (d + 61) 73 58 [(0, .ref x), (1, .ref sh), (2, .ref hb), (3, g_n zs1.length), (4, g_n l1.length), (5, g_n v1.length)] [] M3 (g_qV Q) := by
              intro v2
              induction v2 with
              | nil =>
                intro v1 T3 j3 M3 hK2 hZ3 hH3 hs3 hk13 hk23 r73 r83 r113 r123 hcan3 hT3
                rw [List.append_nil] at hK2
                refine s_X3_takesOut_58 ⟨by omega, by omega⟩ ⟨by omega, by omega⟩ ⟨by omega, by rw [← hK2]; omega⟩ fun _ => ⟨hZ3.1.1.1, fun g => absurd g (by rw [r83, hK2]; omega), fun _ => ⟨⟨by omega, by omega⟩, ?_⟩⟩
                rw [hc2]
                exact ih1 (l1 ++ [y1]) T3 j3 M3 hK9 hZ3 hH3 hs3 hk13 hk23 r73 r83 r113 r123 hcan3 hT3
              | cons y2 v2 ih2 =>
                intro v1 T3 j3 M3 hK2 hZ3 hH3 hs3 hk13 hk23 r73 r83 r113 r123 hcan3 hT3
                have hK2l := congrArg List.length hK2
                rw [List.length_append, List.length_cons] at hK2l
                obtain ⟨o1, o2, o3, o4, o5, o6, o7, o8, o9, o10, o11, o12⟩ := id hZ3.1.1
                obtain ⟨⟨x1, x2, x3, x4⟩, ⟨x5, x6, x7⟩, x8, x9⟩ := id hs3
                obtain ⟨w1, w2, w3, w4, w5⟩ := x9 _ z hi
                have e1 : g_i M3 k1 l1.length = y1.1 := by
                  have := hk13.1 l1.length y1.1 (by rw [hK, List.map_append, List.getElem?_append_right (by rw [List.length_map]; omega), List.length_map, Nat.sub_self]; rfl)
                  rwa [Int.zero_add] at this
                have e2 : g_i M3 k2 v1.length = y2.1 := by
                  have := hk23.1 v1.length y2.1 (by rw [hK2, List.map_append, List.getElem?_append_right (by rw [List.length_map]; omega), List.length_map, Nat.sub_self]; rfl)
                  rwa [Int.zero_add] at this
                have hy1 := hk13.2.1 y1 (by rw [hK]; simp)
                have hy2 := hk23.2.1 y2 (by rw [hK2]; simp)
                refine s_X3_takesOut_58 ⟨by omega, by omega⟩ ⟨by omega, by omega⟩ ⟨by omega, by omega⟩ fun _ => ⟨o1, fun _ => ⟨t, o6, b, o3, k1, o7, 700, o9, ⟨by omega, by omega⟩, k2, o8, 700, o10, ⟨by omega, by omega⟩, x1, nu, x4, 200, x6, ⟨by omega, by omega⟩, o12, ?_⟩, fun g => absurd (by rw [r83]; omega) g⟩
                rw [e1, e2, w3]
                have hcan3' : I_cgo V T3 ((I_zk y1, I_zk y2, z.2.1) :: ((v2.map fun y2 => (I_zk y1, I_zk y2, z.2.1)) ++ ((l2.flatMap fun y1 => K2.map fun y2 => (I_zk y1, I_zk y2, z.2.1)) ++ I_mk V zs2))) := hcan3
                have hgd := hZ3.2.1.gd
                refine c_goes (d := d + 13) hZ3.2.1 hZ3.1.2.2.1.1 hn (hZ3.2.2.1 b hZ3.2.2.2.1).2 hy1.1 hy2.1 (hcan3'.1 _ List.mem_cons_self) hcan3'.2.2.2 (hcan3'.2.1 _ List.mem_cons_self) fun j4 M4 hT4 f4 => ?_
                intro _ _
                obtain ⟨hZ4, hH4, hY4, hO4⟩ := hZ3.go hT4 f4
                have hx4 := hO4 x 3 o1 (by decide)
                have hb4 := (hY4 b hZ3.2.2.2.1).1
                refine ⟨⟨by omega, by omega⟩, ?_⟩
                rw [show ((v1.length : Int) + 1) = ((v1 ++ [y2]).length : Nat) by rw [List.length_append, List.length_singleton]; omega]
                exact ih2 (v1 ++ [y2]) _ j4 M4 (by rw [hK2]; simp) hZ4 (hH3.tr hH4) (hs3.go f4.1.1 hY4 hO4 hZ3.2.2.2.1 sY1 sY2 sY3) ⟨by rw [(hY4 k1 hZ3.2.2.2.2.1).1]; exact hk13.1, by rw [hb4]; exact hk13.2.1, hk13.2.2⟩ ⟨by rw [(hY4 k2 hZ3.2.2.2.2.2.1).1]; exact hk23.1, by rw [hb4]; exact hk23.2.1, hk23.2.2⟩ (by rw [hx4.1]; exact r73) (by rw [hx4.1]; exact r83) (by rw [hx4.1]; exact r113) (by rw [hx4.1]; exact r123) (hcan3'.step hw1 hw2 hgd.1) hT3
            refine s_X3_takesOut_46 ⟨by omega, by omega⟩ ⟨by omega, by omega⟩ fun _ => ⟨hZ2.1.1.1, fun _ => ?_, fun g => absurd (by rw [r7]; omega) g⟩
            exact h106 K2 [] T2 j2 M2 rfl hZ2 hH2 hs2 hk1 hk2 r7 r8 r11 r12 hcan2 hT2
        exact h94 K1 [] T1 j1 M12 rfl hZ12 hH12 hs12 qk1 qk2 q7 q8 e11 e12 (by rw [← hen]; exact hcan1) (by rw [← hen]; exact hT)
  refine m_X3_takesOut fun _ => ?_
  exact hlp zs [] T j M rfl hZ I_H.rf hsh rfl rfl hcan rfl
theorem c_takesOutN {Q : g_M → Prop} (hx : g_O M x 3) (h9 : g_i M x 9 = 0) (hsh : I_sh b sh oa nu hb n zs M) (hq : Q M) : g_Call (d + 2) 73 [.ref x, .ref sh, .ref hb] M (g_qV Q) := by
  refine m_X3_takesOut fun _ => s_X3_takesOut_2 ⟨by decide, by decide⟩ fun _ => ⟨hsh.1.1, fun _ => ⟨200, hsh.2.1.2.2, ⟨by decide, by decide⟩, fun _ => ⟨hx, fun _ => hq, fun z => absurd h9 z⟩, fun _ => hq⟩, fun _ => hq⟩
end TAKESOUT
