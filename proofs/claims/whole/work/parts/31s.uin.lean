/-! REQUESTS, THE REFERENCE: update; the new entries come, the answer -/
section EUP5
variable {m d : Nat} {ρ : Nat → Nat} {M M1 : g_M} {st : Nat → I_T} {q : Nat → List (Nat × Int × List b_E)} {v : Nat → Int}
theorem R_MF_75 (h : E_bk m ρ M) {x : Nat} {k : Int} : ¬ R_MF m ρ x (ρ 75) k := fun z => by
  rcases z with z | ⟨z, -⟩
  · exact E_le_n h (by decide) (by decide) z
  · exact h.ne (k := 75) (k2 := 39) (by decide) (by decide) (by decide) z
theorem e_comeU {Q : Int → g_M → Prop} {w : Nat} {zs : List Q_z} {v1 v3 v4 v5 v6 v8 : Int} (h : E_H m ρ st q v M) (hS : E_S m (ρ 0) (ρ 9) (g_i M (ρ 0)) M []) (h40 : g_i M m 40 = 0 ∨ g_i M m 40 = 1) (hw : w < 2) (hzs : q w = zs.map fun z => z.2) (t75 : ∀ (i : Nat) (z : Q_z), zs[i]? = some z → g_i M (ρ 75) i = if z.1 = true then 1 else 0) (h0n : ∀ z ∈ q w, 0 ≤ z.2.1) (hcan : ∀ x, 4 * w ≤ x → x < 4 * w + 4 → ∀ V T m1 m2, st x = some (V, T, m1, m2) → I_vok V ∧ N_good (I_c V.1 V.2.1) T ∧ I_can V T (I_mk V (Q_3 zs))) (h1 : g_InR v1) (h3 : g_InR v3) (h4 : g_InR v4) (h5 : g_InR v5) (h6 : g_InR v6) (h8 : g_InR v8) (hq : ∀ M1 M2, E_k m M M1 → E_S m (ρ 0) (ρ 9) (g_i M1 (ρ 0)) M1 [] → (g_i M1 m 40 = 0 ∨ g_i M1 m 40 = 1) → E_H m ρ (I_lp (I_inn (Q_3 zs)) w st (4 * w + 4)) q v M1 → e_fr (A_L m (ρ 0)) M1 M2 → e_Wr m (ρ 0) 2598000 2606000 (A_doc (b_el 16 (b_tx 128) (b_le4 v5) ++ b_el 16 (b_tx 138) (b_le4 v8))) M2 → (g_i M2 m 6 = 0 → Q 1 M2) ∧ (¬ g_i M2 m 6 = 0 → Q 0 (g_wi (g_wi M2 m 7 40) m 8 (-1)))) : g_Run (d + 72) 420 589 [(0, .ref m), (1, g_n v1), (2, g_n w), (3, g_n v3), (4, g_n v4), (5, g_n v5), (6, g_n v6), (7, g_n 0), (8, g_n v8), (9, g_n 1), (10, g_n 0)] [] M (g_qI Q) := by
  have hB := h.1
  have hs := h.2.2.2.2 w hw
  obtain ⟨⟨s1, s2, s3, s4⟩, s5, s6, s7, s8⟩ := id hs
  have hwR : g_InR (w : Int) := ⟨by omega, by omega⟩
  have hlz : (q w).length = zs.length := by rw [hzs, List.length_map]
  have hl200 := s8.1
  rw [List.length_map] at hl200
  have hdoc : ∀ z ∈ zs, (b_doc z.2.2.2).length ≤ 2000 ∧ X_gd 15 z.2.2.2 := fun z hz => s8.2.2 z.2.2.2 (List.mem_map.mpr ⟨z.2, by rw [hzs]; exact List.mem_map.mpr ⟨z, hz, rfl⟩, rfl⟩)
  have hlp1 : ∀ (B A : List Q_z) (M' : g_M), zs = A ++ B → E_k m M M' → E_S m (ρ 0) (ρ 9) (g_i M' (ρ 0)) M' [] → (g_i M' m 40 = 0 ∨ g_i M' m 40 = 1) → E_H m ρ (I_lp (I_inn (Q_3 A)) w st (4 * w + 4)) q v M' → (∀ k, g_i M' (ρ 75) k = g_i M (ρ 75) k) → g_Run (d + 72) 420 589 [(0, .ref m), (1, g_n v1), (2, g_n w), (3, g_n v3), (4, g_n v4), (5, g_n v5), (6, g_n v6), (7, g_n 0), (8, g_n v8), (9, g_n 1), (10, g_n A.length)] [] M' (g_qI Q) := by
    intro B
    induction B with
    | nil =>
      intro A M' hz K' S' c' H' e75
      rw [List.append_nil] at hz
      subst hz
      have hB' := H'.1
      have b68' := hB'.at (k := 68) (by decide)
      have b68A' : g_A M' (ρ 68) 1 2 := b68'.2
      have t68 : g_i M' (ρ 68) w = zs.length := by rw [(H'.2.2.2.2 w hw).1.2.1, hlz]
      refine s_X12_update_589 h1 hwR h3 h4 h5 h6 ⟨by decide, by decide⟩ h8 ⟨by decide, by decide⟩ ⟨by omega, by omega⟩ fun _ => ⟨hB'.1, ρ 68, b68'.1, 2, b68A', ⟨by omega, by omega⟩, fun z => absurd z (by rw [t68]; omega), fun _ => e_beginAnswer (d := d + 68) hB'.R fun M7 f7 W7 h77 => ?_⟩
      intro _ _
      refine e_putNumber (d := d + 68) (j := 128) (by decide) W7 h5 fun M10 f10 W10 => ?_
      intro _ _
      refine e_putNumber (d := d + 68) (j := 138) (by decide) W10 h8 fun M13 f13 W13 => ?_
      intro _ _
      rw [List.append_assoc] at W13
      have hm0 : ∀ {M2 M3 : g_M}, e_fr (e_WL m (ρ 0) 2598000 2606000) M2 M3 → g_i M3 m 77 = g_i M2 m 77 := fun f => f.2.1 m 77 fun z => by
        rcases z with ⟨-, z⟩ | ⟨z, -⟩
        · omega
        · exact hB'.nm (k := 0) (by decide) z.symm
      refine e_endAnswer (d := d + 69) W13 ?_ fun M16 f16 W16 => ?_
      · rw [hm0 f13, hm0 f10]
        exact h77
      · have hfin := hq M' M16 K' S' c' H' (f7.tr ((f10.up fun y k z => A_L.w z).tr ((f13.up fun y k z => A_L.w z).tr f16))) W16
        exact ⟨fun z => by
          intro _ _ _
          exact ⟨Or.inr rfl, hfin.1 z⟩, fun z => by
          intro _ _ _
          exact ⟨Or.inl rfl, hfin.2 z⟩⟩
    | cons z B ih =>
      intro A M' hz K' S' c' H' e75
      have hll := congrArg List.length hz
      rw [List.length_append, List.length_cons] at hll
      have hB' := H'.1
      have hzi : zs[A.length]? = some z := by
        rw [hz, List.getElem?_append_right (Nat.le_refl _), Nat.sub_self]
        rfl
      have hzm : z ∈ zs := by rw [hz]; simp
      have hqi : (q w)[A.length]? = some z.2 := by rw [hzs, List.getElem?_map, hzi]; rfl
      obtain ⟨zl, zg⟩ := hdoc z hzm
      have hA1 : (A.length : Int) + 1 = ((A ++ [z]).length : Int) := by rw [List.length_append, List.length_singleton]; omega
      have hzA : zs = (A ++ [z]) ++ B := by rw [hz]; simp
      have h3A : Q_3 (A ++ [z]) = Q_3 A ++ [(z.1, z.2.2)] := List.map_append
      have b68' := hB'.at (k := 68) (by decide)
      have b68A' : g_A M' (ρ 68) 1 2 := b68'.2
      have t68 : g_i M' (ρ 68) w = zs.length := by rw [(H'.2.2.2.2 w hw).1.2.1, hlz]
      refine s_X12_update_589 h1 hwR h3 h4 h5 h6 ⟨by decide, by decide⟩ h8 ⟨by decide, by decide⟩ ⟨by omega, by omega⟩ fun _ => ⟨hB'.1, ρ 68, b68'.1, 2, b68A', ⟨by omega, by omega⟩, fun _ => ⟨⟨by omega, by omega⟩, ?_⟩, fun z => absurd (by rw [t68]; omega) z⟩
      have hin : ∀ (r x : Nat) (M3 : g_M), x + r = 4 * w + 4 → 4 * w ≤ x → E_k m M M3 → E_S m (ρ 0) (ρ 9) (g_i M3 (ρ 0)) M3 [] → (g_i M3 m 40 = 0 ∨ g_i M3 m 40 = 1) → E_H m ρ (I_lp (fun t => if z.1 = true then I_add1 z.2.2.2 z.2.2.1 t else t) w (I_lp (I_inn (Q_3 A)) w st (4 * w + 4)) x) q v M3 → (∀ k, g_i M3 (ρ 75) k = g_i M (ρ 75) k) → g_Run (d + 72) 420 605 [(0, .ref m), (1, g_n v1), (2, g_n w), (3, g_n v3), (4, g_n v4), (5, g_n v5), (6, g_n v6), (7, g_n 0), (8, g_n v8), (9, g_n 1), (10, g_n A.length), (11, g_n x)] [] M3 (g_qI Q) := by
        intro r
        induction r with
        | zero =>
          intro x M3 hr hx K3 S3 c3 H3 e75
          have hx4 : x = 4 * w + 4 := by omega
          subst hx4
          refine s_X12_update_605 h1 hwR h3 h4 h5 h6 ⟨by decide, by decide⟩ h8 ⟨by decide, by decide⟩ ⟨by omega, by omega⟩ ⟨by omega, by omega⟩ fun _ => ⟨⟨by omega, by omega⟩, ⟨by omega, by omega⟩, fun z => absurd z (by omega), fun _ => ⟨⟨by omega, by omega⟩, ?_⟩⟩
          rw [hA1]
          exact ih (A ++ [z]) M3 hzA K3 S3 c3 (by
            have e1 : I_lp (fun t => if z.1 = true then I_add1 z.2.2.2 z.2.2.1 t else t) w (I_lp (I_inn (Q_3 A)) w st (4 * w + 4)) (4 * w + 4) = I_lp (I_inn (Q_3 (A ++ [z]))) w st (4 * w + 4) := by
              rw [I_lp_all]
              congr 1
              funext t
              rw [h3A, I_inn_snoc]
            rw [e1] at H3
            exact H3) e75
        | succ r ihr =>
          intro x M3 hr hx K3 S3 c3 H3 e75
          have hB3 := H3.1
          have hx8 : x < 8 := by omega
          have hix := H3.2.2.2.1 x hx8
          rw [I_lp_at, I_lp_in _ _ _ ⟨hx, by omega⟩] at hix
          obtain ⟨hth0, hth1⟩ := hix.there
          have b35' := hB3.at (k := 35) (by decide)
          have b35A' : g_A M3 (ρ 35) 2 8 := b35'.2
          have b75' := hB3.at (k := 75) (by decide)
          have b75A' : g_A M3 (ρ 75) 2 200 := b75'.2
          have hmz : g_i M3 (ρ 75) A.length = if z.1 = true then 1 else 0 := by
            rw [e75]
            exact t75 _ z hzi
          have hx1 : (x : Int) + 1 = ((x + 1 : Nat) : Int) := by omega
          have hT : ∀ {M' : g_M}, E_bk m ρ M' → R_tb m (ρ 68) (ρ 71) M' := fun h' => ⟨(h'.at (k := 68) (by decide)).1, (h'.at (k := 68) (by decide)).2, (h'.at (k := 71) (by decide)).1, (h'.at (k := 71) (by decide)).2⟩
          refine s_X12_update_605 h1 hwR h3 h4 h5 h6 ⟨by decide, by decide⟩ h8 ⟨by decide, by decide⟩ ⟨by omega, by omega⟩ ⟨by omega, by omega⟩ fun _ => ⟨⟨by omega, by omega⟩, ⟨by omega, by omega⟩, fun _ => ⟨hB3.1, ρ 75, b75'.1, 200, b75A', ⟨by omega, by omega⟩, ?_⟩, fun z => absurd (by omega) z⟩
          rw [hmz, hx1]
          by_cases g : z.1 = true
          · rw [if_pos g]
            refine ⟨fun z => absurd z (by decide), fun _ => ⟨ρ 35, b35'.1, 8, b35A', ⟨by omega, by omega⟩, ?_⟩⟩
            cases hst : st x with
            | none =>
              have hrn : I_inn (Q_3 A) (st x) = none := by rw [hst]; rfl
              rw [hth0 hrn]
              refine ⟨fun _ => ⟨⟨by omega, by omega⟩, ?_⟩, fun z => absurd rfl z⟩
              exact ihr (x + 1) M3 (by omega) (by omega) K3 S3 c3 (by
                rw [I_lp_n hx (by rw [I_lp_in _ _ _ ⟨hx, by omega⟩, hrn, if_pos g]; rfl)]
                exact H3) e75
            | some t =>
              obtain ⟨V, T, m1, m2⟩ := t
              have hrn : I_inn (Q_3 A) (st x) = some (V, I_in V (I_mk V (Q_3 A)) T, I_mn (I_key1 V) m1 (Q_3 A), I_mn (I_key2 V) m2 (Q_3 A)) := by rw [hst]; rfl
              rw [(hth1 _ _ _ _ hrn).1]
              obtain ⟨hvok, hTg, hcg⟩ := hcan x hx (by omega) V T m1 m2 hst
              have hmkz : I_mk V (Q_3 zs) = I_mk V (Q_3 A) ++ (I_ens V z.2.2.2 z.2.2.1 ++ I_mk V (Q_3 B)) := by
                have h1 : Q_3 zs = Q_3 A ++ (z.1, z.2.2) :: Q_3 B := by
                  rw [hz]
                  unfold Q_3
                  rw [List.map_append, List.map_cons]
                rw [h1, I_mk_app, I_mk_c, if_pos g]
              rw [hmkz] at hcg
              have hcz := (I_can.app hvok hTg hcg).1.pre
              obtain ⟨k1, k2, k3, k4, k5⟩ := (H3.2.2.2.2 w hw).2.2.1 A.length z.2 hqi
              refine ⟨fun z => absurd z (by decide), fun _ => e_doc1 (d := d + 71) (w := (w : Int)) (i := A.length) (s := z.2.1) hB3.R (hT hB3) (by omega) (by omega) k2 (by omega) (by omega) ?_⟩
              intro _ _ _
              refine e_mkX (d := d) (x := x) H3 S3 c3 hx8 (by rw [I_lp_at, I_lp_in _ _ _ ⟨hx, by omega⟩]; exact hrn) hvok ⟨k5, by omega, by omega, zg⟩ zl (Nat.zero_le _) fun M25 f25 S25 c25 H25 => ?_
              intro _ _
              have hB25 := H25.1
              obtain ⟨-, k2', k3', -, k5'⟩ := (H25.2.2.2.2 w hw).2.2.1 A.length z.2 hqi
              refine e_doc1 (d := d + 71) (w := (w : Int)) (i := A.length) (s := z.2.1) hB25.R (hT hB25) (by omega) (by omega) k2' (by omega) (by omega) ?_
              intro _ _ _
              have b72' := hB25.at (k := 72) (by decide)
              have b72A' : g_A M25 (ρ 72) 1 400 := b72'.2
              refine ⟨ρ 72, b72'.1, ⟨by omega, by omega⟩, ⟨by omega, by omega⟩, 400, b72A', ⟨by omega, by omega⟩, ?_⟩
              rw [k3']
              refine e_entX (d := d + 1) (x := x) H25 S25 c25 hx8 (if_pos rfl) ⟨k5', by omega, by omega, zg⟩ zl (Nat.zero_le _) (Or.inr rfl) ⟨fun z => absurd z (by decide), fun _ => hcz⟩ (h0n z.2 (by rw [hzs]; exact List.mem_map.mpr ⟨z, hzm, rfl⟩)) k4 fun M36 f36 S36 c36 H36 => ?_
              intro _ _
              refine ⟨⟨by omega, by omega⟩, ?_⟩
              exact ihr (x + 1) M36 (by omega) (by omega) ((K3.tr (f25.k (R_MF_k hB3 (Or.inl rfl)) (R_MF_k hB3 (Or.inr rfl)))).tr (f36.k (R_EF_k hB25 (Or.inl rfl)) (R_EF_k hB25 (Or.inr rfl)))) S36 c36 (by
                have e1 : I_lp (fun t => if z.1 = true then I_add1 z.2.2.2 z.2.2.1 t else t) w (I_lp (I_inn (Q_3 A)) w st (4 * w + 4)) (x + 1) = I_up (I_up (I_lp (fun t => if z.1 = true then I_add1 z.2.2.2 z.2.2.1 t else t) w (I_lp (I_inn (Q_3 A)) w st (4 * w + 4)) x) x (some (V, I_in V (I_mk V (Q_3 A)) T, if 1 < (I_key1 V z.2.2.2).length then 1 else I_mn (I_key1 V) m1 (Q_3 A), if 1 < (I_key2 V z.2.2.2).length then 1 else I_mn (I_key2 V) m2 (Q_3 A)))) x (some (V, I_io 1 V (I_ens V z.2.2.2 z.2.2.1) (I_in V (I_mk V (Q_3 A)) T), if 1 < (I_key1 V z.2.2.2).length then 1 else I_mn (I_key1 V) m1 (Q_3 A), if 1 < (I_key2 V z.2.2.2).length then 1 else I_mn (I_key2 V) m2 (Q_3 A))) := by
                  rw [I_lp_s _ _ _ hx, I_lp_in _ _ _ ⟨hx, by omega⟩, hrn, I_io_1 (by decide), if_pos g]
                  funext y
                  unfold I_up
                  by_cases gy : y = x
                  · rw [if_pos gy, if_pos gy]
                    rfl
                  · rw [if_neg gy, if_neg gy, if_neg gy]
                rw [e1]
                exact H36) fun k => by
                rw [f36.2.1 _ _ (R_EF_n hB25.rw (hB25.ne (k := 75) (k2 := 9) (by decide) (by decide) (by decide)) (hB25.nm (by decide)) (hB25.ne (k := 75) (k2 := 0) (by decide) (by decide) (by decide)) fun k2 hk2 => hB25.ne (k := 75) (by decide) (E_fs_bf k2 hk2).1 fun z => by rw [← z] at hk2; exact absurd hk2 (by decide)), f25.2.1 _ _ (R_MF_75 hB3)]
                exact e75 k
          · rw [if_neg g]
            refine ⟨fun _ => ⟨⟨by omega, by omega⟩, ?_⟩, fun z => absurd rfl z⟩
            exact ihr (x + 1) M3 (by omega) (by omega) K3 S3 c3 (by
              have e1 : I_lp (fun t => if z.1 = true then I_add1 z.2.2.2 z.2.2.1 t else t) w (I_lp (I_inn (Q_3 A)) w st (4 * w + 4)) (x + 1) = I_lp (fun t => if z.1 = true then I_add1 z.2.2.2 z.2.2.1 t else t) w (I_lp (I_inn (Q_3 A)) w st (4 * w + 4)) x := I_lp_n hx (if_neg g)
              rw [e1]
              exact H3) e75
      have h9 := hin 4 (4 * w) M' rfl (Nat.le_refl _) K' S' c' (by rw [I_lp_0]; exact H') e75
      rwa [show ((4 * w : Nat) : Int) = 4 * (w : Int) by omega] at h9
  exact hlp1 zs [] M rfl (E_k.rf m M) hS h40 (by
    have e1 : I_lp (I_inn (Q_3 [])) w st (4 * w + 4) = st := I_lp_id w st fun t => I_inn_nil t
    rw [e1]
    exact h) fun _ => rfl
end EUP5
