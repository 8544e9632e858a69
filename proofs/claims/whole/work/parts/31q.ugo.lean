/-! REQUESTS, THE REFERENCE: update; whether its indexes have room; the old entries go -/
section EUP3
variable {m d : Nat} {ρ : Nat → Nat} {M M1 : g_M} {st : Nat → I_T} {q : Nat → List (Nat × Int × List b_E)} {v : Nat → Int}
theorem e_fitU {Q : Int → g_M → Prop} {w : Nat} {v1 v3 v4 v5 v6 v8 v9 : Int} (h : E_H m ρ st q v M) (hw : w < 2) (h1 : g_InR v1) (h3 : g_InR v3) (h4 : g_InR v4) (h5 : g_InR v5) (h6 : g_InR v6) (h8 : g_InR v8) (h9 : v9 = 0 ∨ v9 = 1) (hno : ¬ (v9 = 1 ∧ ∀ x : Nat, 4 * w ≤ x → x < 4 * w + 4 → st x ≠ none → g_i M (ρ 76) x ≤ 1000) → Q 0 (g_wi (g_wi M m 7 40) m 8 (-1))) (hyes : (v9 = 1 ∧ ∀ x : Nat, 4 * w ≤ x → x < 4 * w + 4 → st x ≠ none → g_i M (ρ 76) x ≤ 1000) → ∀ M9, M9 = g_wi M (ρ 69) w v6 → g_Run (d + 72) 420 433 [(0, .ref m), (1, g_n v1), (2, g_n w), (3, g_n v3), (4, g_n v4), (5, g_n v5), (6, g_n v6), (7, g_n 0), (8, g_n v8), (9, g_n 1), (10, g_n 0)] [] M9 (g_qI Q)) : g_Run (d + 72) 420 360 [(0, .ref m), (1, g_n v1), (2, g_n w), (3, g_n v3), (4, g_n v4), (5, g_n v5), (6, g_n v6), (7, g_n 0), (8, g_n v8), (9, g_n v9), (10, g_n (4 * (w : Int)))] [] M (g_qI Q) := by
  have hB := h.1
  have hwR : g_InR (w : Int) := ⟨by omega, by omega⟩
  have b35 := hB.at (k := 35) (by decide)
  have b35A : g_A M (ρ 35) 2 8 := b35.2
  have b69 := hB.at (k := 69) (by decide)
  have b69A : g_A M (ρ 69) 1 2 := b69.2
  have b76 := hB.at (k := 76) (by decide)
  have b76A : g_A M (ρ 76) 1 8 := b76.2
  have hlp : ∀ (b n : Nat) (u : Int), n + b = 4 → (u = 0 ∨ u = 1) → (u = 1 ↔ (v9 = 1 ∧ ∀ x : Nat, 4 * w ≤ x → x < 4 * w + n → st x ≠ none → g_i M (ρ 76) x ≤ 1000)) → g_Run (d + 72) 420 360 [(0, .ref m), (1, g_n v1), (2, g_n w), (3, g_n v3), (4, g_n v4), (5, g_n v5), (6, g_n v6), (7, g_n 0), (8, g_n v8), (9, g_n u), (10, g_n ((4 * w + n : Nat) : Int))] [] M (g_qI Q) := by
    intro b
    induction b with
    | zero =>
      intro n u hn hu hiff
      have hn4 : n = 4 := by omega
      subst hn4
      refine s_X12_update_360 h1 hwR h3 h4 h5 h6 ⟨by decide, by decide⟩ h8 ⟨by omega, by omega⟩ ⟨by omega, by omega⟩ fun _ => ⟨⟨by omega, by omega⟩, ⟨by omega, by omega⟩, fun g => absurd g (by omega), fun _ => ⟨fun g => ⟨hB.1, ?_⟩, fun g => ⟨hB.1, ρ 69, b69.1, 2, b69A, ⟨by omega, by omega⟩, ?_⟩⟩⟩
      · refine m_X12_refuses ⟨by decide, by decide⟩ ⟨by decide, by decide⟩ fun _ => ⟨hB.1, fun M3 e3 _ M4 e4 _ => ?_⟩
        subst e3
        subst e4
        intro _ _ _
        exact ⟨Or.inl rfl, hno fun z => absurd (hiff.mpr z) (by omega)⟩
      · rintro M9 e9 _
        have hu1 : u = 1 := by omega
        rw [hu1]
        exact hyes (hiff.mp hu1) M9 e9
    | succ b ih =>
      intro n u hn hu hiff
      obtain ⟨x, hxe⟩ : ∃ x, x = 4 * w + n := ⟨_, rfl⟩
      have hx : x < 8 := by omega
      have hx1 : ((4 * w + n : Nat) : Int) + 1 = ((4 * w + (n + 1) : Nat) : Int) := by omega
      have hix := h.2.2.2.1 x hx
      refine s_X12_update_360 h1 hwR h3 h4 h5 h6 ⟨by decide, by decide⟩ h8 ⟨by omega, by omega⟩ ⟨by omega, by omega⟩ fun _ => ⟨⟨by omega, by omega⟩, ⟨by omega, by omega⟩, fun _ => ⟨hB.1, ρ 35, b35.1, 8, b35A, ⟨by omega, by omega⟩, ?_⟩, fun g => absurd (by omega) g⟩
      rw [← hxe]
      have hsp : ∀ P : Prop, (∀ x2 : Nat, 4 * w ≤ x2 → x2 < 4 * w + (n + 1) → st x2 ≠ none → g_i M (ρ 76) x2 ≤ 1000) ↔ ((∀ x2 : Nat, 4 * w ≤ x2 → x2 < 4 * w + n → st x2 ≠ none → g_i M (ρ 76) x2 ≤ 1000) ∧ (st x ≠ none → g_i M (ρ 76) x ≤ 1000)) := fun _ => ⟨fun z => ⟨fun x2 a1 a2 => z x2 a1 (by omega), fun a => z x (by omega) (by omega) a⟩, fun z x2 a1 a2 a3 => by
        by_cases g : x2 = x
        · rw [g] at a3 ⊢
          exact z.2 a3
        · exact z.1 x2 a1 (by omega) a3⟩
      have hsp := hsp True
      rcases hst : st x with _ | ⟨V, T, m1, m2⟩
      · rw [hst] at hix hsp
        rw [R_ix.no hix]
        refine ⟨fun _ => ⟨⟨by omega, by omega⟩, ?_⟩, fun g => absurd rfl g⟩
        rw [hxe, hx1, g_and_1 hu]
        refine ih (n + 1) u (by omega) hu ?_
        rw [hsp, hiff]
        exact ⟨fun z => ⟨z.1, z.2, fun a => absurd rfl a⟩, fun z => ⟨z.1, z.2.1⟩⟩
      · rw [hst] at hix hsp
        obtain ⟨e35, -⟩ := hix
        rw [e35]
        refine ⟨fun g => absurd g (by decide), fun _ => ⟨ρ 76, b76.1, 8, b76A, ⟨by omega, by omega⟩, fun g => ⟨⟨by omega, by omega⟩, ?_⟩, fun g => ⟨⟨by omega, by omega⟩, ?_⟩⟩⟩
        · rw [hxe, hx1, g_and_0 hu]
          refine ih (n + 1) 0 (by omega) (Or.inl rfl) ?_
          rw [hsp]
          exact ⟨fun z => absurd z (by decide), fun z => absurd (z.2.2 (by simp)) (by omega)⟩
        · rw [hxe, hx1, g_and_1 hu]
          refine ih (n + 1) u (by omega) hu ?_
          rw [hsp, hiff]
          exact ⟨fun z => ⟨z.1, z.2, fun _ => by omega⟩, fun z => ⟨z.1, z.2.1⟩⟩
  have h10 := hlp 4 0 v9 (by omega) h9 ⟨fun z => ⟨z, fun x a1 a2 => absurd a2 (by omega)⟩, fun z => z.1⟩
  have e0 : ((4 * w + 0 : Nat) : Int) = 4 * (w : Int) := by omega
  rw [e0] at h10
  exact h10
theorem e_goU {Q : Int → g_M → Prop} {w : Nat} {zs : List Q_z} {v1 v3 v4 v5 v6 v8 : Int} {M9 : g_M} (h : E_H m ρ st q v M) (f9 : e_fr (R_t1 m ρ w) M M9) (S9 : E_S m (ρ 0) (ρ 9) (g_i M9 (ρ 0)) M9 []) (c9 : g_i M9 m 40 = 0 ∨ g_i M9 m 40 = 1) (H9 : E_H0 m ρ st M9) (hw : w < 2) (hzs : q w = zs.map fun z => z.2) (hmt : ∀ (i : Nat) (z : Q_z), zs[i]? = some z → g_i M (ρ 75) i = if z.1 = true then 1 else 0) (hgd : H_gd (R_dn (q w))) (h0n : ∀ z ∈ q w, 0 ≤ z.2.1) (hok : ∀ x, 4 * w ≤ x → x < 4 * w + 4 → ∀ V T m1 m2, st x = some (V, T, m1, m2) → I_ok V (R_dn (q w)) T) (h1 : g_InR v1) (h3 : g_InR v3) (h4 : g_InR v4) (h5 : g_InR v5) (h6 : g_InR v6) (h8 : g_InR v8) (hq : ∀ M1, e_fr (R_t1 m ρ w) M M1 → E_S m (ρ 0) (ρ 9) (g_i M1 (ρ 0)) M1 [] → (g_i M1 m 40 = 0 ∨ g_i M1 m 40 = 1) → E_H0 m ρ (I_lp (I_rem (Q_3 zs)) w st (4 * w + 4)) M1 → (∀ k, g_i M1 (ρ 69) k = g_i M9 (ρ 69) k ∧ g_i M1 (ρ 73) k = g_i M9 (ρ 73) k) → g_Run (d + 72) 420 521 [(0, .ref m), (1, g_n v1), (2, g_n w), (3, g_n v3), (4, g_n v4), (5, g_n v5), (6, g_n v6), (7, g_n 0), (8, g_n v8), (9, g_n 1), (10, g_n 0)] [] M1 (g_qI Q)) : g_Run (d + 72) 420 433 [(0, .ref m), (1, g_n v1), (2, g_n w), (3, g_n v3), (4, g_n v4), (5, g_n v5), (6, g_n v6), (7, g_n 0), (8, g_n v8), (9, g_n 1), (10, g_n 0)] [] M9 (g_qI Q) := by
  have hB := h.1
  have hs := h.2.2.2.2 w hw
  obtain ⟨⟨s1, s2, s3, s4⟩, s5, s6, s7, s8⟩ := id hs
  have hwR : g_InR (w : Int) := ⟨by omega, by omega⟩
  have hlz : (q w).length = zs.length := by rw [hzs, List.length_map]
  have hl200 := s8.1
  rw [List.length_map] at hl200
  have hat : ∀ (i : Nat) (z : Q_z), zs[i]? = some z → (200 * w ≤ z.2.1 ∧ z.2.1 < 200 * w + 200) ∧ g_i M (ρ 71) (200 * w + i) = z.2.1 ∧ g_i M (ρ 72) (200 * w + i) = z.2.2.1 ∧ g_InR z.2.2.1 ∧ b_at (g_i M (ρ 0)) (2000 + 2000 * (z.2.1 : Int)) (b_doc z.2.2.2) := fun i z hi => s6 i z.2 (by rw [hzs, List.getElem?_map, hi]; rfl)
  have hdoc : ∀ z ∈ zs, (b_doc z.2.2.2).length ≤ 2000 ∧ X_gd 15 z.2.2.2 := fun z hz => s8.2.2 z.2.2.2 (List.mem_map.mpr ⟨z.2, by rw [hzs]; exact List.mem_map.mpr ⟨z, hz, rfl⟩, rfl⟩)
  have hcgo : ∀ x, 4 * w ≤ x → x < 4 * w + 4 → ∀ V T m1 m2, st x = some (V, T, m1, m2) → I_vok V ∧ N_good (I_c V.1 V.2.1) T ∧ I_cgo V T (I_mk V (Q_3 zs)) := fun x e1 e2 V T m1 m2 e => by
    have h1 := hok x e1 e2 V T m1 m2 e
    rw [hzs, ← Q_3_dn] at h1
    rw [hzs, ← Q_3_dn] at hgd
    exact ⟨h1.1, h1.2.1, (h1.out hgd).1⟩
  have hlp1 : ∀ (B A : List Q_z) (M' : g_M), zs = A ++ B → e_fr (R_t1 m ρ w) M M' → E_S m (ρ 0) (ρ 9) (g_i M' (ρ 0)) M' [] → (g_i M' m 40 = 0 ∨ g_i M' m 40 = 1) → E_H0 m ρ (I_lp (I_rem (Q_3 A)) w st (4 * w + 4)) M' → (∀ k, g_i M' (ρ 69) k = g_i M9 (ρ 69) k ∧ g_i M' (ρ 73) k = g_i M9 (ρ 73) k) → g_Run (d + 72) 420 433 [(0, .ref m), (1, g_n v1), (2, g_n w), (3, g_n v3), (4, g_n v4), (5, g_n v5), (6, g_n v6), (7, g_n 0), (8, g_n v8), (9, g_n 1), (10, g_n A.length)] [] M' (g_qI Q) := by
    intro B
    induction B with
    | nil =>
      intro A M' hz f' S' c' H' e69
      rw [List.append_nil] at hz
      subst hz
      have hB' := H'.1
      have b68' := hB'.at (k := 68) (by decide)
      have b68A' : g_A M' (ρ 68) 1 2 := b68'.2
      have t68 : g_i M' (ρ 68) w = zs.length := by
        rw [f'.2.1 _ _ (R_t1_n hB (by decide) (by decide) (by decide) (by decide) (by decide) (by decide)), s2, hlz]
      exact s_X12_update_433 h1 hwR h3 h4 h5 h6 ⟨by decide, by decide⟩ h8 ⟨by decide, by decide⟩ ⟨by omega, by omega⟩ fun _ => ⟨hB'.1, ρ 68, b68'.1, 2, b68A', ⟨by omega, by omega⟩, fun z => absurd z (by rw [t68]; omega), fun _ => hq M' f' S' c' H' e69⟩
    | cons z B ih =>
      intro A M' hz f' S' c' H' e69
      have hll := congrArg List.length hz
      rw [List.length_append, List.length_cons] at hll
      have hB' := H'.1
      have hzi : zs[A.length]? = some z := by
        rw [hz, List.getElem?_append_right (Nat.le_refl _), Nat.sub_self]
        rfl
      have hzm : z ∈ zs := by rw [hz]; simp
      obtain ⟨k1, k2, k3, k4, k5⟩ := hat _ z hzi
      obtain ⟨zl, zg⟩ := hdoc z hzm
      have hA1 : ((A ++ [z]).length : Int) = (A.length : Int) + 1 := by rw [List.length_append, List.length_singleton]; omega
      have hzA : zs = (A ++ [z]) ++ B := by rw [hz]; simp
      have h3A : Q_3 (A ++ [z]) = Q_3 A ++ [(z.1, z.2.2)] := List.map_append
      have b68' := hB'.at (k := 68) (by decide)
      have b68A' : g_A M' (ρ 68) 1 2 := b68'.2
      have t68 : g_i M' (ρ 68) w = zs.length := by
        rw [f'.2.1 _ _ (R_t1_n hB (by decide) (by decide) (by decide) (by decide) (by decide) (by decide)), s2, hlz]
      refine s_X12_update_433 h1 hwR h3 h4 h5 h6 ⟨by decide, by decide⟩ h8 ⟨by decide, by decide⟩ ⟨by omega, by omega⟩ fun _ => ⟨hB'.1, ρ 68, b68'.1, 2, b68A', ⟨by omega, by omega⟩, fun _ => ⟨⟨by omega, by omega⟩, ?_⟩, fun z => absurd (by rw [t68]; omega) z⟩
      -- index by index
      have hin : ∀ (r x : Nat) (M3 : g_M), x + r = 4 * w + 4 → 4 * w ≤ x → e_fr (R_t1 m ρ w) M M3 → E_S m (ρ 0) (ρ 9) (g_i M3 (ρ 0)) M3 [] → (g_i M3 m 40 = 0 ∨ g_i M3 m 40 = 1) → E_H0 m ρ (I_lp (fun t => if z.1 = true then I_rem1 z.2.2.1 z.2.2.2 t else t) w (I_lp (I_rem (Q_3 A)) w st (4 * w + 4)) x) M3 → (∀ k, g_i M3 (ρ 69) k = g_i M9 (ρ 69) k ∧ g_i M3 (ρ 73) k = g_i M9 (ρ 73) k) → g_Run (d + 72) 420 449 [(0, .ref m), (1, g_n v1), (2, g_n w), (3, g_n v3), (4, g_n v4), (5, g_n v5), (6, g_n v6), (7, g_n 0), (8, g_n v8), (9, g_n 1), (10, g_n A.length), (11, g_n x)] [] M3 (g_qI Q) := by
        intro r
        induction r with
        | zero =>
          intro x M3 hr hx f3 S3 c3 H3 e69
          have hx4 : x = 4 * w + 4 := by omega
          subst hx4
          refine s_X12_update_449 h1 hwR h3 h4 h5 h6 ⟨by decide, by decide⟩ h8 ⟨by decide, by decide⟩ ⟨by omega, by omega⟩ ⟨by omega, by omega⟩ fun _ => ⟨⟨by omega, by omega⟩, ⟨by omega, by omega⟩, fun z => absurd z (by omega), fun _ => ⟨⟨by omega, by omega⟩, ?_⟩⟩
          have h9 := ih (A ++ [z]) M3 hzA f3 S3 c3 (by
            have e1 : I_lp (fun t => if z.1 = true then I_rem1 z.2.2.1 z.2.2.2 t else t) w (I_lp (I_rem (Q_3 A)) w st (4 * w + 4)) (4 * w + 4) = I_lp (I_rem (Q_3 (A ++ [z]))) w st (4 * w + 4) := by
              rw [I_lp_all]
              congr 1
              funext t
              rw [h3A, I_rem_snoc]
            rw [e1] at H3
            exact H3) e69
          rw [hA1] at h9
          exact h9
        | succ r ihr =>
          intro x M3 hr hx f3 S3 c3 H3 e69
          have hB3 := H3.1
          have hx8 : x < 8 := by omega
          have hix := H3.2.2.2 x hx8
          rw [I_lp_at, I_lp_in _ _ _ ⟨hx, by omega⟩] at hix
          obtain ⟨hth0, hth1⟩ := hix.there
          have b35' := hB3.at (k := 35) (by decide)
          have b35A' : g_A M3 (ρ 35) 2 8 := b35'.2
          have b71' := hB3.at (k := 71) (by decide)
          have b71A' : g_A M3 (ρ 71) 1 400 := b71'.2
          have b72' := hB3.at (k := 72) (by decide)
          have b72A' : g_A M3 (ρ 72) 1 400 := b72'.2
          have b75' := hB3.at (k := 75) (by decide)
          have b75A' : g_A M3 (ρ 75) 2 200 := b75'.2
          have hmz : g_i M3 (ρ 75) A.length = if z.1 = true then 1 else 0 := by
            rw [f3.2.1 _ _ (R_t1_n hB (by decide) (by decide) (by decide) (by decide) (by decide) (by decide))]
            exact hmt _ z hzi
          have hx1 : (x : Int) + 1 = ((x + 1 : Nat) : Int) := by omega
          refine s_X12_update_449 h1 hwR h3 h4 h5 h6 ⟨by decide, by decide⟩ h8 ⟨by decide, by decide⟩ ⟨by omega, by omega⟩ ⟨by omega, by omega⟩ fun _ => ⟨⟨by omega, by omega⟩, ⟨by omega, by omega⟩, fun _ => ⟨hB3.1, ρ 75, b75'.1, 200, b75A', ⟨by omega, by omega⟩, ?_⟩, fun z => absurd (by omega) z⟩
          rw [hmz, hx1]
          by_cases g : z.1 = true
          · rw [if_pos g]
            refine ⟨fun z => absurd z (by decide), fun _ => ⟨ρ 35, b35'.1, 8, b35A', ⟨by omega, by omega⟩, ?_⟩⟩
            cases hst : st x with
            | none =>
              have hrn : I_rem (Q_3 A) (st x) = none := by rw [hst]; rfl
              rw [hth0 hrn]
              refine ⟨fun _ => ⟨⟨by omega, by omega⟩, ?_⟩, fun z => absurd rfl z⟩
              exact ihr (x + 1) M3 (by omega) (by omega) f3 S3 c3 (by
                rw [I_lp_n hx (by rw [I_lp_in _ _ _ ⟨hx, by omega⟩, hrn, if_pos g]; rfl)]
                exact H3) e69
            | some t =>
              obtain ⟨V, T, m1, m2⟩ := t
              have hrn : I_rem (Q_3 A) (st x) = some (V, I_out V (I_mk V (Q_3 A)) T, m1, m2) := by rw [hst]; rfl
              rw [(hth1 _ _ _ _ hrn).1]
              obtain ⟨hvok, hTg, hcg⟩ := hcgo x hx (by omega) V T m1 m2 hst
              have hmkz : I_mk V (Q_3 zs) = I_mk V (Q_3 A) ++ (I_ens V z.2.2.2 z.2.2.1 ++ I_mk V (Q_3 B)) := by
                have h1 : Q_3 zs = Q_3 A ++ (z.1, z.2.2) :: Q_3 B := by
                  rw [hz]
                  unfold Q_3
                  rw [List.map_append, List.map_cons]
                rw [h1, I_mk_app, I_mk_c, if_pos g]
              rw [hmkz] at hcg
              have hcgz := (I_cgo.app hvok hTg hcg).1.pre
              have hT3 : R_tb m (ρ 68) (ρ 71) M3 := ⟨(hB3.at (k := 68) (by decide)).1, (hB3.at (k := 68) (by decide)).2, b71'.1, b71A'⟩
              have h713 : g_i M3 (ρ 71) (200 * w + (A.length : Nat)) = z.2.1 := by
                rw [f3.2.1 _ _ (R_t1_n hB (by decide) (by decide) (by decide) (by decide) (by decide) (by decide))]
                exact k2
              have h723 : g_i M3 (ρ 72) (200 * w + (A.length : Nat)) = z.2.2.1 := by
                rw [f3.2.1 _ _ (R_t1_n hB (by decide) (by decide) (by decide) (by decide) (by decide) (by decide))]
                exact k3
              have hdoc3 : b_at (g_i M3 (ρ 0)) (2000 + 2000 * (z.2.1 : Int)) (b_doc z.2.2.2) := b_at_keep k5 fun j j1 j2 => f3.2.1 _ j fun z => by
                have := R_t1_b hB z
                omega
              refine ⟨fun z => absurd z (by decide), fun _ => e_doc1 (d := d + 71) (w := (w : Int)) (i := A.length) (s := z.2.1) hB3.R hT3 (by omega) (by omega) h713 (by omega) (by omega) ?_⟩
              intro _ _ _
              refine ⟨ρ 72, b72'.1, ⟨by omega, by omega⟩, ⟨by omega, by omega⟩, 400, b72A', ⟨by omega, by omega⟩, ?_⟩
              rw [h723]
              refine e_entX0 (d := d + 1) (x := x) (c := 2000 + 2000 * (z.2.1 : Int)) H3 S3 c3 hx8 (by rw [I_lp_at, I_lp_in _ _ _ ⟨hx, by omega⟩]; exact hrn) ⟨hdoc3, by omega, by omega, zg⟩ zl (Nat.zero_le _) (Or.inl rfl) ⟨fun _ => hcgz, fun z => absurd rfl z⟩ (h0n z.2 (by rw [hzs]; exact List.mem_map.mpr ⟨z, hzm, rfl⟩)) k4 fun M61 f61 S61 c61 H61 => ?_
              intro _ _
              refine ⟨⟨by omega, by omega⟩, ?_⟩
              have n61 : ∀ {k : Nat} {j : Int}, k ∈ E_bf → k ≠ 9 → k ≠ 0 → k ∉ R_fs → g_i M61 (ρ k) j = g_i M3 (ρ k) j := fun hk h9 h0 hf => f61.2.1 _ _ (R_EF_n hB3.rw (hB3.ne hk (by decide) h9) (hB3.nm hk) (hB3.ne hk (by decide) h0) fun k2 hk2 => hB3.ne hk (E_fs_bf k2 hk2).1 fun z => hf (z ▸ hk2))
              exact ihr (x + 1) M61 (by omega) (by omega) (f3.tr (f61.up fun y k z => Or.inl ⟨x, hx8, z⟩)) S61 c61 (by
                have e1 : I_lp (fun t => if z.1 = true then I_rem1 z.2.2.1 z.2.2.2 t else t) w (I_lp (I_rem (Q_3 A)) w st (4 * w + 4)) (x + 1) = I_up (I_lp (fun t => if z.1 = true then I_rem1 z.2.2.1 z.2.2.2 t else t) w (I_lp (I_rem (Q_3 A)) w st (4 * w + 4)) x) x (some (V, I_io 0 V (I_ens V z.2.2.2 z.2.2.1) (I_out V (I_mk V (Q_3 A)) T), m1, m2)) := by
                  rw [I_lp_s _ _ _ hx, I_lp_in _ _ _ ⟨hx, by omega⟩, hrn, I_io_0, if_pos g]
                  rfl
                rw [e1]
                exact H61) fun k => by rw [n61 (k := 69) (by decide) (by decide) (by decide) (by decide), n61 (k := 73) (by decide) (by decide) (by decide) (by decide)]; exact e69 k
          · rw [if_neg g]
            refine ⟨fun _ => ⟨⟨by omega, by omega⟩, ?_⟩, fun z => absurd rfl z⟩
            exact ihr (x + 1) M3 (by omega) (by omega) f3 S3 c3 (by
              have e1 : I_lp (fun t => if z.1 = true then I_rem1 z.2.2.1 z.2.2.2 t else t) w (I_lp (I_rem (Q_3 A)) w st (4 * w + 4)) (x + 1) = I_lp (fun t => if z.1 = true then I_rem1 z.2.2.1 z.2.2.2 t else t) w (I_lp (I_rem (Q_3 A)) w st (4 * w + 4)) x := I_lp_n hx (if_neg g)
              rw [e1]
              exact H3) e69
      have h9 := hin 4 (4 * w) M' rfl (Nat.le_refl _) f' S' c' (by rw [I_lp_0]; exact H') e69
      rwa [show ((4 * w : Nat) : Int) = 4 * (w : Int) by omega] at h9
  exact hlp1 zs [] M9 rfl f9 S9 c9 (by
    have e1 : I_lp (I_rem (Q_3 [])) w st (4 * w + 4) = st := I_lp_id w st fun t => I_rem_nil t
    rw [e1]
    exact H9) fun _ => ⟨rfl, rfl⟩
end EUP3
