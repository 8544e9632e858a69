/-! FILTERS: the places of their faults lie within; a pipeline, the class -/
theorem L_at_lo : ∀ (es : List b_E) (q : Int), ∀ y ∈ L_at q es, q ≤ y.1 := by
  intro es
  induction es with
  | nil => exact fun q y hy => absurd hy (by simp [L_at])
  | cons e es ih =>
    intro q y hy
    rcases List.mem_cons.mp hy with rfl | hy
    · exact Int.le_refl _
    · have := ih _ y hy
      omega
theorem L_ch_lo {lo : Int} {z : Int × b_E} (h : lo ≤ z.1) : ∀ y ∈ L_ch z.1 z.2, lo ≤ y.1 := fun y hy => by
  have := L_at_lo _ _ y hy
  omega
def K_G (lo : Int) (R : Int × Int × Int) : Prop := R.1 ≠ 0 → lo ≤ R.2.1
theorem K_G0 {lo q n : Int} : K_G lo (0, q, n) := fun z => absurd rfl z
theorem K_Gc {lo w q n : Int} (h : lo ≤ q) : K_G lo (w, q, n) := fun _ => h
theorem K_seq_G {lo : Int} {f : Int × b_E → Int → Int × Int × Int} (h : ∀ z n, lo ≤ z.1 → K_G lo (f z n)) : ∀ (zs : List (Int × b_E)) (n : Int), (∀ z ∈ zs, lo ≤ z.1) → K_G lo (K_seq f zs n) := by
  intro zs
  induction zs with
  | nil => exact fun n _ => K_G0
  | cons z zs ih =>
    intro n hz
    unfold K_seq
    split
    · exact ih _ fun y hy => hz y (List.mem_cons_of_mem _ hy)
    · exact h _ _ (hz z List.mem_cons_self)
theorem K_more_G {lo k q n : Int} {R : Int × Int × Int} (hq : lo ≤ q) (h : K_G lo R) : K_G lo (K_more k q n R) := by
  unfold K_more
  split
  · exact K_Gc hq
  · exact h
theorem K_F_G {lo : Int} : ∀ (k : Nat), (∀ zs n, (∀ z ∈ zs, lo ≤ z.1) → K_G lo ((K_F k).1 zs n)) ∧ ∀ zs n, (∀ z ∈ zs, lo ≤ z.1) → K_G lo ((K_F k).2 zs n) := by
  intro k
  induction k with
  | zero => exact ⟨fun zs n _ => K_G0, fun zs n _ => K_G0⟩
  | succ k ih =>
    have hi : ∀ z n, lo ≤ z.1 → K_G lo (K_item (K_F k).1 z n) := fun z n hz => by
      unfold K_item
      split
      · exact ih.1 _ _ (L_ch_lo hz)
      · exact K_Gc hz
    constructor
    · refine K_seq_G fun z n hz => ?_
      unfold K_one
      split
      · split
        · split
          · split
            · exact K_Gc hz
            · exact K_more_G hz (K_seq_G hi _ _ (L_ch_lo hz))
          · exact K_Gc hz
        · exact K_Gc hz
      · split
        · split
          · exact K_more_G hz (ih.2 _ _ (L_ch_lo hz))
          · exact K_more_G hz K_G0
        · exact K_Gc hz
    · refine K_seq_G fun z n hz => ?_
      unfold K_cd
      split
      · exact K_Gc hz
      · split
        · refine K_more_G hz ?_
          split
          · exact ih.2 _ _ (L_ch_lo hz)
          · split
            · split
              · exact ih.2 _ _ (L_ch_lo hz)
              · exact ih.1 _ _ (L_ch_lo hz)
            · exact K_G0
        · exact K_Gc hz
theorem c_failAt {d x : Nat} {M : g_M} {Q : g_M → Prop} {w q : Int} (hx : g_O M x 11) (hw : g_InR w) (hq : g_InR q) (h0 : 0 ≤ q) (h : Q (g_wi (g_wi M x 17 w) x 18 (q - 4))) : g_Call (d + 2) 198 [.ref x, g_n w, g_n q] M (g_qV Q) := by
  have hq1 := hq.1
  have hq2 := hq.2
  refine m_X11_failAt hw hq fun _ => ⟨⟨by omega, by omega⟩, hx, m_X11_fail hw ⟨by omega, by omega⟩ fun _ => ⟨hx, fun M2 e2 _ M6 e6 _ => ?_⟩⟩
  subst e2
  subst e6
  exact fun _ _ => h
theorem b_sts.lim {B : Int → Int} {q : Int} {D : Nat} {es : List b_E} (h : b_sts B 2100 q D es) : b_sts B 246408 q D es := ⟨h.1, h.2.1, h.2.2.1, by have := h.2.2.2.1; omega, h.2.2.2.2⟩
theorem b_st.lim {B : Int → Int} {q k : Int} {D : Nat} {nm vb : List Int} (h : b_st B 2100 q D k nm vb) : b_st B 246408 q D k nm vb := ⟨h.1, h.2.1, h.2.2.1, h.2.2.2.1, by have := h.2.2.2.2; omega⟩
theorem S_Z.reqs {so r b po pf pt sc : Nat} {A : Nat → Prop} {M M1 : g_M} (h : S_Z A so r b po pf pt sc M M1) {q : Int} {D : Nat} {es : List b_E} (hs : b_sts (g_i M b) 2100 q D es) : b_sts (g_i M1 b) 2100 q D es := ⟨b_at_keep hs.1 fun j j1 j2 => h.2.2.2.1 j (by have := hs.2.2.2.1; omega), hs.2.1, hs.2.2.1, hs.2.2.2.1, by rw [h.2.2.2.1 _ (by have := hs.2.2.2.1; omega)]; exact hs.2.2.2.2⟩
section PIPE
variable {x so r b po pf pt tp tf tt ou sc be fr sv oa ke gr va kk wa o qo qf qt : Nat} {M0 : g_M} {c e0 : Int} {os : List (List b_E)}
theorem P_B.eq {M : g_M} (h : g_r M kk = g_r M0 kk) {y : Nat} (hy : P_B so b po pf pt tp tf tt ou sc be fr ke gr va kk wa o qo qf qt M y) : P_B so b po pf pt tp tf tt ou sc be fr ke gr va kk wa o qo qf qt M0 y := by
  rcases hy with (hy | ((hy | ⟨s, hs, hy⟩) | hy)) | hy
  · exact Or.inl (Or.inl hy)
  · exact Or.inl (Or.inr (Or.inl (Or.inl hy)))
  · exact Or.inl (Or.inr (Or.inl (Or.inr ⟨s, hs, by rw [← h]; exact hy⟩)))
  · exact Or.inl (Or.inr (Or.inr hy))
  · exact Or.inr hy
theorem S_U.up {A A2 : Nat → Prop} {L : List Int} {M M1 : g_M} (h : S_U A so r b po pf pt tp tf tt ou sc c e0 L M M1) (hA : ∀ y, A y → A2 y) : S_U A2 so r b po pf pt tp tf tt ou sc c e0 L M M1 := ⟨⟨h.1.1.up hA, h.1.2⟩, h.2⟩
theorem P_B.nx (hC : P_C so r b po pf pt tp tf tt ou sc be fr sv oa ke gr va kk wa o qo qf qt c e0 M0) (hx : g_O M0 x 11) : ¬ P_B so b po pf pt tp tf tt ou sc be fr ke gr va kk wa o qo qf qt M0 x := by
  rintro (z | z)
  · exact P_A.nO hC hx (by decide) (fun z => absurd z (by decide)) (fun z => absurd z (by decide)) z
  · exact F_CS.nO hC hx (by decide) (fun z => absurd z (by decide)) z
theorem c_pipe {n De dd : Nat} {Q : g_M → Prop} (hn : 16 ≤ n) (hDe : De ≤ 18) (hC0 : P_C so r b po pf pt tp tf tt ou sc be fr sv oa ke gr va kk wa o qo qf qt c e0 M0) (hx : g_O M0 x 11) (x0 : g_r M0 x 0 = some b) (x3 : g_r M0 x 3 = some o) (x5 : g_r M0 x 5 = some so) (ho0 : J_os b sv oa os M0) (hno : b_at (g_i M0 b) 0 [10, 0]) : ∀ (its : List b_E) (i : Nat) (q : Int) (M : g_M) (ds : List (List b_E)) (g : Int), S_U (P_B so b po pf pt tp tf tt ou sc be fr ke gr va kk wa o qo qf qt M0) so r b po pf pt tp tf tt ou sc c e0 [] M0 M → P_C so r b po pf pt tp tf tt ou sc be fr sv oa ke gr va kk wa o qo qf qt c e0 M → g_i M sv = g_i M0 sv → g_i M oa = g_i M0 oa → g_r M kk = g_r M0 kk → g_i M so 17 = g → (g = 0 ∨ g = 1) → S_belt so b be g ds M → b_sts (g_i M0 b) 2100 q De its → (∀ it ∈ its, it.1 = 3) → i + its.length < 100000 → ((T_pl n os (L_at q its) ds).1.1 ≠ 0 → ∀ M1, S_U (P_B so b po pf pt tp tf tt ou sc be fr ke gr va kk wa o qo qf qt M0) so r b po pf pt tp tf tt ou sc c e0 [] M0 M1 → P_C so r b po pf pt tp tf tt ou sc be fr sv oa ke gr va kk wa o qo qf qt c e0 M1 → Q (g_wi (g_wi M1 x 17 (T_pl n os (L_at q its) ds).1.1) x 18 ((T_pl n os (L_at q its) ds).1.2 - 4))) → ((T_pl n os (L_at q its) ds).1.1 = 0 → ∀ M1 g1 v1 v2, S_U (P_B so b po pf pt tp tf tt ou sc be fr ke gr va kk wa o qo qf qt M0) so r b po pf pt tp tf tt ou sc c e0 [] M0 M1 → P_C so r b po pf pt tp tf tt ou sc be fr sv oa ke gr va kk wa o qo qf qt c e0 M1 → (g1 = 0 ∨ g1 = 1) → S_belt so b be g1 (T_pl n os (L_at q its) ds).2 M1 → g_InR v1 → g_InR v2 → g_Run (dd + 230) 223 177 [(0, .ref x), (1, g_n v1), (2, g_n v2)] [] M1 (g_qV Q)) → g_Run (dd + 230) 223 53 [(0, .ref x), (1, g_n q), (2, g_n i)] [] M (g_qV Q) := by
  have hP0 := hC0.2.2.1.2.1
  have hnx := P_B.nx hC0 hx
  intro its
  induction its with
  | nil =>
    intro i q M ds g hU hC e1 e2 e3 hg hg01 hbt hs hk hi hf hq
    obtain ⟨exi, exr⟩ := hU.1.1.O hP0 hx (by decide) hnx
    obtain ⟨s1, s2, s3⟩ := hC.1.1.1
    have hs4 := hs.2.2.1
    have hs5 := hs.2.2.2.1
    rw [show (b_ser ([] : List b_E)).length = 0 from rfl] at hs5
    have hqR : g_InR q := ⟨by omega, by omega⟩
    have hiR : g_InR (i : Int) := ⟨by omega, by omega⟩
    rw [List.length_nil] at hi
    refine s_X11_pipeline_53 hqR hiR fun _ => ⟨fun _ => ⟨hx.up hU.1.1.1, b, by rw [exr]; exact x0, c_kdE (d := dd + 229) s3 (by decide) (hU.1.reqs hs).lim ?_⟩, fun z => absurd (by omega) z⟩
    intro _ _ _
    exact ⟨fun _ => hq rfl M g q i hU hC hg01 hbt hqR hiR, fun z => absurd rfl z⟩
  | cons it its ih =>
    intro i q M ds g hU hC e1 e2 e3 hg hg01 hbt hs hk hi hf hq
    obtain ⟨exi, exr⟩ := hU.1.1.O hP0 hx (by decide) hnx
    obtain ⟨s1, s2, s3⟩ := hC.1.1.1
    have hxM := hx.up hU.1.1.1
    obtain ⟨hit0, hr0⟩ := hs.cons
    have hit := hU.1.req hit0
    have hk3 := hk it List.mem_cons_self
    have hi4 := hit0.2.2.2.1
    have hi5 := hit0.2.2.2.2
    have hel := b_el_len it.1 it.2.1 it.2.2
    have hqR : g_InR q := ⟨by omega, by omega⟩
    have hiR : g_InR (i : Int) := ⟨by omega, by omega⟩
    rw [List.length_cons] at hi
    have hLa : L_at q (it :: its) = (q, it) :: L_at (q + (b_el it.1 it.2.1 it.2.2).length) its := rfl
    rw [hLa] at hf hq
    refine s_X11_pipeline_53 hqR hiR fun _ => ⟨fun _ => ⟨hxM, b, by rw [exr]; exact x0, c_kd2 (d := dd + 229) s3 (by decide) hit.lim ?_⟩, fun z => absurd (by omega) z⟩
    intro _ _ _
    refine ⟨fun z => absurd z (by omega), fun _ => ⟨so, by rw [exr]; exact x5, s1, c_isMatch (d := dd + 226) hC.1.1.1 hit.lim hk3 ?_⟩⟩
    intro _ _ _
    -- on to the next stage
    have hnext : ∀ (M2 : g_M) (ds2 : List (List b_E)) (g2 : Int), T_pl n os ((q, it) :: L_at (q + (b_el it.1 it.2.1 it.2.2).length) its) ds = T_pl n os (L_at (q + (b_el it.1 it.2.1 it.2.2).length) its) ds2 → S_U (P_B so b po pf pt tp tf tt ou sc be fr ke gr va kk wa o qo qf qt M) so r b po pf pt tp tf tt ou sc c e0 [] M M2 → P_C so r b po pf pt tp tf tt ou sc be fr sv oa ke gr va kk wa o qo qf qt c e0 M2 → g_i M2 sv = g_i M sv → g_i M2 oa = g_i M oa → g_r M2 kk = g_r M kk → g_i M2 so 17 = g2 → (g2 = 0 ∨ g2 = 1) → S_belt so b be g2 ds2 M2 → ∃ b', g_r M2 x 0 = some b' ∧ g_Call (dd + 230) 111 [.ref b', g_n q] M2 (g_qI fun r65 M62 => g_ext M2 M62 → g_ok M62 → g_InR r65 → g_InR ((i : Int) + 1) ∧ g_Run (dd + 230) 223 53 [(0, .ref x), (1, g_n r65), (2, g_n ((i : Int) + 1))] [] M62 (g_qV Q)) := by
      intro M2 ds2 g2 hT hU2 hC2 a1 a2 a3 a4 a5 a6
      have hU02 := hU.tr (hU2.up fun y hy => P_B.eq e3 hy)
      rw [hT] at hf hq
      refine ⟨b, by rw [(hU02.1.1.O hP0 hx (by decide) hnx).2]; exact x0, c_nx2 (d := dd + 229) hC2.1.1.1.2.2 (by decide) (hU02.1.req hit0).lim ?_⟩
      intro _ _ _
      have h9 := ih (i + 1) (q + (b_el it.1 it.2.1 it.2.2).length) M2 ds2 g2 hU02 hC2 (a1.trans e1) (a2.trans e2) (a3.trans e3) a4 a5 a6 hr0 (fun y hy => hk y (List.mem_cons_of_mem _ hy)) (by omega) hf hq
      rw [show ((i + 1 : Nat) : Int) = (i : Int) + 1 by omega] at h9
      exact ⟨⟨by omega, by omega⟩, h9⟩
    have hoM := (ho0.up hU.1 e1 e2)
    have hnoM : b_at (g_i M b) 0 [10, 0] := b_at_keep hno fun k k1 k2 => hU.1.2.2.2.1 k (by
      rw [show (([10, 0] : List Int).length : Int) = 2 from rfl] at k2
      omega)
    cases hfe : T_fe it with
    | none =>
      refine ⟨fun _ => ⟨so, by rw [exr]; exact x5, s1, ?_⟩, fun z => absurd (if_neg (by simp)) z⟩
      have ho := T_ok_T_st n os it ds
      have ho1 := ho.1
      have ho2 := ho.2
      refine c_stDoes (d := dd + 152) (n := n) (A := P_A so b po pf pt tp tf tt ou sc be fr ke gr va kk wa M) hC.1 hC.2.1 hC.2.2.1 (by decide) hoM hnoM hg hg01 hbt hit hk3 hDe hn (fun y z => Or.inl z) (fun y z => Or.inr z) (fun z M1 h1 => ?_) fun z M1 g1 h1 h2 h3 h4 => ?_
      · intro _ _ hzR
        obtain ⟨hC1, -⟩ := hC.st h1
        have hU1 := h1.up (A2 := P_B so b po pf pt tp tf tt ou sc be fr ke gr va kk wa o qo qf qt M) fun y hy => Or.inl hy
        have hU01 := hU.tr (hU1.up fun y hy => P_B.eq e3 hy)
        rw [T_pl_sf hfe z] at hf
        have hwR : g_InR (30 + (T_st n os it ds).1) := ⟨by omega, by omega⟩
        refine ⟨fun z2 => absurd z2 z, fun _ => ⟨hwR, c_failAt (d := dd + 228) (hxM.up h1.1.1.1) hwR hqR hi4 ?_⟩⟩
        exact fun _ _ => hf (by show 30 + (T_st n os it ds).1 ≠ 0; omega) M1 hU01 hC1
      · intro _ _ _
        obtain ⟨hC1, a1, a2, a3⟩ := hC.st h1
        exact ⟨fun _ => hnext M1 _ g1 (T_pl_sg hfe z) (h1.up fun y hy => Or.inl hy) hC1 a1 a2 a3 h3 h2 h4, fun z => absurd rfl z⟩
    | some e =>
      refine ⟨fun z => absurd z (by rw [if_pos (by rfl)]; decide), fun _ => ⟨b, by rw [exr]; exact x0, c_fi2 (d := dd + 229) s3 (by decide) hit.lim ?_⟩⟩
      intro _ _ _
      obtain ⟨f1, f2, f3⟩ := T_fe_inv hfe
      obtain ⟨D1, eD, hkids, -⟩ := hit.kids (Or.inl hk3)
      rw [f1] at hkids
      obtain ⟨he, -⟩ := hkids.cons
      have he4 := he.2.2.2.1
      have he5 := he.2.2.2.2
      have hel2 := b_el_len e.1 e.2.1 e.2.2
      refine ⟨o, by rw [exr]; exact x3, hC.2.2.2.1.1, c_isRight (rm := some r) (N := 246408) (F := g_i M b) (by decide) ⟨_, ⟨hC.2.2.2.1.1, hC.2.2.2.1.2.2.1, hC.2.2.2.1.2.2.2, hC.2.2.2.1.2.1⟩, hC.2.2.2.2.1, s3, rfl, rfl⟩ he.lim f2 (by omega) (by omega) (by omega) fun M1 g1 hC1 hw hc => ?_⟩
      intro hx1 hok1 _
      obtain ⟨⟨U1, C1, a1, a2, a3⟩, a4, a5, a6⟩ := hC.ft g1 hC1
      have hU01 := hU.tr (U1.up fun y hy => P_B.eq e3 hy)
      obtain ⟨ex1, er1⟩ := hU01.1.1.O hP0 hx (by decide) hnx
      obtain ⟨R, hR⟩ : ∃ R, R = (K_F 20).1 (L_ch (q + 6 + it.2.1.length) e) 0 := ⟨_, rfl⟩
      rw [← hR] at hw hc ⊢
      have hk1 := (K_F_ok 20).1 (L_ch (q + 6 + it.2.1.length) e) 0
      have hk2 := (K_F_G (lo := 0) 20).1 (L_ch (q + 6 + it.2.1.length) e) 0 (L_ch_lo (z := (q + 6 + it.2.1.length, e)) (by show 0 ≤ q + 6 + (it.2.1.length : Int); omega))
      rw [← hR] at hk1 hk2
      have hk11 := hk1.1
      have hk12 := hk1.2
      by_cases h0 : R.1 = 0
      · refine ⟨fun z => absurd z (by rw [if_pos h0]; decide), fun _ => ⟨so, by rw [er1]; exact x5, o, by rw [er1]; exact x3, s1.up U1.1.1.1, ?_⟩⟩
        refine c_match (n := 20) (dd := dd + 229) (by decide) (by omega) (s1.up U1.1.1.1) C1.1.1.2.2.2.1.2.2.1 C1.1.1.2.2.2.2.1.1 (hbt.keep (by rw [a4]) (fun k => by rw [a5]) fun k _ _ => by rw [a6]) ⟨C1.2.2.1.2.1, C1.2.2.2.1, C1.2.2.2.2.1, C1.1.1.1.2.2, rfl⟩ (by decide) (by rw [a6]; exact he.lim) f2 (by omega) (by omega) ((K_good 20 (b_ch e.2.2) _ 0).1 (hR ▸ h0)) fun M2 k2 S2 b1 b2 bt2 => ?_
        intro _ _
        obtain ⟨U2, C2, c1, c2, c3⟩ := C1.mt k2 S2 b1 b2
        exact hnext M2 _ g (T_pl_fg hfe (by rw [← hR]; exact h0)) (U1.tr (U2.up fun y hy => P_B.eq a3 hy)) C2 (c1.trans a1) (c2.trans a2) (c3.trans a3) (by rw [b1 17 (by decide), a4]; exact hg) hg01 bt2
      · obtain ⟨w1, w2⟩ := hw h0
        have hoM1 := C1.2.2.2.1.1
        rw [T_pl_ff hfe (by rw [← hR]; exact h0)] at hf
        rw [← hR] at hf
        have hwR : g_InR (10 + R.1) := ⟨by omega, by omega⟩
        have hpR : g_InR R.2.1 := by
          rw [← w2]
          exact hok1.1 o 5
        refine ⟨fun _ => ⟨o, by rw [er1]; exact x3, hoM1, by rw [w1]; exact hwR, o, by rw [er1]; exact x3, hoM1, ?_⟩, fun z => absurd (if_neg h0) z⟩
        rw [w1, w2]
        refine c_failAt (d := dd + 228) (hx.up hU01.1.1.1) hwR hpR (hk2 h0) ?_
        exact fun _ _ => hf (by show 10 + R.1 ≠ 0; omega) M1 hU01 C1
end PIPE
