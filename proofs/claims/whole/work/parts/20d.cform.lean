/-! REQUESTS: their form, the class, whole -/
theorem Q_fk_R (k : Int) : ∀ (r : List b_E) (q : Int), Q_fk k q r = -1 ∨ q ≤ Q_fk k q r
  | [], q => Or.inl rfl
  | e :: r, q => by
    unfold Q_fk
    by_cases g : e.1 = k
    · rw [if_pos g]
      rcases Q_fk_R k r (q + (b_el e.1 e.2.1 e.2.2).length) with h | h
      · exact Or.inl h
      · exact Or.inr (by omega)
    · rw [if_neg g]
      exact Or.inr (Int.le_refl _)
theorem Q_nx_R (q : Int) : ∀ r : List b_E, Q_nx q r = -1 ∨ q ≤ Q_nx q r
  | [] => Or.inl rfl
  | _ :: _ => Or.inr (Int.le_refl _)
theorem Q_rq_c (q : Int) (h : b_E) (r : List b_E) : Q_rq q (h :: r) = if Q_op h.2.1 = 0 then q else if Q_hd q h = -1 then Q_r2 h (q + (b_el h.1 h.2.1 h.2.2).length) r else Q_hd q h := rfl
theorem Q_pb_c (q : Int) (a c : b_E) (r : List b_E) : Q_pb q a (c :: r) = if (Q_tx c && !F_eq c a) = true then Q_nx (q + (b_el c.1 c.2.1 c.2.2).length) r else q := rfl
theorem Q_pa_R (q : Int) (h : b_E) : Q_pa q h = -1 ∨ q ≤ Q_pa q h := by
  unfold Q_pa
  by_cases g : h.1 = 4
  · rw [if_pos g]
    cases b_ch h.2.2 with
    | nil => exact Or.inr (Int.le_refl _)
    | cons a r =>
      show (if Q_tx a = true then Q_pb (q + 6 + h.2.1.length + (b_el a.1 a.2.1 a.2.2).length) a r else q + 6 + h.2.1.length) = -1 ∨ q ≤ (if Q_tx a = true then Q_pb (q + 6 + h.2.1.length + (b_el a.1 a.2.1 a.2.2).length) a r else q + 6 + h.2.1.length)
      by_cases g2 : Q_tx a = true
      · rw [if_pos g2]
        cases r with
        | nil => exact Or.inl rfl
        | cons c r =>
          rw [Q_pb_c]
          by_cases g3 : (Q_tx c && !F_eq c a) = true
          · rw [if_pos g3]
            rcases Q_nx_R (q + 6 + h.2.1.length + (b_el a.1 a.2.1 a.2.2).length + (b_el c.1 c.2.1 c.2.2).length) r with z | z
            · exact Or.inl z
            · exact Or.inr (by omega)
          · rw [if_neg g3]
            exact Or.inr (by omega)
      · rw [if_neg g2]
        exact Or.inr (by omega)
  · rw [if_neg g]
    exact Or.inr (Int.le_refl _)
theorem Q_hd_R (q : Int) (h : b_E) : Q_hd q h = -1 ∨ q ≤ Q_hd q h := by
  unfold Q_hd
  split
  · split
    · exact Or.inl rfl
    · exact Or.inr (Int.le_refl _)
  split
  · unfold Q_pl
    split
    · rcases Q_fk_R 3 (b_ch h.2.2) (q + 6 + h.2.1.length) with z | z
      · exact Or.inl z
      · exact Or.inr (by omega)
    · exact Or.inr (Int.le_refl _)
  split
  · exact Q_pa_R q h
  split
  · exact Or.inl rfl
  · exact Or.inr (Int.le_refl _)
theorem Q_dn_R (q : Int) (h t : b_E) : Q_dn q h t = -1 ∨ q ≤ Q_dn q h t := by
  unfold Q_dn
  split
  · rcases Q_fk_R 8 (b_ch t.2.2) (q + 6 + t.2.1.length) with z | z
    · exact Or.inl z
    · exact Or.inr (by omega)
  · exact Or.inr (Int.le_refl _)
section QWHOLE
variable {x b p7 f7 t7 p8 f8 t8 : Nat} {M M1 M2 : g_M}
def Q_X (x p7 f7 t7 p8 f8 t8 : Nat) (M M1 : g_M) : Prop := g_fr (fun y => y = x ∨ Q_F p7 f7 t7 p8 f8 t8 y) M M1 ∧ (∀ k, k ≠ 13 → k ≠ 14 → k ≠ 15 → g_i M1 x k = g_i M x k) ∧ (∀ k, k ≠ 16 → g_r M1 x k = g_r M x k) ∧ p_P M1 p7 f7 t7 ∧ p_P M1 p8 f8 t8
theorem Q_X.tr (h : Q_X x p7 f7 t7 p8 f8 t8 M M1) (h2 : Q_X x p7 f7 t7 p8 f8 t8 M1 M2) : Q_X x p7 f7 t7 p8 f8 t8 M M2 := ⟨h.1.tr h2.1, fun k k1 k2 k3 => (h2.2.1 k k1 k2 k3).trans (h.2.1 k k1 k2 k3), fun k k1 => (h2.2.2.1 k k1).trans (h.2.2.1 k k1), h2.2.2.2⟩
theorem Q_X.i (hx : g_O M x 11) (h7 : p_P M p7 f7 t7) (h8 : p_P M p8 f8 t8) (k v : Int) (hk : k = 13 ∨ k = 14 ∨ k = 15) : Q_X x p7 f7 t7 p8 f8 t8 M (g_wi M x k v) := by
  have hr : ∀ y j, g_r (g_wi M x k v) y j = g_r M y j := fun _ _ => rfl
  exact ⟨g_fr.wi _ _ (Or.inl rfl), fun j k1 k2 k3 => by rw [g_i_wi, if_neg fun z => by have := z.2; omega], fun _ _ => rfl, h7, h8⟩
theorem Q_X.r (hx : g_O M x 11) (h7 : p_P M p7 f7 t7) (h8 : p_P M p8 f8 t8) (v : Option Nat) : Q_X x p7 f7 t7 p8 f8 t8 M (g_wr M x 16 v) := by
  have n7 : p7 ≠ x := g_neOO h7.1 hx (by decide)
  have n8 : p8 ≠ x := g_neOO h8.1 hx (by decide)
  obtain ⟨a1, a2, a3, a4, a5, a6⟩ := h7
  obtain ⟨b1, b2, b3, b4, b5, b6⟩ := h8
  refine ⟨⟨rfl, fun y hy => ⟨rfl, funext fun j => ?_⟩⟩, fun _ _ _ _ => rfl, fun k hk => ?_, ⟨a1, ?_, ?_, a4, a5, a6⟩, ⟨b1, ?_, ?_, b4, b5, b6⟩⟩
  · rw [g_r_wr, if_neg fun z => hy (Or.inl z.1)]
  · rw [g_r_wr, if_neg fun z => hk z.2]
  · rw [g_r_wr, if_neg fun z => n7 z.1]
    exact a2
  · rw [g_r_wr, if_neg fun z => n7 z.1]
    exact a3
  · rw [g_r_wr, if_neg fun z => n8 z.1]
    exact b2
  · rw [g_r_wr, if_neg fun z => n8 z.1]
    exact b3
theorem Q_X.p (hx : g_O M x 11) (h7 : p_P M p7 f7 t7) (h8 : p_P M p8 f8 t8) (f : g_fr (Q_F p7 f7 t7 p8 f8 t8) M M1) (k7 : p_P M1 p7 f7 t7) (k8 : p_P M1 p8 f8 t8) : Q_X x p7 f7 t7 p8 f8 t8 M M1 ∧ g_i M1 x = g_i M x := by
  have e := f.2 x ((Q_F.no h7 h8).1 hx (by decide))
  exact ⟨⟨f.up fun y z => Or.inr z, fun k _ _ _ => by rw [e.1], fun k _ => by rw [e.2], k7, k8⟩, e.1⟩
theorem Q_X.keep (hx : g_O M x 11) (h7 : p_P M p7 f7 t7) (h8 : p_P M p8 f8 t8) (h : Q_X x p7 f7 t7 p8 f8 t8 M M1) {y t : Nat} {n : Int} (hy : g_A M y t n) (ht : t ≠ 1) : g_A M1 y t n ∧ g_i M1 y = g_i M y ∧ g_r M1 y = g_r M y := by
  have e := h.1.2 y (by
    rintro (z | z)
    · exact g_neOA hx hy z.symm
    · exact (Q_F.no h7 h8).2 hy ht z)
  exact ⟨h.1.A hy, e⟩
theorem c_wrongInRequest {d De s0 s1 sh : Nat} {Q : Int → g_M → Prop} {es : List b_E} (hx : g_O M x 11) (x0 : g_r M x 0 = some b) (x7 : g_r M x 7 = some p7) (x8 : g_r M x 8 = some p8) (x9 : g_r M x 9 = some sh) (hsh : g_A M sh 4 2) (hs0 : g_r M sh 0 = some s0) (hs1 : g_r M sh 1 = some s1) (h7 : p_P M p7 f7 t7) (h8 : p_P M p8 f8 t8) (h78 : p7 ≠ p8) (hA : g_A M b 0 246408) (hhd : b_st (g_i M b) 2100 2 (De + 1) 3 [] (b_doc es)) (hes : b_sts (g_i M b) 2100 8 De es) (hDe : De ≤ 20) (hq : ∀ M1, Q_X x p7 f7 t7 p8 f8 t8 M M1 → (Q_rq 8 es = -1 → ∃ h s r, es = h :: s :: r ∧ Q_sh s ∧ g_i M1 x 13 = Q_op h.2.1 ∧ g_i M1 x 14 = 8 ∧ g_i M1 x 15 = 8 + (b_el h.1 h.2.1 h.2.2).length + (b_el s.1 s.2.1 s.2.2).length ∧ (v_num s.1 s.2.2 = 0 → g_r M1 x 16 = some s0) ∧ (v_num s.1 s.2.2 = 1 → g_r M1 x 16 = some s1)) → Q (Q_rq 8 es) M1) : g_Call (d + 48) 205 [.ref x] M (g_qI Q) := by
  refine m_X11_wrongInRequest fun _ => ⟨hx, b, x0, c_fi2 (d := d + 46) (D := De + 1) (k := 3) (nm := []) (vb := b_doc es) hA (by decide) hhd.lim ?_⟩
  rw [show (2 : Int) + 6 + (([] : List Int).length : Nat) = 8 from rfl]
  intro _ _ _ M9 e9 _
  have X9 : Q_X x p7 f7 t7 p8 f8 t8 M M9 := by rw [e9]; exact Q_X.i hx h7 h8 14 8 (Or.inr (Or.inl rfl))
  have hx9 : g_O M9 x 11 := X9.1.O hx
  have i14 : g_i M9 x 14 = 8 := by rw [e9, g_i_wi, if_pos ⟨rfl, rfl⟩]
  obtain ⟨A9, B9, -⟩ := X9.keep hx h7 h8 hA (by decide)
  rw [i14]
  -- after the operation was told
  have hop : ∀ (v : Int), g_InR v → ∀ M18, M18 = g_wi M9 x 13 v → Q_X x p7 f7 t7 p8 f8 t8 M M18 ∧ g_i M18 x 13 = v ∧ g_i M18 x 14 = 8 := fun v _ M18 e18 => by
    refine ⟨X9.tr (by rw [e18]; exact Q_X.i hx9 X9.2.2.2.1 X9.2.2.2.2 13 v (Or.inl rfl)), ?_, ?_⟩
    · rw [e18, g_i_wi, if_pos ⟨rfl, rfl⟩]
    · rw [e18, g_i_wi, if_neg fun z => absurd z.2 (by decide)]
      exact i14
  refine c_operationOf (d := d + 43) (r := es) hx9 (by rw [X9.2.2.1 0 (by decide)]; exact x0) A9 (by rw [B9]; exact hes) (fun z => ?_) fun h r z => ?_
  · intro _ _ hR M18 e18 _
    obtain ⟨X18, j13, j14⟩ := hop 0 hR M18 e18
    refine ⟨fun _ => ?_, fun z2 => absurd j13 z2⟩
    rw [j14]
    have h9 := hq M18 X18
    rw [z] at h9
    exact h9 fun z2 => absurd z2 (by decide)
  · intro _ _ hR M18 e18 _
    obtain ⟨X18, j13, j14⟩ := hop _ hR M18 e18
    subst z
    rw [j13, j14]
    rw [Q_rq_c] at hq
    constructor
    · intro g
      rw [if_pos g] at hq
      exact hq M18 X18 fun z2 => absurd z2 (by decide)
    intro g
    rw [if_neg g] at hq
    obtain ⟨A18, B18, -⟩ := X18.keep hx h7 h8 hA (by decide)
    obtain ⟨hh, hr⟩ := hes.cons
    have hx18 := X18.1.O hx
    refine c_wrongInHead (d := d + 1) (h := h) hx18 (by rw [X18.2.2.1 0 (by decide)]; exact x0) (by rw [X18.2.2.1 7 (by decide)]; exact x7) (by rw [X18.2.2.1 8 (by decide)]; exact x8) X18.2.2.2.1 X18.2.2.2.2 h78 A18 j14 j13 (by rw [B18]; exact hh) hDe fun M22 f22 k7 k8 => ?_
    intro _ _ hR25
    obtain ⟨X22', i22⟩ := Q_X.p hx18 X18.2.2.2.1 X18.2.2.2.2 f22 k7 k8
    have X22 := X18.tr X22'
    have hx22 := X22.1.O hx
    have l13 : g_i M22 x 13 = Q_op h.2.1 := by rw [i22]; exact j13
    have l14 : g_i M22 x 14 = 8 := by rw [i22]; exact j14
    rcases Q_hd_R 8 h with g2 | g2
    · rw [if_pos g2] at hq
      refine ⟨fun _ => ?_, fun z => absurd (by rw [g2]; decide) z⟩
      obtain ⟨A22, B22, -⟩ := X22.keep hx h7 h8 hA (by decide)
      rw [l14, g2]
      have hh22 : b_st (g_i M22 b) 2100 8 De h.1 h.2.1 h.2.2 := by rw [B22]; exact hh
      refine ⟨b, by rw [X22.2.2.1 0 (by decide)]; exact x0, c_nx2 (d := d + 46) A22 (by decide) hh22.lim ?_⟩
      intro _ _ hR32
      obtain ⟨q2, hq2⟩ : ∃ q2 : Int, q2 = 8 + (b_el h.1 h.2.1 h.2.2).length := ⟨_, rfl⟩
      rw [← hq2] at hq hR32 hr ⊢
      have hr22 : b_sts (g_i M22 b) 2100 q2 De r := by rw [B22]; exact hr
      refine c_isShelf (d := d + 43) (r := r) hx22 (by rw [X22.2.2.1 0 (by decide)]; exact x0) A22 hr22 (fun z => ?_) fun s r2 z zs => ?_
      · intro _ _ _
        refine ⟨fun _ => ?_, fun z2 => absurd rfl z2⟩
        have hv : Q_r2 h q2 r = q2 := by
          cases r with
          | nil => rfl
          | cons s r2 =>
            unfold Q_r2
            exact if_neg (z s r2 rfl)
        rw [hv] at hq
        exact hq M22 X22 fun z2 => by have := hr.R.2.1; omega
      · subst z
        intro _ _ _
        have hv : Q_r2 h q2 (s :: r2) = Q_r3 h (q2 + (b_el s.1 s.2.1 s.2.2).length) r2 := by
          unfold Q_r2
          exact if_pos zs
        rw [hv] at hq
        obtain ⟨hs22, hr2⟩ := hr22.cons
        refine ⟨fun z => absurd z (by decide), fun _ => ⟨sh, by rw [X22.2.2.1 9 (by decide)]; exact x9, b, by rw [X22.2.2.1 0 (by decide)]; exact x0, c_wh (d := d + 45) A22 (by decide) hs22.lim zs.1 ?_⟩⟩
        intro _ _
        obtain ⟨S22, -, S22r⟩ := X22.keep hx h7 h8 hsh (by decide)
        obtain ⟨q3, hq3⟩ : ∃ q3 : Int, q3 = q2 + (b_el s.1 s.2.1 s.2.2).length := ⟨_, rfl⟩
        rw [← hq3] at hq hr2
        -- with the shelf
        have h92 : ∀ (w : Int) (sw : Nat), (w = 0 ∨ w = 1) → g_r M sh w = some sw → (v_num s.1 s.2.2 = 0 → sw = s0) → (v_num s.1 s.2.2 = 1 → sw = s1) → g_Run (d + 47) 205 92 [(0, .ref x), (1, g_n (-1)), (2, g_n q2)] [g_n w, .ref sh, .ref x] M22 (g_qI Q) := by
          intro w sw hw hsw hz0 hz1
          refine s_X11_wrongInRequest_92 ⟨by decide, by decide⟩ hR32 ⟨by omega, by omega⟩ fun _ => ⟨2, S22, ⟨by omega, by omega⟩, sw, by rw [S22r]; exact hsw, hx22, fun M7 e7 _ => ?_⟩
          have X7 : Q_X x p7 f7 t7 p8 f8 t8 M M7 := X22.tr (by rw [e7]; exact Q_X.r hx22 X22.2.2.2.1 X22.2.2.2.2 _)
          have hx7 := X7.1.O hx
          obtain ⟨A7, B7, -⟩ := X7.keep hx h7 h8 hA (by decide)
          have r16 : g_r M7 x 16 = some sw := by rw [e7, g_r_wr, if_pos ⟨rfl, rfl⟩]
          have e7i : ∀ k, g_i M7 x k = g_i M22 x k := fun k => by rw [e7]; rfl
          refine ⟨hx7, b, by rw [X7.2.2.1 0 (by decide)]; exact x0, c_nx2 (d := d + 46) A7 (by decide) (D := De) (k := s.1) (nm := s.2.1) (vb := s.2.2) (by rw [B7, ← B22]; exact hs22.lim) ?_⟩
          rw [← hq3]
          intro _ _ hR17 M19 e19 _
          have X19 : Q_X x p7 f7 t7 p8 f8 t8 M M19 := X7.tr (by rw [e19]; exact Q_X.i hx7 X7.2.2.2.1 X7.2.2.2.2 15 _ (Or.inr (Or.inr rfl)))
          have hx19 := X19.1.O hx
          obtain ⟨A19, B19, -⟩ := X19.keep hx h7 h8 hA (by decide)
          have m13 : g_i M19 x 13 = Q_op h.2.1 := by rw [e19, g_i_wi, if_neg fun z => absurd z.2 (by decide), e7i]; exact l13
          have m14 : g_i M19 x 14 = 8 := by rw [e19, g_i_wi, if_neg fun z => absurd z.2 (by decide), e7i]; exact l14
          have m15 : g_i M19 x 15 = q3 := by rw [e19, g_i_wi, if_pos ⟨rfl, rfl⟩]
          have m16 : g_r M19 x 16 = some sw := by rw [e19]; exact r16
          have m0 : g_r M19 x 0 = some b := by rw [X19.2.2.1 0 (by decide)]; exact x0
          have hr19 : b_sts (g_i M19 b) 2100 q3 De r2 := by rw [B19, ← B22]; exact hr2
          have hqq : ∀ v, Q_r3 h q3 r2 = v → Q v M19 := fun v hv => by
            rw [hv] at hq
            exact hq M19 X19 fun z => ⟨h, s, r2, rfl, zs, m13, m14, by rw [m15, hq3, hq2], fun z => by rw [m16, hz0 z], fun z => by rw [m16, hz1 z]⟩
          -- behind the third
          have h146 : ∀ t r3, r2 = t :: r3 → ∀ v, Q_r3 h q3 r2 = (if v = -1 then Q_nx (q3 + (b_el t.1 t.2.1 t.2.2).length) r3 else v) → (v = -1 ∨ 0 ≤ v) → g_InR v → g_Run (d + 47) 205 146 [(0, .ref x), (1, g_n (-1)), (2, g_n q3)] [g_n v] M19 (g_qI Q) := by
            intro t r3 hz v hv hvR hvI
            subst hz
            obtain ⟨ht, hr3⟩ := hr19.cons
            refine s_X11_wrongInRequest_146 ⟨by decide, by decide⟩ hR17 hvI fun _ => ⟨fun z => ⟨hx19, b, m0, c_nx2 (d := d + 46) A19 (by decide) ht.lim ?_⟩, fun z => ?_⟩
            · intro _ _ _
              rw [if_pos (by omega)] at hv
              refine ⟨b, m0, c_kdR (d := d + 46) A19 (by decide) hr3.lim ?_⟩
              intro _ _ _
              cases r3 with
              | nil => exact ⟨fun _ => hqq _ hv, fun z => absurd rfl z⟩
              | cons t2 r3 => exact ⟨fun z => absurd z hr3.cons.1.k0, fun _ => hqq _ hv⟩
            · rw [if_neg (by omega)] at hv
              exact hqq _ hv
          have h146n : r2 = [] → (Q_op h.2.1 = 4 ∨ Q_op h.2.1 = 6) → g_Run (d + 47) 205 146 [(0, .ref x), (1, g_n (-1)), (2, g_n q3)] [g_n q3] M19 (g_qI Q) := by
            intro hz ho
            subst hz
            have hv : Q_r3 h q3 [] = q3 := by
              unfold Q_r3
              rcases ho with ho | ho
              · rw [if_pos ho]
              · rw [if_neg (by omega), if_pos ho]
            refine s_X11_wrongInRequest_146 ⟨by decide, by decide⟩ hR17 hR17 fun _ => ⟨fun z => absurd z (by have := hr19.R.2.1; omega), fun _ => hqq _ hv⟩
          rw [m13]
          refine ⟨fun o4 => ⟨fun _ => ?_, fun z => absurd o4 z⟩, fun o4 => ⟨fun o6 => ⟨fun z => absurd z o4, fun _ => ?_⟩, fun o6 => ?_⟩⟩
          · refine c_wrongChange (d := d + 43) (De := De) (r := r2) hx19 m0 A19 m15 hr19 (fun z => ?_) fun t r3 z => ?_
            · exact fun _ _ _ => h146n z (Or.inl o4)
            · intro _ _ hRv
              refine h146 t r3 z _ ?_ ?_ hRv
              · rw [z]
                unfold Q_r3
                rw [if_pos o4]
                show (if t.1 = 3 ∧ t.2.1 = b_tx 11 then Q_nx (q3 + (b_el t.1 t.2.1 t.2.2).length) r3 else q3) = _
                by_cases g3 : t.1 = 3 ∧ t.2.1 = b_tx 11
                · rw [if_pos g3, if_pos g3, if_pos rfl]
                · rw [if_neg g3, if_neg g3, if_neg (by have := hr19.R.2.1; omega)]
              · split
                · exact Or.inl rfl
                · exact Or.inr hr19.R.2.1
          · have hk4 : h.1 = 4 := by
              unfold Q_hd at g2
              rw [if_neg (by omega), if_neg (by omega), if_pos o6] at g2
              unfold Q_pa at g2
              by_cases g4 : h.1 = 4
              · exact g4
              · rw [if_neg g4] at g2
                exact absurd g2 (by decide)
            refine c_wrongDown (d := d + 43) (De := De) (Dh := De) (h := h) (r := r2) hx19 m0 A19 m14 m15 (by rw [B19]; exact hh) hk4 hr19 (fun z => ?_) fun t r3 z => ?_
            · exact fun _ _ _ => h146n z (Or.inr o6)
            · intro _ _ hRv
              refine h146 t r3 z _ ?_ ?_ hRv
              · rw [z]
                unfold Q_r3
                rw [if_neg o4, if_pos o6]
              · rcases Q_dn_R q3 h t with y | y
                · exact Or.inl y
                · exact Or.inr (by have := hr19.R.2.1; omega)
          · refine ⟨b, m0, c_kdR (d := d + 46) A19 (by decide) hr19.lim ?_⟩
            intro _ _ _
            have hv : Q_r3 h q3 r2 = Q_nx q3 r2 := by
              unfold Q_r3
              rw [if_neg o4, if_neg o6]
            cases r2 with
            | nil => exact ⟨fun _ => hqq _ hv, fun z => absurd rfl z⟩
            | cons t r3 => exact ⟨fun z => absurd z hr19.cons.1.k0, fun _ => hqq _ hv⟩
        refine ⟨fun z => ?_, fun z => ?_⟩
        · have z0 := (g_lc0 _ _).mp z
          exact h92 0 s0 (Or.inl rfl) hs0 (fun _ => rfl) fun y => absurd (z0.symm.trans y) (by decide)
        · exact h92 1 s1 (Or.inr rfl) hs1 (fun y => absurd ((g_lc0 _ _).mpr y) z) fun _ => rfl
    · have g3 : Q_hd 8 h ≠ -1 := by omega
      rw [if_neg g3] at hq
      refine ⟨fun z => absurd z (by omega), fun _ => ?_⟩
      exact hq M22 X22 fun z2 => absurd z2 g3
end QWHOLE
