/-! reading a request: the class's elements and documents -/
section READD
variable {d : Nat} {M : g_M} {o a : Nat} {n n0 : Int} {F : Int → Int}
theorem r_bad_R {last p : Int} (h : p < last) : r_bad F last p = -1 ∨ (p + 1 ≤ r_bad F last p ∧ r_bad F last p < r_z F last p) := u_bad_R F (r_z F last p) _ _
theorem c_end2 {Q : Int → g_M → Prop} {p last : Int} (hD : c_RD M o a n) (hF : ∀ q, 0 ≤ q → q < n0 → g_i M a (4 + q) = F q) (hn : 4 + n0 < n) (h0 : 0 ≤ p) (h1 : p < last) (h2 : last < n0) (h : r_z F last p < last → Q (4 + r_z F last p + 1) M) (h' : ¬ r_z F last p < last → ∀ r, 4 + last < r → r ≤ n → Q r M) : g_Call (d + 1) 110 [.ref a, g_n (4 + p)] M (g_qI Q) := by
  obtain ⟨hO, hr, hA, hn9⟩ := id hD
  have e : u_z (g_i M a) (4 + last - (4 + p) - 1).toNat (4 + p + 1) = 4 + r_z F last p := by
    rw [show 4 + last - (4 + p) - 1 = last - p - 1 by omega, show 4 + p + 1 = 4 + (p + 1) by omega, sh_z hF _ (by omega) (by omega)]
    rfl
  refine c_end hA hn9 (by omega) (last := 4 + last) (by omega) (by omega) (fun g => ?_) (fun g => ?_)
  · rw [e] at g ⊢
    exact h (by omega)
  · rw [e] at g
    exact h' (by omega)
theorem c_elem {Q : Int → g_M → Prop} {rv : Int → Int → Int × Int × Int} {row : Bool} {c p last item depth : Int} {es : List b_E} (hD : c_RD M o a n) (hF : ∀ q, 0 ≤ q → q < n0 → g_i M a (4 + q) = F q) (hn : 4 + n0 < n) (hm : n0 < 9000) (h0 : 0 ≤ c) (hp : p = c + 4 + (b_ser es).length) (hl : p < last) (h1 : last < n0) (hdp : g_InR depth) (hes : b_at F (c + 4) (b_ser es)) (hok : ∀ e ∈ es, b_okE e) (hcn : es.length < 2000) (hit : item = bif row then (es.length : Int) else -1)
    (hrv : ∀ k v (Q1 : Int → g_M → Prop), r_kind k → p < v → v ≤ last → c_post Q1 M o (rv k v) → g_Call (d + 4) 101 [.ref o, g_n k, g_n (4 + v), g_n (4 + last), g_n depth] M (g_qI Q1))
    (h : c_post Q M o (r_elm F rv row last es p)) : g_Call (d + 5) 99 [.ref o, g_n (4 + (c + 4)), g_n (4 + p), g_n (4 + last), g_n item, g_n depth] M (g_qI Q) := by
  obtain ⟨hO, hr, hA, hn9⟩ := id hD
  have hitR : g_InR item := by
    rw [hit]
    cases row
    · rw [cond_false]
      exact ⟨by decide, by decide⟩
    · rw [cond_true]
      exact ⟨by omega, by omega⟩
  have hFR : g_ok M → g_InR (F p) := fun hk => by
    have := hk.byte hA (4 + p)
    rw [hF p (by omega) (by omega)] at this
    exact ⟨by omega, by omega⟩
  obtain ⟨z1, z2, z3, z4⟩ := r_z_R (F := F) hl
  unfold r_elm at h
  have h73 : g_ok M → F p ≠ 0 → r_kind (F p) → g_Run (d + 4) 99 73 [(0, .ref o), (1, g_n (4 + (c + 4))), (2, g_n (4 + p)), (3, g_n (4 + last)), (4, g_n item), (5, g_n depth), (6, g_n (F p))] [] M (g_qI Q) := by
    intro hkM hk0 hk
    rw [if_neg hk0, if_pos hk] at h
    refine s_X6_element_73 ⟨by omega, by omega⟩ ⟨by omega, by omega⟩ ⟨by omega, by omega⟩ hitR hdp (hFR hkM) fun _ => ⟨⟨by omega, by omega⟩, hO, a, hr, c_end2 hD hF hn (by omega) hl h1 (fun g _ _ _ => ⟨⟨by omega, by omega⟩, fun _ => ⟨a, hr, n, hA, ⟨by omega, by omega⟩, ?_⟩, fun g2 => absurd (by omega) g2⟩) (fun g r r1 r2 _ _ _ => ⟨⟨by omega, by omega⟩, fun g2 => absurd g2 (by omega), fun _ => ?_⟩)⟩
    · rw [show 4 + r_z F last p + 1 - 1 = 4 + r_z F last p by omega, hF _ (by omega) (by omega), z4 g]
      rw [if_pos g] at h
      refine ⟨fun _ => ⟨a, hr, ?_⟩, fun g2 => absurd rfl g2⟩
      have hbd := r_bad_R (F := F) hl
      refine c_bad hA hn9 (by omega) (by omega) (by omega) (by omega) fun _ _ hbR => ?_
      have eb : u_bad (g_i M a) (4 + r_z F last p) (4 + r_z F last p - (4 + p + 1)).toNat (4 + p + 1) = if r_bad F last p = -1 then -1 else 4 + r_bad F last p := by
        rw [show 4 + r_z F last p - (4 + p + 1) = r_z F last p - (p + 1) by omega, show 4 + p + 1 = 4 + (p + 1) by omega]
        exact sh_bad hF (by omega) _ (by omega)
      rw [eb]
      by_cases g4 : r_bad F last p = -1
      · rw [if_pos g4] at h ⊢
        have hval : (r_wrong F row last es p = false) → g_InR (4 + r_z F last p + 1) ∧ g_Call (d + 4) 101 [.ref o, g_n (F p), g_n (4 + r_z F last p + 1), g_n (4 + last), g_n depth] M (g_qI fun r37 M34 => g_ext M M34 → g_ok M34 → g_InR r37 → Q r37 M34) := by
          intro g5
          rw [if_neg (by rw [g5]; decide)] at h
          rw [show 4 + r_z F last p + 1 = 4 + (r_z F last p + 1) by omega]
          exact ⟨⟨by omega, by omega⟩, hrv _ _ _ hk (by omega) (by omega) ⟨fun g _ _ _ => h.1 g, fun g _ _ _ => h.2 g⟩⟩
        have hbad7 : r_wrong F row last es p = true → g_Call (d + 4) 97 [.ref o, g_n 7, g_n (4 + p + 1)] M (g_qI fun r37 M34 => g_ext M M34 → g_ok M34 → g_InR r37 → Q r37 M34) := by
          intro g5
          rw [if_pos g5] at h
          rw [show 4 + p + 1 = 4 + (p + 1) by omega]
          exact c_fails hD ⟨by decide, by decide⟩ (by omega) (by omega) fun _ _ _ => h.bad (by decide)
        have hnl : (r_nm F last p).length = (r_z F last p - p - 1).toNat := b_sub_len _ _ _
        have hnat : b_at (g_i M a) (4 + (p + 1)) (r_nm F last p) := sh_b hF (by omega) (by omega) (b_sub_at _ _ _)
        refine ⟨fun _ => ⟨fun gi => ?_, fun gi => ⟨a, hr, ?_⟩⟩, fun g5 => absurd (by decide) g5⟩
        · have hrow : row = false := by
            cases row
            · rfl
            · rw [cond_true] at hit
              omega
          subst hrow
          have h8 := c_ahead (d := d + 1) (es := es) (x := r_nm F last p) (c := 4 + (c + 4)) (Q := fun r31 M28 => g_ext M M28 → g_ok M28 → g_InR r31 → ((r31 = 0 → g_InR (4 + r_z F last p + 1) ∧ g_Call (d + 4) 101 [.ref o, g_n (F p), g_n (4 + r_z F last p + 1), g_n (4 + last), g_n depth] M28 (g_qI fun r37 M34 => g_ext M28 M34 → g_ok M34 → g_InR r37 → Q r37 M34)) ∧ (¬ r31 = 0 → g_Call (d + 4) 97 [.ref o, g_n 7, g_n (4 + p + 1)] M28 (g_qI fun r42 M39 => g_ext M28 M39 → g_ok M39 → g_InR r42 → Q r42 M39)))) hD (sh_b hF (by omega) (by omega) hes) hok (by omega) hcn (by rwa [show 4 + (c + 4) + ((b_ser es).length : Int) + 1 = 4 + (p + 1) by omega]) (by omega) ?_
          · rwa [show 4 + (c + 4) + ((b_ser es).length : Int) = 4 + p by omega, show 4 + p + 1 + ((r_nm F last p).length : Int) = 4 + r_z F last p by omega] at h8
          · intro _ _ _
            by_cases g5 : u_has es (r_nm F last p) = true
            · rw [if_pos g5]
              exact ⟨fun g6 => absurd g6 (by decide), fun _ => hbad7 g5⟩
            · rw [if_neg g5]
              exact ⟨fun _ => hval (by unfold r_wrong; rw [cond_false]; simpa using g5), fun g6 => absurd rfl g6⟩
        · have hrow : row = true := by
            cases row
            · rw [cond_false] at hit
              omega
            · rfl
          subst hrow
          rw [cond_true] at hit
          subst hit
          have h8 := c_isDec (d := d + 3) (x := r_nm F last p) (k := es.length) (p := 4 + (p + 1)) (Q := fun r49 M46 => g_ext M M46 → g_ok M46 → g_InR r49 → ((r49 = 0 → g_Call (d + 4) 97 [.ref o, g_n 7, g_n (4 + p + 1)] M46 (g_qI fun r60 M57 => g_ext M46 M57 → g_ok M57 → g_InR r60 → Q r60 M57)) ∧ (¬ r49 = 0 → g_InR (4 + r_z F last p + 1) ∧ g_Call (d + 4) 101 [.ref o, g_n (F p), g_n (4 + r_z F last p + 1), g_n (4 + last), g_n depth] M46 (g_qI fun r55 M52 => g_ext M46 M52 → g_ok M52 → g_InR r55 → Q r55 M52)))) hA hn9 hnat (by omega) (by omega) (by omega) ?_
          · rwa [show 4 + (p + 1) + ((r_nm F last p).length : Int) = 4 + r_z F last p by omega, show 4 + (p + 1) = 4 + p + 1 by omega] at h8
          · intro _ _ _
            by_cases g5 : r_nm F last p = b_dg es.length
            · rw [if_pos g5]
              exact ⟨fun g6 => absurd g6 (by decide), fun _ => hval (by unfold r_wrong; rw [cond_true, decide_eq_true g5]; rfl)⟩
            · rw [if_neg g5]
              exact ⟨fun _ => hbad7 (by unfold r_wrong; rw [cond_true, decide_eq_false g5]; rfl), fun g6 => absurd rfl g6⟩
      · rw [if_neg g4] at h ⊢
        exact ⟨fun g6 => absurd g6 (by omega), fun _ => c_fails hD ⟨by decide, by decide⟩ (by omega) (by omega) fun _ _ _ => h.bad (by decide)⟩
    · rw [if_neg g] at h
      rw [show 4 + p + 1 = 4 + (p + 1) by omega]
      exact c_fails hD ⟨by decide, by decide⟩ (by omega) (by omega) fun _ _ _ => h.bad (by decide)
  refine m_X6_element ⟨by omega, by omega⟩ ⟨by omega, by omega⟩ ⟨by omega, by omega⟩ hitR hdp fun hkM => ⟨hO, a, hr, n, hA, ⟨by omega, by omega⟩, ?_⟩
  rw [hF p (by omega) (by omega)]
  refine ⟨fun g => ?_, fun g => ⟨fun k1 => h73 hkM g (Or.inl k1), fun k1 => ⟨fun k2 => h73 hkM g (Or.inr (Or.inl k2)), fun k2 => ⟨fun k3 => h73 hkM g (Or.inr (Or.inr (Or.inl k3))), fun k3 => ⟨fun k4 => h73 hkM g (Or.inr (Or.inr (Or.inr (Or.inl k4)))), fun k4 => ⟨fun k5 => h73 hkM g (Or.inr (Or.inr (Or.inr (Or.inr (Or.inl k5))))), fun k5 => ⟨fun k6 => h73 hkM g (Or.inr (Or.inr (Or.inr (Or.inr (Or.inr (Or.inl k6)))))), fun k6 => ⟨fun k7 => h73 hkM g (Or.inr (Or.inr (Or.inr (Or.inr (Or.inr (Or.inr k7)))))), fun k7 => ?_⟩⟩⟩⟩⟩⟩⟩⟩
  · rw [if_pos g] at h
    exact c_fails hD ⟨by decide, by decide⟩ (by omega) (by omega) fun _ _ _ => h.bad (by decide)
  · rw [if_neg g, if_neg (by unfold r_kind; omega)] at h
    exact c_fails hD ⟨by decide, by decide⟩ (by omega) (by omega) fun _ _ _ => h.bad (by decide)
theorem b_gv_ok {D : Nat} {es : List b_E} (h : ∀ e ∈ es, b_nz e.2.1 ∧ b_gv D e.1 e.2.2) : ∀ e ∈ es, b_okE e := fun e he => ⟨(h e he).1, b_gv_vs (h e he).2⟩
theorem c_doc (hD : c_RD M o a n) (hB : ∀ q, -128 ≤ F q ∧ F q ≤ 127) (hF : ∀ q, 0 ≤ q → q < n0 → g_i M a (4 + q) = F q) (hn : 4 + n0 < n) (hm : n0 < 3900) : ∀ (D : Nat) {c limit : Int} {row : Bool} {d : Nat} {Q : Int → g_M → Prop}, D ≤ 16 → 0 ≤ c → c ≤ limit → limit ≤ n0 → c_post Q M o (r_doc F D c limit row) → g_Call (d + 3 * D + 3) 98 [.ref o, g_n (4 + c), g_n (4 + limit), g_n (bif row then 4 else 3), g_n (17 - (D : Int))] M (g_qI Q) := by
  obtain ⟨hO, hr, hA, hn9⟩ := id hD
  have hkR : ∀ row : Bool, g_InR (bif row then 4 else 3) := fun row => by
    cases row <;> exact ⟨by decide, by decide⟩
  intro D
  induction D with
  | zero =>
    intro c limit row d Q hD16 h0 hl h1 h
    unfold r_doc at h
    refine m_X6_document ⟨by omega, by omega⟩ ⟨by omega, by omega⟩ (hkR row) ⟨by omega, by omega⟩ fun _ => ⟨⟨by omega, by omega⟩, ?_⟩
    rw [show 4 + limit - (4 + c) = limit - c by omega]
    refine ⟨fun g1 => ⟨hO, ?_⟩, fun g1 => ⟨hO, a, hr, c_w4 hA ⟨by omega, by omega⟩ (by omega) (by omega) fun _ _ hR => ?_⟩⟩
    · rw [if_pos g1] at h
      exact c_fails hD ⟨by decide, by decide⟩ h0 (by omega) fun _ _ _ => h.bad (by decide)
    rw [if_neg g1] at h
    rw [sh_w4 hF h0 (by omega)] at hR ⊢
    rw [u_ltU5 hR]
    refine ⟨fun g2 => ?_, fun g2 => ⟨fun e => absurd e (by omega), fun _ => ?_⟩⟩
    · rw [if_pos g2] at h
      exact c_fails hD ⟨by decide, by decide⟩ h0 (by omega) fun _ _ _ => h.bad (by decide)
    rw [if_neg g2] at h
    refine s_X6_document_64 ⟨by omega, by omega⟩ ⟨by omega, by omega⟩ (hkR row) ⟨by omega, by omega⟩ ⟨by omega, by omega⟩ fun _ => ?_
    rw [u_gtUs hR (by omega) (by omega)]
    refine ⟨fun g3 => ⟨hO, ?_⟩, fun g3 => ⟨fun _ => ⟨hO, ?_⟩, fun g4 => absurd (by omega) g4⟩⟩
    · rw [if_pos g3] at h
      exact c_fails hD ⟨by decide, by decide⟩ h0 (by omega) fun _ _ _ => h.bad (by decide)
    · rw [if_neg g3] at h
      exact c_fails hD ⟨by decide, by decide⟩ h0 (by omega) fun _ _ _ => h.bad (by decide)
  | succ D ih =>
    intro c limit row d Q hD16 h0 hl h1 h
    unfold r_doc at h
    refine m_X6_document (d := d + 3 * (D + 1) + 2) ⟨by omega, by omega⟩ ⟨by omega, by omega⟩ (hkR row) ⟨by omega, by omega⟩ fun _ => ⟨⟨by omega, by omega⟩, ?_⟩
    rw [show 4 + limit - (4 + c) = limit - c by omega]
    refine ⟨fun g1 => ⟨hO, ?_⟩, fun g1 => ⟨hO, a, hr, c_w4 hA ⟨by omega, by omega⟩ (by omega) (by omega) fun _ _ hR => ?_⟩⟩
    · rw [if_pos g1] at h
      exact c_fails hD ⟨by decide, by decide⟩ h0 (by omega) fun _ _ _ => h.bad (by decide)
    rw [if_neg g1] at h
    rw [sh_w4 hF h0 (by omega)] at hR ⊢
    rw [u_ltU5 hR]
    have h64 : ¬ (0 ≤ b_w4 F c ∧ (b_w4 F c < 5 ∨ D = 15 ∧ b_w4 F c < limit - c)) → g_Run (d + 3 * (D + 1) + 2) 98 64 [(0, .ref o), (1, g_n (4 + c)), (2, g_n (4 + limit)), (3, g_n (bif row then 4 else 3)), (4, g_n (17 - ((D + 1 : Nat) : Int))), (5, g_n (limit - c)), (6, .long ((Int64.ofInt (b_w4 F c)) &&& 4294967295))] [] M (g_qI Q) := by
      intro g2
      rw [if_neg g2] at h
      refine s_X6_document_64 ⟨by omega, by omega⟩ ⟨by omega, by omega⟩ (hkR row) ⟨by omega, by omega⟩ ⟨by omega, by omega⟩ fun _ => ?_
      rw [u_gtUs hR (by omega) (by omega), u_U32 hR]
      refine ⟨fun g3 => ⟨hO, ?_⟩, fun g3 => ⟨fun g4 => absurd g4 (by omega), fun _ => ?_⟩⟩
      · rw [if_pos g3] at h
        exact c_fails hD ⟨by decide, by decide⟩ h0 (by omega) fun _ _ _ => h.bad (by decide)
      rw [if_neg g3] at h
      refine ⟨⟨by omega, by omega⟩, ⟨by omega, by omega⟩, ⟨by omega, by omega⟩, ?_⟩
      generalize hlast : c + b_w4 F c - 1 = last at h
      have hgood : ∀ k v, r_kind k → v ≤ last → c < v → r_good F D v last k (r_val F (fun v last row => r_doc F D v last row) last k v) := fun k v a1 a2 a3 => r_val_good hB (by omega) a2 a1 (fun row => r_doc_good hB D v last row (by omega))
      generalize hrv : r_val F (fun v last row => r_doc F D v last row) last = rv at h hgood
      have h166 : ∀ (p i : Int), g_InR p → g_InR i → c_post Q M o (r_end F last) → g_Run (d + 3 * (D + 1) + 2) 98 166 [(0, .ref o), (1, g_n (4 + c)), (2, g_n (4 + limit)), (3, g_n (bif row then 4 else 3)), (4, g_n (17 - ((D + 1 : Nat) : Int))), (5, g_n (limit - c)), (6, .long ((Int64.ofInt (b_w4 F c)) &&& 4294967295)), (8, g_n (4 + last)), (9, g_n p), (10, g_n i)] [] M (g_qI Q) := by
        intro p i hp hi hq
        refine s_X6_document_166 ⟨by omega, by omega⟩ ⟨by omega, by omega⟩ (hkR row) ⟨by omega, by omega⟩ ⟨by omega, by omega⟩ ⟨by omega, by omega⟩ hp hi fun _ => ⟨hO, a, hr, n, hA, ⟨by omega, by omega⟩, ?_⟩
        rw [hF last (by omega) (by omega)]
        unfold r_end at hq
        refine ⟨fun g => ⟨⟨by omega, by omega⟩, ?_⟩, fun g => ?_⟩
        · rw [if_pos g] at hq
          have := hq.1 rfl
          simp only at this
          rwa [show 4 + last + 1 = 4 + (last + 1) by omega]
        · rw [if_neg g] at hq
          exact c_fails hD ⟨by decide, by decide⟩ (by omega) (by omega) fun _ _ _ => hq.bad (by decide)
      have hloop : ∀ (f : Nat) (es : List b_E) (p : Int), b_at F (c + 4) (b_ser es) → p = c + 4 + (b_ser es).length → p ≤ last → last - p ≤ f → (∀ e ∈ es, b_nz e.2.1 ∧ b_gv D e.1 e.2.2) → c_post Q M o (r_els F rv row last f es p) → g_Run (d + 3 * (D + 1) + 2) 98 112 [(0, .ref o), (1, g_n (4 + c)), (2, g_n (4 + limit)), (3, g_n (bif row then 4 else 3)), (4, g_n (17 - ((D + 1 : Nat) : Int))), (5, g_n (limit - c)), (6, .long ((Int64.ofInt (b_w4 F c)) &&& 4294967295)), (8, g_n (4 + last)), (9, g_n (4 + p)), (10, g_n es.length)] [] M (g_qI Q) := by
        intro f
        induction f with
        | zero =>
          intro es p e1 e2 e3 e4 e5 hq
          have hmany := b_ser_many es
          exact s_X6_document_112 ⟨by omega, by omega⟩ ⟨by omega, by omega⟩ (hkR row) ⟨by omega, by omega⟩ ⟨by omega, by omega⟩ ⟨by omega, by omega⟩ ⟨by omega, by omega⟩ ⟨by omega, by omega⟩ fun _ => ⟨fun _ => ⟨fun g => absurd g (by omega), fun _ => h166 _ _ ⟨by omega, by omega⟩ ⟨by omega, by omega⟩ hq⟩, fun g => absurd (by omega) g⟩
        | succ f ih2 =>
          intro es p e1 e2 e3 e4 e5 hq
          have hmany := b_ser_many es
          unfold r_els at hq
          by_cases g : p < last
          · rw [if_pos g] at hq
            have helem : ∀ item : Int, item = (bif row then (es.length : Int) else -1) → g_Call (d + 3 * (D + 1) + 2) 99 [.ref o, g_n (4 + (c + 4)), g_n (4 + p), g_n (4 + last), g_n item, g_n (17 - ((D + 1 : Nat) : Int))] M (g_qI fun r13 M10 => g_ext M M10 → g_ok M10 → g_InR r13 → ((r13 < 0 → Q ((-1)) M10) ∧ (¬ r13 < 0 → g_InR ((es.length : Int) + 1) ∧ g_Run (d + 3 * (D + 1) + 2) 98 112 [(0, .ref o), (1, g_n (4 + c)), (2, g_n (4 + limit)), (3, g_n (bif row then 4 else 3)), (4, g_n (17 - ((D + 1 : Nat) : Int))), (5, g_n (limit - c)), (6, .long ((Int64.ofInt (b_w4 F c)) &&& 4294967295)), (8, g_n (4 + last)), (9, g_n r13), (10, g_n ((es.length : Int) + 1))] [] M10 (g_qI Q)))) := by
              intro item hit
              refine c_elem (d := d + 3 * D) (rv := rv) hD hF hn (by omega) h0 e2 g (by omega) ⟨by omega, by omega⟩ e1 (b_gv_ok e5) (by omega) hit (fun k v Q1 a1 a2 a3 a4 => ?_) ⟨fun z _ _ _ => ?_, fun z _ _ _ => ?_⟩
              · rw [← hrv] at a4
                refine c_value hD hB hF hn (by omega) (by omega) a3 (by omega) a1 (by omega) (by omega) (fun row2 Q2 a5 => ?_) a4
                have := ih (d := d) (by omega) (by omega) a3 (by omega) a5
                rwa [show (17 : Int) - (D : Int) = 17 - ((D + 1 : Nat) : Int) + 1 by omega] at this
              · obtain ⟨w1, w2, w3, w4, w5, w6, w7, -⟩ := r_elm_good g (fun k v a1 a2 a3 => hgood k v a1 a2 (by omega)) z
                have hlen := b_el_len (r_E F rv last p).1 (r_E F rv last p).2.1 (r_E F rv last p).2.2
                rw [if_pos z] at hq
                rw [w1]
                have hs : b_ser (es ++ [r_E F rv last p]) = b_ser es ++ b_el (r_E F rv last p).1 (r_E F rv last p).2.1 (r_E F rv last p).2.2 := by
                  rw [b_ser_app]
                  show _ ++ (b_el _ _ _ ++ []) = _
                  rw [List.append_nil]
                refine ⟨fun g2 => absurd g2 (by omega), fun _ => ⟨⟨by omega, by omega⟩, ?_⟩⟩
                have h8 := ih2 (es ++ [r_E F rv last p]) _ (by rw [hs]; exact b_app.mpr ⟨e1, by rwa [← e2]⟩) (by rw [hs, List.length_append]; omega) w7 (by omega) (fun e he => by
                  rcases List.mem_append.mp he with he | he
                  · exact e5 e he
                  · rw [List.mem_singleton.mp he]
                    exact ⟨w4, w5⟩) hq
                rwa [List.length_append, List.length_singleton, show ((es.length + 1 : Nat) : Int) = (es.length : Int) + 1 by omega] at h8
              · rw [if_neg z] at hq
                exact ⟨fun _ => hq.2 z, fun g2 => absurd (by decide) g2⟩
            refine s_X6_document_112 ⟨by omega, by omega⟩ ⟨by omega, by omega⟩ (hkR row) ⟨by omega, by omega⟩ ⟨by omega, by omega⟩ ⟨by omega, by omega⟩ ⟨by omega, by omega⟩ ⟨by omega, by omega⟩ fun _ => ⟨fun _ => ⟨fun _ => ⟨⟨by omega, by omega⟩, ?_⟩, fun g2 => absurd (by omega) g2⟩, fun g2 => absurd (by omega) g2⟩
            rw [show 4 + c + 4 = 4 + (c + 4) by omega]
            refine ⟨fun gk => ⟨hO, helem _ ?_⟩, fun gk => ⟨hO, helem _ ?_⟩⟩
            · cases row
              · exact absurd gk (by decide)
              · rfl
            · cases row
              · rfl
              · exact absurd rfl gk
          · rw [if_neg g] at hq
            exact s_X6_document_112 ⟨by omega, by omega⟩ ⟨by omega, by omega⟩ (hkR row) ⟨by omega, by omega⟩ ⟨by omega, by omega⟩ ⟨by omega, by omega⟩ ⟨by omega, by omega⟩ ⟨by omega, by omega⟩ fun _ => ⟨fun _ => ⟨fun g2 => absurd g2 (by omega), fun _ => h166 _ _ ⟨by omega, by omega⟩ ⟨by omega, by omega⟩ hq⟩, fun g2 => absurd (by omega) g2⟩
      have h8 := hloop (b_w4 F c).toNat [] (c + 4) (b_nil _ _) (by rw [show b_ser [] = [] from rfl, List.length_nil]; omega) (by omega) (by omega) (fun e he => absurd he (by simp)) h
      rw [show 4 + c + b_w4 F c - 1 = 4 + last by omega, show 4 + c + 4 = 4 + (c + 4) by omega]
      exact h8
    refine ⟨fun g2 => ?_, fun g2 => ⟨fun e => ?_, fun e => h64 (by omega)⟩⟩
    · rw [if_pos (by omega)] at h
      exact c_fails hD ⟨by decide, by decide⟩ h0 (by omega) fun _ _ _ => h.bad (by decide)
    · rw [u_ltUs hR (by omega) (by omega)]
      refine ⟨fun g3 => ?_, fun g3 => h64 (by omega)⟩
      rw [if_pos (by omega)] at h
      exact c_fails hD ⟨by decide, by decide⟩ h0 (by omega) fun _ _ _ => h.bad (by decide)
end READD
