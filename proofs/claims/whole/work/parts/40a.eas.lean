/-! THE REFERENCE IS ASKED -/
/-- the reference holds a state -/
def E_W (m : Nat) (ρ : Nat → Nat) (S : W_S) (q : Nat → List (Nat × Int × List b_E)) (M : g_M) : Prop := E_H m ρ S.1 q S.2.2 M ∧ (g_i M m 40 = 0 ∨ g_i M m 40 = 1) ∧ (g_i M m 24 = 0 ∨ g_i M m 24 = 1) ∧ ∀ w, w < 2 → R_dn (q w) = S.2.1 w
/-- the answer's bytes stand -/
def E_an (m : Nat) (ρ : Nat → Nat) (an : List Int) (M : g_M) : Prop := g_i M m 3 = an.length ∧ an.length ≤ 8000 ∧ b_at (g_i M (ρ 0)) 2598000 an
theorem Q_rq_2 {es : List b_E} (hq : Q_rq 4 es = -1) : ∃ h s r, es = h :: s :: r := by
  match es, hq with
  | [], hq => exact absurd (show (4 : Int) = -1 from hq) (by decide)
  | [h], hq =>
    exfalso
    rw [Q_rq_c] at hq
    by_cases g1 : Q_op h.2.1 = 0
    · rw [if_pos g1] at hq
      exact absurd hq (by decide)
    · rw [if_neg g1] at hq
      by_cases g2 : Q_hd 4 h = -1
      · rw [if_pos g2] at hq
        have hq : (4 : Int) + ((b_el h.1 h.2.1 h.2.2).length : Int) = -1 := hq
        omega
      · rw [if_neg g2] at hq
        exact g2 hq
  | h :: s :: r, _ => exact ⟨h, s, r, rfl⟩
theorem A_doc_w4 {B : Int → Int} {p : Int} {x : List Int} (h : b_at B p (A_doc x)) (hl : (A_doc x).length ≤ 8000) : b_w4 B p = (A_doc x).length := by
  have h1 : b_at B p (b_le4 ((x.length : Int) + 5)) := (b_app.mp h).1
  have h2 := A_doc_len x
  rw [b_w4_le4 (by omega) (by omega) h1]
  omega
section EASK
variable {m d : Nat} {ρ : Nat → Nat} {M M1 M2 : g_M} {S : W_S} {q : Nat → List (Nat × Int × List b_E)} {w : Nat}
theorem E_W.al (h : E_W m ρ S q M) (f : e_fr (fun y k => (y = m ∧ (k = 3 ∨ k = 4 ∨ k = 5 ∨ k = 6 ∨ k = 77)) ∨ (y = ρ 0 ∧ 2598000 ≤ k ∧ k < 2606000)) M M1) : E_W m ρ S q M1 := by
  have n0 : ∀ k : Int, (k = 40 ∨ k = 24) → ¬ ((m = m ∧ (k = 3 ∨ k = 4 ∨ k = 5 ∨ k = 6 ∨ k = 77)) ∨ (m = ρ 0 ∧ 2598000 ≤ k ∧ k < 2606000)) := fun k hk z => by
    rcases z with ⟨-, z⟩ | ⟨-, z, -⟩ <;> omega
  refine ⟨h.1.pp f fun y k z => ?_, ?_, ?_, h.2.2.2⟩
  · rcases z with ⟨e, hk⟩ | ⟨e, h1, h2⟩
    · exact Or.inl ⟨e, by omega⟩
    · exact Or.inr (Or.inr ⟨e, Or.inr ⟨h1, by omega⟩⟩)
  · rw [f.2.1 m 40 (n0 40 (by omega))]
    exact h.2.1
  · rw [f.2.1 m 24 (n0 24 (by omega))]
    exact h.2.2.1
/-- a fault is told -/
theorem e_74 {Q : Int → g_M → Prop} {v1 v2 c p : Int} (hv1 : g_InR v1) (hv2 : g_InR v2) (H : E_W m ρ S q M) (h7 : g_i M m 7 = c) (h8 : g_i M m 8 = p) (hq : ∀ M1, M1.1 = M.1 → (∀ x k, g_r M1 x k = g_r M x k) → E_W m ρ S q M1 → E_an m ρ (A_flt c p) M1 → g_i M1 m 2 = g_i M m 2 → Q (A_flt c p).length M1) : g_Run (d + 8) 426 74 [(0, .ref m), (1, g_n v1), (2, g_n v2)] [] M (g_qI Q) := by
  have hB := H.1.1
  have hR := hB.R
  have n0 : m ≠ ρ 0 := fun z => hB.nm (by decide) z.symm
  obtain ⟨-, -, -, -, -, -, -, t1, t2⟩ := W_tx
  refine s_X12_ask_74 (a0 := m) hv1 hv2 fun _ => ⟨hB.1, e_beginAnswer (d := d + 4) hR fun M2 f2 W2 h77 => ?_⟩
  have keep : ∀ {M3 M4 : g_M}, e_fr (A_L m (ρ 0)) M3 M4 → ∀ k : Int, (k = 7 ∨ k = 8 ∨ k = 2) → g_i M4 m k = g_i M3 m k := fun f k hk => f.2.1 m k fun z => by
    rcases z with ⟨-, z⟩ | ⟨z, -⟩
    · omega
    · exact n0 z
  have k77 : ∀ {M3 M4 : g_M}, e_fr (e_WL m (ρ 0) 2598000 2606000) M3 M4 → g_i M4 m 77 = g_i M3 m 77 := fun f => f.2.1 m 77 fun z => by
    rcases z with ⟨-, z⟩ | ⟨z, -⟩
    · omega
    · exact n0 z
  have W2' : e_Wr m (ρ 0) 2598000 2606000 ([0, 0, 0, 0] ++ []) M2 := W2
  intro _ ok2
  rw [keep f2 7 (by omega), h7]
  have hcR : g_InR c := by rw [← h7, ← keep f2 7 (by omega)]; exact ok2.1 _ _
  refine e_putNumber (d := d + 4) (j := 140) (by decide) W2' hcR fun M3 f3 W3 => ?_
  intro _ ok3
  have f3' := f3.up fun y k z => A_L.w z
  rw [keep f3' 8 (by omega), keep f2 8 (by omega), h8]
  have hpR : g_InR p := by rw [← h8, ← keep f2 8 (by omega)]; exact ok2.1 _ _
  refine e_putNumber (d := d + 4) (j := 141) (by decide) W3 hpR fun M4 f4 W4 => ?_
  intro _ ok4
  have f4' := f4.up fun y k z => A_L.w z
  rw [t1, t2, List.append_nil, List.append_assoc] at W4
  have h774 : w_r 2598000 2606000 (g_i M4 m 77) 0 := by
    rw [k77 f4, k77 f3]
    exact h77
  have fin : ∀ (M5 : g_M) (r14 : Int), e_fr (A_L m (ρ 0)) M M5 → e_Wr m (ρ 0) 2598000 2606000 (A_flt c p) M5 → g_Call (d + 8) 227 [.ref m, g_n 2598000] M5 (g_qI fun r19 M16 => g_ext M5 M16 → g_ok M16 → g_InR r19 → (∀ M21, M21 = g_wi M16 m 3 r19 → g_ok M21 → Q (g_i M21 m 3) M21)) := fun M5 r14 f5 W5 => by
    have hl := A_flt_len c p
    obtain ⟨hat, -⟩ := W5.at (by omega)
    refine e_int4 (d := d + 6) W5.1 (by decide) (by decide) ?_
    have e4 : b_w4 (g_i M5 (ρ 0)) 2598000 = (A_flt c p).length := A_doc_w4 hat hl
    rw [e4]
    intro _ _ _ M21 e21 _
    have f21 : e_fr (fun y k => y = m ∧ k = 3) M5 M21 := by
      rw [e21]
      exact e_fr.wi _ ⟨rfl, rfl⟩
    have hf : e_fr (fun y k => (y = m ∧ (k = 3 ∨ k = 4 ∨ k = 5 ∨ k = 6 ∨ k = 77)) ∨ (y = ρ 0 ∧ 2598000 ≤ k ∧ k < 2606000)) M M21 := (f5.up fun y k z => by
      rcases z with ⟨e, hk⟩ | z
      · exact Or.inl ⟨e, by omega⟩
      · exact Or.inr z).tr (f21.up fun y k z => Or.inl ⟨z.1, Or.inl z.2⟩)
    have e3 : g_i M21 m 3 = (A_flt c p).length := by rw [e21, g_i_ws, if_pos rfl]
    rw [e3]
    refine hq M21 hf.1 hf.2.2 (H.al hf) ⟨e3, hl, b_at_keep hat fun k _ _ => f21.2.1 _ _ fun z => n0 z.1.symm⟩ ?_
    rw [f21.2.1 m 2 fun z => by omega, keep f5 2 (by omega)]
  refine e_endAnswer (d := d + 5) W4 h774 fun M5 f5 W5 => ?_
  have W5 : e_Wr m (ρ 0) 2598000 2606000 (A_flt c p) M5 := W5
  have f5a := ((f2.tr f3').tr f4').tr f5
  have hl := A_flt_len c p
  have h6 : g_i M5 m 6 = 0 := by
    rcases W5.2.2.2.2 with ⟨g, -, -, -⟩ | ⟨-, -, -, g⟩
    · exact g
    · omega
  refine ⟨fun _ => ?_, fun z => absurd h6 z⟩
  intro _ _ _
  exact fin M5 1 f5a W5
/-- a request is read and done -/
theorem e_asked {Q : Int → g_M → Prop} {n v2 : Int} (hn0 : 0 ≤ n) (hn : n ≤ 2000) (hv2 : g_InR v2) (H : E_W m ρ S q M) (hS : E_S m (ρ 0) (ρ 9) (g_i M (ρ 0)) M []) (hB : ∀ k, -128 ≤ g_i M (ρ 0) k ∧ g_i M (ρ 0) k ≤ 127) (h2 : g_i M m 2 = 0) (hok : W_ok S) (hgv : ∀ w, w < 2 → S.2.2 w ≤ 1000000) (hq : ∀ q1 M1, M1.1 = M.1 → (∀ x k, g_r M1 x k = g_r M x k) → E_W m ρ (W_ask (g_i M (ρ 0)) n S).2 q1 M1 → E_an m ρ (W_ask (g_i M (ρ 0)) n S).1 M1 → g_i M1 m 2 = 0 → Q (W_ask (g_i M (ρ 0)) n S).1.length M1) : g_Call (d + 233) 260 [.ref m, g_n n] M (g_qI fun r13 M10 => g_ext M M10 → g_ok M10 → g_InR r13 → ((r13 = 0 → g_Run (d + 233) 426 74 [(0, .ref m), (1, g_n n), (2, g_n v2)] [] M10 (g_qI Q)) ∧ (¬ r13 = 0 → g_Call (d + 233) 409 [.ref m] M10 (g_qI fun r18 M15 => g_ext M10 M15 → g_ok M15 → g_InR r18 → ((r18 = 0 → g_Run (d + 233) 426 74 [(0, .ref m), (1, g_n n), (2, g_n v2)] [] M15 (g_qI Q)) ∧ (¬ r18 = 0 → g_Call (d + 233) 416 [.ref m] M15 (g_qI fun r23 M20 => g_ext M15 M20 → g_ok M20 → g_InR r23 → ((r23 = 0 → g_Run (d + 233) 426 74 [(0, .ref m), (1, g_n n), (2, g_n v2)] [] M20 (g_qI Q)) ∧ (¬ r23 = 0 → g_Call (d + 233) 227 [.ref m, g_n 2598000] M20 (g_qI fun r28 M25 => g_ext M20 M25 → g_ok M25 → g_InR r28 → (∀ M30, M30 = g_wi M25 m 3 r28 → g_ok M30 → Q (g_i M30 m 3) M30))))))))))) := by
  have hHB := H.1.1
  have hR := hHB.R
  have hnR : g_InR n := ⟨by omega, by omega⟩
  obtain ⟨B, hBB⟩ : ∃ B, B = g_i M (ρ 0) := ⟨_, rfl⟩
  rw [← hBB] at hq hB
  have h4 := W_ask_4 (F := B) (n := n) (S := S)
  obtain ⟨R, hRR⟩ : ∃ R, R = r_doc B 16 0 n false := ⟨_, rfl⟩
  have hgd := r_doc_good hB 16 0 n false (by omega)
  rw [← hRR] at hgd
  -- a fault before it is done
  have bad : ∀ (M3 : g_M) (c p : Int), c ≠ 0 → M3 = g_wi (g_wi M m 7 c) m 8 p → W_as4 B n S = W_f S c p → g_Run (d + 233) 426 74 [(0, .ref m), (1, g_n n), (2, g_n v2)] [] M3 (g_qI Q) := fun M3 c p hc e3 hA => by
    obtain ⟨a1, a2, a3, a4, a5, a6⟩ := E_fl (c := c) (p := p) e3 H.1 hS H.2.1
    have hA2 : W_ask B n S = (A_flt c p, S) := by
      rw [h4, hA]
      show (W_an c p [], S) = _
      rw [W_an_f hc]
    rw [hA2] at hq
    refine e_74 (d := d + 225) (S := S) (q := q) hnR hv2 ⟨a1, a3, a4.k2.2.2.2 H.2.2.1, H.2.2.2⟩ a5 a6 fun M4 b1 b2 b3 b4 b5 => ?_
    exact hq q M4 (b1.trans a4.1) (fun x k => (b2 x k).trans (a4.2.1 x k)) b3 b4 (by rw [b5, a4.2.2.1]; exact h2)
  refine e_readAll (d := d + 179) hR (by rw [← hBB]; exact hB) hn0 (by omega) ?_
  rw [← hBB, ← hRR]
  refine ⟨fun h0 => ?_, fun h0 => ?_⟩
  · intro _ _ _
    refine ⟨fun z => absurd z (by decide), fun _ => ?_⟩
    obtain ⟨g1, g2, g3⟩ := hgd h0
    have g3 : b_gv 16 3 (b_sub B (R.2.2 - 0).toNat 0) := g3
    rw [Int.sub_zero] at g3
    obtain ⟨D1, es, eD, evb, elen, eok, egv, -, ech⟩ := b_gv_doc g3 (Or.inl rfl)
    have eD1 : D1 = 15 := by omega
    subst eD1
    have hes : W_es B n = es := by
      unfold W_es
      rw [← hRR]
      exact ech
    have hvl : (b_doc es).length = R.2.2.toNat := by rw [← evb, b_sub_len]
    have hat : b_at B 0 (b_doc es) := by
      have h9 := b_sub_at B R.2.2.toNat 0
      rw [evb] at h9
      exact h9
    have hct : E_ct (g_i M (ρ 0)) 0 15 es := by
      rw [← hBB]
      exact ⟨hat, by decide, by omega, egv⟩
    have hl20 : (b_doc es).length ≤ 2000 := by omega
    refine e_isRequest (d := d + 164) (De := 15) hR (hct.tl fun _ _ => rfl) (by omega) (by decide) (fun hm => ?_) fun hm => ?_
    · intro _ _ _
      refine ⟨fun z => absurd z (by decide), fun _ => ?_⟩
      obtain ⟨h, s, r, e1⟩ := Q_rq_2 hm
      have hA : W_as4 B n S = W_do 4 (4 + (b_el h.1 h.2.1 h.2.2).length + (b_el s.1 s.2.1 s.2.2).length) (W_w s) h (r.head?.getD (0, [], [])) S := by
        unfold W_as4
        rw [if_pos (by rw [← hRR]; exact h0), if_pos (by rw [hes]; exact hm), hes, e1]
      refine W_does_e (d := d) H.1 hS H.2.1 H.2.2.1 H.2.2.2 hok hgv hct e1 hl20 hm (fun o9 k0 F hF x hx V T m1 m2 e => ?_) ?_
      · obtain ⟨r1, r2, r3, r4⟩ := Q_rq_hs (by decide) (e1 ▸ hm)
        have k3 := Q_hd_3 (by decide) r2 (by omega)
        have hl3 := b_el_len h.1 h.2.1 h.2.2
        have hl4 := hF.2.2.2.2
        have hl5 : (b_el h.1 h.2.1 h.2.2).length ≤ (b_ser es).length := by
          have h9 : b_ser (h :: s :: r) = b_el h.1 h.2.1 h.2.2 ++ b_ser (s :: r) := rfl
          rw [e1, h9, List.length_append]
          exact Nat.le_add_right _ _
        have hl6 := b_doc_len es
        exact ⟨D_fg_of _ hF k3 (by omega) k0, fun s2 _ => D_fg_of _ hF k3 (by omega) k0⟩
      rw [← hA]
      rw [h4] at hq
      intro q1 M1 k1 S1 h401 H1 hd1
      have HW : E_W m ρ (W_as4 B n S).2.2 q1 M1 := ⟨H1, h401, k1.2.2.2 H.2.2.1, hd1⟩
      have m2 : g_i M1 m 2 = 0 := k1.2.2.1.trans h2
      refine ⟨fun c0 hl W1 => ?_, fun c p c0 c1 e7 e8 => ?_⟩
      · intro _ _ _
        refine ⟨fun z => absurd z (by decide), fun _ => ?_⟩
        have hW : W_an (W_as4 B n S).1.1 (W_as4 B n S).1.2 (W_as4 B n S).2.1 = A_doc (W_as4 B n S).2.1 := by
          unfold W_an
          rw [if_pos c0, if_pos hl]
        rw [hW] at hq
        have n0 : m ≠ ρ 0 := fun z => hHB.nm (by decide) z.symm
        obtain ⟨hat1, -⟩ := W1.at (by omega)
        refine e_int4 (d := d + 231) W1.1 (by decide) (by decide) ?_
        rw [A_doc_w4 hat1 hl]
        intro _ _ _ M30 e30 _
        have f30 : e_fr (fun y k => y = m ∧ k = 3) M1 M30 := by
          rw [e30]
          exact e_fr.wi _ ⟨rfl, rfl⟩
        have e3 : g_i M30 m 3 = (A_doc (W_as4 B n S).2.1).length := by rw [e30, g_i_ws, if_pos rfl]
        rw [e3]
        refine hq q1 M30 (f30.1.trans k1.1) (fun x k => (f30.2.2 x k).trans (k1.2.1 x k)) (HW.al (f30.up fun y k z => Or.inl ⟨z.1, Or.inl z.2⟩)) ⟨e3, hl, b_at_keep hat1 fun k _ _ => f30.2.1 _ _ fun z => n0 z.1.symm⟩ ?_
        rw [f30.2.1 m 2 fun z => by omega]
        exact m2
      · intro _ _ _
        refine ⟨fun _ => ?_, fun z => absurd rfl z⟩
        have hW : W_an (W_as4 B n S).1.1 (W_as4 B n S).1.2 (W_as4 B n S).2.1 = A_flt c p := by
          unfold W_an
          by_cases g : (W_as4 B n S).1.1 = 0
          · obtain ⟨a1, a2, a3⟩ := c0 g
            rw [if_pos g, if_neg (by omega), a2, a3]
          · obtain ⟨a1, a2⟩ := c1 g
            rw [if_neg g, a1, a2]
        rw [hW] at hq
        refine e_74 (d := d + 225) hnR hv2 HW e7 e8 fun M4 b1 b2 b3 b4 b5 => ?_
        exact hq q1 M4 (b1.trans k1.1) (fun x k => (b2 x k).trans (k1.2.1 x k)) b3 b4 (b5.trans m2)
    · show _ → _ → _ → _
      intro _ _ _
      refine ⟨fun _ => bad _ 9 (Q_rq 4 es) (by decide) rfl ?_, fun z => absurd rfl z⟩
      unfold W_as4
      rw [if_pos (by rw [← hRR]; exact h0), if_neg (by rw [hes]; exact hm), hes]
  · intro _ _ _
    refine ⟨fun _ => bad _ R.1 R.2.1 h0 rfl ?_, fun z => absurd rfl z⟩
    unfold W_as4
    rw [if_neg (by rw [← hRR]; exact h0), ← hRR]
end EASK
