/-! CHANGES: the class puts values in -/
section PUTS
variable {d o b po pf pt ch wo : Nat} {F : Int → Int} {M M1 : g_M} {c : List h_F} {e p : b_E} {es l t mid mid2 : List b_E} {Q : Int → g_M → Prop}
theorem X_Sh.wr2 {h : Nat} {a lim : Int} (hS : X_Sh F o b po pf pt ch wo c h M) (f : e_fr (c_WL wo b a lim) M M1) (k1 : h_at 163608 c ≤ a) (k2 : lim ≤ h_at 163608 c + h) : X_Sh F o b po pf pt ch wo c h M1 ∧ e_fr (X_SL o b wo) M M1 := by
  have hS0 := hS
  obtain ⟨hO, hF, h1, h2', h3, h4, h6, h7⟩ := hS
  obtain ⟨n1, n2, n3, n4, n5, n6⟩ := hO.ne
  have hge := h_at_ge c 163608
  have f2 : e_fr (X_SL o b wo) M M1 := f.up fun y k hy => by
    rcases hy with ⟨y1, y2⟩ | ⟨y1, y2, y3⟩
    · exact Or.inr (Or.inl ⟨y1, by omega⟩)
    · exact Or.inr (Or.inr ⟨y1, by omega⟩)
  refine ⟨hS0.cl f2 (h_Z_keep c 163608 h3 fun k k1 k2 k3 => f.2.1 b k fun z => ?_) ?_, f2⟩
  · rcases z with ⟨z, -⟩ | ⟨-, z1, z2⟩
    · exact n3 z.symm
    · exact k3 ⟨by omega, by omega⟩
  · rw [f.2.1 o 5 (fun z => by
      rcases z with ⟨z, -⟩ | ⟨z, -⟩
      · exact n2 z
      · exact n1 z)]
    exact h4
theorem X_6 {h : Nat} {a lim : Int} (hS : X_Sh F o b po pf pt ch wo c h M) (f : e_fr (c_WL wo b a lim) M M1) : g_i M1 o 6 = g_i M o 6 := by
  obtain ⟨n1, n2, n3, n4, n5, n6⟩ := hS.1.ne
  refine f.2.1 o 6 fun z => ?_
  rcases z with ⟨z, -⟩ | ⟨z, -⟩
  · exact n2 z
  · exact n1 z
/-- a step's bytes -/
theorem X_Pa.x {s : Nat} {x : List Int} {r : List (List Int)} (h : X_Pa F b po pf pt s (x :: r) M) : 0 ≤ g_i M pf s ∧ g_i M pt s = g_i M pf s + x.length ∧ g_i M pt s ≤ 100000 ∧ b_at F (g_i M pf s) x := by
  obtain ⟨-, -, h1, h2, h3, h4, -⟩ := h
  exact ⟨h1, h2, h3, h4⟩
theorem c_mkdoc {s D : Nat} {x : List Int} {r : List (List Int)} (hSh : X_Sh F o b po pf pt ch wo (c ++ [(e.1, e.2.1, es, [])]) 0 M) (hcl : c.length ≤ 9) (hs : b_st (g_i M b) 246408 (h_at 163608 c) D e.1 e.2.1 e.2.2) (he : e.2.2 = b_doc es) (hPa : X_Pa F b po pf pt s (x :: r) M) (hs8 : s < 8) (hmx : h_hs 0 (c ++ [(e.1, e.2.1, es, [])]) + x.length + 7 ≤ 15000) (hq : ∀ M1, e_fr (X_SL o b wo) M M1 → X_St F o b po pf pt ch wo (c ++ [(e.1, e.2.1, es, [])]) (3, x, b_doc []) M1 → g_i M1 o 6 = 1 → Q (h_at 163608 (c ++ [(e.1, e.2.1, es, [])])) M1) : g_Call (d + 4) 28 [.ref o, g_n s] M (g_qI Q) := by
  have hSh0 := hSh
  obtain ⟨hO, hF, hok, hln, hZ, h5, h4, hch⟩ := hSh
  have hO0 := hO
  obtain ⟨⟨o1, o2, o3, o4, o5⟩, ⟨p1, p2, p3, p4, p5, p6⟩, och, ob, ow, owb⟩ := hO
  obtain ⟨x1, x2, x3, x4⟩ := hPa.x
  have hin := h_at_in 0 (c ++ [(e.1, e.2.1, es, [])]) 163608
  have hge := h_at_ge (c ++ [(e.1, e.2.1, es, [])]) 163608
  have hser : (b_ser es).length ≤ 80000 := by
    have := hs.val.2.1
    rw [he, b_doc_len] at this
    have := h_hs_snoc 0 c (e.1, e.2.1, es, [])
    have h9 := h_hs_ge (h_hs 0 [(e.1, e.2.1, es, [])]) c
    have h8 : h_hs 0 [(e.1, e.2.1, es, [])] = e.2.1.length + (b_ser es).length + 0 + 0 + 7 := rfl
    omega
  refine m_X1_makeDocument ⟨by omega, by omega⟩ fun _ => ⟨o1, c_behind hO0 h4 hcl hch hs he hser fun _ _ _ => ⟨po, o3, p1, pt, p3, _, p5, ⟨by omega, by omega⟩, po, o3, p1, pf, p2, _, p4, ⟨by omega, by omega⟩, ⟨by omega, by omega⟩, ⟨by omega, by omega⟩, ?_⟩⟩
  rw [show g_i M pt s - g_i M pf s + 7 = ((x.length + 7 : Nat) : Int) by omega]
  have hh2 := h_hs_add 0 (x.length + 7) (c ++ [(e.1, e.2.1, es, [])])
  rw [Nat.zero_add] at hh2
  refine c_splice (h2 := x.length + 7) hO0 hok hln hZ h4 hch h5 (Int.le_refl _) (by decide) (by omega) (by omega) (by omega) (by omega) (by omega) fun M2 f2 hZ2 e52 e62 _ _ W2 => ?_
  intro _ _ _
  have hSh2 := hSh0.cl f2 hZ2 e52
  have hPa2 := hPa.cl hO0 (X_SL.cl f2)
  obtain ⟨hO2, hF2, -⟩ := id hSh2
  obtain ⟨⟨q1, q2, q3, q4, q5⟩, ⟨r1, r2, r3, r4, r5, r6⟩, qch, qb, qw, qwb⟩ := hO2
  obtain ⟨y1, y2, y3, y4⟩ := hPa2.x
  refine ⟨fun g => absurd g (by decide), fun _ => ⟨wo, q5, po, q3, r1, b, hPa2.1, po, q3, r1, pf, r2, _, r4, ⟨by omega, by omega⟩, po, q3, r1, pt, r3, _, r5, ⟨by omega, by omega⟩, qw, ?_⟩⟩
  rw [y2]
  refine c_headOf W2 (by decide) (by decide) qb (by decide) (fun M3 f3 => b_at_keep y4 fun k k1 k2 => ?_) y1 (by omega) fun M3 f3 W3 => ?_
  · have hk := f3.2.1 b k fun z => by
      rcases z with ⟨z, -⟩ | ⟨z, z2, z3⟩
      · exact (g_neOA qw qb) z.symm
      · omega
    rw [hk]
    exact hF2 k (by omega)
  · intro _ _
    obtain ⟨hSh3, f3'⟩ := hSh2.wr2 f3 (Int.le_refl _) (by omega)
    obtain ⟨⟨⟨-, -, -, -, t5⟩, -, -, -, tw, -⟩, -⟩ := id hSh3
    refine ⟨wo, t5, tw, c_put4 W3 ⟨by decide, by decide⟩ fun M4 f4 W4 => ?_⟩
    intro _ _
    obtain ⟨hSh4, f4'⟩ := hSh3.wr2 f4 (Int.le_refl _) (by omega)
    obtain ⟨⟨⟨-, -, -, -, t5⟩, -, -, -, tw, -⟩, -⟩ := id hSh4
    refine ⟨wo, t5, tw, c_put W4 ⟨by decide, by decide⟩ fun M5 f5 W5 => ?_⟩
    intro _ _
    obtain ⟨hSh5, f5'⟩ := hSh4.wr2 f5 (Int.le_refl _) (by omega)
    have ex : [] ++ 3 :: (x ++ [0]) ++ b_le4 5 ++ [g_w8 0] = b_el 3 x (b_doc []) := by
      unfold b_el b_doc
      rw [show g_w8 0 = 0 from rfl]
      simp [b_ser]
    rw [ex] at W5
    have hl : (b_el 3 x (b_doc [])).length = x.length + 7 := by rw [b_el_len, b_doc_len]; rfl
    refine hq M5 (((f2.tr f3').tr f4').tr f5') ⟨?_, c_Wr.hole (wo := wo) (a := h_at 163608 (c ++ [(e.1, e.2.1, es, [])])) ?_⟩ ?_
    · show X_Sh _ _ _ _ _ _ _ _ _ (b_el 3 x (b_doc [])).length M5
      rw [hl]
      exact hSh5
    · show c_Wr wo b 246408 _ (_ + ((b_el 3 x (b_doc [])).length : Int)) _ M5
      rw [hl]
      exact W5
    · rw [X_6 hSh4 f5, X_6 hSh3 f4, X_6 hSh2 f3, e62]
/-- a value comes to a free place -/
theorem c_free {op pp : Int} {s D Dp : Nat} {x : List Int} {r : List (List Int)} (hSh : X_Sh F o b po pf pt ch wo (c ++ [(e.1, e.2.1, es, [])]) 0 M) (hcl : c.length ≤ 9) (hs : b_st (g_i M b) 246408 (h_at 163608 c) D e.1 e.2.1 e.2.2) (he : e.2.2 = b_doc es) (hPa : X_Pa F b po pf pt s (x :: r) M) (hs8 : s < 8) (hp : b_st F 100000 pp Dp p.1 p.2.1 p.2.2) (hop : 1 ≤ op) (hop6 : op ≤ 6) (hmx : h_hs 0 (c ++ [(e.1, e.2.1, es, [])]) + x.length + p.2.2.length + 20 ≤ 15000) (hq : ∀ M1, e_fr (X_SL o b wo) M M1 → X_St F o b po pf pt ch wo (c ++ [(e.1, e.2.1, es, [])]) (X_last op p x none).2 M1 → g_i M1 o 6 = 1 → Q 0 M1) : g_Call (d + 5) 29 [.ref o, g_n op, g_n pp, g_n s] M (g_qI Q) := by
  have hSh0 := hSh
  obtain ⟨hO, hF, hok, hln, hZ, h5, h4, hch⟩ := hSh
  have hO0 := hO
  obtain ⟨⟨o1, o2, o3, o4, o5⟩, ⟨p1, p2, p3, p4, p5, p6⟩, och, ob, ow, owb⟩ := hO
  obtain ⟨x1, x2, x3, x4⟩ := hPa.x
  have hin := h_at_in 0 (c ++ [(e.1, e.2.1, es, [])]) 163608
  have hge := h_at_ge (c ++ [(e.1, e.2.1, es, [])]) 163608
  have hp' : b_st (g_i M b) 246408 pp Dp p.1 p.2.1 p.2.2 := hp.of hF
  have hpl := b_el_len p.1 p.2.1 p.2.2
  obtain ⟨pv1, pv2, pv3, pv4⟩ := hp.val
  have hpk := b_vs_pos (b_gv_vs hp.2.2.1)
  have hser : (b_ser es).length ≤ 80000 := by
    have h9 := h_hs_ge (h_hs 0 [(e.1, e.2.1, es, [])]) c
    have h8 : h_hs 0 [(e.1, e.2.1, es, [])] = e.2.1.length + (b_ser es).length + 0 + 0 + 7 := rfl
    have := h_hs_snoc 0 c (e.1, e.2.1, es, [])
    omega
  have hgo : ∀ (w : Bool), (w = true ↔ (op = 4 ∨ op = 6)) → g_Run (d + 4) 29 66 [(0, .ref o), (1, g_n op), (2, g_n pp), (3, g_n s), (4, g_n p.1), (5, g_n x.length), (6, g_n p.2.2.length)] [g_n (if w = true then 1 else 0)] M (g_qI Q) := by
    intro w hw
    have hn : ∀ n : Nat, n = x.length + 2 + p.2.2.length + (if w = true then 8 else 0) → g_Run (d + 4) 29 92 [(0, .ref o), (1, g_n op), (2, g_n pp), (3, g_n s), (4, g_n p.1), (5, g_n x.length), (6, g_n p.2.2.length), (7, g_n (if w = true then 1 else 0))] [g_n (if w = true then 8 else 0), g_n ((x.length : Int) + 2 + p.2.2.length), g_n 0, g_n (h_at 163608 (c ++ [(e.1, e.2.1, es, [])])), .ref o] M (g_qI Q) := by
      intro n hn
      have w8R : g_InR (if w = true then 8 else 0) := by cases w <;> exact ⟨by decide, by decide⟩
      have hh2 := h_hs_add 0 n (c ++ [(e.1, e.2.1, es, [])])
      rw [Nat.zero_add] at hh2
      have hn20 : n ≤ x.length + 2 + p.2.2.length + 8 := by
        cases w
        · rw [hn]; simp
        · rw [hn]; simp
      have hnI : (x.length : Int) + 2 + p.2.2.length + (if w = true then 8 else 0) = (n : Int) := by
        rw [hn]
        cases w <;> simp <;> omega
      refine s_X1_comesFree_92 ⟨by omega, by omega⟩ ⟨by omega, by omega⟩ ⟨by omega, by omega⟩ ⟨by omega, by omega⟩ ⟨by omega, by omega⟩ ⟨by omega, by omega⟩ (u_bR w) w8R ⟨by omega, by omega⟩ ⟨by decide, by decide⟩ ⟨by omega, by omega⟩ fun _ => ⟨by rw [hnI]; exact ⟨by omega, by omega⟩, o1, ?_⟩
      rw [hnI]
      refine c_splice (h2 := n) hO0 hok hln hZ h4 hch h5 (Int.le_refl _) (by decide) (by omega) (by omega) (by omega) (by omega) (by omega) fun M2 f2 hZ2 e52 e62 _ _ W2 => ?_
      intro _ _ _
      have hSh2 := hSh0.cl f2 hZ2 e52
      have hPa2 := hPa.cl hO0 (X_SL.cl f2)
      obtain ⟨hO2, hF2, -⟩ := id hSh2
      obtain ⟨⟨q1, q2, q3, q4, q5⟩, ⟨r1, r2, r3, r4, r5, r6⟩, qch, qb, qw, qwb⟩ := hO2
      obtain ⟨y1, y2, y3, y4⟩ := hPa2.x
      have h117 : ∀ kk : Int, 0 ≤ kk → kk < 128 → (∀ M3, e_fr (c_WL wo b (h_at 163608 (c ++ [(e.1, e.2.1, es, [])])) (h_at 163608 (c ++ [(e.1, e.2.1, es, [])]) + n)) M2 M3 → c_Wr wo b 246408 (h_at 163608 (c ++ [(e.1, e.2.1, es, [])])) (h_at 163608 (c ++ [(e.1, e.2.1, es, [])]) + n) (kk :: (x ++ [0])) M3 → ((if w = true then 1 else 0 : Int) = 0 → ∃ b27, g_r M3 o 3 = some b27 ∧ ∃ b29, g_r M3 o 0 = some b29 ∧ g_O M3 b27 4 ∧ g_Call (d + 4) 84 [.ref b27, .ref b29, g_n pp] M3 (g_qV fun M32 => g_ext M3 M32 → g_ok M32 → Q 0 M32)) ∧ (¬ (if w = true then 1 else 0 : Int) = 0 → ∃ b35, g_r M3 o 3 = some b35 ∧ g_O M3 b35 4 ∧ g_Call (d + 4) 85 [.ref b35] M3 (g_qI fun r41 M38 => g_ext M3 M38 → g_ok M38 → g_InR r41 → ∃ b43, g_r M38 o 3 = some b43 ∧ g_O M38 b43 4 ∧ g_Call (d + 4) 83 [.ref b43, g_n p.1, g_n 0] M38 (g_qV fun M46 => g_ext M38 M46 → g_ok M46 → ∃ b49, g_r M46 o 3 = some b49 ∧ ∃ b51, g_r M46 o 0 = some b51 ∧ g_O M46 b49 4 ∧ g_Call (d + 4) 84 [.ref b49, .ref b51, g_n pp] M46 (g_qV fun M54 => g_ext M46 M54 → g_ok M54 → ∃ b57, g_r M54 o 3 = some b57 ∧ g_O M54 b57 4 ∧ g_Call (d + 4) 86 [.ref b57, g_n r41] M54 (g_qV fun M60 => g_ext M54 M60 → g_ok M60 → Q 0 M60)))))) → g_Run (d + 4) 29 117 [(0, .ref o), (1, g_n op), (2, g_n pp), (3, g_n s), (4, g_n p.1), (5, g_n x.length), (6, g_n p.2.2.length), (7, g_n (if w = true then 1 else 0))] [g_n kk, .ref wo] M2 (g_qI Q) := by
        intro kk k0 k1 hnext
        refine s_X1_comesFree_117 ⟨by omega, by omega⟩ ⟨by omega, by omega⟩ ⟨by omega, by omega⟩ ⟨by omega, by omega⟩ ⟨by omega, by omega⟩ ⟨by omega, by omega⟩ (u_bR w) ⟨by omega, by omega⟩ fun _ => ⟨q1, po, q3, r1, b, hPa2.1, po, q3, r1, pf, r2, _, r4, ⟨by omega, by omega⟩, po, q3, r1, pt, r3, _, r5, ⟨by omega, by omega⟩, qw, ?_⟩
        rw [y2]
        refine c_headOf W2 k0 k1 qb (by decide) (fun M3 f3 => b_at_keep y4 fun k k1 k2 => ?_) y1 (by omega) fun M3 f3 W3 => fun _ _ => hnext M3 f3 W3
        have hk := f3.2.1 b k fun z => by
          rcases z with ⟨z, -⟩ | ⟨z, z2, z3⟩
          · exact (g_neOA qw qb) z.symm
          · omega
        rw [hk]
        exact hF2 k (by omega)
      refine ⟨fun g => absurd g (by decide), fun _ => ⟨q1, wo, q5, ?_⟩⟩
      cases w
      · have hl : X_last op p x none = (0, (p.1, x, p.2.2)) := by
          unfold X_last
          rw [if_neg (fun z => absurd (hw.mpr z) (by decide))]
        rw [hl] at hq
        refine ⟨fun _ => h117 p.1 (by omega) (by omega) fun M3 f3 W3 => ?_, fun g => absurd rfl g⟩
        obtain ⟨hSh3, f3'⟩ := hSh2.wr2 f3 (Int.le_refl _) (by omega)
        obtain ⟨⟨⟨t1, t2, -, -, t5⟩, -, -, tb, tw, -⟩, tF, -⟩ := id hSh3
        refine ⟨fun _ => ⟨wo, t5, b, t2, tw, c_outVal W3 tb (by decide) (hp.of tF) fun M4 f4 W4 => ?_⟩, fun g => absurd rfl g⟩
        intro _ _
        obtain ⟨hSh4, f4'⟩ := hSh3.wr2 f4 (Int.le_refl _) (by omega)
        have ex : p.1 :: (x ++ [0]) ++ p.2.2 = b_el p.1 x p.2.2 := by
          unfold b_el
          simp
        rw [ex] at W4
        have hl2 : (b_el p.1 x p.2.2).length = n := by rw [b_el_len, hn]; simp; omega
        refine hq M4 ((f2.tr f3').tr f4') ⟨?_, c_Wr.hole (wo := wo) (a := h_at 163608 (c ++ [(e.1, e.2.1, es, [])])) ?_⟩ ?_
        · show X_Sh _ _ _ _ _ _ _ _ _ (b_el p.1 x p.2.2).length M4
          rw [hl2]
          exact hSh4
        · show c_Wr wo b 246408 _ (_ + ((b_el p.1 x p.2.2).length : Int)) _ M4
          rw [hl2]
          exact W4
        · rw [X_6 hSh3 f4, X_6 hSh2 f3, e62]
      · have hl : X_last op p x none = (0, (4, x, b_doc [(p.1, b_dg 0, p.2.2)])) := by
          unfold X_last
          rw [if_pos (hw.mp rfl)]
        rw [hl] at hq
        refine ⟨fun g => absurd g (by decide), fun _ => h117 4 (by decide) (by decide) fun M3 f3 W3 => ?_⟩
        obtain ⟨hSh3, f3'⟩ := hSh2.wr2 f3 (Int.le_refl _) (by omega)
        obtain ⟨⟨⟨t1, t2, -, -, t5⟩, -, -, tb, tw, -⟩, tF, -⟩ := id hSh3
        refine ⟨fun g => absurd g (by decide), fun _ => ⟨wo, t5, tw, c_open W3 fun rr M4 f4 W4 hr4 => ?_⟩⟩
        intro _ _ _
        obtain ⟨hSh4, f4'⟩ := hSh3.wr2 f4 (Int.le_refl _) (by omega)
        obtain ⟨⟨⟨t1, t2, -, -, t5⟩, -, -, tb, tw, -⟩, tF, -⟩ := id hSh4
        refine ⟨wo, t5, tw, c_item (i := 0) W4 (by omega) (by omega) (by decide) fun M5 f5 W5 => ?_⟩
        intro _ _
        obtain ⟨hSh5, f5'⟩ := hSh4.wr2 f5 (Int.le_refl _) (by omega)
        obtain ⟨⟨⟨t1, t2, -, -, t5⟩, -, -, tb, tw, -⟩, tF, -⟩ := id hSh5
        refine ⟨wo, t5, b, t2, tw, c_outVal W5 tb (by decide) (hp.of tF) fun M6 f6 W6 => ?_⟩
        intro _ _
        obtain ⟨hSh6, f6'⟩ := hSh5.wr2 f6 (Int.le_refl _) (by omega)
        obtain ⟨⟨⟨t1, t2, -, -, t5⟩, -, -, tb, tw, -⟩, tF, -⟩ := id hSh6
        have ew : 4 :: (x ++ [0]) ++ [0, 0, 0, 0] ++ p.1 :: (b_dg 0 ++ [0]) ++ p.2.2 = (4 :: (x ++ [0])) ++ ([0, 0, 0, 0] ++ (b_ser [(p.1, b_dg 0, p.2.2)])) := by
          simp [b_ser, b_el]
        rw [ew] at W6
        refine ⟨wo, t5, tw, c_close W6 hr4 fun M7 f7 W7 => ?_⟩
        intro _ _
        obtain ⟨hSh7, f7'⟩ := hSh6.wr2 f7 (Int.le_refl _) (by omega)
        have ex : 4 :: (x ++ [0]) ++ (b_le4 ((b_ser [(p.1, b_dg 0, p.2.2)]).length + 5) ++ (b_ser [(p.1, b_dg 0, p.2.2)] ++ [0])) = b_el 4 x (b_doc [(p.1, b_dg 0, p.2.2)]) := by
          unfold b_el b_doc
          simp
        rw [ex] at W7
        have hl2 : (b_el 4 x (b_doc [(p.1, b_dg 0, p.2.2)])).length = n := by
          rw [b_el_len, b_doc_len, b_ser_one, hn]
          show x.length + ((b_dg 0).length + p.2.2.length + 2 + 5) + 2 = _
          rw [show (b_dg 0).length = 1 from rfl]
          simp
          omega
        refine hq M7 ((((((f2.tr f3').tr f4').tr f5').tr f6').tr f7')) ⟨?_, c_Wr.hole (wo := wo) (a := h_at 163608 (c ++ [(e.1, e.2.1, es, [])])) ?_⟩ ?_
        · show X_Sh _ _ _ _ _ _ _ _ _ (b_el 4 x (b_doc [(p.1, b_dg 0, p.2.2)])).length M7
          rw [hl2]
          exact hSh7
        · show c_Wr wo b 246408 _ (_ + ((b_el 4 x (b_doc [(p.1, b_dg 0, p.2.2)])).length : Int)) _ M7
          rw [hl2]
          exact W7
        · rw [X_6 hSh6 f7, X_6 hSh5 f6, X_6 hSh4 f5, X_6 hSh3 f4, X_6 hSh2 f3, e62]
    refine s_X1_comesFree_66 ⟨by omega, by omega⟩ ⟨by omega, by omega⟩ ⟨by omega, by omega⟩ ⟨by omega, by omega⟩ ⟨by omega, by omega⟩ ⟨by omega, by omega⟩ (u_bR w) fun _ => ⟨o1, c_behind hO0 h4 hcl hch hs he hser fun _ _ _ => ⟨⟨by omega, by omega⟩, ⟨by omega, by omega⟩, ?_⟩⟩
    cases w
    · exact ⟨fun _ => hn _ rfl, fun g => absurd rfl g⟩
    · exact ⟨fun g => absurd g (by decide), fun _ => hn _ rfl⟩
  refine m_X1_comesFree ⟨by omega, by omega⟩ (hp.R (by decide)) ⟨by omega, by omega⟩ fun _ => ⟨o1, b, o2, c_kd2 ob (by decide) hp' fun _ _ _ => ⟨po, o3, p1, pt, p3, _, p5, ⟨by omega, by omega⟩, po, o3, p1, pf, p2, _, p4, ⟨by omega, by omega⟩, ⟨by omega, by omega⟩, b, o2, c_nx2 ob (by decide) hp' fun _ _ _ => ⟨b, o2, c_va2 ob (by decide) hp' fun _ _ _ => ⟨⟨by omega, by omega⟩, ?_⟩⟩⟩⟩
  rw [show g_i M pt s - g_i M pf s = x.length by omega, show pp + ((b_el p.1 p.2.1 p.2.2).length : Int) - (pp + 2 + p.2.1.length) = p.2.2.length by omega]
  refine ⟨fun g => hgo true ⟨fun _ => Or.inl g, fun _ => rfl⟩, fun n4 => ⟨fun g => hgo true ⟨fun _ => Or.inr g, fun _ => rfl⟩, fun n6 => hgo false ⟨fun z => absurd z (by decide), fun z => by omega⟩⟩⟩
end PUTS
