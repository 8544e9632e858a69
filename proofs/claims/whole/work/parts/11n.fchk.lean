/-! FILTERS: their faults; the class finds them -/
noncomputable def K_seq (f : Int × b_E → Int → Int × Int × Int) : List (Int × b_E) → Int → Int × Int × Int
  | [], n => (0, 0, n)
  | z :: zs, n => if (f z n).1 = 0 then K_seq f zs (f z n).2.2 else f z n
noncomputable def K_item (g : List (Int × b_E) → Int → Int × Int × Int) (x : Int × b_E) (n : Int) : Int × Int × Int := if x.2.1 = 3 then g (L_ch x.1 x.2) n else (2, x.1, n)
noncomputable def K_more (k q n : Int) (R : Int × Int × Int) : Int × Int × Int := if 100 < n + k then (5, q, n + k) else R
noncomputable def K_one (P : (List (Int × b_E) → Int → Int × Int × Int) × (List (Int × b_E) → Int → Int × Int × Int)) (z : Int × b_E) (n : Int) : Int × Int × Int :=
  if F_dl z.2.2.1 = true then
    (if F_jo z.2.2.1 = true then
      (if z.2.1 = 4 then (if b_ch z.2.2.2 = [] then (2, z.1, n) else K_more 1 z.1 n (K_seq (K_item P.1) (L_ch z.1 z.2) (n + 1))) else (2, z.1, n))
    else (1, z.1, n))
  else if F_pl z.2.2.1 = true then
    (if F_cs z.2 = true then K_more 1 z.1 n (P.2 (L_ch z.1 z.2) (n + 1)) else K_more 2 z.1 n (0, 0, n + 2))
  else (3, z.1, n)
noncomputable def K_cd (P : (List (Int × b_E) → Int → Int × Int × Int) × (List (Int × b_E) → Int → Int × Int × Int)) (z : Int × b_E) (n : Int) : Int × Int × Int :=
  if F_cd z.2.2.1 = 0 then (1, z.1, n)
  else if F_rv (F_cd z.2.2.1) z.2 = true then
    K_more 1 z.1 n (if F_cd z.2.2.1 = 12 then P.2 (L_ch z.1 z.2) (n + 1) else if F_cd z.2.2.1 = 11 then (if F_ci z.2 = true then P.2 (L_ch z.1 z.2) (n + 1) else P.1 (L_ch z.1 z.2) (n + 1)) else (0, 0, n + 1))
  else (4, z.1, n)
/-- the first fault of a filter, of conditions: (fault, place, elements then) -/
noncomputable def K_F : Nat → (List (Int × b_E) → Int → Int × Int × Int) × (List (Int × b_E) → Int → Int × Int × Int)
  | 0 => (fun _ n => (0, 0, n), fun _ n => (0, 0, n))
  | k + 1 => (K_seq (K_one (K_F k)), K_seq (K_cd (K_F k)))
def F_C (rm : Option Nat) (o b po pf pt : Nat) (N : Int) (F : Int → Int) (M : g_M) (n : Int) : Prop := (g_O M o 2 ∧ g_r M o 1 = some b ∧ g_r M o 2 = some po ∧ g_r M o 0 = rm) ∧ p_P M po pf pt ∧ g_A M b 0 N ∧ g_i M b = F ∧ g_i M o 3 = n
def F_CS (o po pf pt x : Nat) : Prop := x = o ∨ p_S po pf pt x
theorem F_C.ne {rm : Option Nat} {o b po pf pt : Nat} {N n : Int} {F : Int → Int} {M : g_M} (h : F_C rm o b po pf pt N F M n) : ¬ p_S po pf pt o ∧ ¬ F_CS o po pf pt b := by
  obtain ⟨⟨h1, h2, h3, h0⟩, ⟨p1, p2, p3, p4, p5, p6⟩, h4, h5, h6⟩ := h
  constructor
  · rintro (g | g | g)
    · exact g_neOO h1 p1 (by decide) g
    · exact g_neOA h1 p4 g
    · exact g_neOA h1 p5 g
  · rintro (g | g | g | g)
    · exact g_neOA h1 h4 g.symm
    · exact g_neOA p1 h4 g.symm
    · exact g_neAA h4 p4 (by omega) g
    · exact g_neAA h4 p5 (by omega) g
def K_post (rm : Option Nat) (o b po pf pt : Nat) (N : Int) (F : Int → Int) (M : g_M) (Q : Int → g_M → Prop) (R : Int × Int × Int) : Prop := ∀ M1, g_fr (F_CS o po pf pt) M M1 → F_C rm o b po pf pt N F M1 R.2.2 → (R.1 ≠ 0 → g_i M1 o 4 = R.1 ∧ g_i M1 o 5 = R.2.1) → (R.1 = 0 → 0 ≤ R.2.2 ∧ R.2.2 ≤ 100) → Q (if R.1 = 0 then 1 else 0) M1
section CHK
variable {d o b po pf pt : Nat} {rm : Option Nat} {N : Int} {F : Int → Int} {M : g_M} {Q : Int → g_M → Prop}
theorem K_post.tr {M1 : g_M} {R : Int × Int × Int} (h : K_post rm o b po pf pt N F M Q R) (f : g_fr (F_CS o po pf pt) M M1) : K_post rm o b po pf pt N F M1 Q R := fun M2 f2 => h M2 (f.tr f2)
theorem u_i01 (x : Int) : ((if x = 0 then 1 else 0 : Int) = 0 ∨ (if x = 0 then 1 else 0 : Int) = 1) := by
  split
  · exact Or.inr rfl
  · exact Or.inl rfl
theorem c_failsF {w q n : Int} (hC : F_C rm o b po pf pt N F M n) (hw : g_InR w) (hw0 : w ≠ 0) (hq : g_InR q) (h : K_post rm o b po pf pt N F M Q (w, q, n)) : g_Call (d + 1) 43 [.ref o, g_n w, g_n q] M (g_qI Q) := by
  obtain ⟨n1, n2⟩ := hC.ne
  obtain ⟨⟨h1, h2, h3, h0⟩, h4, h5, h6, h7⟩ := hC
  refine m_X2_fails hw hq fun _ => ⟨h1, fun M2 e2 _ M6 e6 _ => ?_⟩
  subst e2
  subst e6
  have hb : o ≠ b := g_neOA h1 h5
  have := h (g_wi (g_wi M o 4 w) o 5 q) ((g_fr.wi _ _ (Or.inl rfl)).tr (g_fr.wi _ _ (Or.inl rfl))) ⟨⟨h1, h2, h3, h0⟩, h4, h5, ?_, ?_⟩ (fun _ => ⟨?_, ?_⟩) (fun g => absurd g hw0)
  · rwa [if_neg hw0] at this
  · funext k
    rw [g_i_wi, if_neg (fun z => hb z.1.symm), g_i_wi, if_neg (fun z => hb z.1.symm), h6]
  · rw [g_i_wi, if_neg (by omega), g_i_wi, if_neg (by omega)]
    exact h7
  · rw [g_i_wi, if_neg (by omega), g_i_wi, if_pos ⟨rfl, rfl⟩]
  · rw [g_i_wi, if_pos ⟨rfl, rfl⟩]
theorem c_counts {k q n : Int} (hC : F_C rm o b po pf pt N F M n) (hk : 0 ≤ k) (hk2 : k ≤ 2) (h0 : 0 ≤ n) (h1 : n ≤ 100) (hq : g_InR q) (h : K_post rm o b po pf pt N F M Q (K_more k q n (0, 0, n + k))) : g_Call (d + 2) 44 [.ref o, g_n k, g_n q] M (g_qI Q) := by
  obtain ⟨n1, n2⟩ := hC.ne
  obtain ⟨⟨g1, g2, g3, g0⟩, g4, g5, g6, g7⟩ := hC
  have hb : o ≠ b := g_neOA g1 g5
  rw [← g7] at h
  refine m_X2_counts ⟨by omega, by omega⟩ hq fun _ => ⟨g1, by rw [g7]; exact ⟨by omega, by omega⟩, fun M3 e3 _ => ?_⟩
  subst e3
  have hfr : g_fr (F_CS o po pf pt) M (g_wi M o 3 (g_i M o 3 + k)) := g_fr.wi _ _ (Or.inl rfl)
  have hC3 : F_C rm o b po pf pt N F (g_wi M o 3 (g_i M o 3 + k)) (g_i M o 3 + k) := by
    refine ⟨⟨g1, g2, g3, g0⟩, g4, g5, ?_, ?_⟩
    · funext j
      rw [g_i_wi, if_neg (fun z => hb z.1.symm), g6]
    · rw [g_i_wi, if_pos ⟨rfl, rfl⟩]
  rw [show g_i (g_wi M o 3 (g_i M o 3 + k)) o 3 = g_i M o 3 + k from hC3.2.2.2.2]
  unfold K_more at h
  refine ⟨fun g => ?_, fun g => ?_⟩
  · rw [if_pos g] at h
    refine c_failsF (d := d) hC3 ⟨by decide, by decide⟩ (by decide) hq fun M1 f1 hC1 hf _ => ?_
    intro _ _ _
    exact ⟨fun _ => h M1 (hfr.tr f1) hC1 hf (fun g => absurd g (by simp)), fun g => absurd rfl g⟩
  · rw [if_neg g] at h
    have h2 := h _ hfr hC3 (fun g => absurd rfl g) (fun _ => (show 0 ≤ g_i M o 3 + k ∧ g_i M o 3 + k ≤ 100 from ⟨by omega, by omega⟩))
    exact h2
/-- what a condition wants of its value -/
theorem c_valueRight {k pc : Int} {D : Nat} {fe : b_E} {n : Int} (hC : F_C rm o b po pf pt N F M n) (hN : N ≤ 1000000000) (hs : b_st F N pc D fe.1 fe.2.1 fe.2.2) (hk : 1 ≤ k) (hk2 : k ≤ 12) (h : Q (if F_rv k fe = true then 1 else 0) M) : g_Call (d + 3) 50 [.ref o, g_n k, g_n pc] M (g_qI Q) := by
  obtain ⟨⟨g1, g2, g3, g0⟩, g4, g5, g6, g7⟩ := hC
  subst g6
  have hkk := b_vs_pos (b_gv_vs hs.2.2.1)
  have hd : ∀ (x : Bool) (P : Prop), (P ↔ x = true) → Q (if x = true then 1 else 0) M → (P → Q 1 M) ∧ (¬ P → Q 0 M) := by
    intro x P hP hq
    cases x
    · exact ⟨fun g => absurd (hP.mp g) (by decide), fun _ => hq⟩
    · exact ⟨fun _ => hq, fun g => absurd (hP.mpr rfl) g⟩
  unfold F_rv at h
  refine m_X2_valueIsRight ⟨by omega, by omega⟩ (hs.R hN) fun _ => ⟨g1, b, g2, c_kd2 g5 hN hs fun _ _ _ => ?_⟩
  refine ⟨fun g => ?_, fun n3 => ⟨fun g => ?_, fun n4 => ⟨fun g => ?_, fun n5 => ⟨fun g => ?_, fun n6 => ⟨fun g => ?_, fun n7 => ⟨fun g => ?_, fun n8 => ⟨fun g => ?_, fun n9 => ⟨fun g => ?_, fun n10 => ⟨fun g => ?_, fun n11 => ⟨fun g => ?_, fun n12 => ?_⟩⟩⟩⟩⟩⟩⟩⟩⟩⟩
  · rw [if_pos (Or.inl g)] at h
    exact hd _ _ (by simp) h
  · rw [if_pos (Or.inr g)] at h
    exact hd _ _ (by simp) h
  · rw [if_neg (show ¬ (k = 3 ∨ k = 4) by omega), if_neg (show ¬ k = 9 by omega), if_neg (show ¬ k = 10 by omega), if_neg (show ¬ k = 11 by omega), if_neg (show ¬ k = 12 by omega)] at h
    exact h
  · rw [if_neg (show ¬ (k = 3 ∨ k = 4) by omega), if_neg (show ¬ k = 9 by omega), if_neg (show ¬ k = 10 by omega), if_neg (show ¬ k = 11 by omega), if_neg (show ¬ k = 12 by omega)] at h
    exact h
  · rw [if_neg (show ¬ (k = 3 ∨ k = 4) by omega), if_neg (show ¬ k = 9 by omega), if_neg (show ¬ k = 10 by omega), if_neg (show ¬ k = 11 by omega), if_neg (show ¬ k = 12 by omega)] at h
    exact h
  · rw [if_neg (show ¬ (k = 3 ∨ k = 4) by omega), if_neg (show ¬ k = 9 by omega), if_neg (show ¬ k = 10 by omega), if_neg (show ¬ k = 11 by omega), if_neg (show ¬ k = 12 by omega)] at h
    exact h
  · rw [if_neg (show ¬ (k = 3 ∨ k = 4) by omega), if_pos g] at h
    exact hd _ _ (by simp) h
  · rw [if_neg (show ¬ (k = 3 ∨ k = 4) by omega), if_neg n9, if_pos g] at h
    obtain ⟨v1, v2, v3, v4⟩ := hs.val
    have hN0 := g5.len
    refine ⟨b, g2, c_isNum g5 ⟨by omega, by omega⟩ (hs.R hN) fun _ _ _ => ?_⟩
    rw [b_kd_in (by omega) (by omega), v4]
    by_cases hn : fe.1 = 16 ∨ fe.1 = 18
    · rw [if_pos hn]
      refine ⟨fun g => absurd g (by decide), fun _ => ⟨b, g2, c_wh g5 hN hs hn fun _ _ => ?_⟩⟩
      have e1 : (fe.1 == 16 || fe.1 == 18) = true := by simpa using hn
      rw [e1, Bool.true_and] at h
      exact ⟨fun g => by rw [decide_eq_false (fun z => z g)] at h; exact h, fun g => by rw [decide_eq_true g] at h; exact h⟩
    · rw [if_neg hn]
      have e1 : (fe.1 == 16 || fe.1 == 18) = false := by simpa using hn
      rw [e1, Bool.false_and] at h
      exact ⟨fun _ => h, fun g => absurd rfl g⟩
  · rw [if_neg (show ¬ (k = 3 ∨ k = 4) by omega), if_neg n9, if_neg n10, if_pos g] at h
    exact hd _ _ (by simp) h
  · rw [if_neg (show ¬ (k = 3 ∨ k = 4) by omega), if_neg n9, if_neg n10, if_neg n11, if_pos g] at h
    refine ⟨b, g2, c_isConds g5 hN hs (fun gc => ?_) (fun gc => ?_)⟩
    · have gc : F_cs fe = true := gc
      rw [gc] at h
      exact fun _ _ _ => ⟨Or.inr rfl, h⟩
    · have gc : F_cs fe = false := gc
      rw [gc] at h
      exact fun _ _ _ => ⟨Or.inl rfl, h⟩
  · rw [if_neg (show ¬ (k = 3 ∨ k = 4) by omega), if_neg n9, if_neg n10, if_neg n11, if_neg n12] at h
    exact h
end CHK
def K_A (rm : Option Nat) (o b po pf pt : Nat) (N : Int) (F : Int → Int) (k : Nat) : Prop := ∀ (M : g_M) (Q : Int → g_M → Prop) (dd : Nat) (lv pe n : Int) (fe : b_E) (D : Nat), F_C rm o b po pf pt N F M n → 0 ≤ n → n ≤ 100 → b_st F N pe D fe.1 fe.2.1 fe.2.2 → fe.1 = 3 → D ≤ k → fe.2.2.length ≤ 3000 → 0 ≤ lv → lv + 2 * k ≤ 60 → 8 * k + 20 ≤ dd → K_post rm o b po pf pt N F M Q ((K_F k).1 (L_ch pe fe) n) → g_Call dd 45 [.ref o, g_n pe, g_n lv] M (g_qI Q)
def K_B (rm : Option Nat) (o b po pf pt : Nat) (N : Int) (F : Int → Int) (k : Nat) : Prop := ∀ (M : g_M) (Q : Int → g_M → Prop) (dd : Nat) (lv pe n : Int) (fe : b_E) (D : Nat), F_C rm o b po pf pt N F M n → 0 ≤ n → n ≤ 100 → b_st F N pe D fe.1 fe.2.1 fe.2.2 → fe.1 = 3 → D ≤ k → fe.2.2.length ≤ 3000 → 0 ≤ lv → lv + 2 * k ≤ 60 → 8 * k + 20 ≤ dd → K_post rm o b po pf pt N F M Q ((K_F k).2 (L_ch pe fe) n) → g_Call dd 48 [.ref o, g_n pe, g_n lv] M (g_qI Q)
section CHK2
variable {o b po pf pt : Nat} {rm : Option Nat} {N : Int} {F : Int → Int} {k : Nat}
theorem c_kOne (hN : N ≤ 1000000000) (hA : K_A rm o b po pf pt N F k) (hB : K_B rm o b po pf pt N F k) {d : Nat} {M : g_M} {Q : Int → g_M → Prop} {lv pe n : Int} {fe : b_E} {D : Nat} (hC : F_C rm o b po pf pt N F M n) (h0 : 0 ≤ n) (h1 : n ≤ 100) (hs : b_st F N pe D fe.1 fe.2.1 fe.2.2) (hD : D ≤ k) (hl : fe.2.2.length ≤ 3000) (hl0 : 0 ≤ lv) (hl1 : lv + 2 * k + 1 ≤ 60) (hd : 8 * k + 20 ≤ d) (h : K_post rm o b po pf pt N F M Q (K_one (K_F k) (pe, fe) n)) : g_Call (d + 4) 46 [.ref o, g_n pe, g_n lv] M (g_qI Q) := by
  have hC0 := hC
  obtain ⟨⟨g1, g2, g3, g0⟩, g4, g5, g6, g7⟩ := hC
  have hs' : b_st (g_i M b) N pe D fe.1 fe.2.1 fe.2.2 := by rw [g6]; exact hs
  have hpe := hs.R hN
  obtain ⟨d, rfl⟩ : ∃ d', d = d' + 20 := ⟨d - 20, by omega⟩
  unfold K_one at h
  simp only at h
  refine m_X2_elementIsRight hpe ⟨by omega, by omega⟩ fun _ => ⟨g1, b, g2, c_dl2 g5 hN hs' (fun gd => fun _ _ _ => ⟨fun g => absurd g (by decide), fun _ => ?_⟩) fun gd => fun _ _ _ => ⟨fun _ => ?_, fun g => absurd rfl g⟩⟩
  · rw [if_pos gd] at h
    -- joining
    have hb : ∀ (w : Int), g_InR w → w ≠ 0 → K_post rm o b po pf pt N F M Q (w, pe, n) → ∀ (P : Int → g_M → Prop), (∀ r M1, (r = 0 ∨ r = 1) → Q r M1 → P r M1) → g_Call (d + 22) 43 [.ref o, g_n w, g_n pe] M (g_qI P) := by
      intro w hw hw0 hp P hP
      exact c_failsF hC0 hw hw0 hpe fun M1 f1 hC1 hf hg => hP _ M1 (u_i01 _) (hp M1 f1 hC1 hf hg)
    refine m_X2_logicIsRight hpe ⟨by omega, by omega⟩ fun _ => ⟨g1, b, g2, c_isLogic g5 hN hs' (fun gj => fun _ _ _ => ⟨fun g => absurd g (by decide), fun _ => ⟨b, g2, ?_⟩⟩) fun gj => fun _ _ _ => ⟨fun _ => ?_, fun g => absurd rfl g⟩⟩
    · rw [if_pos gj] at h
      by_cases hk4 : fe.1 = 4
      · rw [if_pos hk4] at h
        obtain ⟨D1, es, e1, e2, e3, e4, e5, e6, e7, e8⟩ := hs.ch (Or.inr hk4)
        have e7 : L_ch pe fe = L_at (pe + 6 + fe.2.1.length) es := e7
        have hyl := congrArg List.length e2
        rw [b_doc_len] at hyl
        rw [e5, e7] at h
        refine c_fi2 g5 hN hs' fun _ _ _ => ⟨b, g2, c_kd2 g5 hN hs' fun _ _ _ => ⟨fun _ => ⟨b, g2, ?_⟩, fun g => absurd hk4 g⟩⟩
        have hlp : ∀ (fs : List b_E) (q : Int) (i : Nat) (M1 : g_M) (n1 : Int) (P : Int → g_M → Prop), b_sts F N q D1 fs → (∀ x ∈ fs, x ∈ es) → i + fs.length < 2000 → g_fr (F_CS o po pf pt) M M1 → F_C rm o b po pf pt N F M1 n1 → 0 ≤ n1 → n1 ≤ 100 → K_post rm o b po pf pt N F M1 P (K_seq (K_item (K_F k).1) (L_at q fs) n1) → g_Run (d + 22) 47 71 [(0, .ref o), (1, g_n pe), (2, g_n lv), (3, g_n q), (4, g_n i)] [] M1 (g_qI P) := by
          intro fs
          induction fs with
          | nil =>
            intro q i M1 n1 P s1 _ hi2 f1 hC1 hn0 hn1 h
            obtain ⟨⟨q1, q2, q3, q0⟩, q4, q5, q6, q7⟩ := id hC1
            have hq0 := s1.2.2
            rw [List.length_nil] at hi2
            have h2 := h M1 (g_fr.rf _ _) hC1 (fun g => absurd rfl g) (fun _ => ⟨hn0, hn1⟩)
            exact s_X2_logicIsRight_71 hpe ⟨by omega, by omega⟩ ⟨by omega, by omega⟩ ⟨by omega, by omega⟩ fun _ => ⟨fun _ => ⟨q1, b, q2, c_kdE q5 hN (by rw [q6]; exact s1) fun _ _ _ => ⟨fun _ => h2, fun g => absurd rfl g⟩⟩, fun g => absurd (by omega) g⟩
          | cons x fs ihf =>
            intro q i M1 n1 P s1 hm hi2 f1 hC1 hn0 hn1 h
            obtain ⟨⟨q1, q2, q3, q0⟩, q4, q5, q6, q7⟩ := id hC1
            rw [List.length_cons] at hi2
            obtain ⟨t1, t2⟩ := s1.cons
            have t1' : b_st (g_i M1 b) N q D1 x.1 x.2.1 x.2.2 := by rw [q6]; exact t1
            have hq0 := s1.2.2
            have hxk := b_vs_pos (b_gv_vs t1.2.2.1)
            have hxl := b_ser_mem (hm x List.mem_cons_self)
            have hsq : K_seq (K_item (K_F k).1) (L_at q (x :: fs)) n1 = if (K_item (K_F k).1 (q, x) n1).1 = 0 then K_seq (K_item (K_F k).1) (L_at (q + (b_el x.1 x.2.1 x.2.2).length) fs) (K_item (K_F k).1 (q, x) n1).2.2 else K_item (K_F k).1 (q, x) n1 := rfl
            rw [hsq] at h
            refine s_X2_logicIsRight_71 hpe ⟨by omega, by omega⟩ ⟨by omega, by omega⟩ ⟨by omega, by omega⟩ fun _ => ⟨fun _ => ⟨q1, b, q2, c_kd2 q5 hN t1' fun _ _ _ => ⟨fun g => absurd g (by omega), fun _ => ⟨b, q2, c_kd2 q5 hN t1' fun _ _ _ => ⟨fun g3 => ⟨⟨by omega, by omega⟩, ?_⟩, fun g3 => ?_⟩⟩⟩⟩, fun g => absurd (by omega) g⟩
            · have hit : K_item (K_F k).1 (q, x) n1 = (K_F k).1 (L_ch q x) n1 := if_pos g3
              rw [hit] at h
              refine hA M1 _ (d + 22) (lv + 1) q n1 x D1 hC1 hn0 hn1 t1 g3 (by omega) (by omega) (by omega) (by omega) (by omega) fun M2 f2 hC2 hf hg => ?_
              intro _ _ _
              by_cases hR : ((K_F k).1 (L_ch q x) n1).1 = 0
              · rw [if_pos hR] at h ⊢
                obtain ⟨⟨r1, r2, r3, r0⟩, r4, r5, r6, r7⟩ := id hC2
                refine ⟨fun g => absurd g (by decide), fun _ => ⟨b, r2, c_nx2 r5 hN (by rw [r6]; exact t1) fun _ _ _ => ⟨⟨by omega, by omega⟩, ?_⟩⟩⟩
                obtain ⟨c0, c1⟩ := hg hR
                have := ihf (q + (b_el x.1 x.2.1 x.2.2).length) (i + 1) M2 _ P t2 (fun z hz => hm z (List.mem_cons_of_mem _ hz)) (by omega) (f1.tr f2) hC2 c0 c1 (h.tr f2)
                rwa [show ((i + 1 : Nat) : Int) = (i : Int) + 1 by omega] at this
              · rw [if_neg hR] at h ⊢
                have h2 := h M2 f2 hC2 hf (fun g => absurd g hR)
                rw [if_neg hR] at h2
                exact ⟨fun _ => h2, fun g => absurd rfl g⟩
            · have hit : K_item (K_F k).1 (q, x) n1 = (2, q, n1) := if_neg g3
              rw [hit, if_neg (by simp)] at h
              exact c_failsF hC1 ⟨by decide, by decide⟩ (by decide) ⟨by omega, by omega⟩ fun M2 f2 hC2 hf hg => fun _ _ _ => ⟨u_i01 _, h M2 f2 hC2 hf hg⟩
        have hmore : es ≠ [] → ∀ (P : Int → g_M → Prop), K_post rm o b po pf pt N F M P (K_more 1 pe n (K_seq (K_item (K_F k).1) (L_at (pe + 6 + fe.2.1.length) es) (n + 1))) → g_Call (d + 22) 44 [.ref o, g_n 1, g_n pe] M (g_qI fun r38 M35 => g_ext M M35 → g_ok M35 → g_InR r38 → ((r38 = 0 → P 0 M35) ∧ (¬ r38 = 0 → g_Run (d + 22) 47 71 [(0, .ref o), (1, g_n pe), (2, g_n lv), (3, g_n (pe + 6 + fe.2.1.length)), (4, g_n 0)] [] M35 (g_qI P)))) := by
          intro hne P hP
          refine c_counts hC0 (by decide) (by decide) h0 h1 hpe fun M1 f1 hC1 hf hg => ?_
          intro _ _ _
          unfold K_more at hP hf hg hC1 ⊢
          by_cases hov : 100 < n + 1
          · rw [if_pos hov] at hP hf hg hC1 ⊢
            exact ⟨fun _ => hP M1 f1 hC1 hf hg, fun g => absurd rfl g⟩
          · rw [if_neg hov] at hP hf hg hC1 ⊢
            exact ⟨fun g => absurd g (by simp), fun _ => hlp es _ 0 M1 (n + 1) P e4 (fun _ h => h) (by omega) f1 hC1 (by omega) (by omega) (hP.tr f1)⟩
        rcases es with _ | ⟨x, es⟩
        · rw [if_pos rfl] at h
          exact c_kdE g5 hN (by rw [g6]; exact e4) fun _ _ _ => ⟨fun _ => hb 2 ⟨by decide, by decide⟩ (by decide) h _ fun r M1 hr hq => fun _ _ _ => ⟨hr, fun _ _ _ => ⟨hr, hq⟩⟩, fun g => absurd rfl g⟩
        · rw [if_neg (by simp)] at h
          have t1 := e4.cons.1
          have hxk := b_vs_pos (b_gv_vs t1.2.2.1)
          refine c_kd2 g5 hN (by rw [g6]; exact t1) fun _ _ _ => ⟨fun g => absurd g (by omega), fun _ => ?_⟩
          exact hmore (by simp) (fun r M1 => g_ext M M1 → g_ok M1 → g_InR r → (r = 0 ∨ r = 1) ∧ Q r M1) fun M1 f1 hC1 hf hg => fun _ _ _ => ⟨u_i01 _, h M1 f1 hC1 hf hg⟩
      · rw [if_neg hk4] at h
        have hN0 := g5.len
        obtain ⟨v1, v2, v3, v4⟩ := hs'.val
        refine c_first g5 ⟨by omega, by omega⟩ hs'.nm hN fun _ _ _ => ⟨b, g2, c_kd2 g5 hN hs' fun _ _ _ => ⟨fun g => absurd g hk4, fun _ => ?_⟩⟩
        exact hb 2 ⟨by decide, by decide⟩ (by decide) h _ fun r M1 hr hq => fun _ _ _ => ⟨hr, fun _ _ _ => ⟨hr, hq⟩⟩
    · rw [if_neg (by rw [gj]; decide)] at h
      exact hb 1 ⟨by decide, by decide⟩ (by decide) h _ fun r M1 hr hq => fun _ _ _ => ⟨hr, fun _ _ _ => ⟨hr, hq⟩⟩
  · rw [if_neg (by rw [gd]; decide)] at h
    -- a path
    refine ⟨po, g3, b, g2, g4.1, c_name g4 g5 hN hs' (fun gp M1 f1 q1 q2 => ?_) (fun gp M1 f1 q1 => ?_)⟩
    · intro _ _ _
      obtain ⟨nn1, nn2⟩ := hC0.ne
      have f1' : g_fr (F_CS o po pf pt) M M1 := f1.up fun x hx => Or.inr hx
      obtain ⟨i1, i2⟩ := f1.2 o nn1
      have hb1 := f1'.2 b nn2
      have hC1 : F_C rm o b po pf pt N F M1 n := ⟨⟨f1.O g1, by rw [i2]; exact g2, by rw [i2]; exact g3, by rw [i2]; exact g0⟩, q1, f1.A g5, by rw [hb1.1]; exact g6, by rw [i1]; exact g7⟩
      obtain ⟨⟨r1, r2, r3, r0⟩, r4, r5, r6, r7⟩ := id hC1
      have hs1 : b_st (g_i M1 b) N pe D fe.1 fe.2.1 fe.2.2 := by rw [r6]; exact hs
      refine ⟨fun g => absurd g (by decide), fun _ => ⟨po, r3, q1.1, ?_⟩⟩
      rw [q2.2.2.1]
      by_cases hdol : p_dol true fe.2.1 = true
      · rw [if_pos hdol]
        rw [if_neg (by rw [F_pl_f (fun z => by rw [z.2] at hdol; cases hdol)]; decide)] at h
        refine ⟨fun g => absurd g (by decide), fun _ => c_failsF hC1 ⟨by decide, by decide⟩ (by decide) hpe fun M2 f2 hC2 hf hg => fun _ _ _ => ⟨u_i01 _, (h.tr f1') M2 f2 hC2 hf hg⟩⟩
      · rw [if_neg hdol]
        rw [if_pos (F_pl_t ⟨gp, by simpa using hdol⟩)] at h
        refine ⟨fun _ => ⟨b, r2, c_isConds r5 hN hs1 (fun gc => ?_) (fun gc => ?_)⟩, fun g => absurd rfl g⟩
        · have gc : F_cs fe = true := gc
          rw [if_pos gc] at h
          refine fun _ _ _ => ⟨fun g => absurd g (by decide), fun _ => c_counts hC1 (by decide) (by decide) h0 h1 hpe fun M2 f2 hC2 hf hg => ?_⟩
          intro _ _ _
          have h2 := h.tr f1'
          unfold K_more at h2 hf hg hC2 ⊢
          by_cases hov : 100 < n + 1
          · rw [if_pos hov] at h2 hf hg hC2 ⊢
            exact ⟨fun _ => h2 M2 f2 hC2 hf hg, fun g => absurd rfl g⟩
          · rw [if_neg hov] at h2 hf hg hC2 ⊢
            refine ⟨fun g => absurd g (by simp), fun _ => hB M2 _ (d + 23) lv pe (n + 1) fe D hC2 (by omega) (by omega) hs (F_cs_k gc) hD hl hl0 (by omega) (by omega) fun M3 f3 hC3 hf3 hg3 => ?_⟩
            intro _ _ _
            have h3 := (h2.tr f2) M3 f3 hC3 hf3 hg3
            by_cases hR : ((K_F k).2 (L_ch pe fe) (n + 1)).1 = 0
            · rw [if_pos hR] at h3 ⊢
              exact ⟨fun g => absurd g (by decide), fun _ => h3⟩
            · rw [if_neg hR] at h3 ⊢
              exact ⟨fun _ => h3, fun g => absurd rfl g⟩
        · have gc : F_cs fe = false := gc
          rw [if_neg (by rw [gc]; decide)] at h
          exact fun _ _ _ => ⟨fun _ => c_counts hC1 (by decide) (by decide) h0 h1 hpe fun M2 f2 hC2 hf hg => fun _ _ _ => ⟨u_i01 _, (h.tr f1') M2 f2 hC2 hf hg⟩, fun g => absurd rfl g⟩
    · intro _ _ _
      obtain ⟨nn1, nn2⟩ := hC0.ne
      have f1' : g_fr (F_CS o po pf pt) M M1 := f1.up fun x hx => Or.inr hx
      obtain ⟨i1, i2⟩ := f1.2 o nn1
      have hb1 := f1'.2 b nn2
      have hC1 : F_C rm o b po pf pt N F M1 n := ⟨⟨f1.O g1, by rw [i2]; exact g2, by rw [i2]; exact g3, by rw [i2]; exact g0⟩, q1, f1.A g5, by rw [hb1.1]; exact g6, by rw [i1]; exact g7⟩
      rw [if_neg (by rw [F_pl_f (fun z => gp z.1)]; decide)] at h
      exact ⟨fun _ => c_failsF hC1 ⟨by decide, by decide⟩ (by decide) hpe fun M2 f2 hC2 hf hg => fun _ _ _ => ⟨u_i01 _, (h.tr f1') M2 f2 hC2 hf hg⟩, fun g => absurd rfl g⟩
end CHK2
