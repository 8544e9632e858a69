/-! FILTERS: the class asks leaves -/
def F_S (r b o po pf pt : Nat) (c e N : Int) (F : Int → Int) (M : g_M) (L : List Int) : Prop := k_P M r b c e L ∧ (g_O M o 2 ∧ g_r M o 0 = some r ∧ g_r M o 1 = some b ∧ g_r M o 2 = some po) ∧ p_P M po pf pt ∧ g_A M b 0 N ∧ g_i M b = F
theorem F_S.st {r b o po pf pt : Nat} {c e N : Int} {F : Int → Int} {M M1 : g_M} {L L1 : List Int} (h : F_S r b o po pf pt c e N F M L) (f : k_F (p_S po pf pt) r M M1) (hp : k_P M1 r b c e L1) (hpp : p_P M1 po pf pt) : F_S r b o po pf pt c e N F M1 L1 := by
  obtain ⟨h1, ⟨h2, h3, h4, h5⟩, h6, h7, h8⟩ := h
  obtain ⟨p1, p2, p3, p4, p5, p6⟩ := h6
  have hno : ¬ p_S po pf pt o := by
    rintro (g | g | g)
    · exact g_neOO h2 p1 (by decide) g
    · exact g_neOA h2 p4 g
    · exact g_neOA h2 p5 g
  have hnb : ¬ p_S po pf pt b := by
    rintro (g | g | g)
    · exact g_neOA p1 h7 g.symm
    · exact g_neAA h7 p4 (by omega) g
    · exact g_neAA h7 p5 (by omega) g
  obtain ⟨e1, e2⟩ := f.O h1 h2 (by decide) hno
  obtain ⟨e3, e4⟩ := f.A h1 h7 (fun g => absurd g (by decide)) hnb
  exact ⟨hp, ⟨h2.up f.1, by rw [e2]; exact h3, by rw [e2]; exact h4, by rw [e2]; exact h5⟩, hpp, h7.up f.1, by rw [e3]; exact h8⟩
/-- leaves that lie on the pile from a place on -/
def F_w (F : Int → Int) (N : Int) (L : List Int) (fr : Nat) (ls : List (Option (Int × b_E))) : Prop := (∀ (i : Nat) (z : Option (Int × b_E)), ls[i]? = some z → L[fr + i]? = some (L_opt z)) ∧ ∀ y, some y ∈ ls → b_st F N y.1 20 y.2.1 y.2.2.1 y.2.2.2 ∧ y.2.2.2.length ≤ 190000
theorem F_w.cons {F : Int → Int} {N : Int} {L : List Int} {fr : Nat} {z : Option (Int × b_E)} {ls : List (Option (Int × b_E))} (h : F_w F N L fr (z :: ls)) : L[fr]? = some (L_opt z) ∧ F_w F N L (fr + 1) ls := by
  refine ⟨h.1 0 z rfl, fun i y hy => ?_, fun y hy => h.2 y (List.mem_cons_of_mem _ hy)⟩
  rw [show fr + 1 + i = fr + (i + 1) by omega]
  exact h.1 (i + 1) y hy
theorem F_w.app {F : Int → Int} {N : Int} {L L1 : List Int} {fr : Nat} {ls : List (Option (Int × b_E))} (h : F_w F N L fr ls) : F_w F N (L ++ L1) fr ls := by
  refine ⟨fun i z hz => ?_, h.2⟩
  have h1 := h.1 i z hz
  have h2 := (List.getElem?_eq_some_iff.mp h1).1
  rw [List.getElem?_append_left h2]
  exact h1
theorem b_ser_mem {es : List b_E} {e : b_E} (h : e ∈ es) : e.2.2.length + e.2.1.length + 2 ≤ (b_ser es).length := by
  induction es with
  | nil => exact absurd h (by simp)
  | cons f es ih =>
    have hl := b_el_len f.1 f.2.1 f.2.2
    rw [b_ser_len]
    rcases List.mem_cons.mp h with rfl | h
    · omega
    · have := ih h
      omega
section HOLD
variable {d r b o po pf pt : Nat} {c e N : Int} {F : Int → Int} {M : g_M} {L : List Int} {Q : Int → g_M → Prop}
theorem c_leaf {i : Nat} {v : Int} (hP : k_P M r b c e L) (hi : L[i]? = some v) (h : Q v M) : g_Call (d + 1) 105 [.ref r, g_n i] M (g_qI Q) := by
  obtain ⟨o1, o2, a, n, o3, o4, o5, o6, o7, o8, o9, o10⟩ := hP
  have hl := (List.getElem?_eq_some_iff.mp hi).1
  have hv := o10 i v hi
  unfold k_n at o7
  refine m_X7_leaf ⟨by omega, by omega⟩ fun _ => ⟨fun g => absurd g (by omega), fun _ => ⟨o1, fun _ => ⟨a, o3, n, o4, ⟨by omega, by omega⟩, fun _ => ⟨a, o3, n, o4, ⟨by omega, by omega⟩, ?_⟩, fun g => absurd g (by omega)⟩, fun g => absurd g (by omega)⟩⟩
  rw [show (0 : Int) + (i : Int) = i by omega] at hv
  rwa [hv]
theorem c_eq2 {p q : Int} {x v : b_E} {D : Nat} (hA : g_A M b 0 N) (hN : N ≤ 1000000000) (hx : b_st (g_i M b) N p D x.1 x.2.1 x.2.2) (hD : D ≤ 20) (hl : x.2.2.length ≤ 190000) (hv : b_st (g_i M b) N q 20 v.1 v.2.1 v.2.2) (h : Q (v_cmp 61 x.1 x.2.2 v.1 v.2.2) M) : g_Call (d + 44) 121 [.ref b, g_n p, .ref b, g_n q, g_n 0] M (g_qI Q) :=
  c_compare 20 (F := 60) (d := d) hA hA hN hN (by omega) (hx.le hD) hv (by decide) (by decide) (by decide) h
theorem c_someIs {pv : Int} {v : b_E} {fr : Nat} {ls : List (Option (Int × b_E))} (hS : F_S r b o po pf pt c e N F M L) (hN : N ≤ 1000000000) (hv : b_st F N pv 20 v.1 v.2.1 v.2.2) (hw : F_w F N L fr ls) (hb : fr + ls.length ≤ 40000) (h : Q (if F_eqs v (ls.map L_nop) = true then 1 else 0) M) : g_Call (d + 46) 56 [.ref o, g_n pv, g_n fr, g_n ((fr : Int) + ls.length)] M (g_qI Q) := by
  obtain ⟨hP, ⟨o1, o2, o3, o4⟩, hpp, hA, hF⟩ := hS
  subst hF
  have hpv := hv.R hN
  have hN0 := hA.len
  have h23 : ∀ (nb : Int), nb = (if v.1 = 10 then 1 else 0) → ∀ (ls : List (Option (Int × b_E))) (f : Nat) (to f0 : Int), g_InR f0 → F_w (g_i M b) N L f ls → to = f + ls.length → f + ls.length ≤ 40000 → Q (if F_eqs v (ls.map L_nop) = true then 1 else 0) M → g_Run (d + 45) 56 23 [(0, .ref o), (1, g_n pv), (2, g_n f0), (3, g_n to), (4, g_n nb), (5, g_n f)] [] M (g_qI Q) := by
    intro nb hnb ls
    have hnbR : g_InR nb := by
      subst hnb
      split
      · exact ⟨by decide, by decide⟩
      · exact ⟨by decide, by decide⟩
    induction ls with
    | nil =>
      intro f to f0 hf0 hw hto hb h
      rw [List.length_nil] at hto hb
      exact s_X2_someIs_23 hpv hf0 ⟨by omega, by omega⟩ hnbR ⟨by omega, by omega⟩ fun _ => ⟨fun g => absurd g (by omega), fun _ => h⟩
    | cons z ls ih =>
      intro f to f0 hf0 hw hto hb h
      rw [List.length_cons] at hto hb
      obtain ⟨w1, w2⟩ := hw.cons
      have hi : ∀ Q2, F_eqs v (ls.map L_nop) = Q2 → Q (if Q2 = true then 1 else 0) M → g_Run (d + 45) 56 23 [(0, .ref o), (1, g_n pv), (2, g_n f0), (3, g_n to), (4, g_n nb), (5, g_n ((f : Int) + 1))] [] M (g_qI Q) := by
        intro Q2 hq hq2
        have := ih (f + 1) to f0 hf0 w2 (by omega) (by omega) (by rw [hq]; exact hq2)
        rwa [show ((f + 1 : Nat) : Int) = (f : Int) + 1 by omega] at this
      rcases z with _ | y
      · have hc : F_eqs v ((none :: ls).map L_nop) = ((v.1 == 10) || F_eqs v (ls.map L_nop)) := rfl
        rw [hc] at h
        refine s_X2_someIs_23 hpv hf0 ⟨by omega, by omega⟩ hnbR ⟨by omega, by omega⟩ fun _ => ⟨fun _ => ⟨o1, r, o2, hP.1, c_leaf hP w1 fun _ _ _ => ⟨fun _ => ⟨fun g0 => ?_, fun g0 => ?_⟩, fun g => absurd (show (-1 : Int) < 0 by decide) g⟩⟩, fun g => absurd (by omega) g⟩
        · have hv10 : ¬ v.1 = 10 := fun g => by rw [if_pos g] at hnb; omega
          refine s_X2_someIs_73 hpv hf0 ⟨by omega, by omega⟩ hnbR ⟨by omega, by omega⟩ ⟨by decide, by decide⟩ fun _ => ⟨o1, b, o3, c_kind hA ⟨by omega, by omega⟩ ⟨by decide, by decide⟩ fun _ _ _ => ?_⟩
          rw [show L_opt none = -1 from rfl, b_kd_neg]
          refine ⟨fun g => absurd g (by decide), fun _ => ⟨⟨by omega, by omega⟩, hi _ rfl ?_⟩⟩
          rwa [show (v.1 == 10) = false by simpa using hv10, Bool.false_or] at h
        · have hv10 : v.1 = 10 := by
            apply Classical.byContradiction
            intro g
            rw [if_neg g] at hnb
            omega
          rwa [show (v.1 == 10) = true by simpa using hv10, Bool.true_or] at h
      · obtain ⟨y1, y2⟩ := hw.2 y List.mem_cons_self
        have hyR := y1.R hN
        have hy0 := y1.2.2.2.1
        have hc : F_eqs v ((some y :: ls).map L_nop) = ((F_eq y.2 v || (F_its y.2).any fun x => F_eq x v) || F_eqs v (ls.map L_nop)) := rfl
        rw [hc] at h
        refine s_X2_someIs_23 hpv hf0 ⟨by omega, by omega⟩ hnbR ⟨by omega, by omega⟩ fun _ => ⟨fun _ => ⟨o1, r, o2, hP.1, c_leaf hP w1 fun _ _ _ => ⟨fun g => absurd (show y.1 < 0 from g) (by omega), fun _ => ⟨b, o3, b, o3, c_eq2 (d := d + 1) hA hN y1 (by decide) y2 hv fun _ _ _ => ⟨fun g => ?_, fun g => ?_⟩⟩⟩⟩, fun g => absurd (by omega) g⟩
        · have he : F_eq y.2 v = true := decide_eq_true g
          rwa [he, Bool.true_or, Bool.true_or] at h
        · have he : F_eq y.2 v = false := decide_eq_false g
          rw [he, Bool.false_or] at h
          refine s_X2_someIs_73 hpv hf0 ⟨by omega, by omega⟩ hnbR ⟨by omega, by omega⟩ hyR fun _ => ⟨o1, b, o3, c_kd2 hA hN y1 fun _ _ _ => ⟨fun g4 => ?_, fun g4 => ⟨⟨by omega, by omega⟩, hi _ rfl ?_⟩⟩⟩
          · obtain ⟨D1, es, e1, e2, e3, e4, e5, e6, e7, e8⟩ := y1.ch (Or.inr g4)
            have hits : F_its y.2 = es := by
              unfold F_its F_it
              rw [if_pos g4]
              exact e5
            rw [hits] at h
            have h103 : ∀ (fs : List b_E) (q : Int) (i : Nat), b_sts (g_i M b) N q D1 fs → (∀ x ∈ fs, x ∈ es) → i + fs.length < 100000 → Q (if ((fs.any fun x => F_eq x v) || F_eqs v (ls.map L_nop)) = true then 1 else 0) M → g_Run (d + 45) 56 103 [(0, .ref o), (1, g_n pv), (2, g_n f0), (3, g_n to), (4, g_n nb), (5, g_n f), (6, g_n y.1), (7, g_n q), (8, g_n i)] [] M (g_qI Q) := by
              intro fs
              induction fs with
              | nil =>
                intro q i s1 _ hi2 h
                have hq0 := s1.2.2
                rw [List.length_nil] at hi2
                exact s_X2_someIs_103 hpv hf0 ⟨by omega, by omega⟩ hnbR ⟨by omega, by omega⟩ hyR ⟨by omega, by omega⟩ ⟨by omega, by omega⟩ fun _ => ⟨fun _ => ⟨o1, b, o3, c_kdE hA hN s1 fun _ _ _ => ⟨fun _ => ⟨⟨by omega, by omega⟩, hi _ rfl h⟩, fun g => absurd rfl g⟩⟩, fun g => absurd (by omega) g⟩
              | cons x fs ihf =>
                intro q i s1 hm hi2 h
                rw [List.length_cons] at hi2
                obtain ⟨t1, t2⟩ := s1.cons
                have hq0 := s1.2.2
                have hxk := b_vs_pos (b_gv_vs t1.2.2.1)
                have hxl := b_ser_mem (hm x List.mem_cons_self)
                have hyl := congrArg List.length e2
                rw [b_doc_len] at hyl
                have hca : ((x :: fs).any fun x => F_eq x v) = (F_eq x v || fs.any fun x => F_eq x v) := rfl
                rw [hca] at h
                refine s_X2_someIs_103 hpv hf0 ⟨by omega, by omega⟩ hnbR ⟨by omega, by omega⟩ hyR ⟨by omega, by omega⟩ ⟨by omega, by omega⟩ fun _ => ⟨fun _ => ⟨o1, b, o3, c_kd2 hA hN t1 fun _ _ _ => ⟨fun g => absurd g (by omega), fun _ => ⟨b, o3, b, o3, c_eq2 (d := d + 1) hA hN t1 (by omega) (by omega) hv fun _ _ _ => ⟨fun g => ?_, fun g => ⟨b, o3, c_nx2 hA hN t1 fun _ _ _ => ⟨⟨by omega, by omega⟩, ?_⟩⟩⟩⟩⟩⟩, fun g => absurd (by omega) g⟩
                · have he : F_eq x v = true := decide_eq_true g
                  rwa [he, Bool.true_or, Bool.true_or] at h
                · have he : F_eq x v = false := decide_eq_false g
                  rw [he, Bool.false_or] at h
                  have := ihf (q + (b_el x.1 x.2.1 x.2.2).length) (i + 1) t2 (fun z hz => hm z (List.mem_cons_of_mem _ hz)) (by omega) h
                  rwa [show ((i + 1 : Nat) : Int) = (i : Int) + 1 by omega] at this
            exact ⟨b, o3, c_fi2 hA hN y1 fun _ _ _ => h103 es _ 0 e4 (fun _ h => h) (by omega) h⟩
          · have hits : F_its y.2 = [] := if_neg g4
            rw [hits] at h
            exact h
  refine m_X2_someIs hpv ⟨by omega, by omega⟩ ⟨by omega, by omega⟩ fun _ => ⟨o1, b, o3, c_kd2 hA hN hv fun _ _ _ => ⟨fun g => h23 1 (by rw [if_pos g]) ls fr _ _ ⟨by omega, by omega⟩ hw rfl hb h, fun g => h23 0 (by rw [if_neg g]) ls fr _ _ ⟨by omega, by omega⟩ hw rfl hb h⟩⟩
end HOLD
