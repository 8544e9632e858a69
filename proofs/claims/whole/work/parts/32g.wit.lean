/-! EXPLAIN, THE REFERENCE: whether a value is in intervals, whether an interval is one value -/
noncomputable def D_w (x : D_i) (e : D_e) : Bool := (decide (D_c (D_lo x) e < 0) || (decide (D_c (D_lo x) e = 0) && x.2.2.1)) && (decide (D_c e (D_hi x) < 0) || (decide (D_c e (D_hi x) = 0) && x.2.2.2.2))
noncomputable def D_isp (x : D_i) : Bool := match x.2.1 with
  | none => false
  | some y => match x.2.2.2.1 with
    | none => false
    | some z => F_eq y.2 z.2
section DIW
variable {m d b : Nat} {ρ : Nat → Nat} {M M1 : g_M} {L L0 : List D_i}
theorem e_isWithin {Q : Int → g_M → Prop} {A P C : List D_i} {e : D_e} (hB : E_bk m ρ M) (hI : E_Iv m ρ (A ++ P ++ C) M) (hl : A.length + P.length + C.length ≤ 6000) (hP : ∀ x ∈ P, D_io (g_i M (ρ 0)) x) (he : D_at (g_i M (ρ 0)) e) (h : Q (if (P.any fun x => D_w x e) = true then 1 else 0) M) : g_Call (d + 48) 400 [.ref m, g_n (D_p e), g_n A.length, g_n ((A.length + P.length : Nat) : Int)] M (g_qI Q) := by
  have hR := hB.R
  have eR := he.R.1
  have aR : g_InR (A.length : Int) := ⟨by omega, by omega⟩
  have tR : g_InR ((A.length + P.length : Nat) : Int) := ⟨by omega, by omega⟩
  have b57 := hB.at (k := 57) (by decide)
  have b57A : g_A M (ρ 57) 1 6000 := b57.2
  have b58 := hB.at (k := 58) (by decide)
  have b58A : g_A M (ρ 58) 1 6000 := b58.2
  have b59 := hB.at (k := 59) (by decide)
  have b59A : g_A M (ρ 59) 2 6000 := b59.2
  have b60 := hB.at (k := 60) (by decide)
  have b60A : g_A M (ρ 60) 2 6000 := b60.2
  refine m_X12_isWithin eR aR tR fun _ => ?_
  have hlp : ∀ (P2 P1 : List D_i), P = P1 ++ P2 → (P1.any fun x => D_w x e) = false → g_Run (d + 47) 400 3 [(0, .ref m), (1, g_n (D_p e)), (2, g_n A.length), (3, g_n ((A.length + P.length : Nat) : Int)), (4, g_n ((A.length + P1.length : Nat) : Int))] [] M (g_qI Q) := by
    intro P2
    induction P2 with
    | nil =>
      intro P1 hP1 hn
      rw [List.append_nil] at hP1
      subst hP1
      rw [hn, if_neg (by decide)] at h
      exact s_X12_isWithin_3 eR aR tR tR fun _ => ⟨fun g => absurd g (by omega), fun _ => h⟩
    | cons x P2 ih =>
      intro P1 hP1 hn
      have hll := congrArg List.length hP1
      rw [List.length_append, List.length_cons] at hll
      have hxP : x ∈ P := by rw [hP1]; simp
      have hxi : (A ++ P ++ C)[A.length + P1.length]? = some x := by
        rw [List.append_assoc, List.getElem?_append_right (by omega), show A.length + P1.length - A.length = P1.length by omega, hP1, List.append_assoc, List.getElem?_append_right (Nat.le_refl _), Nat.sub_self]
        rfl
      obtain ⟨x1, x2, x3, x4⟩ := hI.2 _ _ hxi
      obtain ⟨xl, xh⟩ := hP x hxP
      have iR : g_InR ((A.length + P1.length : Nat) : Int) := ⟨by omega, by omega⟩
      have jR : 0 ≤ ((A.length + P1.length : Nat) : Int) ∧ ((A.length + P1.length : Nat) : Int) < 6000 := ⟨by omega, by omega⟩
      have hnx : D_w x e = false → g_InR (((A.length + P1.length : Nat) : Int) + 1) ∧ g_Run (d + 47) 400 3 [(0, .ref m), (1, g_n (D_p e)), (2, g_n A.length), (3, g_n ((A.length + P.length : Nat) : Int)), (4, g_n (((A.length + P1.length : Nat) : Int) + 1))] [] M (g_qI Q) := fun hw => by
        refine ⟨⟨by omega, by omega⟩, ?_⟩
        have h9 := ih (P1 ++ [x]) (by rw [hP1]; simp) (by rw [List.any_append, hn]; simp [hw])
        rw [show ((A.length + (P1 ++ [x]).length : Nat) : Int) = ((A.length + P1.length : Nat) : Int) + 1 by rw [List.length_append, List.length_singleton]; omega] at h9
        exact h9
      have hyes : D_w x e = true → Q 1 M := fun hw => by
        rw [if_pos (List.any_eq_true.mpr ⟨x, hxP, hw⟩)] at h
        exact h
      refine s_X12_isWithin_3 eR aR tR iR fun _ => ⟨fun _ => ⟨hB.1, ρ 57, b57.1, 6000, b57A, jR, ?_⟩, fun g => absurd (by omega) g⟩
      rw [x1]
      refine e_compareEnds (d := d + 1) hR xl he fun r hr => ?_
      intro _ _ _
      refine ⟨ρ 58, b58.1, 6000, b58A, jR, ?_⟩
      rw [x3]
      refine e_compareEnds (d := d + 1) hR he xh fun s hs => ?_
      intro _ _ _
      have rR : g_InR r := ⟨by have := hr.2.1; omega, by have := hr.2.2; omega⟩
      have sR : g_InR s := ⟨by have := hs.2.1; omega, by have := hs.2.2; omega⟩
      have h57 : (decide (D_c (D_lo x) e < 0) || (decide (D_c (D_lo x) e = 0) && x.2.2.1)) = true → g_Run (d + 47) 400 57 [(0, .ref m), (1, g_n (D_p e)), (2, g_n A.length), (3, g_n ((A.length + P.length : Nat) : Int)), (4, g_n ((A.length + P1.length : Nat) : Int)), (5, g_n r), (6, g_n s)] [] M (g_qI Q) := fun hlo => by
        refine s_X12_isWithin_57 eR aR tR iR rR sR fun _ => ⟨fun g => hyes ?_, fun g => ⟨fun g1 => ⟨hB.1, ρ 60, b60.1, 6000, b60A, jR, fun g2 => hnx ?_, fun g2 => hyes ?_⟩, fun g1 => hnx ?_⟩⟩
        · unfold D_w
          rw [hlo, decide_eq_true (hs.lt.mp g)]
          rfl
        · have hf : x.2.2.2.2 = false := by
            cases h : x.2.2.2.2
            · rfl
            · rw [x4, h, if_pos rfl] at g2
              exact absurd g2 (by decide)
          unfold D_w
          rw [decide_eq_false (fun z => g (hs.lt.mpr z)), hf]
          simp
        · have hf : x.2.2.2.2 = true := by
            cases h : x.2.2.2.2
            · rw [x4, h] at g2
              exact absurd (if_neg (by decide)) g2
            · rfl
          unfold D_w
          rw [hlo, decide_eq_true (hs.zero.mp g1), hf]
          simp
        · unfold D_w
          rw [decide_eq_false (fun z => g (hs.lt.mpr z)), decide_eq_false (fun z => g1 (hs.zero.mpr z))]
          simp
      refine ⟨fun g => h57 ?_, fun g => ⟨fun g1 => ⟨ρ 59, b59.1, 6000, b59A, jR, fun g2 => hnx ?_, fun g2 => h57 ?_⟩, fun g1 => hnx ?_⟩⟩
      · rw [decide_eq_true (hr.lt.mp g)]
        rfl
      · have hf : x.2.2.1 = false := by
          cases h : x.2.2.1
          · rfl
          · rw [x2, h, if_pos rfl] at g2
            exact absurd g2 (by decide)
        unfold D_w
        rw [decide_eq_false (fun z => g (hr.lt.mpr z)), hf]
        simp
      · have hf : x.2.2.1 = true := by
          cases h : x.2.2.1
          · rw [x2, h] at g2
            exact absurd (if_neg (by decide)) g2
          · rfl
        rw [decide_eq_true (hr.zero.mp g1), hf]
        simp
      · unfold D_w
        rw [decide_eq_false (fun z => g (hr.lt.mpr z)), decide_eq_false (fun z => g1 (hr.zero.mpr z))]
        simp
  exact hlp P [] rfl rfl
theorem e_isPoint {Q : Int → g_M → Prop} {i : Nat} {x : D_i} (hB : E_bk m ρ M) (hI : E_Iv m ρ L M) (hi : L[i]? = some x) (hl : L.length ≤ 6000) (hx : D_io (g_i M (ρ 0)) x) (h : Q (if D_isp x = true then 1 else 0) M) : g_Call (d + 47) 399 [.ref m, g_n i] M (g_qI Q) := by
  have hil := (List.getElem?_eq_some_iff.mp hi).1
  obtain ⟨x1, x2, x3, x4⟩ := hI.2 _ _ hi
  have b57 := hB.at (k := 57) (by decide)
  have b57A : g_A M (ρ 57) 1 6000 := b57.2
  have b58 := hB.at (k := 58) (by decide)
  have b58A : g_A M (ρ 58) 1 6000 := b58.2
  have r1 := hx.1.R
  have r2 := hx.2.R
  obtain ⟨c, lo, li, hi2, hh⟩ := x
  refine m_X12_isPoint ⟨by omega, by omega⟩ fun _ => ⟨hB.1, ρ 57, b57.1, 6000, b57A, ⟨by omega, by omega⟩, ?_⟩
  rw [x1]
  rcases lo with _ | y
  · exact ⟨fun _ => h, fun g => absurd (r1.2.1.mpr (show ¬ (0 : Int) = 1 by decide)) g⟩
  · refine ⟨fun g => absurd (show (1 : Int) = 1 from rfl) (r1.2.1.mp g), fun _ => ⟨ρ 58, b58.1, 6000, b58A, ⟨by omega, by omega⟩, ?_⟩⟩
    rw [x3]
    rcases hi2 with _ | z
    · exact ⟨fun _ => h, fun g => absurd (r2.2.1.mpr (show ¬ (2 : Int) = 1 by decide)) g⟩
    · refine ⟨fun g => absurd (show (1 : Int) = 1 from rfl) (r2.2.1.mp g), fun _ => ⟨ρ 57, b57.1, 6000, b57A, ⟨by omega, by omega⟩, ρ 58, b58.1, 6000, b58A, ⟨by omega, by omega⟩, ?_⟩⟩
      rw [x1, x3]
      have hy := (hx.1.2.2 rfl).1
      have hz := (hx.2.2.2 rfl).1
      have h : Q (if F_eq y.2 z.2 = true then 1 else 0) M := h
      refine e_isSameS (d := d) (p := y.1) (q := z.1) (x := y.2) (v := z.2) (D := 20) hB.R hy (by decide) hz ?_
      intro _ _ _
      cases hF : F_eq y.2 z.2
      · rw [hF, if_neg (by decide)] at h
        rw [if_neg (by decide)]
        exact ⟨fun _ => h, fun g => absurd rfl g⟩
      · rw [hF, if_pos rfl] at h
        rw [if_pos rfl]
        exact ⟨fun g => absurd g (by decide), fun _ => h⟩
end DIW
