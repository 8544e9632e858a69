/-! FILTERS: their faults in the reference -/
def E_C (m b : Nat) (F : Int → Int) (M : g_M) (n : Int) : Prop := e_R M m b ∧ g_i M b = F ∧ g_i M m 11 = n
def E_CS (m : Nat) (x : Nat) (k : Int) : Prop := x = m ∧ (k = 7 ∨ k = 8 ∨ k = 11)
def J_post (m b : Nat) (F : Int → Int) (M : g_M) (Q : Int → g_M → Prop) (R : Int × Int × Int) : Prop := ∀ M1, e_fr (E_CS m) M M1 → E_C m b F M1 R.2.2 → (R.1 ≠ 0 → g_i M1 m 7 = R.1 ∧ g_i M1 m 8 = R.2.1) → (R.1 = 0 → 0 ≤ R.2.2 ∧ R.2.2 ≤ 100) → Q (if R.1 = 0 then 1 else 0) M1
section ECHK
variable {d m b : Nat} {F : Int → Int} {M : g_M} {Q : Int → g_M → Prop}
theorem J_post.tr {M1 : g_M} {R : Int × Int × Int} (h : J_post m b F M Q R) (f : e_fr (E_CS m) M M1) : J_post m b F M1 Q R := fun M2 f2 => h M2 (f.tr f2)
theorem e_failsF {w q n : Int} (hC : E_C m b F M n) (hw : g_InR w) (hw0 : w ≠ 0) (hq : g_InR q) (h : J_post m b F M Q (w, q, n)) : g_Call (d + 1) 257 [.ref m, g_n w, g_n q] M (g_qI Q) := by
  obtain ⟨h1, h2, h3⟩ := hC
  have hb : m ≠ b := g_neOA h1.1 h1.2.2
  refine e_fails h1 hw hq ?_
  have := h (e_f M m w q) ((e_fr.wi _ ⟨rfl, Or.inl rfl⟩).tr (e_fr.wi _ ⟨rfl, Or.inr (Or.inl rfl)⟩)) ⟨h1, ?_, ?_⟩ (fun _ => ⟨?_, ?_⟩) (fun g => absurd g hw0)
  · rwa [if_neg hw0] at this
  · funext k
    unfold e_f
    rw [g_i_wi, if_neg (fun z => hb z.1.symm), g_i_wi, if_neg (fun z => hb z.1.symm), h2]
  · unfold e_f
    rw [g_i_wi, if_neg (by omega), g_i_wi, if_neg (by omega)]
    exact h3
  · unfold e_f
    rw [g_i_wi, if_neg (by omega), g_i_wi, if_pos ⟨rfl, rfl⟩]
  · unfold e_f
    rw [g_i_wi, if_pos ⟨rfl, rfl⟩]
theorem e_counts {k q n : Int} (hC : E_C m b F M n) (hk : 0 ≤ k) (hk2 : k ≤ 2) (h0 : 0 ≤ n) (h1 : n ≤ 100) (hq : g_InR q) (h : J_post m b F M Q (K_more k q n (0, 0, n + k))) : g_Call (d + 2) 286 [.ref m, g_n k, g_n q] M (g_qI Q) := by
  obtain ⟨g1, g2, g3⟩ := hC
  have hb : m ≠ b := g_neOA g1.1 g1.2.2
  rw [← g3] at h
  refine m_X12_counts ⟨by omega, by omega⟩ hq fun _ => ⟨g1.1, by rw [g3]; exact ⟨by omega, by omega⟩, fun M3 e3 _ => ?_⟩
  subst e3
  have hfr : e_fr (E_CS m) M (g_wi M m 11 (g_i M m 11 + k)) := e_fr.wi _ ⟨rfl, Or.inr (Or.inr rfl)⟩
  have hC3 : E_C m b F (g_wi M m 11 (g_i M m 11 + k)) (g_i M m 11 + k) := by
    refine ⟨g1, ?_, ?_⟩
    · funext j
      rw [g_i_wi, if_neg (fun z => hb z.1.symm), g2]
    · rw [g_i_wi, if_pos ⟨rfl, rfl⟩]
  rw [show g_i (g_wi M m 11 (g_i M m 11 + k)) m 11 = g_i M m 11 + k from hC3.2.2]
  unfold K_more at h
  refine ⟨fun g => ?_, fun g => ?_⟩
  · rw [if_pos g] at h
    refine e_failsF (d := d) hC3 ⟨by decide, by decide⟩ (by decide) hq fun M1 f1 hC1 hf _ => ?_
    intro _ _ _
    exact ⟨fun _ => h M1 (hfr.tr f1) hC1 hf (fun g => absurd g (by simp)), fun g => absurd rfl g⟩
  · rw [if_neg g] at h
    exact h _ hfr hC3 (fun g => absurd rfl g) (fun _ => (show 0 ≤ g_i M m 11 + k ∧ g_i M m 11 + k ≤ 100 from ⟨by omega, by omega⟩))
theorem e_isCond {p : Int} {D : Nat} {fe : b_E} (hR : e_R M m b) (hs : b_st (g_i M b) 2706210 p D fe.1 fe.2.1 fe.2.2) (h : Q (if F_cd fe.2.1 = 0 then 0 else 1) M) : g_Call (d + 5) 290 [.ref m, g_n p] M (g_qI Q) := by
  have hpe := hs.R (by decide)
  have hyes : ∀ i : Nat, 1 ≤ i → i ≤ 12 → fe.2.1 = b_tx (16 + i) → Q 1 M := by
    intro i h1 h2 hn
    have := (F_cd_i h1 h2).mpr hn
    rwa [if_neg (by omega)] at h
  have h71y : ∀ i : Nat, 1 ≤ i → i ≤ 12 → fe.2.1 = b_tx (16 + i) → g_Run (d + 4) 290 71 [(0, .ref m), (1, g_n p)] [g_n 1] M (g_qI Q) := fun i h1 h2 hn => s_X12_isCondition_71 hpe ⟨by decide, by decide⟩ fun _ => ⟨fun g => absurd g (by decide), fun _ => hyes i h1 h2 hn⟩
  refine m_X12_isCondition hpe fun _ => ⟨hR.1, e_nm3 (j2 := 17) (by decide) (by decide +kernel) hR hs (fun n1 => fun _ _ _ => ⟨fun g => absurd g (by decide), fun _ => h71y 1 (by decide) (by decide) n1⟩) fun n1 => fun _ _ _ => ⟨fun _ => ?_, fun g => absurd rfl g⟩⟩
  refine e_nm3 (j2 := 18) (by decide) (by decide +kernel) hR hs (fun n2 => fun _ _ _ => ⟨fun g => absurd g (by decide), fun _ => h71y 2 (by decide) (by decide) n2⟩) fun n2 => fun _ _ _ => ⟨fun _ => ?_, fun g => absurd rfl g⟩
  refine e_nm3 (j2 := 19) (by decide) (by decide +kernel) hR hs (fun n3 => fun _ _ _ => ⟨fun g => absurd g (by decide), fun _ => h71y 3 (by decide) (by decide) n3⟩) fun n3 => fun _ _ _ => ⟨fun _ => ?_, fun g => absurd rfl g⟩
  refine e_nm3 (j2 := 20) (by decide) (by decide +kernel) hR hs (fun n4 => fun _ _ _ => ⟨fun g => absurd g (by decide), fun _ => h71y 4 (by decide) (by decide) n4⟩) fun n4 => fun _ _ _ => ⟨fun _ => ?_, fun g => absurd rfl g⟩
  refine e_nm3 (j2 := 21) (by decide) (by decide +kernel) hR hs (fun n5 => fun _ _ _ => ⟨fun g => absurd g (by decide), fun _ => h71y 5 (by decide) (by decide) n5⟩) fun n5 => fun _ _ _ => ⟨fun _ => ?_, fun g => absurd rfl g⟩
  refine e_nm3 (j2 := 22) (by decide) (by decide +kernel) hR hs (fun n6 => fun _ _ _ => ⟨fun g => absurd g (by decide), fun _ => h71y 6 (by decide) (by decide) n6⟩) fun n6 => fun _ _ _ => ⟨fun _ => ?_, fun g => absurd rfl g⟩
  refine s_X12_isCondition_71 hpe ⟨by decide, by decide⟩ fun _ => ⟨fun _ => ⟨hR.1, e_nm3 (j2 := 23) (by decide) (by decide +kernel) hR hs (fun n7 => fun _ _ _ => ⟨fun g => absurd g (by decide), fun _ => hyes 7 (by decide) (by decide) n7⟩) fun n7 => fun _ _ _ => ⟨fun _ => ?_, fun g => absurd rfl g⟩⟩, fun g => absurd rfl g⟩
  refine e_nm3 (j2 := 24) (by decide) (by decide +kernel) hR hs (fun n8 => fun _ _ _ => ⟨fun g => absurd g (by decide), fun _ => hyes 8 (by decide) (by decide) n8⟩) fun n8 => fun _ _ _ => ⟨fun _ => ?_, fun g => absurd rfl g⟩
  refine e_nm3 (j2 := 25) (by decide) (by decide +kernel) hR hs (fun n9 => fun _ _ _ => ⟨fun g => absurd g (by decide), fun _ => hyes 9 (by decide) (by decide) n9⟩) fun n9 => fun _ _ _ => ⟨fun _ => ?_, fun g => absurd rfl g⟩
  refine e_nm3 (j2 := 26) (by decide) (by decide +kernel) hR hs (fun n10 => fun _ _ _ => ⟨fun g => absurd g (by decide), fun _ => hyes 10 (by decide) (by decide) n10⟩) fun n10 => fun _ _ _ => ⟨fun _ => ?_, fun g => absurd rfl g⟩
  refine e_nm3 (j2 := 27) (by decide) (by decide +kernel) hR hs (fun n11 => fun _ _ _ => ⟨fun g => absurd g (by decide), fun _ => hyes 11 (by decide) (by decide) n11⟩) fun n11 => fun _ _ _ => ⟨fun _ => ?_, fun g => absurd rfl g⟩
  refine e_nm3 (j2 := 28) (by decide) (by decide +kernel) hR hs (fun n12 => fun _ _ _ => ⟨fun g => absurd g (by decide), fun _ => hyes 12 (by decide) (by decide) n12⟩) fun n12 => fun _ _ _ => ⟨fun _ => ?_, fun g => absurd rfl g⟩
  have hz : F_cd fe.2.1 = 0 := by
    unfold F_cd
    rw [if_neg n1, if_neg n2, if_neg n3, if_neg n4, if_neg n5, if_neg n6, if_neg n7, if_neg n8, if_neg n9, if_neg n10, if_neg n11, if_neg n12]
  rwa [if_pos hz] at h
theorem e_rightVal {p : Int} {D : Nat} {fe : b_E} (hR : e_R M m b) (hs : b_st (g_i M b) 2706210 p D fe.1 fe.2.1 fe.2.2) (h0 : F_cd fe.2.1 ≠ 0) (h : Q (if F_rv (F_cd fe.2.1) fe = true then 1 else 0) M) : g_Call (d + 6) 291 [.ref m, g_n p] M (g_qI Q) := by
  have hpe := hs.R (by decide)
  have hd : ∀ (x : Bool) (P : Prop), (P ↔ x = true) → Q (if x = true then 1 else 0) M → (P → Q 1 M) ∧ (¬ P → Q 0 M) := by
    intro x P hP hq
    cases x
    · exact ⟨fun g => absurd (hP.mp g) (by decide), fun _ => hq⟩
    · exact ⟨fun _ => hq, fun g => absurd (hP.mpr rfl) g⟩
  have i3 : F_cd fe.2.1 = 3 ↔ fe.2.1 = b_tx 19 := @F_cd_i fe.2.1 3 (by decide) (by decide)
  have i4 : F_cd fe.2.1 = 4 ↔ fe.2.1 = b_tx 20 := @F_cd_i fe.2.1 4 (by decide) (by decide)
  have i9 : F_cd fe.2.1 = 9 ↔ fe.2.1 = b_tx 25 := @F_cd_i fe.2.1 9 (by decide) (by decide)
  have i10 : F_cd fe.2.1 = 10 ↔ fe.2.1 = b_tx 26 := @F_cd_i fe.2.1 10 (by decide) (by decide)
  have i11 : F_cd fe.2.1 = 11 ↔ fe.2.1 = b_tx 27 := @F_cd_i fe.2.1 11 (by decide) (by decide)
  have i12 : F_cd fe.2.1 = 12 ↔ fe.2.1 = b_tx 28 := @F_cd_i fe.2.1 12 (by decide) (by decide)
  generalize F_cd fe.2.1 = k at *
  unfold F_rv at h
  have h22 : (k = 3 ∨ k = 4) → g_Run (d + 5) 291 22 [(0, .ref m), (1, g_n p)] [] M (g_qI Q) := by
    intro g
    rw [if_pos g] at h
    exact s_X12_hasRightValue_22 hpe fun _ => ⟨hR.1, e_kd hR hs (P := fun z => (z = 4 → Q 1 M) ∧ (¬ z = 4 → Q 0 M)) (hd _ _ (by simp) h)⟩
  refine m_X12_hasRightValue hpe fun _ => ⟨hR.1, e_nm3 (j2 := 19) (by decide) (by decide +kernel) hR hs (fun n3 => fun _ _ _ => ⟨fun g => absurd g (by decide), fun _ => h22 (Or.inl (i3.mpr n3))⟩) fun n3 => fun _ _ _ => ⟨fun _ => ?_, fun g => absurd rfl g⟩⟩
  refine e_nm3 (j2 := 20) (by decide) (by decide +kernel) hR hs (fun n4 => fun _ _ _ => ⟨fun g => absurd g (by decide), fun _ => h22 (Or.inr (i4.mpr n4))⟩) fun n4 => fun _ _ _ => ⟨fun _ => ?_, fun g => absurd rfl g⟩
  have g34 : ¬ (k = 3 ∨ k = 4) := fun z => z.elim (fun z => n3 (i3.mp z)) (fun z => n4 (i4.mp z))
  rw [if_neg g34] at h
  refine e_nm3 (j2 := 25) (by decide) (by decide +kernel) hR hs (fun n9 => fun _ _ _ => ⟨fun g => absurd g (by decide), fun _ => ?_⟩) fun n9 => fun _ _ _ => ⟨fun _ => ?_, fun g => absurd rfl g⟩
  · rw [if_pos (i9.mpr n9)] at h
    exact e_kd hR hs (P := fun z => (z = 8 → Q 1 M) ∧ (¬ z = 8 → Q 0 M)) (hd _ _ (by simp) h)
  rw [if_neg (fun z => n9 (i9.mp z))] at h
  refine e_nm3 (j2 := 26) (by decide) (by decide +kernel) hR hs (fun n10 => fun _ _ _ => ⟨fun g => absurd g (by decide), fun _ => ?_⟩) fun n10 => fun _ _ _ => ⟨fun _ => ?_, fun g => absurd rfl g⟩
  · rw [if_pos (i10.mpr n10)] at h
    obtain ⟨v1, v2, v3, v4⟩ := hs.val
    refine m_X12_isNumber hpe fun _ => ⟨fun g => absurd g (by omega), fun _ => ⟨hR.1, e_kd hR hs (P := fun z => (z = 16 → _) ∧ (¬ z = 16 → _)) ⟨fun g16 => ?_, fun g16 => e_kd hR hs (P := fun z => (z = 18 → _) ∧ (¬ z = 18 → _)) ⟨fun g18 => ?_, fun g18 => ?_⟩⟩⟩⟩
    · refine fun _ _ _ => ⟨fun g => absurd g (by decide), fun _ => e_num hR hs (Or.inl g16) fun _ _ => ?_⟩
      rw [show (fe.1 == 16 || fe.1 == 18) = true by simp [g16], Bool.true_and] at h
      exact ⟨fun g => by rw [decide_eq_false (fun z => z g)] at h; exact h, fun g => by rw [decide_eq_true g] at h; exact h⟩
    · refine fun _ _ _ => ⟨fun g => absurd g (by decide), fun _ => e_num hR hs (Or.inr g18) fun _ _ => ?_⟩
      rw [show (fe.1 == 16 || fe.1 == 18) = true by simp [g18], Bool.true_and] at h
      exact ⟨fun g => by rw [decide_eq_false (fun z => z g)] at h; exact h, fun g => by rw [decide_eq_true g] at h; exact h⟩
    · rw [show (fe.1 == 16 || fe.1 == 18) = false by simp [g16, g18], Bool.false_and] at h
      exact fun _ _ _ => ⟨fun _ => h, fun g => absurd rfl g⟩
  rw [if_neg (fun z => n10 (i10.mp z))] at h
  refine e_nm3 (j2 := 27) (by decide) (by decide +kernel) hR hs (fun n11 => fun _ _ _ => ⟨fun g => absurd g (by decide), fun _ => ?_⟩) fun n11 => fun _ _ _ => ⟨fun _ => ?_, fun g => absurd rfl g⟩
  · rw [if_pos (i11.mpr n11)] at h
    exact e_kd hR hs (P := fun z => (z = 3 → Q 1 M) ∧ (¬ z = 3 → Q 0 M)) (hd _ _ (by simp) h)
  rw [if_neg (fun z => n11 (i11.mp z))] at h
  refine e_nm3 (j2 := 28) (by decide) (by decide +kernel) hR hs (fun n12 => fun _ _ _ => ⟨fun g => absurd g (by decide), fun _ => ?_⟩) fun n12 => fun _ _ _ => ⟨fun _ => ?_, fun g => absurd rfl g⟩
  · rw [if_pos (i12.mpr n12)] at h
    refine e_areConds hR hs (fun gc => ?_) (fun gc => ?_)
    · rw [show F_cs fe = true from gc] at h
      exact fun _ _ _ => ⟨fun g => absurd g (by decide), fun _ => h⟩
    · rw [show F_cs fe = false from gc] at h
      exact fun _ _ _ => ⟨fun _ => h, fun g => absurd rfl g⟩
  · rw [if_neg (fun z => n12 (i12.mp z))] at h
    exact h
end ECHK
def J_A (m b : Nat) (F : Int → Int) (k : Nat) : Prop := ∀ (M : g_M) (Q : Int → g_M → Prop) (dd : Nat) (cf n : Int) (fe : b_E) (D : Nat), E_C m b F M n → 0 ≤ n → n ≤ 100 → E_dc F cf D fe → D < k → fe.2.2.length ≤ 3000 → 8 * k + 20 ≤ dd → J_post m b F M Q ((K_F k).1 (L_at (cf + 4) (b_ch fe.2.2)) n) → g_Call dd 288 [.ref m, g_n cf] M (g_qI Q)
def J_B (m b : Nat) (F : Int → Int) (k : Nat) : Prop := ∀ (M : g_M) (Q : Int → g_M → Prop) (dd : Nat) (cf n : Int) (fe : b_E) (D : Nat), E_C m b F M n → 0 ≤ n → n ≤ 100 → E_dc F cf D fe → D < k → fe.2.2.length ≤ 3000 → 8 * k + 20 ≤ dd → J_post m b F M Q ((K_F k).2 (L_at (cf + 4) (b_ch fe.2.2)) n) → g_Call dd 292 [.ref m, g_n cf] M (g_qI Q)
