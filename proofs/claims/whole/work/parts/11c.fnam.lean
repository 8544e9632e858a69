/-! FILTERS: names and what stands in them; the class looks -/
def F_dl (nm : List Int) : Bool := nm.head? == some 36
def F_jo (nm : List Int) : Bool := nm == b_tx 14 || nm == b_tx 15 || nm == b_tx 16
def F_hd : List b_E → Bool
  | [] => false
  | g :: _ => F_dl g.2.1
def F_hj : List b_E → Bool
  | [] => false
  | g :: _ => !F_jo g.2.1
noncomputable def F_cs (e : b_E) : Bool := e.1 == 3 && F_hd (b_ch e.2.2)
noncomputable def F_ci (e : b_E) : Bool := F_cs e && F_hj (b_ch e.2.2)
def F_cd (nm : List Int) : Int := if nm = b_tx 17 then 1 else if nm = b_tx 18 then 2 else if nm = b_tx 19 then 3 else if nm = b_tx 20 then 4 else if nm = b_tx 21 then 5 else if nm = b_tx 22 then 6 else if nm = b_tx 23 then 7 else if nm = b_tx 24 then 8 else if nm = b_tx 25 then 9 else if nm = b_tx 26 then 10 else if nm = b_tx 27 then 11 else if nm = b_tx 28 then 12 else 0
noncomputable def F_rv (c : Int) (e : b_E) : Bool := if c = 3 ∨ c = 4 then e.1 == 4 else if c = 9 then e.1 == 8 else if c = 10 then (e.1 == 16 || e.1 == 18) && decide (¬ g_lc (v_num e.1 e.2.2) 0 < 0) else if c = 11 then e.1 == 3 else if c = 12 then F_cs e else true
noncomputable def F_pl (x : List Int) : Bool := @decide (p_plain x) (Classical.propDecidable _)
theorem F_pl_t {x : List Int} (h : p_plain x) : F_pl x = true := (@decide_eq_true_iff _ (Classical.propDecidable _)).mpr h
theorem F_pl_f {x : List Int} (h : ¬ p_plain x) : F_pl x = false := by
  cases hb : F_pl x
  · rfl
  · exact absurd ((@decide_eq_true_iff _ (Classical.propDecidable _)).mp hb) h
theorem F_dl_tx : ∀ j : Nat, 14 ≤ j → j ≤ 28 → j ≠ 27 ∨ True → F_dl (b_tx j) = true := by
  intro j h1 h2 _
  have : j = 14 ∨ j = 15 ∨ j = 16 ∨ j = 17 ∨ j = 18 ∨ j = 19 ∨ j = 20 ∨ j = 21 ∨ j = 22 ∨ j = 23 ∨ j = 24 ∨ j = 25 ∨ j = 26 ∨ j = 27 ∨ j = 28 := by omega
  rcases this with rfl | rfl | rfl | rfl | rfl | rfl | rfl | rfl | rfl | rfl | rfl | rfl | rfl | rfl | rfl <;> decide +kernel
theorem F_ne {nm : List Int} (h : F_dl nm = false) {j : Nat} (h1 : 14 ≤ j) (h2 : j ≤ 28) : nm ≠ b_tx j := by
  rintro rfl
  rw [F_dl_tx j h1 h2 (Or.inr trivial)] at h
  cases h
theorem F_cd0 {nm : List Int} (h : F_dl nm = false) : F_cd nm = 0 := by
  unfold F_cd
  rw [if_neg (F_ne h (by decide) (by decide)), if_neg (F_ne h (by decide) (by decide)), if_neg (F_ne h (by decide) (by decide)), if_neg (F_ne h (by decide) (by decide)), if_neg (F_ne h (by decide) (by decide)), if_neg (F_ne h (by decide) (by decide)), if_neg (F_ne h (by decide) (by decide)), if_neg (F_ne h (by decide) (by decide)), if_neg (F_ne h (by decide) (by decide)), if_neg (F_ne h (by decide) (by decide)), if_neg (F_ne h (by decide) (by decide)), if_neg (F_ne h (by decide) (by decide))]
theorem b_st.R {B : Int → Int} {n p k : Int} {D : Nat} {nm vb : List Int} (h : b_st B n p D k nm vb) (hn : n ≤ 1000000000) : g_InR p := by
  obtain ⟨-, v2, v3, -⟩ := h.val
  exact ⟨by omega, by omega⟩
theorem b_st.dl {B : Int → Int} {n p k : Int} {D : Nat} {nm vb : List Int} (h : b_st B n p D k nm vb) : B (p + 1) = 36 ↔ F_dl nm = true := by
  obtain ⟨-, h2, h3, -⟩ := b_el_at h.1
  cases nm with
  | nil =>
    rw [List.length_nil, show p + 1 + ((0 : Nat) : Int) = p + 1 by omega] at h3
    rw [h3]
    exact ⟨fun g => absurd g (by decide), fun g => absurd g (by decide)⟩
  | cons c nm =>
    rw [(b_cons.mp h2).1]
    show c = 36 ↔ (some c == some 36) = true
    simp
section C38
variable {d b : Nat} {M : g_M} {Q : Int → g_M → Prop} {N p k : Int} {D : Nat} {nm vb : List Int}
theorem c_nm3 {j : Nat} (hj : j < q_nS) (hA : g_A M b 0 N) (hn : N ≤ 1000000000) (hs : b_st (g_i M b) N p D k nm vb) (h1 : nm = b_tx j → Q 1 M) (h0 : nm ≠ b_tx j → Q 0 M) : g_Call (d + 3) 115 [.ref b, g_n p, .ref (4 * j + 1)] M (g_qI Q) := by
  obtain ⟨s1, s2, s3, s4, s5⟩ := hs
  rw [b_el_len] at s5
  refine c_named hj hA hn s1 s2 s4 (by omega) ?_
  by_cases g : nm = b_tx j
  · rw [if_pos g]
    exact h1 g
  · rw [if_neg g]
    exact h0 g
theorem c_isLogic (hA : g_A M b 0 N) (hn : N ≤ 1000000000) (hs : b_st (g_i M b) N p D k nm vb) (h1 : F_jo nm = true → Q 1 M) (h0 : F_jo nm = false → Q 0 M) : g_Call (d + 4) 39 [.ref b, g_n p] M (g_qI Q) := by
  refine m_X2_isLogic (hs.R hn) fun _ => c_nm3 (by decide) hA hn hs (fun e1 => fun _ _ _ => ⟨fun g => absurd g (by decide), fun _ => h1 (by simp [F_jo, e1])⟩) fun e1 => fun _ _ _ => ⟨fun _ => ?_, fun g => absurd rfl g⟩
  refine c_nm3 (by decide) hA hn hs (fun e2 => fun _ _ _ => ⟨fun g => absurd g (by decide), fun _ => h1 (by simp [F_jo, e2])⟩) fun e2 => fun _ _ _ => ⟨fun _ => ?_, fun g => absurd rfl g⟩
  exact c_nm3 (by decide) hA hn hs (fun e3 => fun _ _ _ => ⟨fun g => absurd g (by decide), fun _ => h1 (by simp [F_jo, e3])⟩) fun e3 => fun _ _ _ => ⟨fun _ => h0 (by simp [F_jo, e1, e2, e3]), fun g => absurd rfl g⟩
theorem c_dl2 (hA : g_A M b 0 N) (hn : N ≤ 1000000000) (hs : b_st (g_i M b) N p D k nm vb) (h1 : F_dl nm = true → Q 1 M) (h0 : F_dl nm = false → Q 0 M) : g_Call (d + 1) 116 [.ref b, g_n p] M (g_qI Q) := by
  obtain ⟨-, v2, v3, -⟩ := hs.val
  have hl := hA.len
  refine c_dollar hA ⟨by omega, by omega⟩ v3 (by omega) ?_
  have := hs.dl
  cases hb : F_dl nm
  · rw [hb] at this
    rw [if_neg (fun g => absurd (this.mp g) (by decide))]
    exact h0 hb
  · rw [if_pos (this.mpr hb)]
    exact h1 hb
theorem c_isConds (hA : g_A M b 0 N) (hn : N ≤ 1000000000) (hs : b_st (g_i M b) N p D k nm vb) (h1 : F_cs (k, nm, vb) = true → Q 1 M) (h0 : F_cs (k, nm, vb) = false → Q 0 M) : g_Call (d + 2) 40 [.ref b, g_n p] M (g_qI Q) := by
  refine m_X2_isConditions (hs.R hn) fun _ => c_kd2 hA hn hs fun _ _ _ => ⟨fun g => ?_, fun g => h0 (by simp [F_cs, g])⟩
  obtain ⟨D1, es, e1, e2, e3, e4, e5, e6, e7, e8⟩ := hs.ch (Or.inl g)
  refine c_fi2 hA hn hs fun _ _ _ => ?_
  rcases es with _ | ⟨f, es⟩
  · exact c_kdE hA hn e4 fun _ _ _ => ⟨fun _ => h0 (by simp [F_cs, e5, F_hd]), fun g => absurd rfl g⟩
  · have s1 := e4.cons.1
    have := b_vs_pos (b_gv_vs s1.2.2.1)
    refine c_kd2 hA hn s1 fun _ _ _ => ⟨fun g => absurd g (by omega), fun _ => c_dl2 hA hn s1 (fun g2 => fun _ _ _ => ⟨fun g => absurd g (by decide), fun _ => h1 ?_⟩) fun g2 => fun _ _ _ => ⟨fun _ => h0 ?_, fun g => absurd rfl g⟩⟩
    · simp [F_cs, e5, F_hd, g, g2]
    · simp [F_cs, e5, F_hd, g2]
theorem F_cs_k {e : b_E} (h : F_cs e = true) : e.1 = 3 := by
  unfold F_cs at h
  rw [Bool.and_eq_true] at h
  exact eq_of_beq h.1
theorem c_isCondsI (hA : g_A M b 0 N) (hn : N ≤ 1000000000) (hs : b_st (g_i M b) N p D k nm vb) (h1 : F_ci (k, nm, vb) = true → Q 1 M) (h0 : F_ci (k, nm, vb) = false → Q 0 M) : g_Call (d + 5) 41 [.ref b, g_n p] M (g_qI Q) := by
  refine m_X2_isConditionsOfItem (hs.R hn) fun _ => c_isConds (d := d + 2) hA hn hs (fun g => fun _ _ _ => ⟨fun g => absurd g (by decide), fun _ => ?_⟩) fun g => fun _ _ _ => ⟨fun _ => h0 (by simp [F_ci, g]), fun g => absurd rfl g⟩
  have hk : k = 3 := F_cs_k g
  obtain ⟨D1, es, e1, e2, e3, e4, e5, e6, e7, e8⟩ := hs.ch (Or.inl hk)
  refine c_fi2 hA hn hs fun _ _ _ => ?_
  rcases es with _ | ⟨f, es⟩
  · have : F_cs (k, nm, vb) = false := by simp [F_cs, e5, F_hd]
    rw [this] at g
    cases g
  · exact c_isLogic hA hn e4.cons.1 (fun g2 => fun _ _ _ => ⟨fun g => absurd g (by decide), fun _ => h0 (by simp [F_ci, F_hj, e5, g2])⟩) fun g2 => fun _ _ _ => ⟨fun _ => h1 (by simp [F_ci, F_hj, e5, g, g2]), fun g => absurd rfl g⟩
theorem c_condOf (hA : g_A M b 0 N) (hn : N ≤ 1000000000) (hs : b_st (g_i M b) N p D k nm vb) (h : Q (F_cd nm) M) : g_Call (d + 4) 38 [.ref b, g_n p] M (g_qI Q) := by
  refine m_X2_conditionOf (hs.R hn) fun _ => c_dl2 hA hn hs (fun g => fun _ _ _ => ⟨fun g => absurd g (by decide), fun _ => ?_⟩) fun g => fun _ _ _ => ⟨fun _ => by rwa [F_cd0 g] at h, fun g => absurd rfl g⟩
  unfold F_cd at h
  refine c_nm3 (by decide) hA hn hs (fun e => fun _ _ _ => ⟨fun g => absurd g (by decide), fun _ => by rwa [if_pos e] at h⟩) fun e => fun _ _ _ => ⟨fun _ => ?_, fun g => absurd rfl g⟩
  rw [if_neg e] at h
  refine c_nm3 (by decide) hA hn hs (fun e => fun _ _ _ => ⟨fun g => absurd g (by decide), fun _ => by rwa [if_pos e] at h⟩) fun e => fun _ _ _ => ⟨fun _ => ?_, fun g => absurd rfl g⟩
  rw [if_neg e] at h
  refine c_nm3 (by decide) hA hn hs (fun e => fun _ _ _ => ⟨fun g => absurd g (by decide), fun _ => by rwa [if_pos e] at h⟩) fun e => fun _ _ _ => ⟨fun _ => ?_, fun g => absurd rfl g⟩
  rw [if_neg e] at h
  refine c_nm3 (by decide) hA hn hs (fun e => fun _ _ _ => ⟨fun g => absurd g (by decide), fun _ => by rwa [if_pos e] at h⟩) fun e => fun _ _ _ => ⟨fun _ => ?_, fun g => absurd rfl g⟩
  rw [if_neg e] at h
  refine c_nm3 (by decide) hA hn hs (fun e => fun _ _ _ => ⟨fun g => absurd g (by decide), fun _ => by rwa [if_pos e] at h⟩) fun e => fun _ _ _ => ⟨fun _ => ?_, fun g => absurd rfl g⟩
  rw [if_neg e] at h
  refine c_nm3 (by decide) hA hn hs (fun e => fun _ _ _ => ⟨fun g => absurd g (by decide), fun _ => by rwa [if_pos e] at h⟩) fun e => fun _ _ _ => ⟨fun _ => ?_, fun g => absurd rfl g⟩
  rw [if_neg e] at h
  refine c_nm3 (by decide) hA hn hs (fun e => fun _ _ _ => ⟨fun g => absurd g (by decide), fun _ => by rwa [if_pos e] at h⟩) fun e => fun _ _ _ => ⟨fun _ => ?_, fun g => absurd rfl g⟩
  rw [if_neg e] at h
  refine c_nm3 (by decide) hA hn hs (fun e => fun _ _ _ => ⟨fun g => absurd g (by decide), fun _ => by rwa [if_pos e] at h⟩) fun e => fun _ _ _ => ⟨fun _ => ?_, fun g => absurd rfl g⟩
  rw [if_neg e] at h
  refine c_nm3 (by decide) hA hn hs (fun e => fun _ _ _ => ⟨fun g => absurd g (by decide), fun _ => by rwa [if_pos e] at h⟩) fun e => fun _ _ _ => ⟨fun _ => ?_, fun g => absurd rfl g⟩
  rw [if_neg e] at h
  refine c_nm3 (by decide) hA hn hs (fun e => fun _ _ _ => ⟨fun g => absurd g (by decide), fun _ => by rwa [if_pos e] at h⟩) fun e => fun _ _ _ => ⟨fun _ => ?_, fun g => absurd rfl g⟩
  rw [if_neg e] at h
  refine c_nm3 (by decide) hA hn hs (fun e => fun _ _ _ => ⟨fun g => absurd g (by decide), fun _ => by rwa [if_pos e] at h⟩) fun e => fun _ _ _ => ⟨fun _ => ?_, fun g => absurd rfl g⟩
  rw [if_neg e] at h
  exact c_nm3 (by decide) hA hn hs (fun e => fun _ _ _ => ⟨fun g => absurd g (by decide), fun _ => by rwa [if_pos e] at h⟩) fun e => fun _ _ _ => ⟨fun _ => by rwa [if_neg e] at h, fun g => absurd rfl g⟩
theorem F_cd_R (nm : List Int) : 0 ≤ F_cd nm ∧ F_cd nm ≤ 12 := by
  unfold F_cd
  repeat (first | split | exact ⟨by decide, by decide⟩)
theorem c_name {o f t : Nat} {M : g_M} (hP : p_P M o f t) (hA : g_A M b 0 N) (hn : N ≤ 1000000000) (hs : b_st (g_i M b) N p D k nm vb)
    (k1 : p_ok nm → ∀ M1, g_fr (p_S o f t) M M1 → p_P M1 o f t → p_is M1 o f t b (p + 1) nm → Q 1 M1) (k0 : ¬ p_ok nm → ∀ M1, g_fr (p_S o f t) M M1 → p_P M1 o f t → Q 0 M1) : g_Call (d + 2) 91 [.ref o, .ref b, g_n p] M (g_qI Q) := by
  obtain ⟨-, v2, v3, -⟩ := hs.val
  have hR := hs.R hn
  obtain ⟨p1, p2, p3, p4, p5, p6⟩ := id hP
  refine m_X5_setName hR fun _ => ⟨⟨by omega, by omega⟩, c_va2 hA hn hs fun _ _ _ => ⟨⟨by omega, by omega⟩, p1, ?_⟩⟩
  rw [show p + 2 + (nm.length : Int) - 1 = p + 1 + nm.length by omega]
  exact c_set (r0 := none) hP hA hn (g_neOA p1 hA) (g_neAA p4 hA (by omega)) (g_neAA p5 hA (by omega)) (b_el_at hs.1).2.1 (by omega) (by omega) (fun g M1 f1 q1 q2 => fun _ _ _ => ⟨Or.inr rfl, k1 g M1 f1 q1 q2⟩) fun g M1 f1 q1 => fun _ _ _ => ⟨Or.inl rfl, k0 g M1 f1 q1⟩
end C38
