/-! REQUESTS: their form -/
def Q_op (nm : List Int) : Int := if nm = b_tx 0 then 1 else if nm = b_tx 1 then 2 else if nm = b_tx 2 then 3 else if nm = b_tx 3 then 4 else if nm = b_tx 4 then 5 else if nm = b_tx 5 then 6 else if nm = b_tx 6 then 7 else if nm = b_tx 7 then 8 else if nm = b_tx 8 then 9 else if nm = b_tx 9 then 10 else 0
/-- the first of the elements from q on that is of another kind -/
def Q_fk (k : Int) : Int → List b_E → Int
  | _, [] => -1
  | q, e :: r => if e.1 = k then Q_fk k (q + (b_el e.1 e.2.1 e.2.2).length) r else q
def Q_nx (q : Int) : List b_E → Int
  | [] => -1
  | _ :: _ => q
noncomputable def Q_tx (a : b_E) : Bool := a.1 == 2 && F_pl (s_tx a.2.2)
noncomputable def Q_pl (q : Int) (h : b_E) : Int := if h.1 = 4 then Q_fk 3 (q + 6 + h.2.1.length) (b_ch h.2.2) else q
noncomputable def Q_pb (q : Int) (a : b_E) : List b_E → Int
  | [] => -1
  | c :: r => if (Q_tx c && !F_eq c a) = true then Q_nx (q + (b_el c.1 c.2.1 c.2.2).length) r else q
noncomputable def Q_pa (q : Int) (h : b_E) : Int := if h.1 = 4 then (match b_ch h.2.2 with
  | [] => q
  | a :: r => if Q_tx a = true then Q_pb (q + 6 + h.2.1.length + (b_el a.1 a.2.1 a.2.2).length) a r else q + 6 + h.2.1.length) else q
noncomputable def Q_hd (q : Int) (h : b_E) : Int := if Q_op h.2.1 = 7 ∨ Q_op h.2.1 = 10 then (if h.1 = 16 ∨ h.1 = 18 then -1 else q) else if Q_op h.2.1 = 8 then Q_pl q h else if Q_op h.2.1 = 6 then Q_pa q h else if h.1 = 3 then -1 else q
def Q_sh (s : b_E) : Prop := (s.1 = 16 ∨ s.1 = 18) ∧ s.2.1 = b_tx 10 ∧ (v_num s.1 s.2.2 = 0 ∨ v_num s.1 s.2.2 = 1)
noncomputable def Q_dn (q : Int) (h t : b_E) : Int := if t.1 = 4 ∧ t.2.1 = b_tx 12 ∧ (b_ch t.2.2).length = (b_ch h.2.2).length then Q_fk 8 (q + 6 + t.2.1.length) (b_ch t.2.2) else q
section QC
variable {b : Nat} {M : g_M} {n : Int} {D : Nat}
def Q_kd : List b_E → Int
  | [] => 0
  | e :: _ => e.1
theorem b_st.k0 {B : Int → Int} {n q : Int} {D : Nat} {k : Int} {nm vb : List Int} (h : b_st B n q D k nm vb) : k ≠ 0 := by
  have := (b_vs_pos (b_gv_vs h.2.2.1)).1
  omega
theorem c_kdR {d : Nat} {q : Int} {r : List b_E} {Q : Int → g_M → Prop} (hA : g_A M b 0 n) (hn : n ≤ 1000000000) (hs : b_sts (g_i M b) n q D r) (h : Q (Q_kd r) M) : g_Call (d + 1) 108 [.ref b, g_n q] M (g_qI Q) := by
  cases r with
  | nil => exact c_kdE hA hn hs h
  | cons e r => exact c_kd2 hA hn hs.cons.1 h
theorem b_sts.R {B : Int → Int} {q : Int} {r : List b_E} (h : b_sts B 2100 q D r) : g_InR q ∧ 0 ≤ q ∧ q < 2100 := by
  have h1 := h.2.2.1
  have h2 := h.2.2.2.1
  exact ⟨⟨by omega, by omega⟩, h1, by omega⟩
variable {x : Nat}
theorem c_wrongPipeline {d De : Nat} {Q : Int → g_M → Prop} {pe : Int} {h : b_E} (hx : g_O M x 11) (x0 : g_r M x 0 = some b) (hA : g_A M b 0 246408) (h14 : g_i M x 14 = pe) (hs : b_st (g_i M b) 2100 pe De h.1 h.2.1 h.2.2) (hq : Q (Q_pl pe h) M) : g_Call (d + 3) 209 [.ref x] M (g_qI Q) := by
  unfold Q_pl at hq
  refine m_X11_wrongPipeline fun _ => ⟨hx, b, x0, ?_⟩
  rw [h14]
  refine c_kd2 (d := d + 1) hA (by decide) hs.lim ?_
  intro _ _ _
  rw [h14]
  refine ⟨fun k4 => ?_, fun k4 => by rw [if_neg k4] at hq; exact hq⟩
  rw [if_pos k4] at hq
  refine ⟨b, x0, c_fi2 (d := d + 1) hA (by decide) hs.lim ?_⟩
  intro _ _ _
  obtain ⟨D1, eD, hkids, -⟩ := hs.kids (Or.inr k4)
  have hlp : ∀ (r : List b_E) (i : Nat) (q : Int), b_sts (g_i M b) 2100 q D1 r → 2 * r.length + 2 * i ≤ 2100 → Q (Q_fk 3 q r) M → g_Run (d + 2) 209 34 [(0, .ref x), (1, g_n q), (2, g_n i)] [] M (g_qI Q) := by
    intro r
    induction r with
    | nil =>
      intro i q hr hi hq2
      obtain ⟨hqR, hq0, hq1⟩ := hr.R
      refine s_X11_wrongPipeline_34 hqR ⟨by omega, by omega⟩ fun _ => ⟨fun _ => ⟨hx, b, x0, c_kdE (d := d + 1) hA (by decide) hr.lim ?_⟩, fun z => absurd (by omega) z⟩
      intro _ _ _
      exact ⟨fun _ => hq2, fun z => absurd rfl z⟩
    | cons e r ih =>
      intro i q hr hi hq2
      obtain ⟨hqR, hq0, hq1⟩ := hr.R
      obtain ⟨he, hr2⟩ := hr.cons
      rw [List.length_cons] at hi
      refine s_X11_wrongPipeline_34 hqR ⟨by omega, by omega⟩ fun _ => ⟨fun _ => ⟨hx, b, x0, c_kd2 (d := d + 1) hA (by decide) he.lim ?_⟩, fun z => absurd (by omega) z⟩
      intro _ _ _
      refine ⟨fun z => absurd z he.k0, fun _ => ⟨b, x0, c_kd2 (d := d + 1) hA (by decide) he.lim ?_⟩⟩
      intro _ _ _
      unfold Q_fk at hq2
      refine ⟨fun k3 => ⟨b, x0, c_nx2 (d := d + 1) hA (by decide) he.lim ?_⟩, fun k3 => by rw [if_neg k3] at hq2; exact hq2⟩
      intro _ _ _
      rw [if_pos k3] at hq2
      have h9 := ih (i + 1) _ hr2 (by omega) hq2
      rw [show ((i + 1 : Nat) : Int) = (i : Int) + 1 by omega] at h9
      exact ⟨⟨by omega, by omega⟩, h9⟩
  have hmany := b_ser_many (b_ch h.2.2)
  have h4 := hkids.2.2.1
  have h5 := hkids.2.2.2.1
  exact hlp _ 0 _ hkids (by omega) hq
theorem c_wrongChange {d De : Nat} {Q : Int → g_M → Prop} {q : Int} {r : List b_E} (hx : g_O M x 11) (x0 : g_r M x 0 = some b) (hA : g_A M b 0 246408) (h15 : g_i M x 15 = q) (hs : b_sts (g_i M b) 2100 q De r) (hq0 : r = [] → Q q M) (hq1 : ∀ t r2, r = t :: r2 → Q (if t.1 = 3 ∧ t.2.1 = b_tx 11 then -1 else q) M) : g_Call (d + 4) 211 [.ref x] M (g_qI Q) := by
  refine m_X11_wrongChange fun _ => ⟨hx, b, x0, ?_⟩
  rw [h15]
  refine c_kdR (d := d + 2) hA (by decide) hs.lim ?_
  intro _ _ _
  rw [h15]
  cases r with
  | nil => exact ⟨fun z => absurd z (by decide), fun _ => hq0 rfl⟩
  | cons t r =>
    have h1 := hq1 t r rfl
    obtain ⟨ht, -⟩ := hs.cons
    have ht4 := ht.2.2.2.1
    have ht5 := ht.2.2.2.2
    have hel := b_el_len t.1 t.2.1 t.2.2
    refine ⟨fun k3 => ⟨b, x0, c_named (d := d) (j := 11) (by decide) hA (by decide) ht.1 ht.2.1 ht4 (by omega) ?_⟩, fun k3 => by rw [if_neg fun z => k3 z.1] at h1; exact h1⟩
    have k33 : t.1 = 3 := k3
    by_cases g : t.2.1 = b_tx 11
    · rw [if_pos ⟨k33, g⟩] at h1
      rw [if_pos g]
      intro _ _ _
      exact ⟨fun z => absurd z (by decide), fun _ => h1⟩
    · rw [if_neg fun z => g z.2] at h1
      rw [if_neg g]
      intro _ _ _
      rw [h15]
      exact ⟨fun _ => h1, fun z => absurd rfl z⟩
theorem c_wrongDown {d De Dh : Nat} {Q : Int → g_M → Prop} {q pe : Int} {h : b_E} {r : List b_E} (hx : g_O M x 11) (x0 : g_r M x 0 = some b) (hA : g_A M b 0 246408) (h14 : g_i M x 14 = pe) (h15 : g_i M x 15 = q) (hs : b_st (g_i M b) 2100 pe Dh h.1 h.2.1 h.2.2) (hk4 : h.1 = 4) (hr : b_sts (g_i M b) 2100 q De r) (hq0 : r = [] → Q q M) (hq1 : ∀ t r2, r = t :: r2 → Q (Q_dn q h t) M) : g_Call (d + 4) 212 [.ref x] M (g_qI Q) := by
  refine m_X11_wrongDown fun _ => ⟨hx, b, x0, ?_⟩
  rw [h15]
  refine c_kdR (d := d + 2) hA (by decide) hr.lim ?_
  intro _ _ _
  rw [h15]
  cases r with
  | nil => exact ⟨fun z => absurd z (by decide), fun _ => hq0 rfl⟩
  | cons t r =>
    have h1 := hq1 t r rfl
    unfold Q_dn at h1
    obtain ⟨ht, -⟩ := hr.cons
    have ht4 := ht.2.2.2.1
    have ht5 := ht.2.2.2.2
    have hel := b_el_len t.1 t.2.1 t.2.2
    refine ⟨fun k4 => ⟨b, x0, c_named (d := d) (j := 12) (by decide) hA (by decide) ht.1 ht.2.1 ht4 (by omega) ?_⟩, fun k4 => by rw [if_neg fun z => k4 z.1] at h1; exact h1⟩
    have k44 : t.1 = 4 := k4
    by_cases g : t.2.1 = b_tx 12
    · rw [if_pos g]
      intro _ _ _
      refine ⟨fun z => absurd z (by decide), fun _ => ?_⟩
      have hit : ∀ {q : Int} {D : Nat} {e : b_E} {Q1 : Int → g_M → Prop}, b_st (g_i M b) 2100 q D e.1 e.2.1 e.2.2 → e.1 = 4 → Q1 (b_ch e.2.2).length M → g_Call (d + 3) 113 [.ref b, g_n q] M (g_qI Q1) := fun {q D e Q1} he hk hh => by
        obtain ⟨D9, ys, q1, q2, q3, q4, q5, q6, q7⟩ := b_gv_doc he.2.2.1 (Or.inr hk)
        have hmany := b_ser_many ys
        have h9 := he.1
        have h5 := he.2.2.2.2
        have h6 := he.2.2.2.1
        have hl := b_el_len e.1 e.2.1 e.2.2
        rw [q2] at h9
        have hdl := b_doc_len ys
        rw [q2] at h5 hl
        refine c_items (d := d + 1) hA (by decide) h9 he.2.1 q4 h6 (by omega) (by omega) ?_
        rw [← q7]
        exact hh
      refine ⟨b, x0, ?_⟩
      rw [h15]
      refine hit ht k44 ?_
      intro _ _ _
      refine ⟨b, x0, ?_⟩
      rw [h14]
      refine hit hs hk4 ?_
      intro _ _ _
      rw [h15]
      by_cases g2 : (b_ch t.2.2).length = (b_ch h.2.2).length
      · rw [if_pos ⟨k44, g, g2⟩] at h1
        refine ⟨fun _ => ⟨b, x0, c_fi2 (d := d + 2) hA (by decide) ht.lim ?_⟩, fun z => absurd (by rw [g2]) z⟩
        intro _ _ _
        obtain ⟨D1, eD, hkids, -⟩ := ht.kids (Or.inr k44)
        have hlp : ∀ (r : List b_E) (i : Nat) (q : Int), b_sts (g_i M b) 2100 q D1 r → 2 * r.length + 2 * i ≤ 2100 → Q (Q_fk 8 q r) M → g_Run (d + 3) 212 76 [(0, .ref x), (1, g_n q), (2, g_n i)] [] M (g_qI Q) := by
          intro r
          induction r with
          | nil =>
            intro i q hr hi hq2
            obtain ⟨hqR, hq0, hq1⟩ := hr.R
            refine s_X11_wrongDown_76 hqR ⟨by omega, by omega⟩ fun _ => ⟨fun _ => ⟨hx, b, x0, c_kdE (d := d + 2) hA (by decide) hr.lim ?_⟩, fun z => absurd (by omega) z⟩
            intro _ _ _
            exact ⟨fun _ => hq2, fun z => absurd rfl z⟩
          | cons e r ih =>
            intro i q hr hi hq2
            obtain ⟨hqR, hq0, hq1⟩ := hr.R
            obtain ⟨he, hr2⟩ := hr.cons
            rw [List.length_cons] at hi
            refine s_X11_wrongDown_76 hqR ⟨by omega, by omega⟩ fun _ => ⟨fun _ => ⟨hx, b, x0, c_kd2 (d := d + 2) hA (by decide) he.lim ?_⟩, fun z => absurd (by omega) z⟩
            intro _ _ _
            refine ⟨fun z => absurd z he.k0, fun _ => ⟨b, x0, c_kd2 (d := d + 2) hA (by decide) he.lim ?_⟩⟩
            intro _ _ _
            unfold Q_fk at hq2
            refine ⟨fun k3 => ⟨b, x0, c_nx2 (d := d + 2) hA (by decide) he.lim ?_⟩, fun k3 => by rw [if_neg k3] at hq2; exact hq2⟩
            intro _ _ _
            rw [if_pos k3] at hq2
            have h9 := ih (i + 1) _ hr2 (by omega) hq2
            rw [show ((i + 1 : Nat) : Int) = (i : Int) + 1 by omega] at h9
            exact ⟨⟨by omega, by omega⟩, h9⟩
        have hmany := b_ser_many (b_ch t.2.2)
        have h4 := hkids.2.2.1
        have h5 := hkids.2.2.2.1
        exact hlp _ 0 _ hkids (by omega) h1
      · rw [if_neg fun z => g2 z.2.2] at h1
        exact ⟨fun z => absurd (by omega) g2, fun _ => h1⟩
    · rw [if_neg fun z => g z.2.1] at h1
      rw [if_neg g]
      intro _ _ _
      rw [h15]
      exact ⟨fun _ => h1, fun z => absurd rfl z⟩
end QC
