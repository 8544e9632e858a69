/-! ANSWERS: the reference begins and ends them; it tells a pipeline's documents -/
def A_doc (x : List Int) : List Int := b_le4 (x.length + 5) ++ (x ++ [0])
/-- what an answer may change -/
def A_L (m b : Nat) (y : Nat) (k : Int) : Prop := (y = m ∧ (k = 4 ∨ k = 5 ∨ k = 6 ∨ k = 77)) ∨ (y = b ∧ 2598000 ≤ k ∧ k < 2606000)
section EANS
variable {m b : Nat} {M : g_M}
theorem A_L.w {y : Nat} {k : Int} (h : e_WL m b 2598000 2606000 y k) : A_L m b y k := by
  rcases h with ⟨z, z2⟩ | z
  · exact Or.inl ⟨z, by omega⟩
  · exact Or.inr z
theorem e_beginAnswer {d : Nat} {Q : g_M → Prop} (hR : e_R M m b) (hq : ∀ M1, e_fr (A_L m b) M M1 → e_Wr m b 2598000 2606000 [0, 0, 0, 0] M1 → w_r 2598000 2606000 (g_i M1 m 77) 0 → Q M1) : g_Call (d + 4) 414 [.ref m] M (g_qV Q) := by
  have hmb : m ≠ b := g_neOA hR.1 hR.2.2
  refine m_X12_beginAnswer fun _ => ⟨hR.1, e_write (d := d + 2) hR (by decide) (by decide) (by decide) fun M2 f2 W2 => ?_⟩
  intro _ _
  refine e_open (d := d) W2 fun r M5 f5 W5 hr => ?_
  intro _ _ _ M10 e10 _
  have f10 : e_fr (fun y k => y = m ∧ k = 77) M5 M10 := by rw [e10]; exact e_fr.wi _ ⟨rfl, rfl⟩
  refine hq M10 ((f2.up fun y k z => Or.inl ⟨z.1, by have := z.2; omega⟩).tr ((f5.up fun y k z => A_L.w z).tr (f10.up fun y k z => Or.inl ⟨z.1, by have := z.2; omega⟩))) (W5.kp f10 (fun k k1 k2 z => by have := z.2; omega) fun k _ _ z => hmb z.1.symm) ?_
  rw [e10, g_i_wi, if_pos ⟨rfl, rfl⟩]
  exact hr
theorem e_endAnswer {d : Nat} {Q : Int → g_M → Prop} {x : List Int} (hW : e_Wr m b 2598000 2606000 ([0, 0, 0, 0] ++ x) M) (h77 : w_r 2598000 2606000 (g_i M m 77) 0) (hq : ∀ M1, e_fr (A_L m b) M M1 → e_Wr m b 2598000 2606000 (A_doc x) M1 → (g_i M1 m 6 = 0 → Q 1 M1) ∧ (¬ g_i M1 m 6 = 0 → Q 0 (g_wi (g_wi M1 m 7 40) m 8 (-1)))) : g_Call (d + 3) 415 [.ref m] M (g_qI Q) := by
  refine m_X12_endAnswer fun _ => ⟨hW.1.1, e_close (d := d) (pre := []) (body := x) hW h77 fun M2 f2 W2 => ?_⟩
  intro _ _
  obtain ⟨q1, q2⟩ := hq M2 (f2.up fun y k z => A_L.w z) W2
  refine ⟨q1, fun z => m_X12_refuses ⟨by decide, by decide⟩ ⟨by decide, by decide⟩ fun _ => ⟨W2.1.1, fun M3 e3 _ M4 e4 _ => ?_⟩⟩
  subst e3
  subst e4
  intro _ _ _
  exact ⟨fun _ => q2 z, fun z2 => absurd rfl z2⟩
theorem e_tell {d be : Nat} {Q : Int → g_M → Prop} {v1 v2 r : Int} {g : Int} {x : List Int} {ds : List (List b_E)} (hv1 : g_InR v1) (hv2 : g_InR v2) (hrR : g_InR r) (h18 : g_r M m 18 = some be) (hbe : g_A M be 1 200) (hbt : E_belt m b be g ds M) (hW : e_Wr m b 2598000 2606000 ([0, 0, 0, 0] ++ (x ++ (4 :: (b_tx 30 ++ [0]))) ++ [0, 0, 0, 0]) M) (hr : w_r 2598000 2606000 r ([0, 0, 0, 0] ++ (x ++ (4 :: (b_tx 30 ++ [0])))).length) (h77 : w_r 2598000 2606000 (g_i M m 77) 0) (hq : ∀ M1, e_fr (A_L m b) M M1 → e_Wr m b 2598000 2606000 (A_doc (x ++ b_el 4 (b_tx 30) (b_doc (J_row 0 ds)))) M1 → (g_i M1 m 6 = 0 → Q 1 M1) ∧ (¬ g_i M1 m 6 = 0 → Q 0 (g_wi (g_wi M1 m 7 40) m 8 (-1)))) : g_Run (d + 3) 424 314 [(0, .ref m), (1, g_n v1), (2, g_n v2), (3, g_n r), (4, g_n 0)] [] M (g_qI Q) := by
  have hR := hW.1
  have hmb : m ≠ b := g_neOA hR.1 hR.2.2
  have n1 : m ≠ be := g_neOA hR.1 hbe
  have n2 : be ≠ b := g_neAA hbe hR.2.2 (by omega)
  obtain ⟨h19, hok, hpl⟩ := id hbt
  have hl200 := hok.1
  have hkeep : ∀ {M2 : g_M}, e_fr (e_WL m b 2598000 2606000) M M2 → g_i M2 m 19 = ds.length ∧ (∀ k, g_i M2 be k = g_i M be k) ∧ (∀ k, k < 2598000 → g_i M2 b k = g_i M b k) ∧ g_i M2 m 77 = g_i M m 77 := fun f => by
    refine ⟨?_, fun k => f.2.1 be k fun z => ?_, fun k hk => f.2.1 b k fun z => ?_, f.2.1 m 77 fun z => ?_⟩
    · rw [f.2.1 m 19 fun z => ?_]
      · exact h19
      · rcases z with ⟨-, z⟩ | ⟨z, -⟩
        · omega
        · exact hmb z
    · rcases z with ⟨z, -⟩ | ⟨z, -⟩
      · exact n1 z.symm
      · exact n2 z
    · rcases z with ⟨z, -⟩ | ⟨-, z, -⟩
      · exact hmb z.symm
      · omega
    · rcases z with ⟨-, z⟩ | ⟨z, -⟩
      · omega
      · exact hmb z
  obtain ⟨pre, hpre⟩ : ∃ pre : List Int, pre = [0, 0, 0, 0] ++ (x ++ (4 :: (b_tx 30 ++ [0]))) := ⟨_, rfl⟩
  rw [← hpre] at hW hr
  have hlp : ∀ (t i : Nat) (M3 : g_M), i + t = ds.length → e_fr (e_WL m b 2598000 2606000) M M3 → e_Wr m b 2598000 2606000 (pre ++ ([0, 0, 0, 0] ++ b_ser (J_row 0 (ds.take i)))) M3 → g_Run (d + 3) 424 314 [(0, .ref m), (1, g_n v1), (2, g_n v2), (3, g_n r), (4, g_n i)] [] M3 (g_qI Q) := by
    intro t
    induction t with
    | zero =>
      intro i M3 hi f3 W3
      obtain ⟨e1, e2, e3, e4⟩ := hkeep f3
      rw [List.take_of_length_le (by omega)] at W3
      refine s_X12_pipeline_314 hv1 hv2 hrR ⟨by omega, by omega⟩ fun _ => ⟨W3.1.1, fun z => absurd z (by omega), fun _ => e_close (d := d + 1) W3 hr fun M4 f4 W4 => ?_⟩
      intro _ _
      have f04 := f3.tr f4
      have he : pre ++ (b_le4 (((b_ser (J_row 0 ds)).length : Int) + 5) ++ (b_ser (J_row 0 ds) ++ [0])) = [0, 0, 0, 0] ++ (x ++ b_el 4 (b_tx 30) (b_doc (J_row 0 ds))) := by
        rw [hpre]
        unfold b_doc
        have h5 : b_el 4 (b_tx 30) (b_le4 ((b_ser (J_row 0 ds)).length + 5) ++ (b_ser (J_row 0 ds) ++ [0])) = 4 :: (b_tx 30 ++ 0 :: (b_le4 ((b_ser (J_row 0 ds)).length + 5) ++ (b_ser (J_row 0 ds) ++ [0]))) := rfl
        rw [h5]
        simp
      rw [he] at W4
      refine e_endAnswer (d := d) W4 (by rw [(hkeep f04).2.2.2]; exact h77) fun M5 f5 W5 => ?_
      obtain ⟨q1, q2⟩ := hq M5 ((f04.up fun y k z => A_L.w z).tr f5) W5
      exact ⟨fun z => fun _ _ _ => ⟨Or.inr rfl, q1 z⟩, fun z => fun _ _ _ => ⟨Or.inl rfl, q2 z⟩⟩
    | succ t ih =>
      intro i M3 hi f3 W3
      obtain ⟨e1, e2, e3, e4⟩ := hkeep f3
      obtain ⟨es, hes⟩ : ∃ es, ds[i]? = some es := ⟨_, List.getElem?_eq_getElem (by omega)⟩
      obtain ⟨p, p1, p2, p3, p4, -⟩ := hpl i es hes
      have m1 := (hok.2.2 es (List.mem_of_getElem? hes)).1
      refine s_X12_pipeline_314 hv1 hv2 hrR ⟨by omega, by omega⟩ fun _ => ⟨W3.1.1, fun _ => e_put (d := d + 2) (v := 3) W3 ⟨by decide, by decide⟩ fun M4 f4 W4 => ?_, fun z => absurd (by omega) z⟩
      intro _ _
      refine e_putDigits (d := d + 1) (i := i) W4 (by omega) fun M5 f5 W5 => ?_
      intro _ _
      have f05 := f3.tr (f4.tr f5)
      obtain ⟨k1, k2, k3, k4⟩ := hkeep f05
      have hbb : b_at (g_i M5 b) p (b_doc es) := b_at_keep p2 fun k k5 k6 => k3 k (by omega)
      refine ⟨be, by rw [f05.2.2]; exact h18, 200, f05.A hbe, ⟨by omega, by omega⟩, be, by rw [f05.2.2]; exact h18, 200, f05.A hbe, ⟨by omega, by omega⟩, be, by rw [f05.2.2]; exact h18, 200, f05.A hbe, ⟨by omega, by omega⟩, ?_⟩
      rw [k2, p1]
      have hdl := b_doc_len es
      refine e_int4 (d := d + 1) W5.1 (by omega) (by omega) ?_
      intro _ _ _
      rw [e_w4doc hbb (by omega)]
      refine ⟨⟨by omega, by omega⟩, e_putBytes (d := d + 1) W5 hbb (by omega) (by omega) (Or.inl (by omega)) fun M6 f6 W6 => ?_⟩
      intro _ _
      have htk : ds.take (i + 1) = ds.take i ++ [es] := by rw [List.take_add_one, hes]; rfl
      have h9 := ih (i + 1) M6 (by omega) (f05.tr f6) (by
        rw [htk, J_row_snoc, b_ser_app, b_ser_1, List.length_take, Nat.min_eq_left (by omega), Nat.zero_add]
        have h5 : b_el 3 (b_dg i) (b_doc es) = 3 :: (b_dg i ++ 0 :: b_doc es) := rfl
        show e_Wr m b 2598000 2606000 (pre ++ ([0, 0, 0, 0] ++ (b_ser (J_row 0 (ds.take i)) ++ b_el 3 (b_dg i) (b_doc es)))) M6
        rw [h5]
        have h6 : pre ++ ([0, 0, 0, 0] ++ (b_ser (J_row 0 (ds.take i)) ++ (3 :: (b_dg i ++ 0 :: b_doc es)))) = pre ++ ([0, 0, 0, 0] ++ b_ser (J_row 0 (ds.take i))) ++ [g_w8 3] ++ (b_dg i ++ [0]) ++ b_doc es := by
          rw [show g_w8 3 = 3 from by decide]
          simp
        rw [h6]
        exact W6)
      rw [show ((i + 1 : Nat) : Int) = (i : Int) + 1 by omega] at h9
      exact ⟨⟨by omega, by omega⟩, h9⟩
  exact hlp ds.length 0 M (by omega) (e_fr.rf _ _) (by
    rw [List.take_zero]
    exact hW)
end EANS
