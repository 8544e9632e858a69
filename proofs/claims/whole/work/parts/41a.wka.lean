/-! REQUESTS KEEP THE STATE SOUND: any bytes -/
def W_gv (S : W_S) (R : W_R) : Prop := ∀ v, R.2.2.2.2 v ≤ S.2.2 v + 1
theorem W_gv.same {S : W_S} {R : W_R} (h : R.2.2.2.2 = S.2.2) : W_gv S R := fun v => by
  rw [h]
  omega
theorem W_gv.K {q : Int} {h : b_E} {S : W_S} {R : W_R} (hR : W_gv S R) : W_gv S (W_K q h S R) := by
  unfold W_K
  split
  · exact hR
  · exact W_gv.same rfl
theorem W_do_gv {q q2 : Int} {w : Nat} {h t : b_E} {S : W_S} : W_gv S (W_do q q2 w h t S) := by
  unfold W_do
  split
  · unfold W_ins
    split
    · intro v
      show H_up S.2.2 w (S.2.2 w + 1) v ≤ S.2.2 v + 1
      unfold H_up
      split
      · rename_i e
        rw [e]
        exact Int.le_refl _
      · omega
    · exact W_gv.same rfl
  · split
    · exact W_gv.K (W_gv.same rfl)
    · split
      · exact W_gv.K (W_gv.same rfl)
      · split
        · refine W_gv.K ?_
          split
          · split
            · exact W_gv.same rfl
            · split
              · exact W_gv.same rfl
              · exact W_gv.same rfl
          · exact W_gv.same rfl
        · split
          · exact W_gv.K (W_gv.same rfl)
          · split
            · unfold W_idx
              split
              · unfold W_ix
                split
                · exact W_gv.same rfl
                · split
                  · exact W_gv.same rfl
                  · exact W_gv.same rfl
              · exact W_gv.same rfl
            · split
              · unfold W_drp
                split
                · exact W_gv.same rfl
                · split
                  · exact W_gv.same rfl
                  · exact W_gv.same rfl
              · split
                · unfold W_ppl
                  split
                  · exact W_gv.same rfl
                  · exact W_gv.same rfl
                · split
                  · exact W_gv.K (W_gv.same rfl)
                  · unfold W_shp
                    split
                    · exact W_gv.same rfl
                    · split
                      · exact W_gv.same rfl
                      · exact W_gv.same rfl
/-- what was read of a request -/
theorem W_req {F : Int → Int} {n : Int} (hB : ∀ q, -128 ≤ F q ∧ F q ≤ 127) (n0 : 0 ≤ n) (n1 : n ≤ 2000) (h0 : (r_doc F 16 0 n false).1 = 0) : (b_doc (W_es F n)).length ≤ 2000 ∧ ∀ e ∈ W_es F n, b_nz e.2.1 ∧ b_gv 15 e.1 e.2.2 := by
  obtain ⟨R, hRR⟩ : ∃ R, R = r_doc F 16 0 n false := ⟨_, rfl⟩
  have hgd := r_doc_good hB 16 0 n false (by omega)
  rw [← hRR] at hgd h0
  obtain ⟨g1, g2, g3⟩ := hgd h0
  have g3 : b_gv 16 3 (b_sub F (R.2.2 - 0).toNat 0) := g3
  rw [Int.sub_zero] at g3
  obtain ⟨D1, es, eD, evb, elen, eok, egv, -, ech⟩ := b_gv_doc g3 (Or.inl rfl)
  have eD1 : D1 = 15 := by omega
  subst eD1
  have hes : W_es F n = es := by
    unfold W_es
    rw [← hRR]
    exact ech
  have hvl : (b_doc es).length = R.2.2.toNat := by rw [← evb, b_sub_len]
  rw [hes]
  exact ⟨by omega, egv⟩
theorem b_ser_mm {es : List b_E} {e : b_E} (h : e ∈ es) : e.2.2.length ≤ (b_ser es).length := by
  induction es with
  | nil => exact absurd h (by simp)
  | cons y es ih =>
    have h4 : b_ser (y :: es) = b_el y.1 y.2.1 y.2.2 ++ b_ser es := rfl
    rw [h4, List.length_append, b_el_len]
    rcases List.mem_cons.mp h with g | g
    · rw [g]
      omega
    · have := ih g
      omega
/-- whatever is asked, the state stays sound -/
theorem W_ok_ask {F : Int → Int} {n : Int} {S : W_S} (hB : ∀ q, -128 ≤ F q ∧ F q ≤ 127) (n0 : 0 ≤ n) (n1 : n ≤ 2000) (hok : W_ok S) (hgv : ∀ w, w < 2 → S.2.2 w ≤ 1000000) : W_ok (W_ask F n S).2 ∧ ∀ v, (W_ask F n S).2.2.2 v ≤ S.2.2 v + 1 := by
  rw [W_ask_4]
  show W_ok (W_as4 F n S).2.2 ∧ ∀ v, (W_as4 F n S).2.2.2.2 v ≤ S.2.2 v + 1
  have hsame : ∀ {R : W_R}, R.2.2 = S → W_ok R.2.2 ∧ ∀ v, R.2.2.2.2 v ≤ S.2.2 v + 1 := fun e => by
    rw [e]
    exact ⟨hok, fun v => by omega⟩
  unfold W_as4
  by_cases h0 : (r_doc F 16 0 n false).1 = 0
  · rw [if_pos h0]
    obtain ⟨hl, hgd⟩ := W_req hB n0 n1 h0
    by_cases hm : Q_rq 4 (W_es F n) = -1
    · rw [if_pos hm]
      obtain ⟨h, s, r, e1⟩ := Q_rq_2 hm
      rw [e1] at hm hl hgd ⊢
      show W_ok (W_do 4 (4 + (b_el h.1 h.2.1 h.2.2).length + (b_el s.1 s.2.1 s.2.2).length) (W_w s) h (r.head?.getD (0, [], [])) S).2.2 ∧ ∀ v, (W_do 4 (4 + (b_el h.1 h.2.1 h.2.2).length + (b_el s.1 s.2.1 s.2.2).length) (W_w s) h (r.head?.getD (0, [], [])) S).2.2.2.2 v ≤ S.2.2 v + 1
      obtain ⟨r1, r2, r3, r4⟩ := Q_rq_hs (by decide) hm
      have hdl := b_doc_len (h :: s :: r)
      refine ⟨W_ok_do hok (W_w_2 s) (hgv _ (W_w_2 s)) (fun o1 => ?_) (fun o4 hY => ?_), W_do_gv⟩
      · have k3 := Q_hd_3 (by decide) r2 (by omega)
        obtain ⟨-, g2⟩ := hgd h List.mem_cons_self
        obtain ⟨d1, es1, f1, f2, f3, f4, f5, f6, f7⟩ := b_gv_doc g2 (Or.inl k3)
        have hb := b_ser_mm (es := h :: s :: r) (e := h) List.mem_cons_self
        refine ⟨by omega, by rw [f7, f2], ?_⟩
        rw [f7]
        exact fun e he => ⟨(f5 e he).1, b_gv_le (f5 e he).2 (by omega)⟩
      · obtain ⟨t, et, k3t⟩ := Q_r3_4 (by omega) r4 o4
        subst et
        have hmem : t ∈ h :: s :: [t] := List.mem_cons_of_mem _ (List.mem_cons_of_mem _ List.mem_cons_self)
        obtain ⟨-, g2⟩ := hgd t hmem
        obtain ⟨d1, es1, f1, f2, f3, f4, f5, f6, f7⟩ := b_gv_doc g2 (Or.inl k3t)
        have hb := b_ser_mm hmem
        have hd1 := b_doc_len es1
        have hlen := congrArg List.length f2
        have hg0 := Y_os_good (b_ch t.2.2) [] _ hY
        refine ⟨fun z hz => ⟨(hg0 z hz).2.1, ?_, fun y hy => ((hg0 z hz).2.2 y hy).1⟩, ?_⟩
        · have hz : z ∈ b_ch t.2.2 := hz
          rw [f7] at hz
          exact b_gv_le (f5 z hz).2 (by omega)
        · show (b_ser (b_ch t.2.2)).length ≤ 3000
          rw [f7]
          omega
    · rw [if_neg hm]
      exact hsame rfl
  · rw [if_neg h0]
    exact hsame rfl
