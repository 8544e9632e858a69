/-! PURE: requests keep the state sound -/
theorem W_ok.upd {S : W_S} {w : Nat} {ds : List (Int × List b_E)} {g : Int} {f : I_T → I_T} (hok : W_ok S) (hw : w < 2) (h1 : H_gd ds) (h2 : ∀ x, 4 * w ≤ x → x < 4 * w + 4 → ∀ V T m1 m2, f (S.1 x) = some (V, T, m1, m2) → I_ok V ds T) (h3 : ∀ z ∈ ds, 0 ≤ z.1 ∧ z.1 ≤ g) (h4 : 0 ≤ g) : W_ok (I_lp f w S.1 (4 * w + 4), H_up S.2.1 w ds, H_up S.2.2 w g) := by
  intro v hv
  by_cases e : v = w
  · subst e
    have e1 : H_up S.2.1 v ds v = ds := if_pos rfl
    have e2 : H_up S.2.2 v g v = g := if_pos rfl
    show H_gd (H_up S.2.1 v ds v) ∧ (∀ x, 4 * v ≤ x → x < 4 * v + 4 → ∀ V T m1 m2, I_lp f v S.1 (4 * v + 4) x = some (V, T, m1, m2) → I_ok V (H_up S.2.1 v ds v) T) ∧ (∀ z ∈ H_up S.2.1 v ds v, 0 ≤ z.1 ∧ z.1 ≤ H_up S.2.2 v g v) ∧ 0 ≤ H_up S.2.2 v g v
    rw [e1, e2]
    refine ⟨h1, fun x x1 x2 V T m1 m2 hs => h2 x x1 x2 V T m1 m2 ?_, h3, h4⟩
    rw [I_lp_in f v S.1 ⟨x1, x2⟩] at hs
    exact hs
  · have e1 : H_up S.2.1 w ds v = S.2.1 v := if_neg e
    have e2 : H_up S.2.2 w g v = S.2.2 v := if_neg e
    show H_gd (H_up S.2.1 w ds v) ∧ (∀ x, 4 * v ≤ x → x < 4 * v + 4 → ∀ V T m1 m2, I_lp f w S.1 (4 * w + 4) x = some (V, T, m1, m2) → I_ok V (H_up S.2.1 w ds v) T) ∧ (∀ z ∈ H_up S.2.1 w ds v, 0 ≤ z.1 ∧ z.1 ≤ H_up S.2.2 w g v) ∧ 0 ≤ H_up S.2.2 w g v
    rw [e1, e2]
    obtain ⟨k1, k2, k3, k4⟩ := hok v hv
    refine ⟨k1, fun x x1 x2 V T m1 m2 hs => k2 x x1 x2 V T m1 m2 ?_, k3, k4⟩
    have e3 : I_lp f w S.1 (4 * w + 4) x = S.1 x := if_neg (by omega)
    rw [e3] at hs
    exact hs
theorem W_ok.ix {S : W_S} {w k : Nat} {t : I_T} (hok : W_ok S) (hk : k < 4) (h : ∀ V T m1 m2, t = some (V, T, m1, m2) → I_ok V (S.2.1 w) T) : W_ok (I_up S.1 (4 * w + k) t, S.2.1, S.2.2) := by
  intro v hv
  obtain ⟨k1, k2, k3, k4⟩ := hok v hv
  refine ⟨k1, fun x x1 x2 V T m1 m2 hs => ?_, k3, k4⟩
  have hs : I_up S.1 (4 * w + k) t x = some (V, T, m1, m2) := hs
  by_cases e : x = 4 * w + k
  · have e1 : I_up S.1 (4 * w + k) t x = t := if_pos e
    have e2 : v = w := by omega
    rw [e1] at hs
    show I_ok V (S.2.1 v) T
    rw [e2]
    exact h V T m1 m2 hs
  · have e1 : I_up S.1 (4 * w + k) t x = S.1 x := if_neg e
    rw [e1] at hs
    exact k2 x x1 x2 V T m1 m2 hs
theorem H_gd.k {zs : List (Bool × Int × List b_E)} (h : H_gd (zs.map fun z => z.2)) : H_gd (Z_k zs) ∧ ∀ z ∈ Z_k zs, z ∈ zs.map fun z => z.2 := by
  have hm : ∀ z ∈ Z_k zs, z ∈ zs.map fun z => z.2 := fun z hz => by
    obtain ⟨y, hy, rfl⟩ := List.mem_map.mp hz
    exact List.mem_map.mpr ⟨y, (List.mem_filter.mp hy).1, rfl⟩
  refine ⟨⟨?_, fun z hz => h.2 z (hm z hz)⟩, hm⟩
  have hs : (Z_k zs).Sublist (zs.map fun z => z.2) := List.Sublist.map _ List.filter_sublist
  exact (hs.map Prod.fst).nodup h.1
theorem W_ok_K {q : Int} {h : b_E} {S : W_S} {R : W_R} (hok : W_ok S) (hR : W_ok R.2.2) : W_ok (W_K q h S R).2.2 := by
  unfold W_K
  split
  · exact hR
  · exact hok
theorem W_ok_do {q q2 : Int} {w : Nat} {h t : b_E} {S : W_S} (hok : W_ok S) (hw : w < 2) (hgv : S.2.2 w ≤ 1000000) (hins : Q_op h.2.1 = 1 → h.2.2.length ≤ 2000 ∧ b_doc (b_ch h.2.2) = h.2.2 ∧ X_gd 15 (b_ch h.2.2)) (hupd : Q_op h.2.1 = 4 → (Y_os [] (L_ch q2 t)).1 = 0 → U_cs (b_ch t.2.2)) : W_ok (W_do q q2 w h t S).2.2 := by
  obtain ⟨o1, o2, o3, o4⟩ := hok w hw
  unfold W_do
  by_cases g1 : Q_op h.2.1 = 1
  · rw [if_pos g1]
    obtain ⟨i1, i2, i3⟩ := hins g1
    unfold W_ins
    split
    · rename_i k
      have hgd := o1.add o3 ⟨o4, hgv⟩ (by rw [i2]; exact i1) i3
      refine hok.upd hw hgd (fun x x1 x2 V T m1 m2 hs => ?_) (fun z hz => ?_) (by omega)
      · cases hx : S.1 x with
        | none =>
          rw [hx] at hs
          exact absurd hs (by simp [I_add1])
        | some y =>
          obtain ⟨V2, T2, n1, n2⟩ := y
          rw [hx] at hs
          have e := Option.some.inj hs
          injection e with e1 e
          injection e with e2 e
          have ha := (o2 x x1 x2 V2 T2 n1 n2 hx).add hgd
          rw [← e1, ← e2]
          exact (ha.2 (k.2.2 x x1 x2 V2 T2 n1 n2 hx)).2
      · rcases List.mem_append.mp hz with e | e
        · have := o3 z e
          omega
        · rw [List.mem_singleton.mp e]
          show 0 ≤ S.2.2 w + 1 ∧ S.2.2 w + 1 ≤ S.2.2 w + 1
          omega
    · exact hok
  rw [if_neg g1]
  by_cases g2 : Q_op h.2.1 = 2
  · rw [if_pos g2]
    exact W_ok_K hok hok
  rw [if_neg g2]
  by_cases g3 : Q_op h.2.1 = 3
  · rw [if_pos g3]
    exact W_ok_K hok hok
  rw [if_neg g3]
  by_cases g4 : Q_op h.2.1 = 4
  · rw [if_pos g4]
    unfold W_upd
    refine W_ok_K hok ?_
    by_cases gY : (Y_os [] (L_ch q2 t)).1 = 0
    · rw [if_pos gY]
      have hcs := hupd g4 gY
      cases hw2 : W_bad (W_p h) (fun es => (U_R q2 (q2 + 6 + t.2.1.length) (b_ch t.2.2) es).1) (S.2.1 w) with
      | some c => exact hok
      | none =>
        by_cases k : V_Fit (W_p h) (q2 + 6 + t.2.1.length) (b_ch t.2.2) S.1 w (S.2.1 w)
        · show W_ok (@ite W_R _ (Classical.propDecidable _) _ _).2.2
          rw [if_pos k]
          have hb : ∀ z ∈ S.2.1 w, W_p h z.2 = true → (U_R (-1) (q2 + 6 + t.2.1.length) (b_ch t.2.2) z.2).1.1 = 0 := by
            have h9 : ∀ l : List (Int × List b_E), W_bad (W_p h) (fun es => (U_R q2 (q2 + 6 + t.2.1.length) (b_ch t.2.2) es).1) l = none → ∀ z ∈ l, W_p h z.2 = true → (U_R (-1) (q2 + 6 + t.2.1.length) (b_ch t.2.2) z.2).1.1 = 0 := by
              intro l
              induction l with
              | nil => exact fun _ z hz => absurd hz (by simp)
              | cons y r ih =>
                intro hn z hz hp
                have e1 : W_bad (W_p h) (fun es => (U_R q2 (q2 + 6 + t.2.1.length) (b_ch t.2.2) es).1) (y :: r) = if W_p h y.2 = true ∧ (U_R q2 (q2 + 6 + t.2.1.length) (b_ch t.2.2) y.2).1.1 ≠ 0 then some (U_R q2 (q2 + 6 + t.2.1.length) (b_ch t.2.2) y.2).1 else W_bad (W_p h) (fun es => (U_R q2 (q2 + 6 + t.2.1.length) (b_ch t.2.2) es).1) r := rfl
                rw [e1] at hn
                by_cases kk : W_p h y.2 = true ∧ (U_R q2 (q2 + 6 + t.2.1.length) (b_ch t.2.2) y.2).1.1 ≠ 0
                · rw [if_pos kk] at hn
                  exact absurd hn (by simp)
                · rw [if_neg kk] at hn
                  rcases List.mem_cons.mp hz with e | e
                  · subst e
                    have h3 := (U_R_pc (-1) q2 (q2 + 6 + t.2.1.length) (b_ch t.2.2) z.2).1
                    rw [h3]
                    exact Classical.byContradiction fun hne => kk ⟨hp, hne⟩
                  · exact ih hn z e hp
            exact h9 _ hw2
          obtain ⟨u1, u2⟩ := U_gd (hd := W_p h) (qc := q2 + 6 + t.2.1.length) (cs := b_ch t.2.2) (qs := V_q (S.2.1 w)) hcs (fun z hz g => by
            obtain ⟨y, hy, rfl⟩ := List.mem_map.mp hz
            exact hb y hy g) (by rw [V_q_dn]; exact o1)
          have u1' := u1
          rw [V_q_ds] at u1'
          have h8 := hok.upd (g := S.2.2 w) (f := fun k => I_inn (V_z2 (W_p h) (q2 + 6 + t.2.1.length) (b_ch t.2.2) (S.2.1 w)) (I_rem (V_z1 (W_p h) (q2 + 6 + t.2.1.length) (b_ch t.2.2) (S.2.1 w)) k)) hw u1' (fun x x1 x2 V T m1 m2 hs => ?_) (fun z hz => ?_) o4
          · rw [H_up_self] at h8
            exact h8
          · cases hx : S.1 x with
            | none =>
              rw [hx] at hs
              exact absurd hs (by simp [I_rem, I_inn])
            | some y =>
              obtain ⟨V2, T2, n1, n2⟩ := y
              rw [hx] at hs
              have e := Option.some.inj hs
              injection e with e1 e
              injection e with e2 e
              have ho := o2 x x1 x2 V2 T2 n1 n2 hx
              have h7 := (U_keep (hd := W_p h) (qc := q2 + 6 + t.2.1.length) (cs := b_ch t.2.2) (qs := V_q (S.2.1 w)) (by rw [V_q_dn]; exact ho) (by rw [V_q_dn]; exact o1) u1 u2 (by rw [V_q_sn]; exact k.2 x x1 x2 V2 T2 n1 n2 hx)).2.2
              rw [V_q_z1, V_q_z2, V_q_ds] at h7
              rw [← e1, ← e2]
              exact h7
          · obtain ⟨y, hy, rfl⟩ := List.mem_map.mp hz
            exact o3 y hy
        · show W_ok (@ite W_R _ (Classical.propDecidable _) _ _).2.2
          rw [if_neg k]
          exact hok
    · rw [if_neg gY]
      exact hok
  rw [if_neg g4]
  by_cases g5 : Q_op h.2.1 = 5
  · rw [if_pos g5]
    refine W_ok_K hok ?_
    have hgk : H_gd ((Z_h (W_p h) (S.2.1 w)).map fun z => z.2) := by
      rw [Z_h_2]
      exact o1
    have h8 := hok.upd (g := S.2.2 w) (f := I_rem (Z_h (W_p h) (S.2.1 w))) hw hgk.k.1 (fun x x1 x2 V T m1 m2 hs => ?_) (fun z hz => ?_) o4
    · rw [H_up_self] at h8
      exact h8
    · cases hx : S.1 x with
      | none =>
        rw [hx] at hs
        exact absurd hs (by simp [I_rem])
      | some y =>
        obtain ⟨V2, T2, n1, n2⟩ := y
        rw [hx] at hs
        have e := Option.some.inj hs
        injection e with e1 e
        injection e with e2 e
        have ho := o2 x x1 x2 V2 T2 n1 n2 hx
        rw [← e1, ← e2]
        exact (I_ok.out (zs := Z_h (W_p h) (S.2.1 w)) (by rw [Z_h_2]; exact ho) hgk).2
    · have := hgk.k.2 z hz
      rw [Z_h_2] at this
      exact o3 z this
  rw [if_neg g5]
  by_cases g6 : Q_op h.2.1 = 6
  · rw [if_pos g6]
    unfold W_idx
    split
    · rename_i ea ra ed rd _ _
      unfold W_ix
      split
      · exact hok
      · rename_i k hfr
        split
        · rename_i hsum
          have hk4 : ∀ (f : Nat → Bool) (n k : Nat), W_fr f n = some k → k < n := by
            intro f n
            induction n with
            | zero => exact fun k hk => absurd hk (by simp [W_fr])
            | succ n ih =>
              intro k hk
              have e : W_fr f (n + 1) = match W_fr f n with
                | some k => some k
                | none => if f n = true then some n else none := rfl
              rw [e] at hk
              cases hf : W_fr f n with
              | some j =>
                rw [hf] at hk
                have hk : j = k := Option.some.inj hk
                have := ih j hf
                omega
              | none =>
                rw [hf] at hk
                have hk : (if f n = true then some n else none) = some k := hk
                by_cases gg : f n = true
                · rw [if_pos gg] at hk
                  have := Option.some.inj hk
                  omega
                · rw [if_neg gg] at hk
                  exact absurd hk (by simp)
          refine hok.ix (hk4 _ _ _ hfr) fun V T m1 m2 e => ?_
          have e := Option.some.inj e
          injection e with e1 e
          injection e with e2 e
          have hvok : I_vok (I_mkV ea ra ed rd) := I_vok_mk
          have hnum := (I_num_le (k := 0)).mp (by rw [Nat.zero_add]; exact hsum)
          have h9 := (I_ok.inn (V := I_mkV ea ra ed rd) (zs := Z_t (S.2.1 w)) (T := N_nil) (by rw [Z_t_k]; exact I_ok.nil hvok) (by rw [Z_t_2]; exact o1) (fun z hz => by
            obtain ⟨y, hy, rfl⟩ := List.mem_map.mp hz
            exact hnum.1 y.2 (List.mem_map_of_mem hy)) (by rw [Z_t_2, I_all_len]; have := hnum.2; omega)).2
          rw [Z_t_2] at h9
          rw [← e1, ← e2]
          exact h9
        · exact hok
    · exact hok
  rw [if_neg g6]
  by_cases g7 : Q_op h.2.1 = 7
  · rw [if_pos g7]
    unfold W_drp
    split
    · exact hok
    · split
      · exact hok
      · rename_i k _ _ _
        unfold W_at at k ⊢
        by_cases gg : 0 ≤ (v_num h.1 h.2.2).toInt ∧ (v_num h.1 h.2.2).toInt ≤ 3
        · rw [if_pos gg]
          exact hok.ix (by omega) fun V T m1 m2 e => absurd e (by simp)
        · rw [if_neg gg] at k
          exact absurd rfl k
  rw [if_neg g7]
  by_cases g8 : Q_op h.2.1 = 8
  · rw [if_pos g8]
    unfold W_ppl
    split
    · exact hok
    · exact hok
  rw [if_neg g8]
  by_cases g9 : Q_op h.2.1 = 9
  · rw [if_pos g9]
    exact W_ok_K hok hok
  rw [if_neg g9]
  unfold W_shp
  split
  · exact hok
  · split
    · exact hok
    · exact hok
