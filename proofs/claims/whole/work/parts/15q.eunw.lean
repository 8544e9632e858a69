/-! STAGES: $unwind, the reference -/
/-- a document with an item in place of the row that a path leads to -/
noncomputable def U_put : List (List Int) → b_E → List b_E → List b_E
  | [], _, es => es
  | s :: r, it, es => match L_fn s es with
    | none => es
    | some x => X_rep s (if r.isEmpty = true then (it.1, s, it.2.2) else (x.1, x.2.1, b_doc (U_put r it (b_ch x.2.2)))) es
theorem U_put_cons {s : List Int} {r : List (List Int)} {it x : b_E} {es : List b_E} (h : L_fn s es = some x) : U_put (s :: r) it es = X_rep s (if r.isEmpty = true then (it.1, s, it.2.2) else (x.1, x.2.1, b_doc (U_put r it (b_ch x.2.2)))) es := by
  show (match L_fn s es with
    | none => es
    | some x => X_rep s (if r.isEmpty = true then (it.1, s, it.2.2) else (x.1, x.2.1, b_doc (U_put r it (b_ch x.2.2)))) es) = _
  rw [h]
noncomputable def U_doc (st : List (List Int)) (es : List b_E) : List (List b_E) := match V_res st es with
  | none => []
  | some z => if z.2.isEmpty = true then (if z.1.1 = 10 then [] else if z.1.1 = 4 then (b_ch z.1.2.2).map (fun it => U_put st it es) else [es]) else []
/-- a step of a path whose end is an element -/
theorem V_res_step {s : List Int} {r : List (List Int)} {es : List b_E} {x : b_E} (h : V_res (s :: r) es = some (x, [])) : ∃ e0, L_fn s es = some e0 ∧ ((r = [] ∧ e0 = x) ∨ (r ≠ [] ∧ e0.1 = 3 ∧ V_res r (b_ch e0.2.2) = some (x, []))) := by
  rcases hf : L_fn s es with _ | e0
  · rw [V_res_none hf] at h
    exact absurd h (by simp)
  · rw [V_res_some hf] at h
    refine ⟨e0, rfl, ?_⟩
    by_cases hr : r.isEmpty = true
    · rw [if_pos hr] at h
      exact Or.inl ⟨by cases r with | nil => rfl | cons _ _ => exact absurd hr (by simp), congrArg Prod.fst (Option.some.inj h)⟩
    · rw [if_neg hr] at h
      have hr2 : r ≠ [] := fun z => hr (by rw [z]; rfl)
      by_cases h4 : e0.1 = 4
      · rw [if_pos h4] at h
        exact absurd (congrArg Prod.snd (Option.some.inj h)) hr2
      · rw [if_neg h4] at h
        by_cases h3 : e0.1 = 3
        · rw [if_pos h3] at h
          exact Or.inr ⟨hr2, h3, h⟩
        · rw [if_neg h3] at h
          exact absurd h (by simp)
theorem U_put_good {it x : b_E} : ∀ (st : List (List Int)) (D : Nat) (es : List b_E), X_gd D es → (b_ser es).length ≤ 15000 → V_res st es = some (x, []) → x.1 = 4 → it ∈ b_ch x.2.2 → X_gd D (U_put st it es) ∧ (b_ser (U_put st it es)).length ≤ (b_ser es).length := by
  intro st
  induction st with
  | nil => exact fun D es _ _ h => absurd h (by simp [V_res])
  | cons s r ih =>
    intro D es hg hl hv hx hit
    obtain ⟨e0, hf, hcs⟩ := V_res_step hv
    obtain ⟨l, t, l1, l2, l3, l4, l5⟩ := L_fn_split hf
    have hge := hg e0 (L_fn_mem hf).1
    have hle := b_ser_memL (L_fn_mem hf).1
    have hsl := congrArg List.length (congrArg b_ser l1)
    rw [b_ser_mid] at hsl
    rw [U_put_cons hf, l3]
    rw [l1] at hg
    rcases hcs with ⟨rfl, rfl⟩ | ⟨hr, h3, hv2⟩
    · rw [if_pos (show ([] : List (List Int)).isEmpty = true from rfl)]
      obtain ⟨D1, eD, hE⟩ := X_E.mk hge.1 hge.2 (Or.inr hx)
      have hgi := hE.2.2.2.1 it hit
      have hli := b_ser_memL hit
      have hdl := congrArg List.length hE.2.2.1
      rw [b_doc_len] at hdl
      refine ⟨hg.rep (by rw [← l2]; exact hge.1) (b_gv_le hgi.2 (by omega)), ?_⟩
      rw [b_ser_mid, hsl]
      show _ + (s.length + it.2.2.length + 2) + _ ≤ _
      rw [l2]
      omega
    · rw [if_neg (by cases r with | nil => exact absurd rfl hr | cons _ _ => simp)]
      obtain ⟨D1, eD, hE⟩ := X_E.mk hge.1 hge.2 (Or.inl h3)
      have hdl := congrArg List.length hE.2.2.1
      rw [b_doc_len] at hdl
      obtain ⟨k1, k2⟩ := ih D1 (b_ch e0.2.2) hE.2.2.2.1 (by omega) hv2 hx hit
      refine ⟨hg.rep hge.1 (by rw [eD]; exact X_gv (Or.inl h3) k1 (by omega) fun z => absurd z (by omega)), ?_⟩
      rw [b_ser_mid, hsl]
      show _ + (e0.2.1.length + (b_doc (U_put r it (b_ch e0.2.2))).length + 2) + _ ≤ _
      rw [b_doc_len]
      omega
theorem U_pl_in : ∀ (st : List (List Int)) (c : Int) (D : Nat) (ys : List b_E) (x : b_E), X_gd D ys → V_res st ys = some (x, []) → c + 4 ≤ U_pl st c ys ∧ U_pl st c ys + (b_el x.1 x.2.1 x.2.2).length < c + (b_doc ys).length := by
  intro st
  induction st with
  | nil => exact fun c D ys x _ h => absurd h (by simp [V_res])
  | cons s r ih =>
    intro c D ys x hg hv
    obtain ⟨e0, hf, hcs⟩ := V_res_step hv
    obtain ⟨l, t, l1, l2, l3, l4, l5⟩ := L_fn_split hf
    have hfd : L_find s (L_at (c + 4) ys) = some (c + 4 + (b_ser l).length, e0) := by rw [l1]; exact L_find_app l e0 t _ l5 l2
    have hlen := congrArg List.length (congrArg b_ser l1)
    rw [b_ser_app, List.length_append, b_ser_len] at hlen
    rw [U_pl_cons hfd, b_doc_len]
    have hel := b_el_len e0.1 e0.2.1 e0.2.2
    rcases hcs with ⟨rfl, rfl⟩ | ⟨hr, h3, hv2⟩
    · rw [if_pos (show ([] : List (List Int)).isEmpty = true from rfl)]
      show c + 4 ≤ c + 4 + ((b_ser l).length : Int) ∧ c + 4 + ((b_ser l).length : Int) + _ < _
      omega
    · rw [if_neg (by cases r with | nil => exact absurd rfl hr | cons _ _ => simp)]
      have hge := hg e0 (L_fn_mem hf).1
      obtain ⟨D1, eD, hE⟩ := X_E.mk hge.1 hge.2 (Or.inl h3)
      have hdl := congrArg List.length hE.2.2.1
      have h9 := ih (c + 4 + (b_ser l).length + 2 + e0.2.1.length) D1 (b_ch e0.2.2) x hE.2.2.2.1 hv2
      show c + 4 ≤ U_pl r (c + 4 + (b_ser l).length + 2 + e0.2.1.length) (b_ch e0.2.2) ∧ U_pl r (c + 4 + (b_ser l).length + 2 + e0.2.1.length) (b_ch e0.2.2) + _ < _
      omega
section EUNW
variable {m b ma be : Nat} {M0 M M1 : g_M} {lo lim : Int} {F : Int → Int}
theorem e_putUnwound {dlo dhi qi : Int} {Di : Nat} {it xr : b_E} (hdis : dhi ≤ lo ∨ lim ≤ dlo) (hd0 : 0 ≤ dlo) (hd1 : dhi ≤ 922000) (hit : b_st F 922000 qi Di it.1 it.2.1 it.2.2) (hqi : dlo ≤ qi) (hqi2 : qi + (b_el it.1 it.2.1 it.2.2).length ≤ dhi) : ∀ (st : List (List Int)) {dd : Nat} {M : g_M} {Q : g_M → Prop} {c : Int} {ys : List b_E} {D : Nat} {x : List Int}, 2 * st.length + 12 ≤ dd → e_Wr m b lo lim x M → (∀ k, dlo ≤ k → k < dhi → g_i M b k = F k) → E_ct F c D ys → dlo ≤ c → c + (b_doc ys).length ≤ dhi → V_res st ys = some (xr, []) → (∀ M1, e_fr (e_WL m b lo lim) M M1 → e_Wr m b lo lim (x ++ b_doc (U_put st it ys)) M1 → Q M1) → g_Call dd 343 [.ref m, g_n c, g_n (U_pl st c ys), g_n qi] M (g_qV Q) := by
  intro st
  induction st with
  | nil => exact fun _ _ _ _ _ _ h => absurd h (by simp [V_res])
  | cons s r ih =>
    intro dd M Q c ys D x hdd hW hF hct hc1 hc2 hv hq
    rw [List.length_cons] at hdd
    obtain ⟨d, rfl⟩ : ∃ d, dd = d + 12 := ⟨dd - 12, by omega⟩
    obtain ⟨e0, hf, hcs⟩ := V_res_step hv
    obtain ⟨l, t, l1, l2, l3, l4, l5⟩ := L_fn_split hf
    have hname : e0.2.1 = s := l2
    have hfd : L_find s (L_at (c + 4) ys) = some (c + 4 + (b_ser l).length, e0) := by rw [l1]; exact L_find_app l e0 t _ l5 l2
    have hsts := hct.sts
    have hct2 := hct.2.1
    have hct3 := hct.2.2.1
    have hdl := b_doc_len ys
    have hlen := congrArg List.length (congrArg b_ser l1)
    rw [b_ser_app, List.length_append, b_ser_len] at hlen
    have hst0 := hsts
    rw [l1] at hst0
    have he0 := hst0.app.cons.1
    have hel := b_el_len e0.1 e0.2.1 e0.2.2
    have hit4 := hit.2.2.2.1
    have hcR : g_InR c := ⟨by omega, by omega⟩
    have hqiR := hit.R (by decide)
    obtain ⟨T, hTd⟩ : ∃ T, T = U_put (s :: r) it ys := ⟨_, rfl⟩
    rw [← hTd] at hq
    obtain ⟨w, hw⟩ : ∃ w : b_E, w = (if r.isEmpty = true then (it.1, s, it.2.2) else (e0.1, e0.2.1, b_doc (U_put r it (b_ch e0.2.2)))) := ⟨_, rfl⟩
    have hT2 : T = l ++ w :: t := by rw [hTd, U_put_cons hf, l3, hw]
    obtain ⟨pE, hpE⟩ : ∃ pE, pE = U_pl (s :: r) c ys := ⟨_, rfl⟩
    rw [← hpE]
    rw [U_pl_cons hfd] at hpE
    -- where the row stands
    have hpos : (r = [] ∧ pE = c + 4 + (b_ser l).length) ∨ (r ≠ [] ∧ c + 4 + (b_ser l).length < pE ∧ pE < c + 4 + (b_ser l).length + (b_el e0.1 e0.2.1 e0.2.2).length ∧ pE = U_pl r (c + 4 + (b_ser l).length + 2 + e0.2.1.length) (b_ch e0.2.2)) := by
      rcases hcs with ⟨rfl, rfl⟩ | ⟨hr, h3, hv2⟩
      · exact Or.inl ⟨rfl, by rw [hpE, if_pos (show ([] : List (List Int)).isEmpty = true from rfl)]⟩
      · rw [if_neg (by cases r with | nil => exact absurd rfl hr | cons _ _ => simp)] at hpE
        obtain ⟨D1, eD, hct1, hcl1⟩ := E_ct.of he0 (Or.inl h3)
        have hin := U_pl_in r (c + 4 + (b_ser l).length + 2 + e0.2.1.length) D1 (b_ch e0.2.2) xr hct1.2.2.2 hv2
        have hpE' : pE = U_pl r (c + 4 + (b_ser l).length + 2 + e0.2.1.length) (b_ch e0.2.2) := hpE
        rw [← hpE'] at hin
        exact Or.inr ⟨hr, by omega, by omega, hpE'⟩
    have hpER : g_InR pE := by
      rcases hpos with ⟨-, h⟩ | ⟨-, h1, h2, -⟩
      · exact ⟨by omega, by omega⟩
      · exact ⟨by omega, by omega⟩
    have hb5 : ∀ {M2 : g_M}, e_fr (e_WL m b lo lim) M M2 → ∀ k, dlo ≤ k → k < dhi → g_i M2 b k = F k := fun f k k1 k2 => by
      rw [f.2.1 b k fun z => ?_]
      · exact hF k k1 k2
      · rcases z with ⟨z, -⟩ | ⟨-, z, z2⟩
        · exact g_neOA hW.1.1 hW.1.2.2 z.symm
        · omega
    have hup : ∀ {M2 : g_M} {q : Int} {D : Nat} {k : Int} {nm vb : List Int}, e_fr (e_WL m b lo lim) M M2 → b_st F 922000 q D k nm vb → dlo ≤ q → q + (b_el k nm vb).length ≤ dhi → b_st (g_i M2 b) 2706210 q D k nm vb := by
      intro M2 q D k nm vb f hs h1 h2
      exact ⟨b_at_keep hs.1 fun j j1 j2 => hb5 f j (by omega) (by omega), hs.2.1, hs.2.2.1, hs.2.2.2.1, by omega⟩
    have htl : ∀ {M2 : g_M} {cs1 cs2 : List b_E}, e_fr (e_WL m b lo lim) M M2 → ys = cs1 ++ cs2 → e_tl (g_i M2 b) c (c + 4 + (b_ser cs1).length) D ys cs2 := by
      intro M2 cs1 cs2 f h1
      have h0 : e_tl (g_i M2 b) c (c + 4) D ys ys := e_tl.start (b_at_keep hct.1 fun k k1 k2 => hb5 f k (by omega) (by omega)) hct.2.2.2 hct2 (by omega)
      have h2 : e_tl (g_i M2 b) c (c + 4) D ys (cs1 ++ cs2) := by rw [← h1]; exact h0
      exact h2.app
    have hlp : ∀ (rr : Int), g_InR rr → w_r lo lim rr x.length → ∀ (fs cs1 : List b_E) (q : Int) (body : List Int) (M1 : g_M), ys = cs1 ++ fs → q = c + 4 + (b_ser cs1).length → e_fr (e_WL m b lo lim) M M1 → e_Wr m b lo lim (x ++ ([0, 0, 0, 0] ++ body)) M1 → ((∃ l2, l = cs1 ++ l2 ∧ fs = l2 ++ e0 :: t ∧ body ++ b_ser (l2 ++ w :: t) = b_ser T) ∨ (pE < q ∧ body ++ b_ser fs = b_ser T)) → g_Run (d + 11) 343 12 [(0, .ref m), (1, g_n c), (2, g_n pE), (3, g_n qi), (4, g_n rr), (5, g_n q)] [] M1 (g_qV Q) := by
      intro rr hrR hrr fs
      induction fs with
      | nil =>
        intro cs1 q body M1 h1 h2 f1 W1 hinv
        have hR1 := W1.1
        have hsq := htl f1 h1
        rw [← h2] at hsq
        have hq6 := hsq.st
        refine s_X12_putUnwound_12 hcR hpER hqiR hrR ⟨by omega, by omega⟩ fun _ => ⟨hR1.1, e_lastE (d := d + 8) hR1 hsq ?_⟩
        intro _ _ _
        refine ⟨fun z => absurd z (by omega), fun _ => e_close (d := d + 9) W1 hrr fun M2 f2 W2 => ?_⟩
        intro _ _
        have hbT : body = b_ser T := by
          rcases hinv with ⟨l2', -, hfs, -⟩ | ⟨-, h⟩
          · exact absurd hfs (by simp)
          · rwa [show b_ser [] = [] from rfl, List.append_nil] at h
        refine hq M2 (f1.tr f2) ?_
        rw [hbT] at W2
        rw [b_doc_app]
        exact W2
      | cons f fs ihf =>
        intro cs1 q body M1 h1 h2 f1 W1 hinv
        have hR1 := W1.1
        have hsq := htl f1 h1
        rw [← h2] at hsq
        have hq6 := hsq.st
        have hfst : b_st F 922000 q D f.1 f.2.1 f.2.2 := by
          have h9 := hsts
          rw [h1] at h9
          have h8 := h9.app.cons.1
          rwa [← h2] at h8
        have hlen2 := congrArg List.length (congrArg b_ser h1)
        rw [b_ser_app, List.length_append, b_ser_len] at hlen2
        have hfl := b_el_len f.1 f.2.1 f.2.2
        have hqc : dlo ≤ q := by omega
        have hqc2 : q + (b_el f.1 f.2.1 f.2.2).length ≤ dhi := by omega
        have hfR := hfst.R (by decide)
        have hf4 := hfst.2.2.2.1
        have hfk := b_vs_pos (b_gv_vs hfst.2.2.1)
        have hf1 := hup f1 hfst hqc hqc2
        have hnext : ∀ (M2 : g_M) (body2 : List Int), e_fr (e_WL m b lo lim) M M2 → e_Wr m b lo lim (x ++ ([0, 0, 0, 0] ++ body2)) M2 → ((∃ l2, l = (cs1 ++ [f]) ++ l2 ∧ fs = l2 ++ e0 :: t ∧ body2 ++ b_ser (l2 ++ w :: t) = b_ser T) ∨ (pE < q + (b_el f.1 f.2.1 f.2.2).length ∧ body2 ++ b_ser fs = b_ser T)) → g_Call (d + 11) 235 [.ref m, g_n q] M2 (g_qI fun r60 M57 => g_ext M2 M57 → g_ok M57 → g_InR r60 → g_Run (d + 11) 343 12 [(0, .ref m), (1, g_n c), (2, g_n pE), (3, g_n qi), (4, g_n rr), (5, g_n r60)] [] M57 (g_qV Q)) := by
          intro M2 body2 f2 W2 hinv2
          refine e_bh2 (d := d + 7) W2.1 (hup f2 hfst hqc hqc2) ?_
          intro _ _ _
          refine ihf (cs1 ++ [f]) _ body2 M2 (by rw [h1]; simp) ?_ f2 W2 hinv2
          rw [b_ser_app, List.length_append, b_ser_1]
          omega
        have h107 : ((∃ l2, l = (cs1 ++ [f]) ++ l2 ∧ fs = l2 ++ e0 :: t ∧ body ++ b_el f.1 f.2.1 f.2.2 ++ b_ser (l2 ++ w :: t) = b_ser T) ∨ (pE < q + (b_el f.1 f.2.1 f.2.2).length ∧ body ++ b_el f.1 f.2.1 f.2.2 ++ b_ser fs = b_ser T)) → g_Run (d + 11) 343 107 [(0, .ref m), (1, g_n c), (2, g_n pE), (3, g_n qi), (4, g_n rr), (5, g_n q)] [] M1 (g_qV Q) := by
          intro hinv2
          refine s_X12_putUnwound_107 hcR hpER hqiR hrR hfR fun _ => ⟨hR1.1, e_bh2 (d := d + 7) hR1 hf1 ?_⟩
          intro _ _ _
          refine e_putBytes (d := d + 9) W1 hf1.1 (by omega) (by omega) (by omega) fun M2 f2 W2 => ?_
          intro _ _
          refine hnext M2 _ (f1.tr f2) ?_ hinv2
          have ew : x ++ ([0, 0, 0, 0] ++ body) ++ b_el f.1 f.2.1 f.2.2 = x ++ ([0, 0, 0, 0] ++ (body ++ b_el f.1 f.2.1 f.2.2)) := by simp
          rwa [ew] at W2
        refine s_X12_putUnwound_12 hcR hpER hqiR hrR hfR fun _ => ⟨hR1.1, e_lastC (d := d + 8) hR1 hsq fun r2 hr1 hr2 => fun _ _ _ => ⟨fun _ => ?_, fun z => absurd hr1 z⟩⟩
        rcases hinv with ⟨l2, hl2, hfs, hbd⟩ | ⟨hpq, hbd⟩
        · rcases l2 with _ | ⟨g, l2⟩
          · -- the element itself
            rw [List.nil_append] at hfs hbd
            rw [List.append_nil] at hl2
            obtain ⟨rfl, rfl⟩ := List.cons.inj hfs
            have hqe : q = c + 4 + (b_ser l).length := by rw [h2, hl2]
            have hws : b_ser (w :: fs) = b_el w.1 w.2.1 w.2.2 ++ b_ser fs := rfl
            rw [hws] at hbd
            rcases hpos with ⟨hr0, hp0⟩ | ⟨hr0, hp1, hp2, hp3⟩
            · rw [hr0, if_pos (show ([] : List (List Int)).isEmpty = true from rfl)] at hw
              refine ⟨fun _ => ⟨⟨by omega, by omega⟩, e_nameEnd (d := d + 10) hR1 hf1.nm ?_⟩, fun z => absurd (by omega) z⟩
              intro _ _ _
              refine e_putAs (d := d + 6) W1 (hup f1 hit hqi hqi2) (by omega) hf1.nmb (by omega) (by omega) (by omega) fun M2 f2 W2 => ?_
              intro _ _
              refine hnext M2 (body ++ b_el it.1 f.2.1 it.2.2) (f1.tr f2) ?_ (Or.inr ⟨by omega, ?_⟩)
              · have ew : x ++ ([0, 0, 0, 0] ++ body) ++ b_el it.1 f.2.1 it.2.2 = x ++ ([0, 0, 0, 0] ++ (body ++ b_el it.1 f.2.1 it.2.2)) := by simp
                rwa [ew] at W2
              · rw [← hbd, hw, ← hname, List.append_assoc]
            · rcases hcs with ⟨rfl, -⟩ | ⟨-, h3, hv2⟩
              · exact absurd rfl hr0
              · rw [if_neg (by cases r with | nil => exact absurd rfl hr0 | cons _ _ => simp)] at hw
                refine ⟨fun z => absurd z (by omega), fun _ => ⟨fun _ => e_bh2 (d := d + 7) hR1 hf1 ?_, fun z => absurd (by omega) z⟩⟩
                intro _ _ _
                refine ⟨fun _ => e_kd hR1 hf1 (P := fun z => g_Call (d + 11) 246 [.ref m, g_n z] M1 _) (e_put (d := d + 10) W1 ⟨by omega, by omega⟩ fun M2 f2 W2 => ?_), fun z => absurd (by omega) z⟩
                intro _ _
                have f12 := f1.tr f2
                have hf2 := hup f12 hfst hqc hqc2
                refine ⟨⟨by omega, by omega⟩, e_nameEnd (d := d + 10) W2.1 hf2.nm ?_⟩
                intro _ _ _
                refine e_putBytes (d := d + 9) W2 hf2.nmb (by omega) (by omega) (by omega) fun M3 f3 W3 => ?_
                intro _ _
                refine e_put (d := d + 10) W3 ⟨by decide, by decide⟩ fun M4 f4 W4 => ?_
                intro _ _
                have f14 := (f12.tr f3).tr f4
                refine e_vl2 (d := d + 9) W4.1 (hup f14 hfst hqc hqc2) ?_
                intro _ _ _
                obtain ⟨D1, eD, hct1, hcl1⟩ := E_ct.of hfst (Or.inl h3)
                have h9 := ih (dd := d + 11) (M := M4) (Q := fun M40 => g_ext M4 M40 → g_ok M40 → g_Call (d + 11) 235 [.ref m, g_n q] M40 (g_qI fun r60 M57 => g_ext M40 M57 → g_ok M57 → g_InR r60 → g_Run (d + 11) 343 12 [(0, .ref m), (1, g_n c), (2, g_n pE), (3, g_n qi), (4, g_n rr), (5, g_n r60)] [] M57 (g_qV Q))) (by omega) W4 (hb5 f14) hct1 (by omega) (by omega) hv2 fun M5 f5 W5 => ?_
                · rw [← hqe] at hp3
                  rw [← hp3] at h9
                  exact h9
                · intro _ _
                  have ew : x ++ ([0, 0, 0, 0] ++ body) ++ [g_w8 f.1] ++ f.2.1 ++ [g_w8 0] ++ b_doc (U_put r it (b_ch f.2.2)) = x ++ ([0, 0, 0, 0] ++ (body ++ b_el f.1 f.2.1 (b_doc (U_put r it (b_ch f.2.2))))) := by
                    rw [g_w8_of (by omega) (by omega), show g_w8 0 = 0 from rfl]
                    unfold b_el
                    simp
                  rw [ew] at W5
                  refine hnext M5 _ (f14.tr f5) W5 (Or.inr ⟨by omega, ?_⟩)
                  rw [← hbd, hw, List.append_assoc]
          · -- ahead of it
            obtain ⟨rfl, hfs2⟩ := List.cons.inj hfs
            have hll := congrArg List.length (congrArg b_ser hl2)
            rw [b_ser_app, List.length_append, b_ser_len] at hll
            have hahead : q + (b_el f.1 f.2.1 f.2.2).length ≤ pE := by
              rcases hpos with ⟨-, h⟩ | ⟨-, h, -, -⟩ <;> omega
            have hin2 : (∃ l2', l = (cs1 ++ [f]) ++ l2' ∧ fs = l2' ++ e0 :: t ∧ body ++ b_el f.1 f.2.1 f.2.2 ++ b_ser (l2' ++ w :: t) = b_ser T) := ⟨l2, by rw [hl2]; simp, hfs2, by rw [← hbd, List.append_assoc]; rfl⟩
            refine ⟨fun z => absurd z (by omega), fun _ => ⟨fun _ => e_bh2 (d := d + 7) hR1 hf1 ?_, fun _ => h107 (Or.inl hin2)⟩⟩
            intro _ _ _
            exact ⟨fun z => absurd z (by omega), fun _ => h107 (Or.inl hin2)⟩
        · -- behind it
          refine ⟨fun z => absurd z (by omega), fun _ => ⟨fun z => absurd z (by omega), fun _ => h107 (Or.inr ⟨by omega, ?_⟩)⟩⟩
          rw [← hbd, List.append_assoc]
          rfl
    refine m_X12_putUnwound hcR hpER hqiR fun _ => ⟨hW.1.1, e_open (d := d + 8) hW fun rr M2 f2 W2 hrr => ?_⟩
    intro _ _ hrR
    refine e_first (d := d + 10) (by omega) (by omega) ?_
    intro _ _ _
    refine hlp rr hrR hrr ys [] _ [] M2 rfl ?_ f2 (by rw [List.append_nil]; exact W2) (Or.inl ⟨l, rfl, l1, by rw [hT2]; rfl⟩)
    show c + 4 = c + 4 + ((0 : Nat) : Int)
    omega
end EUNW
