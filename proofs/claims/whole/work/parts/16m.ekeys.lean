/-! STAGES: $sort, the reference: the keys of all documents -/
theorem L_at_snd : ∀ (es : List b_E) (q : Int), (L_at q es).map Prod.snd = es := by
  intro es
  induction es with
  | nil => exact fun _ => rfl
  | cons e es ih => exact fun q => congrArg (e :: ·) (ih _)
section EKEYS
variable {m b l kr be : Nat} {M0 : g_M} {L : List Int} {Q : Int → g_M → Prop} {g : Int} {ds : List (List b_E)} {cs : List b_E}
def E_kS (m l kr : Nat) (z : Nat) (k : Int) : Prop := E_lf m l z k ∨ z = kr
def E_kk (F : Int → Int) (kr : Nat) (cs : List b_E) (ds : List (List b_E)) (done : Nat → Nat → Prop) (M : g_M) : Prop := ∀ (i s : Nat) (es : List b_E) (x : b_E), done i s → ds[i]? = some es → cs[s]? = some x → ∃ y, g_i M kr (4 * (i : Int) + s) = L_opt y ∧ O_at F 2706210 y ∧ v_oc (L_nop y) (O_key (O_w x) es (p_sp x.2.1)) = 0
theorem e_keys {d D : Nat} {c : Int} (h18 : g_r M0 m 18 = some be) (hbe : g_A M0 be 1 200) (h34 : g_r M0 m 34 = some kr) (hkr : g_A M0 kr 1 800) (hlk : l ≠ kr) (hlb : l ≠ be) (hS0 : E_S m b l (g_i M0 b) M0 L) (hL : L.length ≤ 1000) (hbt : E_belt m b be g ds M0) (ht : e_tl (g_i M0 b) c (c + 4) D cs cs) (hc21 : c + 4 + (b_ser cs).length ≤ 2100) (hc4 : cs.length ≤ 4) (hways : ∀ x ∈ cs, (O_w x = 1 ∨ O_w x = -1) ∧ p_plain x.2.1) (hq : ∀ M1, e_fr (E_kS m l kr) M0 M1 → E_S m b l (g_i M0 b) M1 L → E_kk (g_i M0 b) kr cs ds (fun i _ => i < ds.length) M1 → g_Run (d + 51) 356 187 [(0, .ref m), (1, g_n c), (2, g_n cs.length), (3, g_n 0)] [] M1 (g_qI Q)) : g_Run (d + 51) 356 8 [(0, .ref m), (1, g_n c), (2, g_n cs.length), (3, g_n 0)] [] M0 (g_qI Q) := by
  obtain ⟨h19, hok, hpl⟩ := id hbt
  have hl200 := hok.1
  have hc0 := ht.2.1
  have hcR : g_InR c := ⟨by omega, by omega⟩
  have hmk : m ≠ kr := g_neOA hS0.1.1 hkr
  have hmb : m ≠ be := g_neOA hS0.1.1 hbe
  have hkb : kr ≠ be := g_neAA hkr hbe (by omega)
  have hml : m ≠ l := hS0.ne.2.1.symm
  have hm : ∀ {M : g_M}, e_fr (E_kS m l kr) M0 M → ∀ k, k ≠ 10 → g_i M m k = g_i M0 m k := fun f k hk => f.2.1 m k fun z => by
    rcases z with (z | z) | z
    · exact hml z
    · exact hk z.2
    · exact hmk z
  have hb' : ∀ {M : g_M}, e_fr (E_kS m l kr) M0 M → ∀ k, g_i M be k = g_i M0 be k := fun f k => f.2.1 be k fun z => by
    rcases z with (z | z) | z
    · exact hlb z.symm
    · exact hmb z.1.symm
    · exact hkb z.symm
  have h19s : ∀ (n k : Nat) (M : g_M), k + n = cs.length → True := fun _ _ _ _ => trivial
  clear h19s
  -- one document
  have hdoc : ∀ (n s i : Nat) (M : g_M), s + n = cs.length → i < ds.length → e_fr (E_kS m l kr) M0 M → E_S m b l (g_i M0 b) M L → E_kk (g_i M0 b) kr cs ds (fun j t => j < i ∨ (j = i ∧ t < s)) M → (∀ M1, e_fr (E_kS m l kr) M0 M1 → E_S m b l (g_i M0 b) M1 L → E_kk (g_i M0 b) kr cs ds (fun j _ => j < i + 1) M1 → g_InR ((i : Int) + 1) ∧ g_Run (d + 51) 356 8 [(0, .ref m), (1, g_n c), (2, g_n cs.length), (3, g_n ((i : Int) + 1))] [] M1 (g_qI Q)) → g_Run (d + 51) 356 19 [(0, .ref m), (1, g_n c), (2, g_n cs.length), (3, g_n i), (4, g_n s)] [] M (g_qI Q) := by
    intro n
    induction n with
    | zero =>
      intro s i M hs hi f S hk hnx
      exact s_X12_sort_19 hcR ⟨by omega, by omega⟩ ⟨by omega, by omega⟩ ⟨by omega, by omega⟩ fun _ => ⟨fun z => absurd z (by omega), fun _ => hnx M f S fun j t es x hj h1 h2 => hk j t es x (by
        have := (List.getElem?_eq_some_iff.mp h2).1
        rcases Nat.lt_or_ge j i with h | h
        · exact Or.inl h
        · exact Or.inr ⟨by omega, by omega⟩) h1 h2⟩
    | succ n ih =>
      intro s i M hs hi f S hk hnx
      obtain ⟨x, hx⟩ : ∃ x, cs[s]? = some x := ⟨_, List.getElem?_eq_getElem (by omega)⟩
      obtain ⟨es, hes⟩ : ∃ es, ds[i]? = some es := ⟨_, List.getElem?_eq_getElem hi⟩
      obtain ⟨hw, hplx⟩ := hways x (List.mem_of_getElem? hx)
      obtain ⟨p, p1, p2, p3, p4, p5⟩ := hpl i es hes
      obtain ⟨m1, m2⟩ := hok.2.2 es (List.mem_of_getElem? hes)
      have hct : E_ct (g_i M0 b) p 15 es := ⟨p2, by omega, p4, m2⟩
      have hFM : g_i M b = g_i M0 b := S.2.2.2.2.2.1
      -- its element
      obtain ⟨z, hz⟩ : ∃ z, (L_at (c + 4) cs)[s]? = some z := ⟨_, List.getElem?_eq_getElem (by rw [L_at_len]; omega)⟩
      have hzx : z.2 = x := by
        have h9 := congrArg (fun t => t[s]?) (L_at_snd cs (c + 4))
        simp only [List.getElem?_map, hz, hx, Option.map_some] at h9
        exact Option.some.inj h9
      obtain ⟨q, x'⟩ := z
      obtain rfl : x' = x := hzx
      have hqs := (L_at_st ht.2.2.2.1 _ (List.mem_of_getElem? hz)).1
      have hq4 := hqs.2.2.2.1
      have hq5 := hqs.2.2.2.2
      have hqR := hqs.R (by decide)
      have hqel := b_el_len x'.1 x'.2.1 x'.2.2
      change b_st (g_i M0 b) 2706210 q D x'.1 x'.2.1 x'.2.2 at hqs
      change 0 ≤ q at hq4
      change q + (b_el x'.1 x'.2.1 x'.2.2).length ≤ 2706210 at hq5
      change g_InR q at hqR
      obtain ⟨e0, e1, e2, e3⟩ := b_el_at hqs.1
      have hq21 : q + 1 + x'.2.1.length < 2706200 := by
        have h9 : ∀ (es : List b_E) (q0 : Int) (z : Int × b_E), z ∈ L_at q0 es → z.1 + (b_el z.2.1 z.2.2.1 z.2.2.2).length ≤ q0 + (b_ser es).length := by
          intro es
          induction es with
          | nil => exact fun _ z hz => absurd hz (by simp [L_at])
          | cons a t iht =>
            intro q0 z hz
            rw [b_ser_len]
            rcases List.mem_cons.mp hz with hz | hz
            · rw [hz]
              show q0 + (b_el a.1 a.2.1 a.2.2).length ≤ _
              omega
            · have := iht _ z hz
              omega
        have := h9 cs (c + 4) (q, x') (List.mem_of_getElem? hz)
        change q + (b_el x'.1 x'.2.1 x'.2.2).length ≤ _ at this
        omega
      obtain ⟨ls, hls⟩ : ∃ ls, ls = L_doc 15 (L_at (p + 4) es) (p_sp x'.2.1) := ⟨_, rfl⟩
      obtain ⟨kl1, kl2, kl3, kl4⟩ := e_keyVals hct m1 (by rw [p_sp_eq]; simp) hplx.1.2.1 hls
      have hch : b_ch (b_doc es) = es := b_ch_doc m2.ok
      have hdc : E_dc (g_i M0 b) p 15 (3, [], b_doc es) := ⟨rfl, X_gv (Or.inl rfl) m2 (by rw [b_doc_len] at m1; omega) fun z => absurd z (by decide), by
        show e_tl _ p (p + 4) 15 (b_ch (b_doc es)) (b_ch (b_doc es))
        rw [hch]
        exact hct.tl fun _ _ => rfl⟩
      have hnext : ∀ (K : List (Option (Int × b_E))), K.map L_nop = O_ke (O_lv es (p_sp x'.2.1)) → (∀ y ∈ K, O_at (g_i M0 b) 2706210 y) → ∀ (M2 M1 : g_M) (y : Option (Int × b_E)), e_fr (E_kS m l kr) M0 M2 → E_kk (g_i M0 b) kr cs ds (fun j t => j < i ∨ (j = i ∧ t < s)) M2 → e_fr (fun z k => E_lf m l z k ∨ (z = kr ∧ k = 4 * i + s)) M2 M1 → E_S m b l (g_i M0 b) M1 L → O_pl (O_w x') K y → g_i M1 kr (4 * (i : Int) + s) = L_opt y → g_Run (d + 51) 356 19 [(0, .ref m), (1, g_n c), (2, g_n cs.length), (3, g_n i), (4, g_n ((s : Int) + 1))] [] M1 (g_qI Q) := by
        intro K hKn hKo M2 M1 y f2 hk2 f1 S1 hy hyk
        have h9 := ih (s + 1) i M1 (by omega) hi (f2.tr (f1.up fun z k hz => hz.elim Or.inl fun w => Or.inr w.1)) S1 (fun j t es2 x2 hj h1 h2 => ?_) hnx
        · rwa [show ((s + 1 : Nat) : Int) = (s : Int) + 1 by omega] at h9
        · have ht4 := (List.getElem?_eq_some_iff.mp h2).1
          by_cases hjt : j = i ∧ t = s
          · obtain ⟨rfl, rfl⟩ := hjt
            rw [hes] at h1
            rw [hx] at h2
            cases h1
            cases h2
            refine ⟨y, hyk, hKo y hy.1, ?_⟩
            have h3 := hy.2
            rw [hKn] at h3
            exact h3.eq hw (O_key_bst hw _ _) fun u => (O_ke_mem _ u).symm
          · obtain ⟨u, u1, u2, u3⟩ := hk2 j t es2 x2 (by omega) h1 h2
            refine ⟨u, ?_, u2, u3⟩
            rw [← u1]
            refine f1.2.1 kr _ fun z => ?_
            rcases z with (z | z) | z
            · exact hlk z.symm
            · exact hmk z.1.symm
            · have := z.2
              omega
      refine s_X12_sort_19 hcR ⟨by omega, by omega⟩ ⟨by omega, by omega⟩ ⟨by omega, by omega⟩ fun _ => ⟨fun _ => ⟨S.1.1, e_itemE (d := d + 46) S.1 (D := D) (es0 := cs) (by rw [hFM]; exact ht) (by omega) ⟨by omega, by omega⟩ ?_⟩, fun z => absurd (by omega) z⟩
      rw [show ((s : Int)).toNat = s by omega, hz, show L_opt (some (q, x')) = q from rfl]
      intro _ _ _
      refine ⟨be, by rw [f.2.2]; exact h18, _, f.A hbe, ⟨by omega, by omega⟩, ⟨by omega, by omega⟩, e_nm2 (d := d + 50) S.1 (by rw [hFM]; exact hqs) ?_⟩
      intro _ _ _
      rw [hb' f, p1]
      refine e_withItems (d := d) (de := (3, [], b_doc es)) (x := x'.2.1) (ls := ls) S hdc (by decide) (by exact e1) (by omega) (by omega) (by show (b_doc es).length ≤ _; omega) (by rw [hls]; show _ = L_doc 15 (L_at (p + 4) (b_ch (b_doc es))) _; rw [hch]) (fun y hy => ⟨15, L_doc_st hct y (by rw [← hls]; exact hy)⟩) (by omega) fun M19 f19 S19 => ?_
      intro _ _ _
      have f019 : e_fr (E_kS m l kr) M0 M19 := f.tr (f19.up fun _ _ z => Or.inl z)
      have hkk : ∀ {M2 : g_M}, e_fr (E_lf m l) M M2 → E_kk (g_i M0 b) kr cs ds (fun j t => j < i ∨ (j = i ∧ t < s)) M2 := fun f2 j t es2 x2 hj h1 h2 => by
        obtain ⟨u, u1, u2, u3⟩ := hk j t es2 x2 hj h1 h2
        refine ⟨u, ?_, u2, u3⟩
        rw [← u1]
        refine f2.2.1 kr _ fun z => ?_
        rcases z with z | z
        · exact hlk z.symm
        · exact hmk z.1.symm
      have h10 : g_i M m 10 = L.length := S.2.2.2.1
      have h1019 : g_i M19 m 10 = ((L.length + (ls.length + (L_wi ls).length) : Nat) : Int) := by
        rw [S19.2.2.2.1, List.length_append, List.length_append, List.length_map, List.length_map]
      have hwl := L_wi_len ls
      rw [h10, h1019]
      refine ⟨fun g0 => ?_, fun g0 => ?_⟩
      · -- there is none
        have hls0 : ls = [] := List.length_eq_zero_iff.mp (by omega)
        subst hls0
        refine e_addL (d := d + 50) S19 (by rw [List.length_append, List.length_append, List.length_map, List.length_map]; omega) ⟨by decide, by decide⟩ fun M30 f30 S30 => ?_
        intro _ _
        have S30' : E_S m b l (g_i M0 b) M30 (L ++ [none].map L_opt) := by
          have : L ++ (([] : List (Option (Int × b_E))).map L_opt ++ (L_wi []).map L_opt) ++ [-1] = L ++ [none].map L_opt := by
            rw [show (L_wi []).map L_opt = [] from rfl]
            simp [L_opt]
          rwa [this] at S30
        have hgl := (S30'.get (i := L.length) (v := -1) (by rw [List.getElem?_append_right (Nat.le_refl _), Nat.sub_self]; rfl)).1
        refine ⟨l, S30'.2.1, _, S30'.2.2.1, ⟨by omega, by rw [List.length_nil]; omega⟩, ⟨by omega, by omega⟩, ?_⟩
        have hcast : (L.length : Int) + (([] : List (Option (Int × b_E))).length : Nat) = L.length := by rw [List.length_nil]; omega
        rw [hcast, hgl]
        have f030 := f019.tr (f30.up fun _ _ z => Or.inl z)
        have h9 := e_bestLoop (d := d + 5) (D := D) (i := i) (s := s) (n := cs.length) (c := c) (kr := kr) (K := [none]) (P := L) (L := L) (Q := Q) S30' hqs hw hcR (by omega) (by omega) hc4 (by omega) (fun y hy => by rw [List.mem_singleton.mp hy]; exact fun z hz => absurd hz (by simp)) (by rw [f030.2.2]; exact h34) (f030.A hkr) hlk ⟨[], by simp⟩ (fun M1 y f1 S1 hy hyk => hnext [none] kl4 (fun y hy => by rw [List.mem_singleton.mp hy]; exact fun z hz => absurd hz (by simp)) M30 M1 y f030 (hkk (f19.tr f30)) f1 S1 hy hyk) [] [none] none (L.length : Int) rfl ⟨by omega, by omega⟩ ⟨List.mem_singleton.mpr rfl, O_bst.one _ _⟩
        rwa [show ((L.length + [(none : Option (Int × b_E))].length : Nat) : Int) = (L.length : Int) + 1 by rw [List.length_singleton]; omega] at h9
      · have hls0 : ls ≠ [] := fun z => g0 (by rw [z] at hwl ⊢; rw [hwl]; simp)
        rw [if_neg hls0] at kl4
        have S19' : E_S m b l (g_i M0 b) M19 ((L ++ ls.map L_opt) ++ (L_wi ls).map L_opt) := by rw [List.append_assoc]; exact S19
        obtain ⟨y0, K2, hK0⟩ : ∃ y0 K2, L_wi ls = y0 :: K2 := by
          rcases hw0 : L_wi ls with _ | ⟨y0, K2⟩
          · rw [hw0, List.length_nil] at hwl
            exact absurd (List.length_eq_zero_iff.mp (by omega)) hls0
          · exact ⟨y0, K2, rfl⟩
        have hPl : (L ++ ls.map L_opt).length = L.length + ls.length := by rw [List.length_append, List.length_map]
        have hgl := (S19'.get (i := L.length + ls.length) (v := L_opt y0) (by rw [List.getElem?_append_right (by omega), hPl, Nat.sub_self, hK0]; rfl)).1
        have hcast : ((L.length + ls.length : Nat) : Int) = (L.length : Int) + ls.length := by omega
        rw [hcast] at hgl
        refine ⟨l, S19'.2.1, _, S19'.2.2.1, ⟨by omega, by omega⟩, ⟨by omega, by omega⟩, ?_⟩
        rw [hgl]
        have h9 := e_bestLoop (d := d + 5) (D := D) (i := i) (s := s) (n := cs.length) (c := c) (kr := kr) (K := L_wi ls) (P := L ++ ls.map L_opt) (L := L) (Q := Q) S19' hqs hw hcR (by omega) (by omega) hc4 (by omega) kl3 (by rw [f019.2.2]; exact h34) (f019.A hkr) hlk ⟨_, rfl⟩ (fun M1 y f1 S1 hy hyk => hnext (L_wi ls) kl4 kl3 M19 M1 y f019 (hkk f19) f1 S1 hy hyk) K2 [y0] y0 ((L.length : Int) + ls.length) hK0 ⟨by omega, by omega⟩ ⟨List.mem_singleton.mpr rfl, O_bst.one _ _⟩
        rwa [hPl, show ((L.length + ls.length + [y0].length : Nat) : Int) = (L.length : Int) + ls.length + 1 by rw [List.length_singleton]; omega] at h9
  have hlp : ∀ (n i : Nat) (M : g_M), i + n = ds.length → e_fr (E_kS m l kr) M0 M → E_S m b l (g_i M0 b) M L → E_kk (g_i M0 b) kr cs ds (fun j _ => j < i) M → g_Run (d + 51) 356 8 [(0, .ref m), (1, g_n c), (2, g_n cs.length), (3, g_n i)] [] M (g_qI Q) := by
    intro n
    induction n with
    | zero =>
      intro i M hi f S hk
      refine s_X12_sort_8 hcR ⟨by omega, by omega⟩ ⟨by omega, by omega⟩ fun _ => ⟨S.1.1, fun z => absurd z (by rw [hm f 19 (by decide), h19]; omega), fun _ => hq M f S fun j t es x hj => hk j t es x (by omega)⟩
    | succ n ih =>
      intro i M hi f S hk
      refine s_X12_sort_8 hcR ⟨by omega, by omega⟩ ⟨by omega, by omega⟩ fun _ => ⟨S.1.1, fun _ => ?_, fun z => absurd (by rw [hm f 19 (by decide), h19]; omega) z⟩
      refine hdoc cs.length 0 i M (by omega) (by omega) f S (fun j t es x hj => hk j t es x (by omega)) fun M1 f1 S1 hk1 => ⟨⟨by omega, by omega⟩, ?_⟩
      have h9 := ih (i + 1) M1 (by omega) f1 S1 hk1
      rwa [show ((i + 1 : Nat) : Int) = (i : Int) + 1 by omega] at h9
  exact hlp ds.length 0 M0 (by omega) (e_fr.rf _ _) hS0 fun j t es x hj => absurd hj (by omega)
end EKEYS
