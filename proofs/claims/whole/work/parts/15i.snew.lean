/-! STAGES: new documents, on both sides -/
def S_K (ou : Nat) (lo : Int) (b : Nat) : Nat → Int → Prop := c_WL ou b lo (lo + 40400)
section SEND
variable {so b ou sc fr be : Nat} {M M1 : g_M} {lo : Int} {ds : List (List b_E)} {es : List b_E}
theorem S_bad_nil : ¬ S_bad [] := by
  rintro (h | h | ⟨e, he, -⟩)
  · exact absurd h (by decide)
  · exact absurd h (by decide)
  · exact absurd he (by simp)
theorem c_beginFresh {d : Nat} {Q : g_M → Prop} {g : Int} (hS : S_B so b M) (h4 : g_r M so 4 = some ou) (h5 : g_r M so 5 = some sc) (hne : ou ≠ sc) (ho : g_O M ou 4 ∧ g_r M ou 0 = some b) (hs : g_O M sc 4 ∧ g_r M sc 0 = some b) (hfr : g_A M fr 1 200) (hg : g_i M so 17 = g) (hg01 : g = 0 ∨ g = 1) (hq : ∀ M1, e_fr (fun y k => (y = so ∧ 15 ≤ k ∧ k ≤ 19) ∨ ((y = ou ∨ y = sc) ∧ (k = 1 ∨ k = 2 ∨ k = 3))) M M1 → c_Wr ou b 246408 (82808 + (1 - g) * 40400) (82808 + (1 - g) * 40400 + 40400) [] M1 → c_Wr sc b 246408 163608 246408 [] M1 → g_i M1 so 17 = 1 - g → g_i M1 so 19 = 0 → S_F so fr (82808 + (1 - g) * 40400) 40000 [] M1 → Q M1) : g_Call (d + 2) 140 [.ref so] M (g_qV Q) := by
  obtain ⟨s1, s2, s3⟩ := id hS
  have n1 : so ≠ ou := g_neOO s1 ho.1 (by decide)
  have n2 : so ≠ sc := g_neOO s1 hs.1 (by decide)
  have n3 : ou ≠ b := g_neOA ho.1 s3
  have n4 : sc ≠ b := g_neOA hs.1 s3
  refine m_X9_beginFresh fun _ => ⟨s1, by rw [hg]; exact ⟨by omega, by omega⟩, ?_⟩
  rw [hg]
  rintro M3 rfl _
  have e17 : g_i (g_wi M so 17 (1 - g)) so 17 = 1 - g := by rw [g_i_wi, if_pos ⟨rfl, rfl⟩]
  rw [e17]
  have f3 : e_fr (fun y k => (y = so ∧ 15 ≤ k ∧ k ≤ 19) ∨ ((y = ou ∨ y = sc) ∧ (k = 1 ∨ k = 2 ∨ k = 3))) M (g_wi M so 17 (1 - g)) := e_fr.wi _ (Or.inl ⟨rfl, by decide, by decide⟩)
  refine ⟨⟨by omega, by omega⟩, ⟨by omega, by omega⟩, ou, h4, ⟨by omega, by omega⟩, ho.1, c_start (d := d) (f3.O ho.1) ho.2 (f3.A s3) (by decide) (by omega) (by omega) (by omega) fun M13 f13 W13 => ?_⟩
  intro _ _
  have f13' : e_fr (fun y k => (y = so ∧ 15 ≤ k ∧ k ≤ 19) ∨ ((y = ou ∨ y = sc) ∧ (k = 1 ∨ k = 2 ∨ k = 3))) M M13 := f3.tr (f13.up fun y k z => Or.inr ⟨Or.inl z.1, z.2⟩)
  refine ⟨sc, by rw [f13'.2.2]; exact h5, f13'.O hs.1, c_start (d := d) (f13'.O hs.1) (by rw [f13'.2.2]; exact hs.2) (f13'.A s3) (by decide) (by decide) (by decide) (by decide) fun M19 f19 W19 => ?_⟩
  intro _ _
  have f19' : e_fr (fun y k => (y = so ∧ 15 ≤ k ∧ k ≤ 19) ∨ ((y = ou ∨ y = sc) ∧ (k = 1 ∨ k = 2 ∨ k = 3))) M M19 := f13'.tr (f19.up fun y k z => Or.inr ⟨Or.inr z.1, z.2⟩)
  rintro M22 rfl _ M26 rfl _ M30 rfl _ M34 rfl _
  have fz : e_fr (fun y k => y = so ∧ (k = 15 ∨ k = 16 ∨ k = 18 ∨ k = 19)) M19 (g_wi (g_wi (g_wi (g_wi M19 so 15 0) so 16 0) so 18 0) so 19 0) := (((e_fr.wi _ ⟨rfl, Or.inl rfl⟩).tr (e_fr.wi _ ⟨rfl, Or.inr (Or.inl rfl)⟩)).tr (e_fr.wi _ ⟨rfl, Or.inr (Or.inr (Or.inl rfl))⟩)).tr (e_fr.wi _ ⟨rfl, Or.inr (Or.inr (Or.inr rfl))⟩)
  have hkeep : ∀ {o : Nat} {lo lim : Int} {x : List Int} {Ma Mb : g_M} {S : Nat → Int → Prop}, c_Wr o b 246408 lo lim x Ma → e_fr S Ma Mb → (∀ k, ¬ S o k) → (∀ k, ¬ S b k) → c_Wr o b 246408 lo lim x Mb := by
    intro o lo lim x Ma Mb S h f k1 k2
    obtain ⟨⟨v1, v2, v3, v4⟩, v5, v6, v7⟩ := h
    refine ⟨⟨f.O v1, by rw [f.2.2]; exact v2, f.A v3, v4⟩, v5, v6, ?_⟩
    unfold w_W at v7 ⊢
    have e1 : g_i Mb o = g_i Ma o := funext fun k => f.2.1 o k (k1 k)
    have e2 : g_i Mb b = g_i Ma b := funext fun k => f.2.1 b k (k2 k)
    rw [e1, e2]
    exact v7
  have W13' := hkeep (hkeep W13 f19 (fun k z => hne z.1) (fun k z => n4 z.1.symm)) fz (fun k z => n1 z.1.symm) fun k z => g_neOA s1 s3 z.1.symm
  have W19' := hkeep W19 fz (fun k z => n2 z.1.symm) fun k z => g_neOA s1 s3 z.1.symm
  refine hq _ (f19'.tr (fz.up fun y k z => Or.inl ⟨z.1, by have := z.2; omega, by have := z.2; omega⟩)) W13' W19' ?_ ?_ (Or.inl ⟨?_, S_bad_nil, ?_, ?_, fun i hi => absurd hi (by simp)⟩)
  · rw [fz.2.1 so 17 fun z => by have := z.2; omega, f19.2.1 so 17 fun z => n2 z.1, f13.2.1 so 17 fun z => n1 z.1]
    exact e17
  · rw [g_i_wi, if_pos ⟨rfl, rfl⟩]
  · rw [g_i_wi, if_neg (by omega), g_i_wi, if_pos ⟨rfl, rfl⟩]
  · rw [g_i_wi, if_neg (by omega), g_i_wi, if_neg (by omega), g_i_wi, if_neg (by omega), g_i_wi, if_pos ⟨rfl, rfl⟩]
    rfl
  · rw [g_i_wi, if_neg (by omega), g_i_wi, if_neg (by omega), g_i_wi, if_pos ⟨rfl, rfl⟩]
    rfl
theorem c_endFresh {d : Nat} {Q : Int → g_M → Prop} {J : Int} (hS : S_B so b M) (h6 : g_r M so 6 = some be) (h7 : g_r M so 7 = some fr) (hbe : g_A M be 1 200) (hfr : g_A M fr 1 200) (hne : be ≠ fr) (hF : S_F so fr lo J ds M) (hq5 : S_bad ds → Q 5 M) (hq0 : ¬ S_bad ds → ∀ M1, e_fr (fun y k => (y = so ∧ k = 14) ∨ y = be) M M1 → g_i M1 so 14 = ds.length → (∀ i : Nat, i < ds.length → g_i M1 be i = lo + (S_wr (ds.take i)).length) → Q 0 M1) : g_Call (d + 1) 144 [.ref so] M (g_qI Q) := by
  obtain ⟨s1, s2, s3⟩ := id hS
  have n1 : so ≠ be := g_neOA s1 hbe
  refine m_X9_endFresh fun _ => ⟨s1, ?_⟩
  rcases hF with ⟨a1, a2, a3, a4, a5⟩ | ⟨a1, a2, -⟩
  · have hl : ¬ 200 < ds.length := fun z => a2 (Or.inl z)
    refine ⟨fun _ => ⟨fr, h7, be, h6, _, hfr, _, hbe, ⟨by decide, by decide, by omega, by omega, by omega⟩, ?_⟩, fun g => absurd a1 g⟩
    rintro M11 rfl _
    rintro M15 rfl _
    have hcp : ∀ y k, g_i (g_cp M fr be 0 0 (g_i M so 15)) y k = if y = be ∧ 0 ≤ k ∧ k < 0 + g_i M so 15 then g_i M fr (0 + (k - 0)) else g_i M y k := fun _ _ => rfl
    have e15 : g_i (g_cp M fr be 0 0 (g_i M so 15)) so 15 = g_i M so 15 := by rw [hcp, if_neg fun z => n1 z.1]
    have f11 : e_fr (fun y k => (y = so ∧ k = 14) ∨ y = be) M (g_cp M fr be 0 0 (g_i M so 15)) := ⟨rfl, fun y k hy => by rw [hcp, if_neg fun z => hy (Or.inr z.1)], fun _ _ => rfl⟩
    refine hq0 a2 _ (f11.tr (e_fr.wi _ (Or.inl ⟨rfl, rfl⟩))) ?_ fun i hi => ?_
    · rw [g_i_wi, if_pos ⟨rfl, rfl⟩, e15, a3]
    · rw [g_i_wi, if_neg fun z => n1 z.1.symm, hcp, if_pos ⟨rfl, by omega, by omega⟩, show (0 : Int) + ((i : Int) - 0) = i by omega]
      exact a5 i hi
  · exact ⟨fun g => absurd (a1.symm.trans g) (by decide), fun _ => hq5 a2⟩
end SEND
def E_wr (ds : List (List b_E)) : List Int := ds.flatMap fun es => b_doc es
theorem E_wr_snoc (ds : List (List b_E)) (es : List b_E) : E_wr (ds ++ [es]) = E_wr ds ++ b_doc es := by
  unfold E_wr
  simp
theorem E_wr_len : ∀ ds : List (List b_E), (E_wr ds).length = S_sum ds := by
  intro ds
  induction ds with
  | nil => rfl
  | cons es ds ih =>
    have h1 : E_wr (es :: ds) = b_doc es ++ E_wr ds := rfl
    have h2 : S_sum (es :: ds) = (b_doc es).length + S_sum ds := rfl
    rw [h1, h2, List.length_append, ih]
/-- how the reference has them -/
def E_F (m ma : Nat) (lo : Int) (ds : List (List b_E)) (M : g_M) : Prop := (g_i M m 25 = 0 ∧ ds.length ≤ 200 ∧ g_i M m 23 = ds.length ∧ ∀ i : Nat, i < ds.length → w_r lo (lo + 60000) (g_i M ma i) (E_wr (ds.take i)).length) ∨ (g_i M m 25 = 1 ∧ 200 < ds.length)
section EEND
variable {m b ma be : Nat} {M M1 : g_M} {lo : Int} {ds : List (List b_E)} {es : List b_E}
theorem E_F.fr (h : E_F m ma lo ds M) (h1 : ∀ k, (k = 23 ∨ k = 25) → g_i M1 m k = g_i M m k) (h2 : ∀ k, g_i M1 ma k = g_i M ma k) : E_F m ma lo ds M1 := by
  unfold E_F
  rw [h1 23 (by decide), h1 25 (by decide)]
  rcases h with ⟨a1, a2, a3, a4⟩ | h
  · exact Or.inl ⟨a1, a2, a3, fun i hi => by rw [h2]; exact a4 i hi⟩
  · exact Or.inr h
theorem e_deliver {d : Nat} {Q : g_M → Prop} {r : Int} (hR : e_R M m b) (h22 : g_r M m 22 = some ma) (hma : g_A M ma 1 200) (hr : w_r lo (lo + 60000) r (E_wr ds).length) (hrR : g_InR r) (hF : E_F m ma lo ds M) (hq : ∀ M1, e_fr (fun y k => (y = m ∧ (k = 23 ∨ k = 25)) ∨ y = ma) M M1 → E_F m ma lo (ds ++ [es]) M1 → Q M1) : g_Call (d + 1) 336 [.ref m, g_n r] M (g_qV Q) := by
  have n1 : m ≠ ma := g_neOA hR.1 hma
  have h15 : ∀ M2, e_fr (fun y k => (y = m ∧ (k = 23 ∨ k = 25)) ∨ y = ma) M M2 → ((g_i M2 m 25 = 1 ∧ 200 ≤ ds.length) ∨ (g_i M2 m 25 = 0 ∧ ds.length < 200 ∧ g_i M2 m 23 = ds.length ∧ ∀ i : Nat, i < ds.length → w_r lo (lo + 60000) (g_i M2 ma i) (E_wr (ds.take i)).length)) → g_Run d 336 15 [(0, .ref m), (1, g_n r)] [] M2 (g_qV Q) := by
    intro M2 f2 hc
    refine s_X12_deliver_15 hrR fun _ => ⟨f2.O hR.1, ?_⟩
    rcases hc with ⟨c1, c2⟩ | ⟨c1, c2, c3, c4⟩
    · exact ⟨fun g => absurd (c1.symm.trans g) (by decide), fun _ => hq M2 f2 (Or.inr ⟨c1, by rw [List.length_append, List.length_singleton]; omega⟩)⟩
    · refine ⟨fun _ => ⟨ma, by rw [f2.2.2]; exact h22, _, f2.A hma, by rw [c3]; exact ⟨by omega, by omega⟩, ?_⟩, fun g => absurd c1 g⟩
      rw [c3]
      rintro M7 rfl _
      have e23 : g_i (g_wi M2 ma ds.length r) m 23 = ds.length := by rw [g_i_wi, if_neg fun z => n1 z.1, c3]
      rw [e23]
      refine ⟨⟨by omega, by omega⟩, ?_⟩
      rintro M12 rfl _
      refine hq _ ((f2.tr (e_fr.wi (a := ma) (k := (ds.length : Int)) r (Or.inr rfl))).tr (e_fr.wi (a := m) (k := 23) ((ds.length : Int) + 1) (Or.inl ⟨rfl, Or.inl rfl⟩))) (Or.inl ⟨?_, ?_, ?_, fun i hi => ?_⟩)
      · rw [g_i_wi, if_neg (by omega), g_i_wi, if_neg fun z => n1 z.1]
        exact c1
      · rw [List.length_append, List.length_singleton]
        omega
      · rw [g_i_wi, if_pos ⟨rfl, rfl⟩, List.length_append, List.length_singleton]
        omega
      · rw [List.length_append, List.length_singleton] at hi
        rw [g_i_wi, if_neg fun z => n1 z.1.symm, g_i_wi]
        by_cases hil : i = ds.length
        · rw [if_pos ⟨rfl, by omega⟩, hil, List.take_left']
          · exact hr
          · rfl
        · rw [if_neg (by omega), List.take_append_of_le_length (by omega)]
          exact c4 i (by omega)
  refine m_X12_deliver hrR fun _ => ⟨hR.1, ?_⟩
  rcases hF with ⟨a1, a2, a3, a4⟩ | ⟨a1, a2⟩
  · refine ⟨fun g => ?_, fun g => h15 M (e_fr.rf _ _) (Or.inr ⟨a1, by omega, a3, a4⟩)⟩
    rintro M2 rfl _
    exact h15 _ (e_fr.wi _ (Or.inl ⟨rfl, Or.inr rfl⟩)) (Or.inl ⟨by rw [g_i_wi, if_pos ⟨rfl, rfl⟩], by omega⟩)
  · refine ⟨fun g => ?_, fun g => h15 M (e_fr.rf _ _) (Or.inl ⟨a1, by omega⟩)⟩
    rintro M2 rfl _
    exact h15 _ (e_fr.wi _ (Or.inl ⟨rfl, Or.inr rfl⟩)) (Or.inl ⟨by rw [g_i_wi, if_pos ⟨rfl, rfl⟩], by omega⟩)
theorem e_beginMaking {d : Nat} {Q : g_M → Prop} {g : Int} (hR : e_R M m b) (hma : g_A M ma 1 200) (hg : g_i M m 24 = g) (hg01 : g = 0 ∨ g = 1) (hq : ∀ M1, e_fr (fun y k => y = m ∧ ((4 ≤ k ∧ k ≤ 6) ∨ (23 ≤ k ∧ k ≤ 25))) M M1 → e_Wr m b (802000 + 60000 * (1 - g)) (802000 + 60000 * (1 - g) + 60000) [] M1 → g_i M1 m 24 = 1 - g → E_F m ma (802000 + 60000 * (1 - g)) [] M1 → Q M1) : g_Call (d + 2) 337 [.ref m] M (g_qV Q) := by
  have n1 : m ≠ ma := g_neOA hR.1 hma
  refine m_X12_beginMaking fun _ => ⟨hR.1, by rw [hg]; exact ⟨by omega, by omega⟩, ?_⟩
  rw [hg]
  rintro M3 rfl _ M7 rfl _ M11 rfl _
  have f11 : e_fr (fun y k => y = m ∧ (23 ≤ k ∧ k ≤ 25)) M (g_wi (g_wi (g_wi M m 24 (1 - g)) m 23 0) m 25 0) := ((e_fr.wi _ ⟨rfl, by decide, by decide⟩).tr (e_fr.wi _ ⟨rfl, by decide, by decide⟩)).tr (e_fr.wi _ ⟨rfl, by decide, by decide⟩)
  have e24 : g_i (g_wi (g_wi (g_wi M m 24 (1 - g)) m 23 0) m 25 0) m 24 = 1 - g := by rw [g_i_wi, if_neg (by omega), g_i_wi, if_neg (by omega), g_i_wi, if_pos ⟨rfl, rfl⟩]
  have e23 : g_i (g_wi (g_wi (g_wi M m 24 (1 - g)) m 23 0) m 25 0) m 23 = 0 := by rw [g_i_wi, if_neg (by omega), g_i_wi, if_pos ⟨rfl, rfl⟩]
  have e25 : g_i (g_wi (g_wi (g_wi M m 24 (1 - g)) m 23 0) m 25 0) m 25 = 0 := by rw [g_i_wi, if_pos ⟨rfl, rfl⟩]
  rw [e24]
  refine ⟨⟨by omega, by omega⟩, ⟨by omega, by omega⟩, ⟨by omega, by omega⟩, ⟨by omega, by omega⟩, ⟨by omega, by omega⟩, e_write (d := d) (f11.R hR) (by omega) (by omega) (by omega) fun M1 f1 W1 => ?_⟩
  intro _ _
  refine hq M1 ((f11.up fun y k z => ⟨z.1, Or.inr z.2⟩).tr (f1.up fun y k z => ⟨z.1, Or.inl (by have := z.2; omega)⟩)) W1 ?_ (Or.inl ⟨?_, by simp, ?_, fun i hi => absurd hi (by simp)⟩)
  · rw [f1.2.1 m 24 fun z => by have := z.2; omega]
    exact e24
  · rw [f1.2.1 m 25 fun z => by have := z.2; omega]
    exact e25
  · rw [f1.2.1 m 23 fun z => by have := z.2; omega]
    exact e23
theorem e_endMaking {d : Nat} {Q : Int → g_M → Prop} (h22 : g_r M m 22 = some ma) (h18 : g_r M m 18 = some be) (hma : g_A M ma 1 200) (hbe : g_A M be 1 200) (hne : be ≠ ma) (hW : e_Wr m b lo (lo + 60000) (E_wr ds) M) (hlo : 0 ≤ lo) (hlo2 : lo ≤ 900000) (hg : ∀ es ∈ ds, X_gd 30 es) (hF : E_F m ma lo ds M) (hq5 : S_bad ds → Q 5 M) (hq0 : ¬ S_bad ds → ∀ M1, e_fr (fun y k => (y = m ∧ k = 19) ∨ y = be) M M1 → g_i M1 m 19 = ds.length → (∀ i : Nat, i < ds.length → g_i M1 be i = lo + (E_wr (ds.take i)).length) → Q 0 M1) : g_Call (d + 70) 338 [.ref m] M (g_qI Q) := by
  have hR := hW.1
  have n1 : m ≠ ma := g_neOA hR.1 hma
  have n2 : m ≠ be := g_neOA hR.1 hbe
  have hbad5 : 60000 < (E_wr ds).length → S_bad ds := fun h => Or.inr (Or.inl (by rw [E_wr_len] at h; omega))
  refine m_X12_endMaking fun _ => ⟨hR.1, ?_⟩
  rcases hW.2.2.2.2 with ⟨w1, w2, w3, w4⟩ | ⟨w1, w2, w3, w4⟩
  · refine ⟨fun _ => ?_, fun g => absurd w1 g⟩
    rcases hF with ⟨a1, a2, a3, a4⟩ | ⟨a1, a2⟩
    · refine ⟨fun _ => ?_, fun g => absurd a1 g⟩
      have hpl : ∀ i : Nat, i < ds.length → g_i M ma i = lo + (E_wr (ds.take i)).length := by
        intro i hi
        obtain ⟨r1, r2, r3⟩ := a4 i hi
        rcases r3 with r3 | r3
        · exact r3
        · have : (E_wr ds).length = (E_wr (ds.take i)).length + (E_wr (ds.drop i)).length := by
            rw [← List.length_append]
            unfold E_wr
            rw [← List.flatMap_append, List.take_append_drop]
          omega
      -- the last loop
      have h92 : ∀ (n i : Nat) (v1 : Int) (M2 : g_M), i + n = ds.length → ¬ S_bad ds → g_InR v1 → e_fr (fun y k => (y = m ∧ k = 19) ∨ y = be) M M2 → g_i M2 m 19 = ds.length → (∀ j : Nat, j < i → g_i M2 be j = lo + (E_wr (ds.take j)).length) → g_Run (d + 69) 338 92 [(0, .ref m), (1, g_n v1), (2, g_n i)] [] M2 (g_qI Q) := by
        intro n
        induction n with
        | zero =>
          intro i v1 M2 hin hnb hv1 f2 h19 hj
          have e23 : g_i M2 m 23 = ds.length := by rw [f2.2.1 m 23 fun z => by rcases z with ⟨-, z⟩ | z; omega; exact n2 z]; exact a3
          refine s_X12_endMaking_92 hv1 ⟨by omega, by omega⟩ fun _ => ⟨f2.O hR.1, fun g => absurd g (by omega), fun _ => hq0 hnb M2 f2 h19 fun j hj' => hj j (by omega)⟩
        | succ n ih =>
          intro i v1 M2 hin hnb hv1 f2 h19 hj
          have e23 : g_i M2 m 23 = ds.length := by rw [f2.2.1 m 23 fun z => by rcases z with ⟨-, z⟩ | z; omega; exact n2 z]; exact a3
          have ema : g_i M2 ma i = lo + (E_wr (ds.take i)).length := by rw [f2.2.1 ma i fun z => by rcases z with ⟨z, -⟩ | z; exact n1 z.symm; exact hne z.symm]; exact hpl i (by omega)
          refine s_X12_endMaking_92 hv1 ⟨by omega, by omega⟩ fun _ => ⟨f2.O hR.1, fun _ => ⟨be, by rw [f2.2.2]; exact h18, ma, by rw [f2.2.2]; exact h22, _, f2.A hma, ⟨by omega, by omega⟩, _, f2.A hbe, ⟨by omega, by omega⟩, ?_⟩, fun g => absurd (by omega) g⟩
          rw [ema]
          rintro M12 rfl _
          refine ⟨⟨by omega, by omega⟩, ?_⟩
          have h9 := ih (i + 1) v1 (g_wi M2 be i (lo + (E_wr (ds.take i)).length)) (by omega) hnb hv1 (f2.tr (e_fr.wi _ (Or.inr rfl))) (by rw [g_i_wi, if_neg fun z => n2 z.1]; exact h19) fun j hj' => ?_
          · rwa [show ((i + 1 : Nat) : Int) = (i : Int) + 1 by omega] at h9
          · rw [g_i_wi]
            by_cases hji : (j : Int) = i
            · rw [if_pos ⟨rfl, hji⟩, show j = i by omega]
            · rw [if_neg fun z => hji z.2]
              exact hj j (by omega)
      have h20 : ∀ (ds2 ds1 : List (List b_E)), ds = ds1 ++ ds2 → (∀ es ∈ ds1, ¬ (2000 < (b_doc es).length ∨ 16 < b_dp 31 1 es)) → g_Run (d + 69) 338 20 [(0, .ref m), (1, g_n (S_sum ds1)), (2, g_n ds1.length)] [] M (g_qI Q) := by
        intro ds2
        induction ds2 with
        | nil =>
          intro ds1 h1 h2
          rw [List.append_nil] at h1
          subst h1
          have hsl := E_wr_len ds
          refine s_X12_endMaking_20 ⟨by omega, by omega⟩ ⟨by omega, by omega⟩ fun _ => ⟨hR.1, fun g => absurd g (by omega), fun _ => ⟨fun g => hq5 (Or.inr (Or.inl (by omega))), fun g => ?_⟩⟩
          rintro M2 rfl _
          rw [a3]
          have hnb : ¬ S_bad ds := by
            rintro (z | z | ⟨e, he, z⟩)
            · omega
            · omega
            · exact h2 e he z
          exact h92 ds.length 0 _ _ (by omega) hnb ⟨by omega, by omega⟩ (e_fr.wi _ (Or.inl ⟨rfl, rfl⟩)) (by rw [g_i_wi, if_pos ⟨rfl, rfl⟩]) fun j hj => absurd hj (by omega)
        | cons es ds2 ih =>
          intro ds1 h1 h2
          have hl := congrArg List.length h1
          rw [List.length_append, List.length_cons] at hl
          have htk : ds.take ds1.length = ds1 := by rw [h1, List.take_left']; rfl
          have hp := hpl ds1.length (by omega)
          rw [htk] at hp
          have hges := hg es (by rw [h1]; simp)
          have hwr : E_wr ds = E_wr ds1 ++ (b_doc es ++ E_wr ds2) := by
            rw [h1]
            unfold E_wr
            simp
          have hat : b_at (g_i M b) (lo + (E_wr ds1).length) (b_doc es) := by
            rw [hwr] at w4
            exact (b_app.mp (b_app.mp w4).2).1
          have hwl := congrArg List.length hwr
          rw [List.length_append, List.length_append] at hwl
          have hs1 := E_wr_len ds1
          have hs0 := E_wr_len ds
          have hdl := b_doc_len es
          refine s_X12_endMaking_20 ⟨by omega, by omega⟩ ⟨by omega, by omega⟩ fun _ => ⟨hR.1, fun _ => ⟨ma, h22, _, hma, ⟨by omega, by omega⟩, ?_⟩, fun g => absurd (by omega) g⟩
          rw [hp]
          refine e_int4 (d := d + 67) hR (by omega) (by omega) ?_
          rw [e_w4doc hat (by omega)]
          intro _ _ _
          refine ⟨⟨by omega, by omega⟩, fun g => hq5 (Or.inr (Or.inr ⟨es, by rw [h1]; simp, Or.inl (by omega)⟩)), fun g => ⟨ma, h22, _, hma, ⟨by omega, by omega⟩, ?_⟩⟩
          rw [hp]
          have htd : e_tl (g_i M b) (lo + (E_wr ds1).length) (lo + (E_wr ds1).length + 4) 30 es es := e_tl.start hat hges (by omega) (by omega)
          refine e_depth (dd := d + 69) hR 30 (by omega) htd (by decide) ?_
          intro _ _ _
          refine ⟨fun g2 => hq5 (Or.inr (Or.inr ⟨es, by rw [h1]; simp, Or.inr g2⟩)), fun g2 => ⟨⟨by omega, by omega⟩, ?_⟩⟩
          have h9 := ih (ds1 ++ [es]) (by rw [h1]; simp) fun e he => ?_
          · rwa [S_sum_snoc, List.length_append, List.length_singleton, show ((S_sum ds1 + (b_doc es).length : Nat) : Int) = (S_sum ds1 : Int) + (b_doc es).length by omega, show ((ds1.length + 1 : Nat) : Int) = (ds1.length : Int) + 1 by omega] at h9
          · rcases List.mem_append.mp he with he | he
            · exact h2 e he
            · rw [List.mem_singleton.mp he]
              rintro (z | z)
              · omega
              · exact g2 z
      exact h20 ds [] rfl fun e he => absurd he (by simp)
    · exact ⟨fun g => absurd (a1.symm.trans g) (by decide), fun _ => hq5 (Or.inl a2)⟩
  · refine ⟨fun g => absurd (w1.symm.trans g) (by decide), fun _ => hq5 (hbad5 (by omega))⟩
end EEND
