/-! WRITING: the class's named ones; the reference -/
section OUT2
variable {d o buf : Nat} {n lo lim : Int} {x : List Int} {M : g_M} {Q : g_M → Prop}
theorem c_named2 {j : Nat} {v : Int} (hj : j < q_nS) (h : c_Wr o buf n lo lim x M) (hv : g_InR v) (hq : ∀ M1, e_fr (c_WL o buf lo lim) M M1 → c_Wr o buf n lo lim (x ++ b_el 16 (b_tx j) (b_le4 v)) M1 → Q M1) : g_Call (d + 4) 87 [.ref o, .ref (4 * j + 1), g_n v] M (g_qV Q) := by
  refine m_X4_named hj hv fun _ => ⟨h.1.1, c_head hj h (by decide) (by decide) fun M1 f1 W1 => fun _ _ => c_put4 W1 hv fun M2 f2 W2 => fun _ _ => hq M2 (f1.tr f2) ?_⟩
  have e : x ++ b_el 16 (b_tx j) (b_le4 v) = x ++ (16 :: (b_tx j ++ [0])) ++ b_le4 v := by
    unfold b_el
    simp
  rw [e]
  exact W2
theorem c_namedT {j : Nat} {v : Bool} (hj : j < q_nS) (h : c_Wr o buf n lo lim x M) (hq : ∀ M1, e_fr (c_WL o buf lo lim) M M1 → c_Wr o buf n lo lim (x ++ b_el 8 (b_tx j) [if v = true then 1 else 0]) M1 → Q M1) : g_Call (d + 4) 88 [.ref o, .ref (4 * j + 1), g_n (if v = true then 1 else 0)] M (g_qV Q) := by
  have e : ∀ w : Int, x ++ b_el 8 (b_tx j) [w] = x ++ (8 :: (b_tx j ++ [0])) ++ [w] := by
    intro w
    unfold b_el
    simp
  rw [e] at hq
  refine m_X4_namedTruth hj (u_bR v) fun _ => ⟨h.1.1, c_head hj h (by decide) (by decide) fun M1 f1 W1 => fun _ _ => ?_⟩
  cases v
  · exact ⟨fun _ => c_put W1 ⟨by decide, by decide⟩ fun M2 f2 W2 => fun _ _ => hq M2 (f1.tr f2) W2, fun g => absurd rfl g⟩
  · exact ⟨fun g => absurd g (by decide), fun _ => c_put W1 ⟨by decide, by decide⟩ fun M2 f2 W2 => fun _ _ => hq M2 (f1.tr f2) W2⟩
/-- an Out begins somewhere -/
theorem c_start {lo lim : Int} (h1 : g_O M o 4) (h2 : g_r M o 0 = some buf) (h3 : g_A M buf 0 n) (h4 : n ≤ 1000000000) (h5 : 0 ≤ lo) (h6 : lo ≤ lim) (h7 : lim ≤ n) (hq : ∀ M1, e_fr (fun y k => y = o ∧ (k = 1 ∨ k = 2 ∨ k = 3)) M M1 → c_Wr o buf n lo lim [] M1 → Q M1) : g_Call (d + 1) 75 [.ref o, g_n lo, g_n lim] M (g_qV Q) := by
  have hob : o ≠ buf := g_neOA h1 h3
  refine m_X4_start ⟨by omega, by omega⟩ ⟨by omega, by omega⟩ fun _ => ⟨h1, fun M2 e2 _ => ⟨buf, by subst e2; exact h2, n, by subst e2; exact h3, ⟨by omega, by omega⟩, fun M11 e11 _ M15 e15 _ => ?_⟩⟩
  rw [show max lo 0 = lo by omega] at e2
  rw [show min lim n = lim by omega] at e11
  subst e2
  subst e11
  subst e15
  refine hq _ (((e_fr.wi _ ⟨rfl, Or.inl rfl⟩).tr (e_fr.wi _ ⟨rfl, Or.inr (Or.inl rfl)⟩)).tr (e_fr.wi _ ⟨rfl, Or.inr (Or.inr rfl)⟩)) ⟨⟨h1, h2, h3, h4⟩, h5, h7, ?_, Or.inl ⟨?_, ?_, ?_, b_nil _ _⟩⟩
  · rw [g_i_wi, if_neg (by omega), g_i_wi, if_pos ⟨rfl, rfl⟩]
  · rw [g_i_wi, if_pos ⟨rfl, rfl⟩]
  · rw [g_i_wi, if_neg (by omega), g_i_wi, if_neg (by omega), g_i_wi, if_pos ⟨rfl, rfl⟩, List.length_nil]
    omega
  · rw [List.length_nil]
    omega
end OUT2
def e_Wr (m b : Nat) (lo lim : Int) (x : List Int) (M : g_M) : Prop := e_R M m b ∧ 0 ≤ lo ∧ lim ≤ 2706210 ∧ w_W m b 4 5 6 lo lim x M
def e_WL (m b : Nat) (lo lim : Int) : Nat → Int → Prop := w_L m b 4 6 lo lim
theorem e_Wr.to {m b : Nat} {lo lim : Int} {x y : List Int} {M M1 : g_M} (h : e_Wr m b lo lim x M) (f : e_fr (e_WL m b lo lim) M M1) (hw : w_W m b 4 5 6 lo lim y M1) : e_Wr m b lo lim y M1 := ⟨f.R h.1, h.2.1, h.2.2.1, hw⟩
section EOUT
variable {d m b : Nat} {lo lim : Int} {x : List Int} {M : g_M} {Q : g_M → Prop}
theorem e_put {v : Int} (h : e_Wr m b lo lim x M) (hv : g_InR v) (hq : ∀ M1, e_fr (e_WL m b lo lim) M M1 → e_Wr m b lo lim (x ++ [g_w8 v]) M1 → Q M1) : g_Call (d + 1) 246 [.ref m, g_n v] M (g_qV Q) := by
  have h0 := h
  obtain ⟨⟨h1, h2, h3⟩, h5, h6, h7⟩ := h
  have hR := h7.R
  have hl := h7.1
  have hob : m ≠ b := g_neOA h1 h3
  refine m_X12_put hv fun _ => ⟨h1, fun g => ⟨b, h2, _, h3, ⟨by omega, by omega⟩, fun M20 e20 _ => ?_⟩, fun g M2 e2 _ => ?_⟩
  · subst e20
    have e21 : g_i (g_wi M b (g_i M m 4) (g_w8 (g_w8 v))) m 4 = g_i M m 4 := by rw [g_i_wi, if_neg (fun z => hob z.1)]
    rw [e21]
    refine ⟨⟨by omega, by omega⟩, fun M25 e25 _ => ?_⟩
    subst e25
    obtain ⟨a1, a2⟩ := h7.put1 hob (by decide) (by decide) (g_w8 (g_w8 v)) (by omega)
    rw [g_w88] at a1 a2 ⊢
    exact hq _ a2 (h0.to a2 a1)
  · subst e2
    obtain ⟨a1, a2⟩ := h7.fail (by decide) (by decide) [g_w8 v] (Or.inr (h7.full (by rw [List.length_singleton]; omega)))
    exact hq _ a2 (h0.to a2 a1)
theorem e_putInt {v : Int} (h : e_Wr m b lo lim x M) (hv : g_InR v) (hq : ∀ M1, e_fr (e_WL m b lo lim) M M1 → e_Wr m b lo lim (x ++ b_le4 v) M1 → Q M1) : g_Call (d + 2) 247 [.ref m, g_n v] M (g_qV Q) := by
  have hstep : ∀ (i w : Int) (x : List Int) (M1 : g_M), 0 ≤ i → i < 4 → g_w8 (g_w8 (g_shr v (8 * i))) = w → e_Wr m b lo lim x M1 → (∀ M2, e_fr (e_WL m b lo lim) M1 M2 → e_Wr m b lo lim (x ++ [w]) M2 → g_Run (d + 1) 247 2 [(0, .ref m), (1, g_n v), (2, g_n (i + 1))] [] M2 (g_qV Q)) → g_Run (d + 1) 247 2 [(0, .ref m), (1, g_n v), (2, g_n i)] [] M1 (g_qV Q) := by
    intro i w x M1 hi0 hi4 hw hW hq
    rw [g_w88] at hw
    refine s_X12_putInt_2 hv ⟨by omega, by omega⟩ fun _ => ⟨fun _ => ⟨⟨by omega, by omega⟩, hW.1.1, e_put hW (g_InR_toInt _) fun M2 f2 W2 => fun _ _ => ⟨⟨by omega, by omega⟩, hq M2 f2 (by rw [← hw]; exact W2)⟩⟩, fun g => absurd (by omega) g⟩
  refine m_X12_putInt hv fun _ => hstep 0 _ x M (by decide) (by decide) (le4_0 hv) h fun M1 f1 W1 => hstep 1 _ _ M1 (by decide) (by decide) (le4_1 hv) W1 fun M2 f2 W2 => hstep 2 _ _ M2 (by decide) (by decide) (le4_2 hv) W2 fun M3 f3 W3 => hstep 3 _ _ M3 (by decide) (by decide) (le4_3 hv) W3 fun M4 f4 W4 => ?_
  refine s_X12_putInt_2 hv ⟨by decide, by decide⟩ fun _ => ⟨fun g => absurd g (by decide), fun _ => hq _ (((f1.tr f2).tr f3).tr f4) ?_⟩
  rw [List.append_assoc, List.append_assoc, List.append_assoc] at W4
  exact W4
theorem e_putBytes {p : Int} {y : List Int} (h : e_Wr m b lo lim x M) (hy : b_at (g_i M b) p y) (h0 : 0 ≤ p) (h1 : p + y.length ≤ 2706210) (hdis : p + y.length ≤ lo ∨ lim ≤ p) (hq : ∀ M1, e_fr (e_WL m b lo lim) M M1 → e_Wr m b lo lim (x ++ y) M1 → Q M1) : g_Call (d + 2) 248 [.ref m, g_n p, g_n (p + y.length)] M (g_qV Q) := by
  have hlp : ∀ (z : List Int) (i : Int) (x1 : List Int) (M1 : g_M), e_fr (e_WL m b lo lim) M M1 → p ≤ i → i + z.length = p + y.length → b_at (g_i M b) i z → e_Wr m b lo lim x1 M1 → (∀ M2, e_fr (e_WL m b lo lim) M M2 → e_Wr m b lo lim (x1 ++ z) M2 → Q M2) → g_Run (d + 1) 248 2 [(0, .ref m), (1, g_n p), (2, g_n (p + y.length)), (3, g_n i)] [] M1 (g_qV Q) := by
    intro z
    induction z with
    | nil =>
      intro i x1 M1 f1 hi hiz hz W1 hq
      rw [List.length_nil] at hiz
      rw [List.append_nil] at hq
      exact s_X12_putBytes_2 ⟨by omega, by omega⟩ ⟨by omega, by omega⟩ ⟨by omega, by omega⟩ fun _ => ⟨fun g => absurd g (by omega), fun _ => hq M1 f1 W1⟩
    | cons c z ih =>
      intro i x1 M1 f1 hi hiz hz W1 hq
      rw [List.length_cons] at hiz
      obtain ⟨z1, z2⟩ := b_cons.mp hz
      refine s_X12_putBytes_2 ⟨by omega, by omega⟩ ⟨by omega, by omega⟩ ⟨by omega, by omega⟩ fun hok => ⟨fun _ => ⟨W1.1.1, b, W1.1.2.1, _, W1.1.2.2, ⟨by omega, by omega⟩, ?_⟩, fun g => absurd (by omega) g⟩
      have hmb : m ≠ b := g_neOA W1.1.1 W1.1.2.2
      have hb := hok.byte W1.1.2.2 i
      have e1 : g_i M1 b i = c := by
        rw [f1.2.1 b i (fun g => by
          rcases g with ⟨g, -⟩ | ⟨-, g1, g2⟩
          · exact hmb g.symm
          · rcases hdis with hd | hd <;> omega)]
        exact z1
      rw [e1] at hb ⊢
      refine e_put W1 ⟨by omega, by omega⟩ fun M2 f2 W2 => fun _ _ => ⟨⟨by omega, by omega⟩, ?_⟩
      rw [g_w8_of hb.1 hb.2] at W2
      exact ih (i + 1) _ M2 (f1.tr f2) (by omega) (by omega) z2 W2 fun M3 f3 W3 => hq M3 f3 (by rw [List.append_assoc] at W3; exact W3)
  exact m_X12_putBytes ⟨by omega, by omega⟩ ⟨by omega, by omega⟩ fun _ => hlp y p x M (e_fr.rf _ _) (Int.le_refl _) rfl hy h hq
theorem e_putWord {j : Nat} (hj : j < q_nS) (h : e_Wr m b lo lim x M) (hq : ∀ M1, e_fr (e_WL m b lo lim) M M1 → e_Wr m b lo lim (x ++ (b_tx j ++ [0])) M1 → Q M1) : g_Call (d + 3) 249 [.ref m, .ref (4 * j + 1)] M (g_qV Q) := by
  have hlen := (b_tx1 hj).2.2
  have hlp : ∀ (r i : Nat) (x1 : List Int) (M1 : g_M), i + r = (b_tx j).length → e_Wr m b lo lim x1 M1 → (∀ M2, e_fr (e_WL m b lo lim) M1 M2 → e_Wr m b lo lim (x1 ++ ((b_tx j).drop i ++ [0])) M2 → Q M2) → g_Run (d + 2) 249 2 [(0, .ref m), (1, .ref (4 * j + 1)), (2, g_n i)] [] M1 (g_qV Q) := by
    intro r
    induction r with
    | zero =>
      intro i x1 M1 hi W1 hq
      have hd : (b_tx j).drop i = [] := List.drop_eq_nil_of_le (by omega)
      rw [hd, List.nil_append] at hq
      refine s_X12_putWord_2 hj ⟨by omega, by omega⟩ fun _ => c_slen hj fun _ _ _ => ⟨fun g => absurd g (by omega), fun _ => ⟨W1.1.1, e_put W1 ⟨by decide, by decide⟩ fun M2 f2 W2 => fun _ _ => hq M2 f2 W2⟩⟩
    | succ r ih =>
      intro i x1 M1 hi W1 hq
      have hi2 : i < (b_tx j).length := by omega
      have hm : (b_tx j)[i] ∈ b_tx j := List.getElem_mem hi2
      have hcR := (b_tx1 hj).2.1 _ hm
      have hd : (b_tx j).drop i = (b_tx j)[i] :: (b_tx j).drop (i + 1) := List.drop_eq_getElem_cons hi2
      refine s_X12_putWord_2 hj ⟨by omega, by omega⟩ fun _ => c_slen hj fun _ _ _ => ⟨fun _ => c_charAt hj hi2 fun _ _ _ => ⟨W1.1.1, e_put W1 ⟨by omega, by omega⟩ fun M2 f2 W2 => fun _ _ => ⟨⟨by omega, by omega⟩, ?_⟩⟩, fun g => absurd (by omega) g⟩
      rw [b_tx_w8 hj hm] at W2
      have := ih (i + 1) _ M2 (by omega) W2 fun M3 f3 W3 => hq M3 (f2.tr f3) (by rw [hd]; rw [List.append_assoc] at W3; exact W3)
      rwa [show ((i + 1 : Nat) : Int) = (i : Int) + 1 by omega] at this
  exact m_X12_putWord hj fun _ => hlp (b_tx j).length 0 x M (by omega) h fun M2 f2 W2 => hq M2 f2 (by rw [List.drop_zero] at W2; exact W2)
theorem e_putDigits {i : Nat} (h : e_Wr m b lo lim x M) (hi : i < 10000) (hq : ∀ M1, e_fr (e_WL m b lo lim) M M1 → e_Wr m b lo lim (x ++ (b_dg i ++ [0])) M1 → Q M1) : g_Call (d + 2) 250 [.ref m, g_n i] M (g_qV Q) := by
  have hdiv : ∀ ten : Nat, (i : Int).tdiv ten = ((i / ten : Nat) : Int) := fun ten => by
    rw [Int.tdiv_eq_ediv_of_nonneg (by omega)]
    rfl
  have hD : ∀ (l ten : Nat) (x1 : List Int) (M1 : g_M), l ≤ 4 → (l = 0 → ten = 0) → (l = 1 → ten = 1) → (l = 2 → ten = 10) → (l = 3 → ten = 100) → (l = 4 → ten = 1000) → ten ≤ 1000 → e_Wr m b lo lim x1 M1 → (∀ M2, e_fr (e_WL m b lo lim) M1 M2 → e_Wr m b lo lim (x1 ++ (u_digs i l ten ++ [0])) M2 → Q M2) → g_Run (d + 1) 250 18 [(0, .ref m), (1, g_n i), (2, g_n ten)] [] M1 (g_qV Q) := by
    intro l
    induction l with
    | zero =>
      intro ten x1 M1 _ l0 _ _ _ _ _ W1 hq
      exact s_X12_putDigits_18 ⟨by omega, by omega⟩ ⟨by omega, by omega⟩ fun _ => ⟨fun g => absurd g (by omega), fun _ => ⟨W1.1.1, e_put W1 ⟨by decide, by decide⟩ fun M2 f2 W2 => fun _ _ => hq M2 f2 W2⟩⟩
    | succ l ih =>
      intro ten x1 M1 hl4 l0 l1 l2 l3 l4 ht W1 hq
      have ht0 : 0 < ten := by omega
      have e1 : ((i : Int).tdiv ten).tmod 10 = ((i / ten % 10 : Nat) : Int) := by
        rw [hdiv]
        generalize i / ten = K
        rw [Int.tmod_eq_emod_of_nonneg (by omega)]
        omega
      have e2 : (ten : Int).tdiv 10 = ((ten / 10 : Nat) : Int) := by
        rw [Int.tdiv_eq_ediv_of_nonneg (by omega)]
        omega
      refine s_X12_putDigits_18 ⟨by omega, by omega⟩ ⟨by omega, by omega⟩ fun _ => ⟨fun _ => ⟨by omega, ?_, W1.1.1, ?_⟩, fun g => absurd g (by omega)⟩
      · rw [e1]
        exact ⟨by omega, by omega⟩
      · rw [e1, e2]
        refine e_put W1 ⟨by omega, by omega⟩ fun M2 f2 W2 => fun _ _ => ?_
        rw [g_w8_of (by omega) (by omega)] at W2
        refine ih (ten / 10) _ M2 (by omega) (by omega) (by omega) (by omega) (by omega) (by omega) (by omega) W2 fun M3 f3 W3 => hq M3 (f2.tr f3) ?_
        rw [List.append_assoc] at W3
        exact W3
  have h2 : ∀ ten : Nat, ten ≤ 1000 → 0 < ten → (9 < i / ten → g_Run (d + 1) 250 2 [(0, .ref m), (1, g_n i), (2, g_n ((ten * 10 : Nat) : Int))] [] M (g_qV Q)) → (¬ 9 < i / ten → g_Run (d + 1) 250 18 [(0, .ref m), (1, g_n i), (2, g_n ten)] [] M (g_qV Q)) → g_Run (d + 1) 250 2 [(0, .ref m), (1, g_n i), (2, g_n ten)] [] M (g_qV Q) := by
    intro ten h1 h0 k1 k2
    refine s_X12_putDigits_2 ⟨by omega, by omega⟩ ⟨by omega, by omega⟩ fun _ => ⟨by omega, ?_⟩
    rw [hdiv]
    generalize i / ten = K at k1 k2 ⊢
    refine ⟨fun g => ⟨⟨by omega, by omega⟩, ?_⟩, fun g => k2 (by omega)⟩
    have := k1 (by omega)
    rwa [show ((ten * 10 : Nat) : Int) = (ten : Int) * 10 by omega] at this
  have hq2 : ∀ y, b_dg i = y → ∀ M2, e_fr (e_WL m b lo lim) M M2 → e_Wr m b lo lim (x ++ (y ++ [0])) M2 → Q M2 := fun y hy M2 f2 W2 => hq M2 f2 (by rw [hy]; exact W2)
  refine m_X12_putDigits ⟨by omega, by omega⟩ fun _ => h2 1 (by decide) (by decide) (fun g => ?_) (fun g => hD 1 1 x M (by decide) (by decide) (by decide) (by decide) (by decide) (by decide) (by decide) h (hq2 _ (by unfold b_dg; rw [if_pos (by omega)])))
  refine h2 10 (by decide) (by decide) (fun g => ?_) (fun g => hD 2 10 x M (by decide) (by decide) (by decide) (by decide) (by decide) (by decide) (by decide) h (hq2 _ (by unfold b_dg; rw [if_neg (by omega), if_pos (by omega)])))
  refine h2 100 (by decide) (by decide) (fun g => ?_) (fun g => hD 3 100 x M (by decide) (by decide) (by decide) (by decide) (by decide) (by decide) (by decide) h (hq2 _ (by unfold b_dg; rw [if_neg (by omega), if_neg (by omega), if_pos (by omega)])))
  exact h2 1000 (by decide) (by decide) (fun g => by omega) (fun g => hD 4 1000 x M (by decide) (by decide) (by decide) (by decide) (by decide) (by decide) (by decide) h (hq2 _ (by unfold b_dg; rw [if_neg (by omega), if_neg (by omega), if_neg (by omega)])))
theorem e_putValue {p k : Int} {D : Nat} {nm vb : List Int} (h : e_Wr m b lo lim x M) (hs : b_st (g_i M b) 2706210 p D k nm vb) (hdis : p + (b_el k nm vb).length ≤ lo ∨ lim ≤ p) (hq : ∀ M1, e_fr (e_WL m b lo lim) M M1 → e_Wr m b lo lim (x ++ vb) M1 → Q M1) : g_Call (d + 4) 253 [.ref m, g_n p] M (g_qV Q) := by
  obtain ⟨v1, v2, v3, v4⟩ := hs.val
  have hl := b_el_len k nm vb
  refine m_X12_putValue (hs.R (by decide)) fun _ => ⟨h.1.1, e_vl2 h.1 hs fun _ _ _ => ⟨b, h.1.2.1, _, h.1.2.2, ⟨by omega, by omega⟩, ?_⟩⟩
  rw [v4]
  refine e_lengthOf h.1 (b_gv_vs hs.2.2.1) v1 (by omega) (by omega) fun _ _ _ => ⟨⟨by omega, by omega⟩, e_putBytes h v1 (by omega) (by omega) (by omega) fun M1 f1 W1 => fun _ _ => hq M1 f1 W1⟩
theorem e_putAs {p q k : Int} {D : Nat} {y nm vb : List Int} (h : e_Wr m b lo lim x M) (hs : b_st (g_i M b) 2706210 p D k nm vb) (hdis : p + (b_el k nm vb).length ≤ lo ∨ lim ≤ p) (hy : b_at (g_i M b) q y) (h0 : 0 ≤ q) (h1 : q + y.length ≤ 2706210) (hdis2 : q + y.length ≤ lo ∨ lim ≤ q) (hq : ∀ M1, e_fr (e_WL m b lo lim) M M1 → e_Wr m b lo lim (x ++ b_el k y vb) M1 → Q M1) : g_Call (d + 5) 254 [.ref m, g_n q, g_n (q + y.length), g_n p] M (g_qV Q) := by
  obtain ⟨v1, v2, v3, v4⟩ := hs.val
  have hk := b_vs_pos (b_gv_vs hs.2.2.1)
  have hmb : m ≠ b := g_neOA h.1.1 h.1.2.2
  have hkeep : ∀ {M1 : g_M}, e_fr (e_WL m b lo lim) M M1 → ∀ (z : List Int) (r : Int), (r + z.length ≤ lo ∨ lim ≤ r) → b_at (g_i M b) r z → b_at (g_i M1 b) r z := by
    intro M1 f1 z r hd hz i w hw
    have := (List.getElem?_eq_some_iff.mp hw).1
    rw [f1.2.1 b (r + i) (fun g => by
      rcases g with ⟨g, -⟩ | ⟨-, g1, g2⟩
      · exact hmb g.symm
      · rcases hd with hd | hd <;> omega)]
    exact hz i w hw
  have hl := b_el_len k nm vb
  refine m_X12_putAs ⟨by omega, by omega⟩ ⟨by omega, by omega⟩ (hs.R (by decide)) fun _ => ⟨h.1.1, b, h.1.2.1, _, h.1.2.2, ⟨by omega, by omega⟩, ?_⟩
  rw [v4]
  refine e_put h ⟨by omega, by omega⟩ fun M1 f1 W1 => fun _ _ => e_putBytes W1 (hkeep f1 y q hdis2 hy) h0 h1 hdis2 fun M2 f2 W2 => fun _ _ => e_put W2 ⟨by decide, by decide⟩ fun M3 f3 W3 => fun _ _ => ?_
  have f123 := (f1.tr f2).tr f3
  have hs3 : b_st (g_i M3 b) 2706210 p D k nm vb := ⟨hkeep f123 _ p hdis hs.1, hs.2⟩
  refine e_putValue W3 hs3 hdis fun M4 f4 W4 => fun _ _ => hq M4 (f123.tr f4) ?_
  rw [g_w8_of (by omega) (by omega), show g_w8 0 = 0 from rfl, List.append_assoc, List.append_assoc, List.append_assoc] at W4
  exact W4
theorem e_putNumber {j : Nat} {v : Int} (hj : j < q_nS) (h : e_Wr m b lo lim x M) (hv : g_InR v) (hq : ∀ M1, e_fr (e_WL m b lo lim) M M1 → e_Wr m b lo lim (x ++ b_el 16 (b_tx j) (b_le4 v)) M1 → Q M1) : g_Call (d + 4) 255 [.ref m, .ref (4 * j + 1), g_n v] M (g_qV Q) := by
  refine m_X12_putNumber hj hv fun _ => ⟨h.1.1, e_put h ⟨by decide, by decide⟩ fun M1 f1 W1 => fun _ _ => e_putWord hj W1 fun M2 f2 W2 => fun _ _ => e_putInt W2 hv fun M3 f3 W3 => fun _ _ => hq M3 ((f1.tr f2).tr f3) ?_⟩
  have e : x ++ b_el 16 (b_tx j) (b_le4 v) = x ++ [16] ++ (b_tx j ++ [0]) ++ b_le4 v := by
    unfold b_el
    simp
  rw [e]
  exact W3
theorem e_putTruth {j : Nat} {v : Bool} (hj : j < q_nS) (h : e_Wr m b lo lim x M) (hq : ∀ M1, e_fr (e_WL m b lo lim) M M1 → e_Wr m b lo lim (x ++ b_el 8 (b_tx j) [if v = true then 1 else 0]) M1 → Q M1) : g_Call (d + 4) 256 [.ref m, .ref (4 * j + 1), g_n (if v = true then 1 else 0)] M (g_qV Q) := by
  have e : ∀ w : Int, x ++ b_el 8 (b_tx j) [w] = x ++ [8] ++ (b_tx j ++ [0]) ++ [w] := by
    intro w
    unfold b_el
    simp
  rw [e] at hq
  refine m_X12_putTruth hj (u_bR v) fun _ => ⟨h.1.1, e_put h ⟨by decide, by decide⟩ fun M1 f1 W1 => fun _ _ => e_putWord hj W1 fun M2 f2 W2 => fun _ _ => ?_⟩
  cases v
  · exact ⟨fun _ => e_put W2 ⟨by decide, by decide⟩ fun M3 f3 W3 => fun _ _ => hq M3 ((f1.tr f2).tr f3) W3, fun g => absurd rfl g⟩
  · exact ⟨fun g => absurd g (by decide), fun _ => e_put W2 ⟨by decide, by decide⟩ fun M3 f3 W3 => fun _ _ => hq M3 ((f1.tr f2).tr f3) W3⟩
theorem e_open {Q : Int → g_M → Prop} (h : e_Wr m b lo lim x M) (hq : ∀ r M1, e_fr (e_WL m b lo lim) M M1 → e_Wr m b lo lim (x ++ [0, 0, 0, 0]) M1 → w_r lo lim r x.length → Q r M1) : g_Call (d + 3) 251 [.ref m] M (g_qI Q) := by
  refine m_X12_open fun _ => ⟨h.1.1, e_putInt h ⟨by decide, by decide⟩ fun M1 f1 W1 => fun _ _ => hq _ M1 f1 W1 ⟨h.2.2.2.R.1, h.2.2.2.R.2, ?_⟩⟩
  rcases h.2.2.2.2 with ⟨a1, a2, a3, a4⟩ | ⟨a1, a2, a3, a4⟩
  · exact Or.inl a2
  · exact Or.inr a4
/-- four bytes are set -/
theorem e_setInt4 {p v : Int} (hR : e_R M m b) (h0 : 0 ≤ p) (h1 : p + 4 ≤ 2706210) (hv : g_InR v) (hq : ∀ M1, e_fr (fun y k => y = b ∧ p ≤ k ∧ k < p + 4) M M1 → b_at (g_i M1 b) p (b_le4 v) → Q M1) : g_Call (d + 1) 229 [.ref m, g_n p, g_n v] M (g_qV Q) := by
  have hmb : m ≠ b := g_neOA hR.1 hR.2.2
  have hstep : ∀ (i w : Int) (M1 : g_M), 0 ≤ i → i < 4 → g_w8 (g_w8 (g_shr v (8 * i))) = w → e_R M1 m b → g_Run d 229 2 [(0, .ref m), (1, g_n p), (2, g_n v), (3, g_n (i + 1))] [] (g_wi M1 b (p + i) w) (g_qV Q) → g_Run d 229 2 [(0, .ref m), (1, g_n p), (2, g_n v), (3, g_n i)] [] M1 (g_qV Q) := by
    intro i w M1 hi0 hi4 hw hR1 hq
    refine s_X12_setInt4_2 ⟨by omega, by omega⟩ hv ⟨by omega, by omega⟩ fun _ => ⟨fun _ => ⟨hR1.1, b, hR1.2.1, ⟨by omega, by omega⟩, ⟨by omega, by omega⟩, _, hR1.2.2, ⟨by omega, by omega⟩, fun M9 e9 _ => ⟨⟨by omega, by omega⟩, ?_⟩⟩, fun g => absurd (by omega) g⟩
    rw [hw] at e9
    subst e9
    exact hq
  refine m_X12_setInt4 ⟨by omega, by omega⟩ hv fun _ => hstep 0 _ M (by decide) (by decide) (le4_0 hv) hR (hstep 1 _ _ (by decide) (by decide) (le4_1 hv) hR (hstep 2 _ _ (by decide) (by decide) (le4_2 hv) hR (hstep 3 _ _ (by decide) (by decide) (le4_3 hv) hR ?_)))
  refine s_X12_setInt4_2 ⟨by omega, by omega⟩ hv ⟨by decide, by decide⟩ fun _ => ⟨fun g => absurd g (by decide), fun _ => hq _ ((((e_fr.wi _ ⟨rfl, by omega, by omega⟩).tr (e_fr.wi _ ⟨rfl, by omega, by omega⟩)).tr (e_fr.wi _ ⟨rfl, by omega, by omega⟩)).tr (e_fr.wi _ ⟨rfl, by omega, by omega⟩)) ?_⟩
  refine b_cons.mpr ⟨?_, b_cons.mpr ⟨?_, b_cons.mpr ⟨?_, b_cons.mpr ⟨?_, b_nil _ _⟩⟩⟩⟩
  · rw [g_i_wi, if_neg (by omega), g_i_wi, if_neg (by omega), g_i_wi, if_neg (by omega), g_i_wi, if_pos ⟨rfl, by omega⟩]
  · rw [g_i_wi, if_neg (by omega), g_i_wi, if_neg (by omega), g_i_wi, if_pos ⟨rfl, by omega⟩]
  · rw [g_i_wi, if_neg (by omega), g_i_wi, if_pos ⟨rfl, by omega⟩]
  · rw [g_i_wi, if_pos ⟨rfl, by omega⟩]
theorem e_close {pre body : List Int} {r : Int} (h : e_Wr m b lo lim (pre ++ ([0, 0, 0, 0] ++ body)) M) (hr : w_r lo lim r pre.length) (hq : ∀ M1, e_fr (e_WL m b lo lim) M M1 → e_Wr m b lo lim (pre ++ (b_le4 (body.length + 5) ++ (body ++ [0]))) M1 → Q M1) : g_Call (d + 2) 252 [.ref m, g_n r] M (g_qV Q) := by
  obtain ⟨r1, r2, r3⟩ := hr
  have hln := h.2.2.1
  have hlo := h.2.1
  refine m_X12_close ⟨by omega, by omega⟩ fun _ => ⟨h.1.1, e_put h ⟨by decide, by decide⟩ fun M1 f1 W1 => fun _ _ => ?_⟩
  have W0 := W1
  obtain ⟨hR1, g5, g6, g7⟩ := W1
  have hR := g7.R
  have hl := g7.1
  have hob : m ≠ b := g_neOA hR1.1 hR1.2.2
  rw [show g_w8 0 = 0 from rfl, List.append_assoc, List.append_assoc] at W0 g7
  have hlen : (pre ++ (b_le4 (body.length + 5) ++ (body ++ [0]))).length = (pre ++ ([0, 0, 0, 0] ++ (body ++ [0]))).length := by
    simp [b_le4]
  have hlen2 : (pre ++ ([0, 0, 0, 0] ++ (body ++ [0]))).length = pre.length + body.length + 5 := by
    simp
    omega
  rcases g7.2 with ⟨a1, a2, a3, a4⟩ | ⟨a1, a2, a3, a4⟩
  · rw [hlen2] at a2 a3
    have hr0 : r = lo + pre.length := by omega
    refine ⟨fun _ => ⟨⟨by omega, by omega⟩, e_setInt4 hR1 (by omega) (by omega) ⟨by omega, by omega⟩ fun M2 f2 hb2 => ?_⟩, fun g => absurd a1 g⟩
    intro _ _
    have hf : e_fr (e_WL m b lo lim) M1 M2 := f2.up fun y k hyk => Or.inr ⟨hyk.1, by omega, by omega⟩
    have eo : ∀ k, g_i M2 m k = g_i M1 m k := fun k => f2.2.1 m k fun g => hob g.1
    have eb : ∀ k, (k < r ∨ r + 4 ≤ k) → g_i M2 b k = g_i M1 b k := fun k hk => f2.2.1 b k fun g => by omega
    have hv : g_i M1 m 4 - r = (body.length : Int) + 5 := by omega
    rw [hv] at hb2
    obtain ⟨b1, b2⟩ := b_app.mp a4
    obtain ⟨b3, b4⟩ := b_app.mp b2
    refine hq M2 (f1.tr hf) (W0.to hf ⟨by rw [eo]; exact hl, Or.inl ⟨by rw [eo]; exact a1, by rw [eo, hlen, hlen2]; exact a2, by rw [hlen, hlen2]; exact a3, ?_⟩⟩)
    refine b_app.mpr ⟨fun i w hw => ?_, b_app.mpr ⟨by rw [← hr0]; exact hb2, fun i w hw => ?_⟩⟩
    · have := (List.getElem?_eq_some_iff.mp hw).1
      rw [eb _ (by omega)]
      exact b1 i w hw
    · have hb4 : ((b_le4 ((body.length : Int) + 5)).length : Int) = 4 := rfl
      have hb5 : ((([0, 0, 0, 0] : List Int)).length : Int) = 4 := rfl
      rw [hb5] at b4
      rw [hb4, eb _ (by omega)]
      exact b4 i w hw
  · refine ⟨fun g => absurd g (by omega), fun _ => hq M1 f1 (W0.to (e_fr.rf _ _) ⟨hl, Or.inr ⟨a1, a2, a3, by rw [hlen]; exact a4⟩⟩)⟩
theorem e_write {lo lim : Int} (hR : e_R M m b) (h5 : 0 ≤ lo) (h6 : lo ≤ lim) (h7 : lim ≤ 2706210) (hq : ∀ M1, e_fr (fun y k => y = m ∧ (k = 4 ∨ k = 5 ∨ k = 6)) M M1 → e_Wr m b lo lim [] M1 → Q M1) : g_Call (d + 1) 245 [.ref m, g_n lo, g_n lim] M (g_qV Q) := by
  refine m_X12_write ⟨by omega, by omega⟩ ⟨by omega, by omega⟩ fun _ => ⟨hR.1, fun M2 e2 _ M6 e6 _ M10 e10 _ => ?_⟩
  subst e2
  subst e6
  subst e10
  refine hq _ (((e_fr.wi _ ⟨rfl, Or.inl rfl⟩).tr (e_fr.wi _ ⟨rfl, Or.inr (Or.inl rfl)⟩)).tr (e_fr.wi _ ⟨rfl, Or.inr (Or.inr rfl)⟩)) ⟨hR, h5, h7, ?_, Or.inl ⟨?_, ?_, ?_, b_nil _ _⟩⟩
  · rw [g_i_wi, if_neg (by omega), g_i_wi, if_pos ⟨rfl, rfl⟩]
  · rw [g_i_wi, if_pos ⟨rfl, rfl⟩]
  · rw [g_i_wi, if_neg (by omega), g_i_wi, if_neg (by omega), g_i_wi, if_pos ⟨rfl, rfl⟩, List.length_nil]
    omega
  · rw [List.length_nil]
    omega
end EOUT
