/-! WRITING: elements come behind one another; the class's Out -/
theorem g_shr_div {x : Int} (h : g_InR x) {s : Nat} (hs : s = 8 ∨ s = 16 ∨ s = 24) : g_shr x s = x / 2 ^ s := by
  have h1 : ((Int32.ofInt x) >>> ((Int32.ofInt s) &&& 31)).toBitVec = (Int32.ofInt x).toBitVec.sshiftRight s := by
    rw [Int32.toBitVec_shiftRight]
    rcases hs with rfl | rfl | rfl <;> rfl
  show ((Int32.ofInt x) >>> ((Int32.ofInt s) &&& 31)).toBitVec.toInt = _
  rw [h1, BitVec.toInt_sshiftRight, Int.shiftRight_eq_div_pow]
  show (Int32.ofInt x).toInt / _ = _
  rw [g_toInt h]
  rfl
theorem g_w88 (x : Int) : g_w8 (g_w8 x) = g_w8 x := g_w8_of (g_w8_R x).1 (g_w8_R x).2
theorem le4_0 {v : Int} (h : g_InR v) : g_w8 (g_w8 (g_shr v (8 * 0))) = g_w8 v := by
  rw [show (8 * 0 : Int) = 0 from rfl, g_shr0 h, g_w88]
theorem le4_1 {v : Int} (h : g_InR v) : g_w8 (g_w8 (g_shr v (8 * 1))) = g_w8 (v / 256) := by
  rw [g_w88, show (8 * 1 : Int) = ((8 : Nat) : Int) from rfl, g_shr_div h (Or.inl rfl)]
  rfl
theorem le4_2 {v : Int} (h : g_InR v) : g_w8 (g_w8 (g_shr v (8 * 2))) = g_w8 (v / 65536) := by
  rw [g_w88, show (8 * 2 : Int) = ((16 : Nat) : Int) from rfl, g_shr_div h (Or.inr (Or.inl rfl))]
  rfl
theorem le4_3 {v : Int} (h : g_InR v) : g_w8 (g_w8 (g_shr v (8 * 3))) = g_w8 (v / 16777216) := by
  rw [g_w88, show (8 * 3 : Int) = ((24 : Nat) : Int) from rfl, g_shr_div h (Or.inr (Or.inr rfl))]
  rfl
/-- from lo on x was written, or it was too much: fields ka (where), kl (the limit), ko (over) -/
def w_W (o buf : Nat) (ka kl ko lo lim : Int) (x : List Int) (M : g_M) : Prop := g_i M o kl = lim ∧ ((g_i M o ko = 0 ∧ g_i M o ka = lo + x.length ∧ lo + x.length ≤ lim ∧ b_at (g_i M buf) lo x) ∨ (g_i M o ko = 1 ∧ lo ≤ g_i M o ka ∧ g_i M o ka ≤ lim ∧ lim < lo + x.length))
def w_L (o buf : Nat) (ka ko lo lim : Int) (y : Nat) (k : Int) : Prop := (y = o ∧ (k = ka ∨ k = ko)) ∨ (y = buf ∧ lo ≤ k ∧ k < lim)
section WRT
variable {o buf : Nat} {ka kl ko lo lim : Int} {x : List Int} {M : g_M}
theorem w_W.R (h : w_W o buf ka kl ko lo lim x M) : lo ≤ g_i M o ka ∧ g_i M o ka ≤ lim := by
  rcases h.2 with ⟨-, h2, h3, -⟩ | ⟨-, h2, h3, -⟩
  · omega
  · exact ⟨h2, h3⟩
theorem w_W.put1 (h : w_W o buf ka kl ko lo lim x M) (hob : o ≠ buf) (h1 : ka ≠ kl) (h2 : ka ≠ ko) (v : Int) (hl : g_i M o ka < lim) : w_W o buf ka kl ko lo lim (x ++ [v]) (g_wi (g_wi M buf (g_i M o ka) v) o ka (g_i M o ka + 1)) ∧ e_fr (w_L o buf ka ko lo lim) M (g_wi (g_wi M buf (g_i M o ka) v) o ka (g_i M o ka + 1)) := by
  have hR := h.R
  have hv : ∀ k, k ≠ ka → g_i (g_wi (g_wi M buf (g_i M o ka) v) o ka (g_i M o ka + 1)) o k = g_i M o k := fun k hk => by
    rw [g_i_wi, if_neg (fun z => hk z.2), g_i_wi, if_neg (fun z => hob z.1)]
  have hva : g_i (g_wi (g_wi M buf (g_i M o ka) v) o ka (g_i M o ka + 1)) o ka = g_i M o ka + 1 := by
    rw [g_i_wi, if_pos ⟨rfl, rfl⟩]
  have hvb : ∀ k, g_i (g_wi (g_wi M buf (g_i M o ka) v) o ka (g_i M o ka + 1)) buf k = if k = g_i M o ka then v else g_i M buf k := fun k => by
    rw [g_i_wi, if_neg (fun z => hob z.1.symm), g_i_wi]
    by_cases hk : k = g_i M o ka
    · rw [if_pos ⟨rfl, hk⟩, if_pos hk]
    · rw [if_neg (fun z => hk z.2), if_neg hk]
  refine ⟨⟨by rw [hv _ h1.symm]; exact h.1, ?_⟩, (e_fr.wi _ (Or.inr ⟨rfl, hR.1, hl⟩)).tr (e_fr.wi _ (Or.inl ⟨rfl, Or.inl rfl⟩))⟩
  rw [hv _ h2.symm, hva, List.length_append, List.length_singleton]
  rcases h.2 with ⟨a1, a2, a3, a4⟩ | ⟨a1, a2, a3, a4⟩
  · refine Or.inl ⟨a1, by omega, by omega, b_app.mpr ⟨fun i w hw => ?_, b_cons.mpr ⟨?_, b_nil _ _⟩⟩⟩
    · have := (List.getElem?_eq_some_iff.mp hw).1
      rw [hvb, if_neg (by omega)]
      exact a4 i w hw
    · rw [hvb, if_pos (by omega)]
  · exact Or.inr ⟨a1, by omega, by omega, by omega⟩
theorem w_W.fail (h : w_W o buf ka kl ko lo lim x M) (h1 : kl ≠ ko) (h2 : ka ≠ ko) (y : List Int) (hl : lim < lo + x.length ∨ lim < lo + (x ++ y).length) : w_W o buf ka kl ko lo lim (x ++ y) (g_wi M o ko 1) ∧ e_fr (w_L o buf ka ko lo lim) M (g_wi M o ko 1) := by
  have hR := h.R
  refine ⟨⟨?_, Or.inr ⟨?_, ?_, ?_, ?_⟩⟩, e_fr.wi _ (Or.inl ⟨rfl, Or.inr rfl⟩)⟩
  · rw [g_i_wi, if_neg (fun z => h1 z.2)]
    exact h.1
  · rw [g_i_wi, if_pos ⟨rfl, rfl⟩]
  · rw [g_i_wi, if_neg (fun z => h2 z.2)]
    exact hR.1
  · rw [g_i_wi, if_neg (fun z => h2 z.2)]
    exact hR.2
  · rw [List.length_append] at hl ⊢
    omega
theorem w_W.full (h : w_W o buf ka kl ko lo lim x M) {y : List Int} (hl : lim < g_i M o ka + y.length) : lim < lo + (x ++ y).length := by
  rw [List.length_append]
  rcases h.2 with ⟨a1, a2, a3, a4⟩ | ⟨a1, a2, a3, a4⟩ <;> omega
end WRT
/-- an Out of the class that writes -/
def c_Wr (o buf : Nat) (n lo lim : Int) (x : List Int) (M : g_M) : Prop := (g_O M o 4 ∧ g_r M o 0 = some buf ∧ g_A M buf 0 n ∧ n ≤ 1000000000) ∧ 0 ≤ lo ∧ lim ≤ n ∧ w_W o buf 1 2 3 lo lim x M
def c_WL (o buf : Nat) (lo lim : Int) : Nat → Int → Prop := w_L o buf 1 3 lo lim
theorem c_Wr.to {o buf : Nat} {n lo lim : Int} {x y : List Int} {M M1 : g_M} (h : c_Wr o buf n lo lim x M) (f : e_fr (c_WL o buf lo lim) M M1) (hw : w_W o buf 1 2 3 lo lim y M1) : c_Wr o buf n lo lim y M1 := by
  obtain ⟨⟨h1, h2, h3, h4⟩, h5, h6, h7⟩ := h
  exact ⟨⟨f.O h1, by rw [f.2.2]; exact h2, f.A h3, h4⟩, h5, h6, hw⟩
section OUT
variable {d o buf : Nat} {n lo lim : Int} {x : List Int} {M : g_M} {Q : g_M → Prop}
theorem c_put {v : Int} (h : c_Wr o buf n lo lim x M) (hv : g_InR v) (hq : ∀ M1, e_fr (c_WL o buf lo lim) M M1 → c_Wr o buf n lo lim (x ++ [g_w8 v]) M1 → Q M1) : g_Call (d + 1) 76 [.ref o, g_n v] M (g_qV Q) := by
  have h0 := h
  obtain ⟨⟨h1, h2, h3, h4⟩, h5, h6, h7⟩ := h
  have hR := h7.R
  have hl := h7.1
  have hob : o ≠ buf := g_neOA h1 h3
  refine m_X4_put hv fun _ => ⟨h1, fun g => ⟨buf, h2, n, h3, ⟨by omega, by omega⟩, fun _ => ⟨buf, h2, n, h3, ⟨by omega, by omega⟩, fun M20 e20 _ => ?_⟩, fun g => absurd g (by omega)⟩, fun g M2 e2 _ => ?_⟩
  · subst e20
    have e21 : g_i (g_wi M buf (g_i M o 1) (g_w8 (g_w8 v))) o 1 = g_i M o 1 := by rw [g_i_wi, if_neg (fun z => hob z.1)]
    rw [e21]
    refine ⟨⟨by omega, by omega⟩, fun M25 e25 _ => ?_⟩
    subst e25
    obtain ⟨a1, a2⟩ := h7.put1 hob (by decide) (by decide) (g_w8 (g_w8 v)) (by omega)
    rw [g_w88] at a1 a2 ⊢
    exact hq _ a2 (h0.to a2 a1)
  · subst e2
    obtain ⟨a1, a2⟩ := h7.fail (by decide) (by decide) [g_w8 v] (Or.inr (h7.full (by rw [List.length_singleton]; omega)))
    exact hq _ a2 (h0.to a2 a1)
theorem c_put4 {v : Int} (h : c_Wr o buf n lo lim x M) (hv : g_InR v) (hq : ∀ M1, e_fr (c_WL o buf lo lim) M M1 → c_Wr o buf n lo lim (x ++ b_le4 v) M1 → Q M1) : g_Call (d + 1) 77 [.ref o, g_n v] M (g_qV Q) := by
  have h0 := h
  obtain ⟨⟨h1, h2, h3, h4⟩, h5, h6, h7⟩ := h
  have hR := h7.R
  have hl := h7.1
  have hob : o ≠ buf := g_neOA h1 h3
  have hstep : ∀ (i w : Int) (x : List Int) (M1 : g_M), 0 ≤ i → i < 4 → g_w8 (g_w8 (g_shr v (8 * i))) = w → c_Wr o buf n lo lim x M1 → g_i M1 o 1 < lim → (∀ M2, e_fr (c_WL o buf lo lim) M1 M2 → c_Wr o buf n lo lim (x ++ [w]) M2 → g_i M2 o 1 = g_i M1 o 1 + 1 → g_Run d 77 35 [(0, .ref o), (1, g_n v), (2, g_n (i + 1))] [] M2 (g_qV Q)) → g_Run d 77 35 [(0, .ref o), (1, g_n v), (2, g_n i)] [] M1 (g_qV Q) := by
    intro i w x M1 hi0 hi4 hw hW hlt hq
    have hW0 := hW
    obtain ⟨⟨q1, q2, q3, q4⟩, q5, q6, q7⟩ := hW
    have hR := q7.R
    refine s_X4_put4_35 hv ⟨by omega, by omega⟩ fun _ => ⟨fun _ => ⟨q1, buf, q2, ⟨by omega, by omega⟩, n, q3, ⟨by omega, by omega⟩, fun M8 e8 _ => ?_⟩, fun g => absurd (by omega) g⟩
    subst e8
    have e21 : g_i (g_wi M1 buf (g_i M1 o 1) (g_w8 (g_w8 (g_shr v (8 * i))))) o 1 = g_i M1 o 1 := by rw [g_i_wi, if_neg (fun z => hob z.1)]
    rw [e21]
    refine ⟨⟨by omega, by omega⟩, fun M13 e13 _ => ⟨⟨by omega, by omega⟩, ?_⟩⟩
    subst e13
    obtain ⟨a1, a2⟩ := q7.put1 hob (by decide) (by decide) (g_w8 (g_w8 (g_shr v (8 * i)))) (by omega)
    rw [hw] at a1 a2 ⊢
    exact hq _ a2 (hW0.to a2 a1) (by rw [g_i_wi, if_pos ⟨rfl, rfl⟩])
  have hfail : lim < g_i M o 1 + 4 → Q (g_wi M o 3 1) := by
    intro g
    obtain ⟨a1, a2⟩ := h7.fail (by decide) (by decide) (b_le4 v) (Or.inr (h7.full (by show _ < _ + ((4 : Nat) : Int); omega)))
    exact hq _ a2 (h0.to a2 a1)
  refine m_X4_put4 hv fun _ => ⟨h1, ⟨by omega, by omega⟩, fun g M3 e3 _ => ?_, fun g => ⟨⟨by omega, by omega⟩, buf, h2, n, h3, ⟨by omega, by omega⟩, fun g2 M3 e3 _ => ?_, fun g2 => ?_⟩⟩
  · subst e3
    exact hfail (by omega)
  · subst e3
    exact hfail (by omega)
  · refine hstep 0 _ x M (by decide) (by decide) (le4_0 hv) h0 (by omega) fun M1 f1 W1 l1 => hstep 1 _ _ M1 (by decide) (by decide) (le4_1 hv) W1 (by omega) fun M2 f2 W2 l2 => hstep 2 _ _ M2 (by decide) (by decide) (le4_2 hv) W2 (by omega) fun M3 f3 W3 l3 => hstep 3 _ _ M3 (by decide) (by decide) (le4_3 hv) W3 (by omega) fun M4 f4 W4 l4 => ?_
    refine s_X4_put4_35 hv ⟨by decide, by decide⟩ fun _ => ⟨fun g => absurd g (by decide), fun _ => hq _ (((f1.tr f2).tr f3).tr f4) ?_⟩
    rw [List.append_assoc, List.append_assoc, List.append_assoc] at W4
    exact W4
def b_le8 (X : Int64) : List Int := b_le4 X.toInt32.toInt ++ b_le4 ((X >>> ((Int32.ofInt 32).toInt64 &&& 63)).toInt32.toInt)
theorem c_put8 {X : Int64} (h : c_Wr o buf n lo lim x M) (hq : ∀ M1, e_fr (c_WL o buf lo lim) M M1 → c_Wr o buf n lo lim (x ++ b_le8 X) M1 → Q M1) : g_Call (d + 2) 78 [.ref o, .long X] M (g_qV Q) := by
  refine m_X4_put8 fun _ => ⟨h.1.1, c_put4 h (g_InR_toInt _) fun M1 f1 W1 => fun _ _ => c_put4 W1 (g_InR_toInt _) fun M2 f2 W2 => fun _ _ => hq M2 (f1.tr f2) ?_⟩
  rwa [List.append_assoc] at W2
theorem c_copy {a : Nat} {p n1 : Int} {y : List Int} (h : c_Wr o buf n lo lim x M) (hA : g_A M a 0 n1) (hn1 : n1 ≤ 1000000000) (hy : b_at (g_i M a) p y) (h0 : 0 ≤ p) (h1 : p + y.length ≤ n1) (hq : ∀ M1, e_fr (c_WL o buf lo lim) M M1 → c_Wr o buf n lo lim (x ++ y) M1 → Q M1) : g_Call (d + 1) 80 [.ref o, .ref a, g_n p, g_n (p + y.length)] M (g_qV Q) := by
  have hW0 := h
  obtain ⟨⟨g1, g2, g3, g4⟩, g5, g6, g7⟩ := h
  have hR := g7.R
  have hl := g7.1
  have hob : o ≠ buf := g_neOA g1 g3
  refine m_X4_copy ⟨by omega, by omega⟩ ⟨by omega, by omega⟩ fun _ => ⟨fun g => absurd g (by omega), fun _ => ⟨fun g => absurd g (by omega), fun _ => ⟨n1, hA, ⟨by omega, by omega⟩, fun g => absurd g (by omega), fun _ => ⟨g1, ⟨by omega, by omega⟩, ⟨by omega, by omega⟩, fun g M38 e38 _ => ?_, fun g => ⟨buf, g2, ⟨by omega, by omega⟩, n, g3, ⟨by omega, by omega, by omega, by omega, by omega⟩, fun M28 e28 _ => ?_⟩⟩⟩⟩⟩
  · subst e38
    obtain ⟨a1, a2⟩ := g7.fail (by decide) (by decide) y (Or.inr (g7.full (by omega)))
    exact hq _ a2 (hW0.to a2 a1)
  · rw [show p + (y.length : Int) - p = y.length by omega] at e28 ⊢
    have ei : ∀ k, g_i M28 o k = g_i M o k := fun k => by
      subst e28
      rw [g_i_cp, if_neg (fun z => hob z.1)]
    rw [ei]
    refine ⟨⟨by omega, by omega⟩, ⟨by omega, by omega⟩, fun M34 e34 _ => ?_⟩
    have hf : e_fr (c_WL o buf lo lim) M M34 := by
      subst e34
      subst e28
      refine ⟨rfl, fun z k hz => ?_, fun z k => rfl⟩
      rw [g_i_wi, if_neg (fun e => hz (Or.inl ⟨e.1, Or.inl e.2⟩)), g_i_cp, if_neg (fun e => hz (Or.inr ⟨e.1, by omega, by omega⟩))]
    have eb : ∀ k, g_i M34 buf k = if g_i M o 1 ≤ k ∧ k < g_i M o 1 + y.length then g_i M a (p + (k - g_i M o 1)) else g_i M buf k := fun k => by
      subst e34
      subst e28
      rw [g_i_wi, if_neg (fun z => hob z.1.symm), g_i_cp]
      by_cases hk : g_i M o 1 ≤ k ∧ k < g_i M o 1 + y.length
      · rw [if_pos ⟨rfl, hk⟩, if_pos hk]
      · rw [if_neg (fun z => hk z.2), if_neg hk]
    have eo : ∀ k, g_i M34 o k = if k = 1 then g_i M o 1 + y.length else g_i M o k := fun k => by
      subst e34
      rw [g_i_wi]
      by_cases hk : k = 1
      · rw [if_pos ⟨rfl, hk⟩, if_pos hk]
      · rw [if_neg (fun z => hk z.2), if_neg hk, ei]
    refine hq M34 hf (hW0.to hf ⟨by rw [eo, if_neg (by decide)]; exact hl, ?_⟩)
    rw [eo 3, eo 1, if_neg (by decide), if_pos rfl, List.length_append]
    rcases g7.2 with ⟨a1, a2, a3, a4⟩ | ⟨a1, a2, a3, a4⟩
    · refine Or.inl ⟨a1, by omega, by omega, b_app.mpr ⟨fun i w hw => ?_, fun i w hw => ?_⟩⟩
      · have := (List.getElem?_eq_some_iff.mp hw).1
        rw [eb, if_neg (by omega)]
        exact a4 i w hw
      · have := (List.getElem?_eq_some_iff.mp hw).1
        rw [eb, if_pos (by omega), show p + (lo + (x.length : Int) + i - g_i M o 1) = p + i by omega]
        exact hy i w hw
    · exact Or.inr ⟨a1, by omega, by omega, by omega⟩
theorem b_tx_w8 {j : Nat} (hj : j < q_nS) {c : Int} (hc : c ∈ b_tx j) : g_w8 c = c := by
  have := (b_tx1 hj).2.1 c hc
  exact g_w8_of (by omega) (by omega)
theorem c_head {k : Int} {j : Nat} (hj : j < q_nS) (h : c_Wr o buf n lo lim x M) (hk : 0 ≤ k) (hk2 : k < 128) (hq : ∀ M1, e_fr (c_WL o buf lo lim) M M1 → c_Wr o buf n lo lim (x ++ (k :: (b_tx j ++ [0]))) M1 → Q M1) : g_Call (d + 3) 81 [.ref o, g_n k, .ref (4 * j + 1)] M (g_qV Q) := by
  have hlen := (b_tx1 hj).2.2
  have hlp : ∀ (r i : Nat) (x1 : List Int) (M1 : g_M), i + r = (b_tx j).length → c_Wr o buf n lo lim x1 M1 → (∀ M2, e_fr (c_WL o buf lo lim) M1 M2 → c_Wr o buf n lo lim (x1 ++ ((b_tx j).drop i ++ [0])) M2 → Q M2) → g_Run (d + 2) 81 7 [(0, .ref o), (1, g_n k), (2, .ref (4 * j + 1)), (3, g_n i)] [] M1 (g_qV Q) := by
    intro r
    induction r with
    | zero =>
      intro i x1 M1 hi W1 hq
      have hd : (b_tx j).drop i = [] := List.drop_eq_nil_of_le (by omega)
      rw [hd, List.nil_append] at hq
      refine s_X4_head_7 ⟨by omega, by omega⟩ hj ⟨by omega, by omega⟩ fun _ => c_slen hj fun _ _ _ => ⟨fun g => absurd g (by omega), fun _ => ⟨W1.1.1, c_put W1 ⟨by decide, by decide⟩ fun M2 f2 W2 => fun _ _ => hq M2 f2 W2⟩⟩
    | succ r ih =>
      intro i x1 M1 hi W1 hq
      have hi2 : i < (b_tx j).length := by omega
      have hm : (b_tx j)[i] ∈ b_tx j := List.getElem_mem hi2
      have hcR := (b_tx1 hj).2.1 _ hm
      have hd : (b_tx j).drop i = (b_tx j)[i] :: (b_tx j).drop (i + 1) := List.drop_eq_getElem_cons hi2
      refine s_X4_head_7 ⟨by omega, by omega⟩ hj ⟨by omega, by omega⟩ fun _ => c_slen hj fun _ _ _ => ⟨fun _ => c_charAt hj hi2 fun _ _ _ => ⟨W1.1.1, c_put W1 ⟨by omega, by omega⟩ fun M2 f2 W2 => fun _ _ => ⟨⟨by omega, by omega⟩, ?_⟩⟩, fun g => absurd (by omega) g⟩
      rw [b_tx_w8 hj hm] at W2
      have := ih (i + 1) _ M2 (by omega) W2 fun M3 f3 W3 => hq M3 (f2.tr f3) (by rw [hd]; rw [List.append_assoc] at W3; exact W3)
      rwa [show ((i + 1 : Nat) : Int) = (i : Int) + 1 by omega] at this
  refine m_X4_head ⟨by omega, by omega⟩ hj fun _ => ⟨h.1.1, c_put h ⟨by omega, by omega⟩ fun M1 f1 W1 => fun _ _ => ?_⟩
  rw [g_w8_of (by omega) (by omega)] at W1
  exact hlp (b_tx j).length 0 _ M1 (by omega) W1 fun M2 f2 W2 => hq M2 (f1.tr f2) (by rw [List.drop_zero, List.append_assoc] at W2; exact W2)
theorem c_headOf {k p n1 : Int} {a : Nat} {y : List Int} (h : c_Wr o buf n lo lim x M) (hk : 0 ≤ k) (hk2 : k < 128) (hA : g_A M a 0 n1) (hn1 : n1 ≤ 1000000000) (hy : ∀ M1, e_fr (c_WL o buf lo lim) M M1 → b_at (g_i M1 a) p y) (h0 : 0 ≤ p) (h1 : p + y.length ≤ n1) (hq : ∀ M1, e_fr (c_WL o buf lo lim) M M1 → c_Wr o buf n lo lim (x ++ (k :: (y ++ [0]))) M1 → Q M1) : g_Call (d + 2) 82 [.ref o, g_n k, .ref a, g_n p, g_n (p + y.length)] M (g_qV Q) := by
  refine m_X4_headOf ⟨by omega, by omega⟩ ⟨by omega, by omega⟩ ⟨by omega, by omega⟩ fun _ => ⟨h.1.1, c_put h ⟨by omega, by omega⟩ fun M1 f1 W1 => fun _ _ => c_copy W1 (f1.A hA) hn1 (hy M1 f1) h0 h1 fun M2 f2 W2 => fun _ _ => c_put W2 ⟨by decide, by decide⟩ fun M3 f3 W3 => fun _ _ => hq M3 ((f1.tr f2).tr f3) ?_⟩
  rw [g_w8_of (by omega) (by omega), show g_w8 0 = 0 from rfl, List.append_assoc, List.append_assoc] at W3
  exact W3
theorem c_item {k : Int} {i : Nat} (h : c_Wr o buf n lo lim x M) (hk : 0 ≤ k) (hk2 : k < 128) (hi : i < 10000) (hq : ∀ M1, e_fr (c_WL o buf lo lim) M M1 → c_Wr o buf n lo lim (x ++ (k :: (b_dg i ++ [0]))) M1 → Q M1) : g_Call (d + 2) 83 [.ref o, g_n k, g_n i] M (g_qV Q) := by
  have hD : ∀ (l ten : Nat) (x1 : List Int) (M1 : g_M), l ≤ 4 → (l = 0 → ten = 0) → (l = 1 → ten = 1) → (l = 2 → ten = 10) → (l = 3 → ten = 100) → (l = 4 → ten = 1000) → ten ≤ 1000 → (ten ≤ 1 ∨ ten ≤ i) → c_Wr o buf n lo lim x1 M1 → (∀ M2, e_fr (c_WL o buf lo lim) M1 M2 → c_Wr o buf n lo lim (x1 ++ (u_digs i l ten ++ [0])) M2 → Q M2) → g_Run (d + 1) 83 8 [(0, .ref o), (1, g_n k), (2, g_n i), (3, g_n ten)] [] M1 (g_qV Q) := by
    intro l
    induction l with
    | zero =>
      intro ten x1 M1 _ l0 _ _ _ _ _ _ W1 hq
      exact s_X4_item_8 ⟨by omega, by omega⟩ ⟨by omega, by omega⟩ ⟨by omega, by omega⟩ fun _ => ⟨fun g => absurd g (by omega), fun _ => ⟨W1.1.1, c_put W1 ⟨by decide, by decide⟩ fun M2 f2 W2 => fun _ _ => hq M2 f2 W2⟩⟩
    | succ l ih =>
      intro ten x1 M1 hl4 l0 l1 l2 l3 l4 ht hti W1 hq
      have ht0 : 0 < ten := by omega
      have h22 : g_Run (d + 1) 83 22 [(0, .ref o), (1, g_n k), (2, g_n i), (3, g_n ten)] [] M1 (g_qV Q) := by
        have e1 : ((i : Int).tdiv ten).tmod 10 = ((i / ten % 10 : Nat) : Int) := by
          rw [Int.tdiv_eq_ediv_of_nonneg (by omega)]
          have : (i : Int) / (ten : Int) = ((i / ten : Nat) : Int) := rfl
          rw [this]
          generalize i / ten = K
          rw [Int.tmod_eq_emod_of_nonneg (by omega)]
          omega
        have e2 : (ten : Int).tdiv 10 = ((ten / 10 : Nat) : Int) := by
          rw [Int.tdiv_eq_ediv_of_nonneg (by omega)]
          omega
        refine s_X4_item_22 ⟨by omega, by omega⟩ ⟨by omega, by omega⟩ ⟨by omega, by omega⟩ fun _ => ⟨by omega, ?_, W1.1.1, ?_⟩
        · rw [e1]
          exact ⟨by omega, by omega⟩
        · rw [e1, e2]
          refine c_put W1 ⟨by omega, by omega⟩ fun M2 f2 W2 => fun _ _ => ?_
          rw [g_w8_of (by omega) (by omega)] at W2
          refine ih (ten / 10) _ M2 (by omega) (by omega) (by omega) (by omega) (by omega) (by omega) (by omega) (by omega) W2 fun M3 f3 W3 => hq M3 (f2.tr f3) ?_
          rw [List.append_assoc] at W3
          exact W3
      exact s_X4_item_8 ⟨by omega, by omega⟩ ⟨by omega, by omega⟩ ⟨by omega, by omega⟩ fun _ => ⟨fun _ => ⟨fun _ => h22, fun _ => ⟨fun g => absurd g (by omega), fun _ => h22⟩⟩, fun g => absurd g (by omega)⟩
  have hs : ∀ (ten : Nat) (M1 : g_M), 1 < ten → ten ≤ 100000 → i < ten → g_Run (d + 1) 83 8 [(0, .ref o), (1, g_n k), (2, g_n i), (3, g_n ((ten / 10 : Nat) : Int))] [] M1 (g_qV Q) → g_Run (d + 1) 83 8 [(0, .ref o), (1, g_n k), (2, g_n i), (3, g_n ten)] [] M1 (g_qV Q) := by
    intro ten M1 h1 h2 h3 hr
    have e2 : (ten : Int).tdiv 10 = ((ten / 10 : Nat) : Int) := by
      rw [Int.tdiv_eq_ediv_of_nonneg (by omega)]
      omega
    refine s_X4_item_8 ⟨by omega, by omega⟩ ⟨by omega, by omega⟩ ⟨by omega, by omega⟩ fun _ => ⟨fun _ => ⟨fun g => absurd g (by omega), fun _ => ⟨fun _ => ?_, fun g => absurd g (by omega)⟩⟩, fun g => absurd g (by omega)⟩
    rw [e2]
    exact hr
  refine m_X4_item ⟨by omega, by omega⟩ ⟨by omega, by omega⟩ fun _ => ⟨h.1.1, c_put h ⟨by omega, by omega⟩ fun M1 f1 W1 => fun _ _ => ?_⟩
  rw [g_w8_of (by omega) (by omega)] at W1
  have hq2 : ∀ y, b_dg i = y → ∀ M2, e_fr (c_WL o buf lo lim) M1 M2 → c_Wr o buf n lo lim (x ++ [k] ++ (y ++ [0])) M2 → Q M2 := by
    intro y hy M2 f2 W2
    rw [List.append_assoc] at W2
    exact hq M2 (f1.tr f2) (by rw [hy]; exact W2)
  refine hs 100000 M1 (by decide) (by decide) (by omega) (hs 10000 M1 (by decide) (by decide) (by omega) ?_)
  by_cases c4 : 1000 ≤ i
  · exact hD 4 1000 _ M1 (by decide) (by decide) (by decide) (by decide) (by decide) (by decide) (by decide) (Or.inr c4) W1 (hq2 _ (by unfold b_dg; rw [if_neg (by omega), if_neg (by omega), if_neg (by omega)]))
  refine hs 1000 M1 (by decide) (by decide) (by omega) ?_
  by_cases c3 : 100 ≤ i
  · exact hD 3 100 _ M1 (by decide) (by decide) (by decide) (by decide) (by decide) (by decide) (by decide) (Or.inr c3) W1 (hq2 _ (by unfold b_dg; rw [if_neg (by omega), if_neg (by omega), if_pos (by omega)]))
  refine hs 100 M1 (by decide) (by decide) (by omega) ?_
  by_cases c2 : 10 ≤ i
  · exact hD 2 10 _ M1 (by decide) (by decide) (by decide) (by decide) (by decide) (by decide) (by decide) (Or.inr c2) W1 (hq2 _ (by unfold b_dg; rw [if_neg (by omega), if_pos (by omega)]))
  refine hs 10 M1 (by decide) (by decide) (by omega) ?_
  exact hD 1 1 _ M1 (by decide) (by decide) (by decide) (by decide) (by decide) (by decide) (by decide) (Or.inl (by decide)) W1 (hq2 _ (by unfold b_dg; rw [if_pos (by omega)]))
theorem c_outVal {a : Nat} {p k n1 : Int} {D : Nat} {nm vb : List Int} (h : c_Wr o buf n lo lim x M) (hA : g_A M a 0 n1) (hn1 : n1 ≤ 1000000000) (hs : b_st (g_i M a) n1 p D k nm vb) (hq : ∀ M1, e_fr (c_WL o buf lo lim) M M1 → c_Wr o buf n lo lim (x ++ vb) M1 → Q M1) : g_Call (d + 2) 84 [.ref o, .ref a, g_n p] M (g_qV Q) := by
  obtain ⟨v1, v2, v3, v4⟩ := hs.val
  have hl := b_el_len k nm vb
  refine m_X4_value (hs.R hn1) fun _ => c_va2 hA hn1 hs fun _ _ _ => c_nx2 hA hn1 hs fun _ _ _ => ⟨h.1.1, ?_⟩
  rw [show p + ((b_el k nm vb).length : Int) = p + 2 + nm.length + vb.length by omega]
  exact c_copy h hA hn1 v1 (by omega) (by omega) fun M1 f1 W1 => fun _ _ => hq M1 f1 W1
def w_r (lo lim r : Int) (l : Nat) : Prop := lo ≤ r ∧ r ≤ lim ∧ (r = lo + l ∨ lim < lo + l)
theorem c_open {Q : Int → g_M → Prop} (h : c_Wr o buf n lo lim x M) (hq : ∀ r M1, e_fr (c_WL o buf lo lim) M M1 → c_Wr o buf n lo lim (x ++ [0, 0, 0, 0]) M1 → w_r lo lim r x.length → Q r M1) : g_Call (d + 2) 85 [.ref o] M (g_qI Q) := by
  refine m_X4_open fun _ => ⟨h.1.1, c_put4 h ⟨by decide, by decide⟩ fun M1 f1 W1 => fun _ _ => hq _ M1 f1 W1 ⟨h.2.2.2.R.1, h.2.2.2.R.2, ?_⟩⟩
  rcases h.2.2.2.2 with ⟨a1, a2, a3, a4⟩ | ⟨a1, a2, a3, a4⟩
  · exact Or.inl a2
  · exact Or.inr a4
theorem c_close {pre body : List Int} {r : Int} (h : c_Wr o buf n lo lim (pre ++ ([0, 0, 0, 0] ++ body)) M) (hr : w_r lo lim r pre.length) (hq : ∀ M1, e_fr (c_WL o buf lo lim) M M1 → c_Wr o buf n lo lim (pre ++ (b_le4 (body.length + 5) ++ (body ++ [0]))) M1 → Q M1) : g_Call (d + 2) 86 [.ref o, g_n r] M (g_qV Q) := by
  obtain ⟨r1, r2, r3⟩ := hr
  have hln := h.2.2.1
  have hlo := h.2.1
  have hn := h.1.2.2.2
  refine m_X4_close ⟨by omega, by omega⟩ fun _ => ⟨h.1.1, c_put h ⟨by decide, by decide⟩ fun M1 f1 W1 => fun _ _ => ?_⟩
  have W0 := W1
  obtain ⟨⟨g1, g2, g3, g4⟩, g5, g6, g7⟩ := W1
  have hR := g7.R
  have hl := g7.1
  have hob : o ≠ buf := g_neOA g1 g3
  rw [show g_w8 0 = 0 from rfl, List.append_assoc, List.append_assoc] at W0 g7
  have hlen : (pre ++ (b_le4 (body.length + 5) ++ (body ++ [0]))).length = (pre ++ ([0, 0, 0, 0] ++ (body ++ [0]))).length := by
    simp [b_le4]
  have hlen2 : (pre ++ ([0, 0, 0, 0] ++ (body ++ [0]))).length = pre.length + body.length + 5 := by
    simp
    omega
  have hov : g_i M1 o 3 = 1 → ∀ M2, e_fr (c_WL o buf lo lim) M1 M2 → g_i M2 o 2 = lim → g_i M2 o 3 = 1 → g_i M2 o 1 = g_i M1 o 1 → Q M2 := by
    intro ho M2 f2 e1 e2 e3
    refine hq M2 (f1.tr f2) (W0.to f2 ⟨e1, Or.inr ⟨e2, by rw [e3]; exact hR.1, by rw [e3]; exact hR.2, ?_⟩⟩)
    rw [hlen]
    rcases g7.2 with ⟨a1, -⟩ | ⟨a1, a2, a3, a4⟩
    · omega
    · exact a4
  have hset : ∀ M2, M2 = g_wi M1 o 3 1 → lim < lo + pre.length + 4 → Q M2 := by
    intro M2 e2 hlt
    subst e2
    have ho : g_i M1 o 3 = 1 := by
      rcases g7.2 with ⟨a1, a2, a3, a4⟩ | ⟨a1, -⟩
      · rw [hlen2] at a3
        omega
      · exact a1
    exact hov ho _ (e_fr.wi _ (Or.inl ⟨rfl, Or.inr rfl⟩)) (by rw [g_i_wi, if_neg (by omega)]; exact hl) (by rw [g_i_wi, if_pos ⟨rfl, rfl⟩]) (by rw [g_i_wi, if_neg (by omega)])
  refine ⟨⟨by omega, by omega⟩, m_X4_patch ⟨by omega, by omega⟩ ⟨by omega, by omega⟩ fun _ => ⟨fun g => absurd g (by omega), fun _ => ⟨⟨by omega, by omega⟩, g1, fun g M8 e8 _ => ?_, fun g => ⟨⟨by omega, by omega⟩, buf, g2, n, g3, ⟨by omega, by omega⟩, fun g => absurd g (by omega), fun _ => ⟨buf, g2, n, g3, ⟨by omega, by omega⟩, fun M23 e23 _ => ⟨buf, by subst e23; exact g2, ⟨by omega, by omega⟩, n, by subst e23; exact g3, ⟨by omega, by omega⟩, fun M33 e33 _ => ⟨buf, by subst e33; subst e23; exact g2, ⟨by omega, by omega⟩, n, by subst e33; subst e23; exact g3, ⟨by omega, by omega⟩, fun M43 e43 _ => ⟨buf, by subst e43; subst e33; subst e23; exact g2, ⟨by omega, by omega⟩, n, by subst e43; subst e33; subst e23; exact g3, ⟨by omega, by omega⟩, fun M53 e53 _ => ?_⟩⟩⟩⟩⟩⟩⟩⟩
  · subst e8
    intro _ _
    rcases r3 with r3 | r3
    · exact hset _ rfl (by omega)
    · exact hset _ rfl (by omega)
  · intro _ _
    have hf : e_fr (c_WL o buf lo lim) M1 M53 := by
      subst e53
      subst e43
      subst e33
      subst e23
      exact (((e_fr.wi _ (Or.inr ⟨rfl, by omega, by omega⟩)).tr (e_fr.wi _ (Or.inr ⟨rfl, by omega, by omega⟩))).tr (e_fr.wi _ (Or.inr ⟨rfl, by omega, by omega⟩))).tr (e_fr.wi _ (Or.inr ⟨rfl, by omega, by omega⟩))
    have eo : ∀ k, g_i M53 o k = g_i M1 o k := fun k => by
      subst e53
      subst e43
      subst e33
      subst e23
      rw [g_i_wi, if_neg (fun z => hob z.1), g_i_wi, if_neg (fun z => hob z.1), g_i_wi, if_neg (fun z => hob z.1), g_i_wi, if_neg (fun z => hob z.1)]
    rcases g7.2 with ⟨a1, a2, a3, a4⟩ | ⟨a1, a2, a3, a4⟩
    · rw [hlen2] at a2 a3
      have hr0 : r = lo + pre.length := by omega
      refine hq M53 (f1.tr hf) (W0.to hf ⟨by rw [eo]; exact hl, Or.inl ⟨by rw [eo]; exact a1, by rw [eo, hlen, hlen2]; exact a2, by rw [hlen, hlen2]; exact a3, ?_⟩⟩)
      have hv : g_i M1 o 1 - r = (body.length : Int) + 5 := by omega
      rw [hv] at e23 e33 e43 e53
      have hvR : g_InR ((body.length : Int) + 5) := ⟨by omega, by omega⟩
      obtain ⟨b1, b2⟩ := b_app.mp a4
      obtain ⟨b3, b4⟩ := b_app.mp b2
      have eb : ∀ k, (k < r ∨ r + 4 ≤ k) → g_i M53 buf k = g_i M1 buf k := fun k hk => by
        subst e53
        subst e43
        subst e33
        subst e23
        rw [g_i_wi, if_neg (by omega), g_i_wi, if_neg (by omega), g_i_wi, if_neg (by omega), g_i_wi, if_neg (by omega)]
      have e0 : g_i M53 buf r = g_w8 ((body.length : Int) + 5) := by
        subst e53
        subst e43
        subst e33
        subst e23
        rw [g_i_wi, if_neg (by omega), g_i_wi, if_neg (by omega), g_i_wi, if_neg (by omega), g_i_wi, if_pos ⟨rfl, rfl⟩, g_w88]
      have e1 : g_i M53 buf (r + 1) = g_w8 (((body.length : Int) + 5) / 256) := by
        subst e53
        subst e43
        subst e33
        subst e23
        rw [g_i_wi, if_neg (by omega), g_i_wi, if_neg (by omega), g_i_wi, if_pos ⟨rfl, rfl⟩]
        exact le4_1 hvR
      have e2 : g_i M53 buf (r + 2) = g_w8 (((body.length : Int) + 5) / 65536) := by
        subst e53
        subst e43
        subst e33
        subst e23
        rw [g_i_wi, if_neg (by omega), g_i_wi, if_pos ⟨rfl, rfl⟩]
        exact le4_2 hvR
      have e3 : g_i M53 buf (r + 3) = g_w8 (((body.length : Int) + 5) / 16777216) := by
        subst e53
        subst e43
        subst e33
        subst e23
        rw [g_i_wi, if_pos ⟨rfl, rfl⟩]
        exact le4_3 hvR
      refine b_app.mpr ⟨fun i w hw => ?_, b_app.mpr ⟨?_, fun i w hw => ?_⟩⟩
      · have := (List.getElem?_eq_some_iff.mp hw).1
        rw [eb _ (by omega)]
        exact b1 i w hw
      · rw [← hr0]
        exact b_cons.mpr ⟨e0, b_cons.mpr ⟨e1, b_cons.mpr ⟨by rw [show r + 1 + 1 = r + 2 by omega]; exact e2, b_cons.mpr ⟨by rw [show r + 1 + 1 + 1 = r + 3 by omega]; exact e3, b_nil _ _⟩⟩⟩⟩
      · have hb4 : ((b_le4 ((body.length : Int) + 5)).length : Int) = 4 := rfl
        have hb5 : ((([0, 0, 0, 0] : List Int)).length : Int) = 4 := rfl
        rw [hb5] at b4
        rw [hb4, eb _ (by omega)]
        exact b4 i w hw
    · exact hov a1 M53 hf (by rw [eo]; exact hl) (by rw [eo]; exact a1) (eo 1)
end OUT
