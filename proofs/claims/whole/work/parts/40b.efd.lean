/-! THE REFERENCE IS FED, ASKED, AND TELLS -/
theorem g_and255_a (x : Int) : g_and x 255 = x % 256 := by
  have h1 : (Int32.ofInt x &&& Int32.ofInt 255).toBitVec = BitVec.ofInt 32 x &&& 255#32 := rfl
  have h2 : (BitVec.ofInt 32 x &&& 255#32).toNat = (x % 4294967296).toNat % 256 := by
    rw [BitVec.toNat_and, BitVec.toNat_ofInt]
    exact Nat.and_two_pow_sub_one_eq_mod _ 8
  show (Int32.ofInt x &&& Int32.ofInt 255).toBitVec.toInt = _
  rw [h1, BitVec.toInt_eq_toNat_of_lt (by rw [h2]; omega), h2]
  omega
theorem g_w8_and (x : Int) : g_w8 (g_and x 255) = g_w8 x := by
  rw [g_and255_a]
  unfold g_w8
  rw [Int.bmod_def, Int.bmod_def]
  split <;> split <;> omega
def X_w (v1 v2 v3 v4 v5 : Int) (j : Nat) : Int := if j < 4 then v1 else if j < 8 then v2 else if j < 12 then v3 else if j < 16 then v4 else v5
theorem X_by {w : Int} (hw : g_InR w) (j : Nat) : g_w8 (g_w8 (g_and (g_shr w (24 - 8 * ((j : Int).tmod 4))) 255)) = X_fb w (j % 4) := by
  rw [g_w8_and]
  have h1 : (j : Int).tmod 4 = ((j % 4 : Nat) : Int) := by
    rw [Int.tmod_eq_emod_of_nonneg (by omega)]
    omega
  rw [h1]
  have h2 : j % 4 = 0 ∨ j % 4 = 1 ∨ j % 4 = 2 ∨ j % 4 = 3 := by omega
  rcases h2 with e | e | e | e
  · rw [e]
    rfl
  · rw [e]
    rfl
  · rw [e]
    rfl
  · rw [e]
    show g_w8 (g_w8 (g_shr w 0)) = g_w8 (g_w8 w)
    rw [g_shr0 hw]
theorem X_fd5 {F : Int → Int} {tp v1 v2 v3 v4 v5 : Int} (q : Int) (h0 : tp ≤ q) (h1 : q < tp + 20) : X_fd (X_fd (X_fd (X_fd (X_fd F tp v1) (tp + 4) v2) (tp + 8) v3) (tp + 12) v4) (tp + 16) v5 q = X_fb (X_w v1 v2 v3 v4 v5 (q - tp).toNat) ((q - tp).toNat % 4) := by
  unfold X_fd X_w
  by_cases g4 : q < tp + 16
  · rw [if_pos g4]
    by_cases g3 : q < tp + 12
    · rw [if_pos g3]
      by_cases g2 : q < tp + 8
      · rw [if_pos g2]
        by_cases g1 : q < tp + 4
        · rw [if_pos g1, if_neg (by omega), if_pos (by omega), show (q - tp).toNat % 4 = (q - tp).toNat by omega]
        · rw [if_neg g1, if_neg (by omega), if_pos (by omega), show (q - tp).toNat % 4 = (q - (tp + 4)).toNat by omega]
      · rw [if_neg g2, if_neg (by omega), if_neg (by omega), if_pos (by omega), show (q - tp).toNat % 4 = (q - (tp + 8)).toNat by omega]
    · rw [if_neg g3, if_neg (by omega), if_neg (by omega), if_neg (by omega), if_pos (by omega), show (q - tp).toNat % 4 = (q - (tp + 12)).toNat by omega]
  · rw [if_neg g4, if_neg (by omega), if_neg (by omega), if_neg (by omega), if_neg (by omega), show (q - tp).toNat % 4 = (q - (tp + 16)).toNat by omega]
theorem X_fd5_lo {F : Int → Int} {tp v1 v2 v3 v4 v5 : Int} (q : Int) (h0 : q < tp) : X_fd (X_fd (X_fd (X_fd (X_fd F tp v1) (tp + 4) v2) (tp + 8) v3) (tp + 12) v4) (tp + 16) v5 q = F q := by
  unfold X_fd
  rw [if_pos (by omega), if_pos (by omega), if_pos (by omega), if_pos (by omega), if_pos (by omega)]
/-- the reference's tape -/
def E_tp (m : Nat) (ρ : Nat → Nat) (F : Int → Int) (tp : Int) (M : g_M) : Prop := g_i M m 2 = tp ∧ 0 ≤ tp ∧ tp ≤ 2000 ∧ ∀ q, 0 ≤ q → q < tp → g_w8 (g_w8 (g_i M (ρ 1) q)) = F q
section EFED
variable {m d : Nat} {ρ : Nat → Nat} {M M1 M2 : g_M} {S : W_S} {q : Nat → List (Nat × Int × List b_E)} {w : Nat} {F G : Int → Int} {tp : Int} {an : List Int}
theorem E_W.lf {T : Nat → Int → Prop} (h : E_W m ρ S q M) (f : e_fr T M M1) (hT : ∀ y k, T y k → (y = m ∧ k ≠ 47 ∧ k ≠ 40 ∧ k ≠ 24) ∨ (∃ j ∈ E_bf, j ∉ E_hj ∧ y = ρ j) ∨ (y = ρ 0 ∧ (k < 2000 ∨ (802000 ≤ k ∧ k < 982000) ∨ (2598000 ≤ k ∧ k < 2706200)))) : E_W m ρ S q M1 := by
  have hB := h.1.1
  have h0 : ∀ k : Int, k = 40 ∨ k = 24 → ¬ T m k := fun k hk z => by
    rcases hT m k z with ⟨-, a⟩ | ⟨j, hj, -, e⟩ | ⟨e, -⟩
    · omega
    · exact hB.nm hj e.symm
    · exact hB.nm (by decide) e.symm
  refine ⟨h.1.fr f fun y k g z => ?_, ?_, ?_, h.2.2.2⟩
  · rcases hT y k z with ⟨e, hk⟩ | ⟨j, hj, hn, e⟩ | ⟨e, hk⟩
    · rcases E_HP_j g with ⟨-, z⟩ | ⟨j, hj, e2⟩
      · exact hk.1 z
      · exact hB.nm (E_hj_bf j hj).1 (e2.symm.trans e)
    · rcases E_HP_j g with ⟨e2, -⟩ | ⟨j2, hj2, e2⟩
      · exact hB.nm hj (e.symm.trans e2)
      · have := hB.2.2 _ hj _ (E_hj_bf j2 hj2).1 (e.symm.trans e2)
        rw [this] at hn
        exact hn hj2
    · rw [e] at g
      have := E_HP_0 hB g
      omega
  · rw [f.2.1 m 40 (h0 40 (Or.inl rfl))]
    exact h.2.1
  · rw [f.2.1 m 24 (h0 24 (Or.inr rfl))]
    exact h.2.2.1
theorem E_an.fr {T : Nat → Int → Prop} (hA : E_an m ρ an M) (f : e_fr T M M1) (h3 : ¬ T m 3) (h0 : ∀ k, 2598000 ≤ k → ¬ T (ρ 0) k) : E_an m ρ an M1 := by
  obtain ⟨a1, a2, a3⟩ := hA
  exact ⟨by rw [f.2.1 m 3 h3]; exact a1, a2, b_at_keep a3 fun k k1 _ => f.2.1 _ _ (h0 k k1)⟩
theorem E_W.toS (h : E_W m ρ S q M) (h10 : g_i M m 10 = 0) : E_S m (ρ 0) (ρ 9) (g_i M (ρ 0)) M [] := by
  have h9 := h.1.1.at (k := 9) (by decide)
  exact ⟨h.1.1.R, h9.1, h9.2, h10, b_nil _ _, rfl, by decide⟩
theorem e_feed {Q : Int → g_M → Prop} {v1 v2 v3 v4 v5 : Int} (h1 : g_InR v1) (h2 : g_InR v2) (h3 : g_InR v3) (h4 : g_InR v4) (h5 : g_InR v5) (H : E_W m ρ S q M) (hT : E_tp m ρ F tp M) (hA : E_an m ρ an M) (hn : 2000 < tp + 20 → Q (-1) M) (hy : tp + 20 ≤ 2000 → ∀ M1, M1.1 = M.1 → (∀ x k, g_r M1 x k = g_r M x k) → E_W m ρ S q M1 → E_tp m ρ (X_fd (X_fd (X_fd (X_fd (X_fd F tp v1) (tp + 4) v2) (tp + 8) v3) (tp + 12) v4) (tp + 16) v5) (tp + 20) M1 → E_an m ρ an M1 → Q (tp + 20) M1) : g_Call (d + 1) 425 [.ref m, g_n v1, g_n v2, g_n v3, g_n v4, g_n v5] M (g_qI Q) := by
  obtain ⟨t1, t2, t3, t4⟩ := hT
  have hB := H.1.1
  have hb1 := hB.at (k := 1) (by decide)
  have hA1 : g_A M (ρ 1) 1 2000 := hb1.2
  have n1 : ρ 1 ≠ m := hB.nm (by decide)
  have n10 : ρ 0 ≠ ρ 1 := hB.ne (by decide) (by decide) (by decide)
  have n0 : ρ 0 ≠ m := hB.nm (by decide)
  have hlp : tp + 20 ≤ 2000 → ∀ (k j : Nat), j + k = 20 → ∀ Mi, e_fr (fun y k => (y = ρ 1 ∧ tp ≤ k) ∨ (y = m ∧ k = 2)) M Mi → g_i Mi m 2 = tp + j → (∀ i : Nat, i < j → g_w8 (g_w8 (g_i Mi (ρ 1) (tp + i))) = X_fb (X_w v1 v2 v3 v4 v5 i) (i % 4)) → g_Run d 425 18 [(0, .ref m), (1, g_n v1), (2, g_n v2), (3, g_n v3), (4, g_n v4), (5, g_n v5), (6, g_n (j : Int))] [] Mi (g_qI Q) := by
    intro ht k
    induction k with
    | zero =>
      intro j hj Mi f i2 hb
      have ej : j = 20 := by omega
      subst ej
      have hW := H.lf f fun y k z => by
        rcases z with ⟨e, -⟩ | ⟨e, hk⟩
        · exact Or.inr (Or.inl ⟨1, by decide, by decide, e⟩)
        · exact Or.inl ⟨e, by omega, by omega, by omega⟩
      have i2 : g_i Mi m 2 = tp + 20 := i2
      refine s_X12_feed_18 (a0 := m) h1 h2 h3 h4 h5 ⟨by omega, by omega⟩ fun _ => ⟨fun g => absurd g (by decide), fun _ => ⟨hW.1.1.1, ?_⟩⟩
      rw [i2]
      refine hy ht Mi f.1 f.2.2 hW ⟨i2, by omega, ht, fun q q0 q1 => ?_⟩ (hA.fr f (fun z => by omega) fun k _ z => ?_)
      · by_cases g : q < tp
        · rw [X_fd5_lo q g, f.2.1 _ _ fun z => by omega]
          exact t4 q q0 g
        · rw [X_fd5 q (by omega) q1]
          have h9 := hb (q - tp).toNat (by omega)
          rw [show tp + (((q - tp).toNat : Nat) : Int) = q by omega] at h9
          exact h9
      · rcases z with ⟨e, -⟩ | ⟨e, -⟩
        · exact n10 e
        · exact n0 e
    | succ k ih =>
      intro j hj Mi f i2 hb
      have hjR : g_InR (j : Int) := ⟨by omega, by omega⟩
      have h71 : ∀ v, g_InR v → v = X_w v1 v2 v3 v4 v5 j → g_Run d 425 71 [(0, .ref m), (1, g_n v1), (2, g_n v2), (3, g_n v3), (4, g_n v4), (5, g_n v5), (6, g_n (j : Int))] [g_n v] Mi (g_qI Q) := fun v hv ev => by
        have ht4 : 0 ≤ (j : Int).tmod 4 ∧ (j : Int).tmod 4 < 4 := by
          rw [Int.tmod_eq_emod_of_nonneg (by omega)]
          omega
        refine s_X12_feed_71 (a0 := m) h1 h2 h3 h4 h5 hjR hv fun _ => ⟨f.O hB.1, ρ 1, by rw [f.2.2]; exact hb1.1, ⟨by omega, by omega⟩, ⟨by omega, by omega⟩, 2000, f.A hA1, by rw [i2]; exact ⟨by omega, by omega⟩, ?_⟩
        rw [i2]
        intro M9 e9 _
        have i9 : g_i M9 m 2 = tp + j := by rw [e9, g_i_wi, if_neg fun z => n1 z.1.symm, i2]
        rw [i9]
        refine ⟨⟨by omega, by omega⟩, fun M14 e14 _ => ⟨⟨by omega, by omega⟩, ?_⟩⟩
        have h9 := ih (j + 1) (by omega) M14 (f.tr ((show e_fr (fun y k => (y = ρ 1 ∧ tp ≤ k) ∨ (y = m ∧ k = 2)) Mi M9 by rw [e9]; exact e_fr.wi _ (Or.inl ⟨rfl, by omega⟩)).tr (by rw [e14]; exact e_fr.wi _ (Or.inr ⟨rfl, rfl⟩)))) (by rw [e14, g_i_ws, if_pos rfl]; omega) fun i hi => ?_
        · rw [show ((j + 1 : Nat) : Int) = (j : Int) + 1 by omega] at h9
          exact h9
        · rw [e14, g_i_wi, if_neg fun z => n1 z.1, e9, g_i_ws]
          by_cases g : i = j
          · rw [g, if_pos rfl, ← ev]
            exact X_by hv j
          · rw [if_neg (by omega)]
            exact hb i (by omega)
      refine s_X12_feed_18 (a0 := m) h1 h2 h3 h4 h5 hjR fun _ => ⟨fun _ => ⟨fun g => h71 v1 h1 ?_, fun ga => ⟨fun g => h71 v2 h2 ?_, fun gb => ⟨fun g => h71 v3 h3 ?_, fun gc => ⟨fun g => h71 v4 h4 ?_, fun gd => h71 v5 h5 ?_⟩⟩⟩⟩, fun g => absurd (by omega) g⟩
      · unfold X_w
        rw [if_pos (by omega)]
      · unfold X_w
        rw [if_neg (by omega), if_pos (by omega)]
      · unfold X_w
        rw [if_neg (by omega), if_neg (by omega), if_pos (by omega)]
      · unfold X_w
        rw [if_neg (by omega), if_neg (by omega), if_neg (by omega), if_pos (by omega)]
      · unfold X_w
        rw [if_neg (by omega), if_neg (by omega), if_neg (by omega), if_neg (by omega)]
  refine m_X12_feed (d := d) h1 h2 h3 h4 h5 fun _ => ⟨hB.1, by rw [t1]; exact ⟨by omega, by omega⟩, fun z => hn (by rw [t1] at z; exact z), fun z => ?_⟩
  rw [t1] at z
  exact hlp (by omega) 20 0 rfl M (e_fr.rf _ _) (by rw [t1]; exact (Int.add_zero tp).symm) fun i hi => absurd hi (by omega)
theorem e_ask {Q : Int → g_M → Prop} {n : Int} (hnR : g_InR n) (H : E_W m ρ S q M) (hT : E_tp m ρ F tp M) (hG : ∀ k, 0 ≤ k → k < n → G k = F k) (hG2 : ∀ k, (k < 0 ∨ n ≤ k) → G k = g_i M (ρ 0) k) (hok : W_ok S) (hgv : ∀ w, w < 2 → S.2.2 w ≤ 1000000) (hno : n < 0 ∨ tp < n → Q (-1) M) (hq : 0 ≤ n → n ≤ tp → ∀ q1 M1, M1.1 = M.1 → (∀ x k, g_r M1 x k = g_r M x k) → E_W m ρ (W_ask G n S).2 q1 M1 → E_an m ρ (W_ask G n S).1 M1 → g_i M1 m 2 = 0 → Q (W_ask G n S).1.length M1) : g_Call (d + 234) 426 [.ref m, g_n n] M (g_qI Q) := by
  obtain ⟨t1, t2, t3, t4⟩ := hT
  have hB := H.1.1
  have hb0 := hB.at (k := 0) (by decide)
  have hb1 := hB.at (k := 1) (by decide)
  have hA0 : g_A M (ρ 0) 0 2706210 := hb0.2
  have hA1 : g_A M (ρ 1) 1 2000 := hb1.2
  have n0 : ρ 0 ≠ m := hB.nm (by decide)
  have n10 : ρ 1 ≠ ρ 0 := hB.ne (by decide) (by decide) (by decide)
  refine m_X12_ask (d := d + 233) hnR fun _ => ⟨fun z => hno (Or.inl z), fun z0 => ⟨hB.1, fun z => hno (Or.inr (by rw [t1] at z; exact z)), fun z1 => ?_⟩⟩
  rw [t1] at z1
  have hlp : ∀ (k j : Nat), (j : Int) + k = n → ∀ Mi, e_fr (fun y k => y = ρ 0 ∧ 0 ≤ k ∧ k < n) M Mi → (∀ k : Int, 0 ≤ k → k < j → g_i Mi (ρ 0) k = G k) → g_Run (d + 233) 426 16 [(0, .ref m), (1, g_n n), (2, g_n (j : Int))] [] Mi (g_qI Q) := by
    intro k
    induction k with
    | zero =>
      intro j hj Mi f hb
      have ej : (j : Int) = n := by omega
      rw [ej]
      refine s_X12_ask_16 (a0 := m) hnR hnR fun _ => ⟨fun g => absurd g (by omega), fun _ => ⟨f.O hB.1, fun M2 e2 _ M6 e6 ok6 => ?_⟩⟩
      have f6 : e_fr (fun y k => (y = ρ 0 ∧ 0 ≤ k ∧ k < n) ∨ (y = m ∧ (k = 2 ∨ k = 10))) M M6 := (f.up fun y k z => Or.inl z).tr (by
        rw [e6, e2]
        exact (e_fr.wi _ (Or.inr ⟨rfl, Or.inl rfl⟩)).tr (e_fr.wi _ (Or.inr ⟨rfl, Or.inr rfl⟩)))
      have hW := H.lf f6 fun y k z => by
        rcases z with ⟨e, k1, k2⟩ | ⟨e, hk⟩
        · exact Or.inr (Or.inr ⟨e, Or.inl (by omega)⟩)
        · exact Or.inl ⟨e, by omega, by omega, by omega⟩
      have i10 : g_i M6 m 10 = 0 := by rw [e6, g_i_ws, if_pos rfl]
      have i2 : g_i M6 m 2 = 0 := by rw [e6, g_i_ws, if_neg (by decide), e2, g_i_ws, if_pos rfl]
      have iG : g_i M6 (ρ 0) = G := funext fun k => by
        by_cases g : 0 ≤ k ∧ k < n
        · rw [e6, g_i_wi, if_neg fun z => n0 z.1, e2, g_i_wi, if_neg fun z => n0 z.1]
          exact hb k g.1 (by omega)
        · rw [hG2 k (by omega)]
          refine f6.2.1 _ _ fun z => ?_
          rcases z with ⟨-, z⟩ | ⟨z, -⟩
          · exact g z
          · exact n0 z
      refine e_asked (d := d) (by omega) (by omega) hnR hW (hW.toS i10) (fun k => ok6.byte hW.1.1.R.2.2 k) i2 hok hgv fun q1 M1 a1 a2 a3 a4 a5 => ?_
      rw [iG] at a3 a4 ⊢
      exact hq (by omega) (by omega) q1 M1 (a1.trans f6.1) (fun x k => (a2 x k).trans (f6.2.2 x k)) a3 a4 a5
    | succ k ih =>
      intro j hj Mi f hb
      have hjR : g_InR (j : Int) := ⟨by omega, by have := hnR.2; omega⟩
      refine s_X12_ask_16 (a0 := m) hnR hjR fun _ => ⟨fun _ => ⟨f.O hB.1, ρ 0, by rw [f.2.2]; exact hb0.1, ⟨by omega, by omega⟩, ρ 1, by rw [f.2.2]; exact hb1.1, 2000, f.A hA1, ⟨by omega, by omega⟩, 2706210, f.A hA0, ⟨by omega, by omega⟩, fun M46 e46 _ => ⟨⟨by omega, by omega⟩, ?_⟩⟩, fun g => absurd (by omega) g⟩
      rw [Int.zero_add] at e46
      have h9 := ih (j + 1) (by omega) M46 (f.tr (by rw [e46]; exact e_fr.wi _ ⟨rfl, by omega, by omega⟩)) fun k k0 k1 => ?_
      · rw [show ((j + 1 : Nat) : Int) = (j : Int) + 1 by omega] at h9
        exact h9
      · rw [e46, g_i_ws]
        by_cases g : k = j
        · rw [g, if_pos rfl, f.2.1 (ρ 1) j fun z => n10 z.1, t4 j (by omega) (by omega), hG j (by omega) (by omega)]
        · rw [if_neg g]
          exact hb k k0 (by omega)
  have h9 := hlp n.toNat 0 (by omega) M (e_fr.rf _ _) fun k k0 k1 => absurd k1 (by omega)
  exact h9
theorem e_answer {Q : Int → g_M → Prop} {i : Int} (hi : g_InR i) (H : E_W m ρ S q M) (hA : E_an m ρ an M) (hq : Q (X_byte an i) M) : g_Call (d + 2) 427 [.ref m, g_n i] M (g_qI Q) := by
  obtain ⟨a1, a2, a3⟩ := hA
  unfold X_byte at hq
  refine m_X12_answer (d := d + 1) hi fun _ => ⟨fun z => ?_, fun z => ⟨H.1.1.1, fun z2 => ?_, fun z2 => ?_⟩⟩
  · rw [if_neg (by omega)] at hq
    exact hq
  · rw [a1] at z2
    refine ⟨⟨by omega, by omega⟩, e_at (d := d) H.1.1.R (by omega) (by omega) ?_⟩
    rw [if_pos ⟨by omega, z2⟩, ← b_at_get a3 (by omega) z2] at hq
    intro _ _ _
    exact hq
  · rw [a1] at z2
    rw [if_neg (by omega)] at hq
    exact hq
theorem e_state {Q : Int → g_M → Prop} {k : Int} (hk : g_InR k) (H : E_W m ρ S q M) (hA : E_an m ρ an M) (hT : g_i M m 2 = tp) (hq : Q (X_st S.1 S.2.1 an.length tp k) M) : g_Call (d + 1) 428 [.ref m, g_n k] M (g_qI Q) := by
  have hB := H.1.1
  have hd := H.2.2.2
  have h68 := hB.at (k := 68) (by decide)
  have h69 := hB.at (k := 69) (by decide)
  have h35 := hB.at (k := 35) (by decide)
  have A68 : g_A M (ρ 68) 1 2 := h68.2
  have A69 : g_A M (ρ 69) 1 2 := h69.2
  have A35 : g_A M (ρ 35) 2 8 := h35.2
  have hs := fun w hw => (H.1.2.2.2.2 w hw).1
  have hl := fun w (hw : w < 2) => R_dn_3 (q w)
  have c0 : g_i M (ρ 68) 0 = (S.2.1 0).length := by
    rw [← hd 0 (by decide), (hl 0 (by decide)).1]
    exact (hs 0 (by decide)).2.1
  have c1 : g_i M (ρ 68) 1 = (S.2.1 1).length := by
    rw [← hd 1 (by decide), (hl 1 (by decide)).1]
    exact (hs 1 (by decide)).2.1
  have d0 : g_i M (ρ 69) 0 = S_sum ((S.2.1 0).map Prod.snd) := by
    rw [← hd 0 (by decide), (hl 0 (by decide)).2]
    exact (hs 0 (by decide)).2.2.1
  have d1 : g_i M (ρ 69) 1 = S_sum ((S.2.1 1).map Prod.snd) := by
    rw [← hd 1 (by decide), (hl 1 (by decide)).2]
    exact (hs 1 (by decide)).2.2.1
  have hst : ∀ x : Nat, x < 8 → (g_i M (ρ 35) x = 0 ↔ S.1 x = none) := fun x hx => by
    have h9 := H.1.2.2.2.1 x hx
    cases hs : S.1 x with
    | none =>
      rw [hs] at h9
      exact ⟨fun _ => rfl, fun _ => h9⟩
    | some t =>
      rw [hs] at h9
      obtain ⟨V, T, m1, m2⟩ := t
      have h8 : g_i M (ρ 35) x = 1 := h9.1
      exact ⟨fun z => absurd (h8.symm.trans z) (by decide), fun z => absurd z (by simp)⟩
  have h77 : ∀ w : Nat, w < 2 → k = 4 + w → Q (X_cnt S.1 w 4 : Nat) M → g_Run d 428 77 [(0, .ref m), (1, g_n k), (2, g_n 0), (3, g_n (4 * (k - 4)))] [] M (g_qI Q) := fun w hw ek hQ => by
    have hlp : ∀ (j i : Nat), i + j = 4 → g_Run d 428 77 [(0, .ref m), (1, g_n k), (2, g_n (X_cnt S.1 w i : Nat)), (3, g_n ((4 * w + i : Nat) : Int))] [] M (g_qI Q) := by
      intro j
      induction j with
      | zero =>
        intro i hi
        have hi4 : i = 4 := by omega
        subst hi4
        have hc := X_cnt_le S.1 w 4
        exact s_X12_state_77 (a0 := m) hk ⟨by omega, by omega⟩ ⟨by omega, by omega⟩ fun _ => ⟨⟨by omega, by omega⟩, ⟨by omega, by omega⟩, ⟨by omega, by omega⟩, fun g => absurd g (by omega), fun _ => hQ⟩
      | succ j ih =>
        intro i hi
        have hc := X_cnt_le S.1 w i
        have h9 := ih (i + 1) (by omega)
        have e1 : X_cnt S.1 w (i + 1) = X_cnt S.1 w i + if (S.1 (4 * w + i)).isNone = true then 0 else 1 := rfl
        have h8 := hst (4 * w + i) (by omega)
        rw [show ((4 * w + (i + 1) : Nat) : Int) = ((4 * w + i : Nat) : Int) + 1 by omega] at h9
        refine s_X12_state_77 (a0 := m) hk ⟨by omega, by omega⟩ ⟨by omega, by omega⟩ fun _ => ⟨⟨by omega, by omega⟩, ⟨by omega, by omega⟩, ⟨by omega, by omega⟩, fun _ => ⟨hB.1, ρ 35, h35.1, 8, A35, ⟨by omega, by omega⟩, fun g => ⟨⟨by omega, by omega⟩, ⟨by omega, by omega⟩, ?_⟩, fun g => ⟨⟨by omega, by omega⟩, ⟨by omega, by omega⟩, ?_⟩⟩, fun g => absurd (by omega) g⟩
        · rw [h8.mp g] at e1
          have e1 : X_cnt S.1 w (i + 1) = X_cnt S.1 w i + 0 := e1
          rw [e1] at h9
          rw [Int.add_zero]
          exact h9
        · cases hs : S.1 (4 * w + i) with
          | none => exact absurd (h8.mpr hs) g
          | some t =>
            rw [hs] at e1
            have e1 : X_cnt S.1 w (i + 1) = X_cnt S.1 w i + 1 := e1
            rw [e1, show ((X_cnt S.1 w i + 1 : Nat) : Int) = (X_cnt S.1 w i : Int) + 1 by omega] at h9
            exact h9
    have h9 := hlp 4 0 rfl
    rw [show ((4 * w + 0 : Nat) : Int) = 4 * (k - 4) by omega] at h9
    exact h9
  unfold X_st at hq
  refine m_X12_state (d := d) hk fun _ => ⟨fun z => ⟨hB.1, ρ 68, h68.1, 2, A68, ⟨by omega, by omega⟩, ?_⟩, fun z0 => ⟨fun z => ⟨hB.1, ρ 68, h68.1, 2, A68, ⟨by omega, by omega⟩, ?_⟩, fun z1 => ⟨fun z => ⟨hB.1, ρ 69, h69.1, ⟨by omega, by omega⟩, 2, A69, ⟨by omega, by omega⟩, ?_⟩, fun z2 => ⟨fun z => ⟨hB.1, ρ 69, h69.1, ⟨by omega, by omega⟩, 2, A69, ⟨by omega, by omega⟩, ?_⟩, fun z3 => ⟨fun z => ⟨hB.1, ?_⟩, fun z6 => ⟨fun z => ⟨hB.1, ?_⟩, fun z7 => ⟨fun z => ⟨⟨by omega, by omega⟩, ⟨by omega, by omega⟩, h77 0 (by decide) z ?_⟩, fun z4 => ⟨fun z => ⟨⟨by omega, by omega⟩, ⟨by omega, by omega⟩, h77 1 (by decide) z ?_⟩, fun z5 => ?_⟩⟩⟩⟩⟩⟩⟩⟩
  · rw [if_pos z] at hq
    rw [z, c0]
    exact hq
  · rw [if_neg z0, if_pos z] at hq
    rw [z, c1]
    exact hq
  · rw [if_neg z0, if_neg z1, if_pos z] at hq
    rw [z, show (2 : Int) - 2 = 0 from rfl, d0]
    exact hq
  · rw [if_neg z0, if_neg z1, if_neg z2, if_pos z] at hq
    rw [z, show (3 : Int) - 2 = 1 from rfl, d1]
    exact hq
  · rw [if_neg z0, if_neg z1, if_neg z2, if_neg z3, if_neg (by omega), if_neg (by omega), if_pos z] at hq
    rw [hA.1]
    exact hq
  · rw [if_neg z0, if_neg z1, if_neg z2, if_neg z3, if_neg (by omega), if_neg (by omega), if_neg z6, if_pos z] at hq
    rw [hT]
    exact hq
  · rw [if_neg z0, if_neg z1, if_neg z2, if_neg z3, if_pos z] at hq
    exact hq
  · rw [if_neg z0, if_neg z1, if_neg z2, if_neg z3, if_neg z4, if_pos z] at hq
    exact hq
  · rw [if_neg z0, if_neg z1, if_neg z2, if_neg z3, if_neg z4, if_neg z5, if_neg z6, if_neg z7] at hq
    exact hq
theorem e_isThereOne {Q : Int → g_M → Prop} {v i : Int} (hv : g_InR v) (hi : g_InR i) (H : E_W m ρ S q M) (hq : Q (if (X_dn S.2.1 v i).isSome = true then 1 else 0) M) : g_Call (d + 1) 429 [.ref m, g_n v, g_n i] M (g_qI Q) := by
  have hB := H.1.1
  have h68 := hB.at (k := 68) (by decide)
  have A68 : g_A M (ρ 68) 1 2 := h68.2
  have h9 : ∀ w2 : Nat, w2 < 2 → v = w2 → g_Run d 429 9 [(0, .ref m), (1, g_n v), (2, g_n i)] [] M (g_qI Q) := fun w2 hw2 e => by
    have c6 : g_i M (ρ 68) v = (S.2.1 w2).length := by
      rw [← H.2.2.2 w2 hw2, (R_dn_3 (q w2)).1, e]
      exact (H.1.2.2.2.2 w2 hw2).1.2.1
    have et : v.toNat = w2 := by omega
    refine s_X12_isThereOne_9 (a0 := m) hv hi fun _ => ⟨fun z => ?_, fun z => ⟨hB.1, ρ 68, h68.1, 2, A68, ⟨by omega, by omega⟩, fun z2 => ?_, fun z2 => ?_⟩⟩
    · have hX : X_dn S.2.1 v i = none := if_neg (by omega)
      rw [hX] at hq
      exact hq
    · rw [c6] at z2
      have hX : X_dn S.2.1 v i = some ((S.2.1 w2)[i.toNat]'(by omega)) := by
        unfold X_dn
        rw [if_pos ⟨by omega, by omega⟩, et, List.getElem?_eq_getElem (by omega)]
      rw [hX] at hq
      exact hq
    · rw [c6] at z2
      have hX : X_dn S.2.1 v i = none := by
        unfold X_dn
        rw [if_pos ⟨by omega, by omega⟩, et, List.getElem?_eq_none (by omega)]
      rw [hX] at hq
      exact hq
  refine m_X12_isThereOne (d := d) hv hi fun _ => ⟨fun z => h9 0 (by decide) (by omega), fun z => ⟨fun z2 => h9 1 (by decide) (by omega), fun z2 => ?_⟩⟩
  have hX : X_dn S.2.1 v i = none := if_neg (by omega)
  rw [hX] at hq
  exact hq
/-- a document of a shelf -/
theorem E_W.dn (H : E_W m ρ S q M) {v i : Int} {z : Int × List b_E} (hx : X_dn S.2.1 v i = some z) : ∃ (w : Nat) (y : Nat × Int × List b_E), w < 2 ∧ v = w ∧ 0 ≤ i ∧ i < 200 ∧ (q w)[i.toNat]? = some y ∧ y.2 = z ∧ R_hs ρ w (q w) (S.2.2 w) M := by
  obtain ⟨w2, hw2, e, i0, hz⟩ := X_dn_s hx
  have hs := H.1.2.2.2.2 w2 hw2
  rw [← H.2.2.2 w2 hw2] at hz
  unfold R_dn at hz
  rw [List.getElem?_map] at hz
  cases hy : (q w2)[i.toNat]? with
  | none => rw [hy] at hz; exact absurd hz (by simp)
  | some y =>
    rw [hy] at hz
    have hl := hs.2.2.2.2.1
    rw [List.length_map] at hl
    have hlt := (List.getElem?_eq_some_iff.mp hy).1
    exact ⟨w2, y, hw2, e, i0, by omega, hy, Option.some.inj hz, hs⟩
theorem e_number {Q : Int → g_M → Prop} {v i : Int} (hv : g_InR v) (hi : g_InR i) (H : E_W m ρ S q M) (hq : Q (match X_dn S.2.1 v i with
  | none => 0
  | some z => z.1) M) : g_Call (d + 2) 430 [.ref m, g_n v, g_n i] M (g_qI Q) := by
  have hB := H.1.1
  have h72 := hB.at (k := 72) (by decide)
  have A72 : g_A M (ρ 72) 1 400 := h72.2
  refine m_X12_number_ (d := d + 1) hv hi fun _ => ⟨hB.1, e_isThereOne (d := d) hv hi H ?_⟩
  intro _ _ _
  cases hx : X_dn S.2.1 v i with
  | none =>
    rw [hx] at hq
    exact ⟨fun _ => hq, fun g => absurd rfl g⟩
  | some z =>
    rw [hx] at hq
    obtain ⟨w, y, hw, e, i0, i2, hy, ey, hs⟩ := H.dn hx
    refine ⟨fun g => absurd (show (1 : Int) = 0 from g) (by decide), fun _ => ⟨ρ 72, h72.1, ⟨by omega, by omega⟩, ⟨by omega, by omega⟩, 400, A72, ⟨by omega, by omega⟩, ?_⟩⟩
    obtain ⟨-, -, g4, -, -⟩ := hs.2.2.1 i.toNat y hy
    rw [show (200 : Int) * (w : Int) + ((i.toNat : Nat) : Int) = 200 * v + i by omega] at g4
    rw [g4, ey]
    exact hq
/-- a document is asked for -/
theorem e_docAt {Q : Int → g_M → Prop} {v i : Int} {z : Int × List b_E} (H : E_W m ρ S q M) (hx : X_dn S.2.1 v i = some z) (hq : ∀ p, b_at (g_i M (ρ 0)) p (b_doc z.2) → 2000 ≤ p → p + (b_doc z.2).length ≤ 802000 → (b_doc z.2).length ≤ 2000 → Q p M) : g_Call (d + 1) 404 [.ref m, g_n v, g_n i] M (g_qI Q) := by
  have hB := H.1.1
  obtain ⟨w, y, hw, e, i0, i2, hy, ey, hs⟩ := H.dn hx
  have h68 := hB.at (k := 68) (by decide)
  have h71 := hB.at (k := 71) (by decide)
  have hes : ((q w).map fun z => z.2.2)[i.toNat]? = some z.2 := by
    rw [List.getElem?_map, hy, ← ey]
    rfl
  have hl := (hs.2.2.2.2.2.2 z.2 (List.mem_of_getElem? hes)).1
  have h9 := e_document (d := d) (i := i.toNat) (w := (w : Int)) (Q := Q) hB.R (show R_tb m (ρ 68) (ρ 71) M from ⟨h68.1, h68.2, h71.1, h71.2⟩) (by omega) hs.sh hes fun p p1 p2 p3 => hq p p1 p2 p3 hl
  rw [show ((i.toNat : Nat) : Int) = i by omega, ← e] at h9
  exact h9
theorem e_docLen {Q : Int → g_M → Prop} {p : Int} {es : List b_E} (H : E_W m ρ S q M) (p1 : b_at (g_i M (ρ 0)) p (b_doc es)) (p2 : 2000 ≤ p) (p3 : p + (b_doc es).length ≤ 802000) (hl : (b_doc es).length ≤ 2000) (hq : Q (b_doc es).length M) : g_Call (d + 2) 227 [.ref m, g_n p] M (g_qI Q) := by
  have hdl := b_doc_len es
  refine e_int4 (d := d) H.1.1.R (by omega) (by omega) ?_
  rw [b_w4_le4 (by omega) (by omega) (b_doc_at p1).1, show (((b_ser es).length : Int) + 5) = ((b_doc es).length : Int) by omega]
  exact hq
theorem e_size {Q : Int → g_M → Prop} {v i : Int} (hv : g_InR v) (hi : g_InR i) (H : E_W m ρ S q M) (hq : Q (match X_dn S.2.1 v i with
  | none => -1
  | some z => ((b_doc z.2).length : Int)) M) : g_Call (d + 3) 431 [.ref m, g_n v, g_n i] M (g_qI Q) := by
  refine m_X12_size (d := d + 2) hv hi fun _ => ⟨H.1.1.1, e_isThereOne (d := d + 1) hv hi H ?_⟩
  intro _ _ _
  cases hx : X_dn S.2.1 v i with
  | none =>
    rw [hx] at hq
    exact ⟨fun _ => hq, fun g => absurd rfl g⟩
  | some z =>
    rw [hx] at hq
    refine ⟨fun g => absurd (show (1 : Int) = 0 from g) (by decide), fun _ => e_docAt (d := d + 1) H hx fun p p1 p2 p3 p4 => ?_⟩
    intro _ _ _
    refine e_docLen (d := d) H p1 p2 p3 p4 ?_
    intro _ _ _
    exact hq
theorem e_byteAt {Q : Int → g_M → Prop} {v i k : Int} (hv : g_InR v) (hi : g_InR i) (hk : g_InR k) (H : E_W m ρ S q M) (hq : Q (match X_dn S.2.1 v i with
  | none => -1
  | some z => X_byte (b_doc z.2) k) M) : g_Call (d + 3) 432 [.ref m, g_n v, g_n i, g_n k] M (g_qI Q) := by
  refine m_X12_byteAt (d := d + 2) hv hi hk fun _ => ⟨H.1.1.1, e_isThereOne (d := d + 1) hv hi H ?_⟩
  intro _ _ _
  cases hx : X_dn S.2.1 v i with
  | none =>
    rw [hx] at hq
    exact ⟨fun _ => hq, fun g => absurd rfl g⟩
  | some z =>
    rw [hx] at hq
    have hq : Q (X_byte (b_doc z.2) k) M := hq
    unfold X_byte at hq
    refine ⟨fun g => absurd (show (1 : Int) = 0 from g) (by decide), fun _ => ⟨fun z0 => ?_, fun z0 => e_docAt (d := d + 1) H hx fun p p1 p2 p3 p4 => ?_⟩⟩
    · rw [if_neg (by omega)] at hq
      exact hq
    intro _ _ _
    refine e_docLen (d := d) H p1 p2 p3 p4 ?_
    intro _ _ _
    refine ⟨fun z1 => e_docAt (d := d + 1) H hx fun p p1 p2 p3 p4 => ?_, fun z1 => ?_⟩
    · intro _ _ _
      refine ⟨⟨by omega, by omega⟩, e_at (d := d + 1) H.1.1.R (by omega) (by omega) ?_⟩
      intro _ _ _
      rw [if_pos ⟨by omega, z1⟩, ← b_at_get p1 (by omega) z1] at hq
      exact hq
    · rw [if_neg (by omega)] at hq
      exact hq
end EFED
