/-! THE FRAME OF A CALL, over the memory -/
/-- a foreign cell -/
def zk_F (K : Nat → Prop) (x : Nat) : Prop := x % 2 = 0 ∧ K (x / 2)
/-- foreign numbers as before, all else as it came -/
noncomputable def zk_pat (K : Nat → Prop) (M M1 : g_M) : g_M := (M1.1, fun x k => @ite _ (zk_F K x) (Classical.propDecidable _) (M.2.1 x k) (M1.2.1 x k), M1.2.2)
/-- refs of a cell are the same -/
def zk_sr (c : g_S) (M M1 : g_M) (a : Nat) : Prop := match c with
  | .inl ci => ∀ k : Nat, k < q_N ci → g_isR (q_Ty ci k) = true → g_r M1 a k = g_r M a k
  | .inr (t, _) => 3 ≤ t → ∀ j : Nat, g_r M1 a j = g_r M a j
section KPT
variable {K : Nat → Prop} {M M1 : g_M} {E E1 : q_H}
theorem zk_pat_y {x : Nat} (h : zk_F K x) : g_i (zk_pat K M M1) x = g_i M x := funext fun k => by
  show @ite _ (zk_F K x) (Classical.propDecidable _) _ _ = _
  rw [if_pos h]
  rfl
theorem zk_pat_n {x : Nat} (h : ¬ zk_F K x) : g_i (zk_pat K M M1) x = g_i M1 x := funext fun k => by
  show @ite _ (zk_F K x) (Classical.propDecidable _) _ _ = _
  rw [if_neg h]
  rfl
theorem zk_pat_f : e_fr (fun y _ => zk_F K y) M1 (zk_pat K M M1) := ⟨rfl, fun x k h => by rw [zk_pat_n h], fun _ _ => rfl⟩
theorem g_sh_2 (M : g_M) (i : Nat) : g_sh M (2 * i) = M.1[i]? := by
  unfold g_sh
  rw [if_pos (Nat.mul_mod_right 2 i), Nat.mul_div_cancel_left _ (by decide)]
theorem g_tyd_congr {a : Nat} {c : g_S} (hi : g_i M1 a = g_i M a) (h : g_tyd M a c) : g_tyd M1 a c := by
  unfold g_tyd at h ⊢
  rw [hi]
  exact h
theorem g_ext_at (hx : g_ext M M1) {i : Nat} {c : g_S} (h1 : M1.1[i]? = some c) (hi : i < M.1.length) : M.1[i]? = some c := by
  have h2 : M.1[i]? = some (M.1[i]'hi) := List.getElem?_eq_getElem hi
  have h3 := hx (2 * i) _ ((g_sh_2 M i).trans h2)
  rw [g_sh_2, h1] at h3
  rw [h2, h3]
theorem zk_pat_Rel (hE : g_Rel E M) (hE1 : g_Rel E1 M1) (hx : g_ext M M1) (hin : zk_in K E) (hJ : zk_J K E E1) : g_Rel E1 (zk_pat K M M1) := by
  have hin2 : ∀ i, K i → i < M.1.length := fun i hi => by rw [← hE.1]; exact hin i hi
  refine ⟨hE1.1, ⟨fun a k => ?_, fun a c hc => ?_⟩, fun i c e h1 h2 => ?_⟩
  · by_cases g : zk_F K a
    · rw [zk_pat_y g]
      exact hE.2.1.1 a k
    · rw [zk_pat_n g]
      exact hE1.2.1.1 a k
  · by_cases g : zk_F K a
    · refine g_tyd_congr (zk_pat_y g) (hE.2.1.2 a c ?_)
      obtain ⟨e1, e2⟩ := g_sh_s (show g_sh M1 a = some c from hc)
      rw [e1, g_sh_2]
      exact g_ext_at hx e2 (hin2 _ g.2)
    · exact g_tyd_congr (zk_pat_n g) (hE1.2.1.2 a c hc)
  · have hc1 := hE1.2.2 i c e h1 h2
    have hdv : 2 * i / 2 = i := Nat.mul_div_cancel_left _ (by decide)
    by_cases g : K i
    · have gF : zk_F K (2 * i) := ⟨Nat.mul_mod_right 2 i, by rw [hdv]; exact g⟩
      have hc0 := hE.2.2 i c e (g_ext_at hx h1 (hin2 i g)) (by rw [← hJ.2 i g]; exact h2)
      rcases c with ci | ⟨t, l⟩ <;> rcases e with ⟨t2, l2, L | L⟩ | ⟨c2, fs⟩
      · exact (show False from hc1).elim
      · exact (show False from hc1).elim
      · obtain ⟨a1, a2, a3⟩ := hc0
        obtain ⟨b1, b2, b3⟩ := hc1
        refine ⟨a1, a2, fun k hk => ?_⟩
        have e0 := a3 k hk
        have e1 := b3 k hk
        unfold g_fv at e0 e1 ⊢
        by_cases gr : g_isR (q_Ty ci k) = true
        · rw [if_pos gr] at e1 ⊢
          exact e1
        · rw [if_neg gr] at e0 ⊢
          rw [zk_pat_y gF]
          exact e0
      · obtain ⟨a1, a2, a3, a4⟩ := hc0
        exact ⟨a1, a2, a3, fun j => by rw [zk_pat_y gF]; exact a4 j⟩
      · exact hc1
      · exact (show False from hc1).elim
    · have gF : ¬ zk_F K (2 * i) := fun z => g (by have := z.2; rwa [hdv] at this)
      exact g_cell_congr (M := M1) (fun k => by rw [zk_pat_n gF]) (fun _ => rfl) hc1
theorem zk_rf_inj {a b : Option Nat} (h : va_rf a = va_rf b) : a = b := by
  cases a with
  | none =>
    cases b with
    | none => rfl
    | some b => exact absurd (show Value.null = Value.ref b from h) (by simp)
  | some a =>
    cases b with
    | none => exact absurd (show Value.ref a = Value.null from h) (by simp)
    | some b =>
      have h2 : Value.ref a = Value.ref b := h
      injection h2 with h3
      exact congrArg some h3
/-- two memories of one cell tell the same refs -/
theorem zk_cell_r {a : Nat} {c : g_S} {e : q_E} (h : g_cell M a c e) (h1 : g_cell M1 a c e) : zk_sr c M M1 a := by
  rcases c with ci | ⟨t, l⟩ <;> rcases e with ⟨t2, l2, L | L⟩ | ⟨c2, fs⟩
  · exact (show False from h).elim
  · exact (show False from h).elim
  · intro k hk gr
    have e1 := h.2.2 k hk
    have e2 := h1.2.2 k hk
    unfold g_fv at e1 e2
    rw [if_pos gr] at e1 e2
    exact zk_rf_inj (Option.some.inj (e2.symm.trans e1))
  · intro ht
    have h3 : t < 3 := h.2.2.1
    omega
  · intro ht j
    rw [← h.2.2.2.2 j, ← h1.2.2.2.2 j]
  · exact (show False from h).elim
/-- a call, with its frame -/
theorem zk_call {d y : Nat} {as : List Value} {Q : Option Value → g_M → Prop} (h : g_Call d y as M Q) (hE : g_Rel E M) (has : zk_vs K E.length as) (hk : zk_hok K E) (hin : zk_in K E) : ∃ (v : Option Value) (E1 : q_H) (M1 : g_M) (c s N : Nat), (∀ F : Nat, N ≤ F → q_callf F d y as E = some (v, E1, c, s)) ∧ g_Rel E1 (zk_pat K M M1) ∧ c + M.1.length = M1.1.length ∧ s + g_sl M = g_sl M1 ∧ g_ext M M1 ∧ Q v M1 ∧ zk_hok K E1 ∧ zk_in K E1 ∧ zk_J K E E1 ∧ ∀ (i : Nat) (c : g_S), K i → M.1[i]? = some c → zk_sr c M (zk_pat K M M1) (2 * i) := by
  obtain ⟨v, E', M', c, s, N, hrun, hrel, hc, hs, hext, hQ⟩ := h E hE
  obtain ⟨-, x2, x3, x4⟩ := zk_callf (K := K) N d y as E _ (hrun N (Nat.le_refl _)) has hk hin
  refine ⟨v, E', M', c, s, N, hrun, zk_pat_Rel hE hrel hext hin x4, hc, hs, hext, hQ, x2, x3, x4, fun i c hi hc => ?_⟩
  have hlt := hin i hi
  have h1 : E[i]? = some (E[i]'hlt) := List.getElem?_eq_getElem hlt
  have h2 : E'[i]? = some (E[i]'hlt) := (x4.2 i hi).trans h1
  have h3 : M'.1[i]? = some c := by
    have := hext (2 * i) c ((g_sh_2 M i).trans hc)
    rwa [g_sh_2] at this
  exact zk_cell_r (hE.2.2 i c _ hc h1) ((zk_pat_Rel hE hrel hext hin x4).2.2 i c _ h3 h2)
/-- what an object of the call's own leads to -/
theorem zk_obj (hE : g_Rel E M) (hk : zk_hok K E) {a ci k b : Nat} (hO : g_O M a ci) (ha : ¬ zk_F K a) (hN : k < q_N ci) (gr : g_isR (q_Ty ci k) = true) (hr : g_r M a k = some b) : ¬ zk_F K b ∧ (b % 2 = 0 → b / 2 < M.1.length) := by
  obtain ⟨e1, e2⟩ := g_sh_s hO
  have hlt : a / 2 < E.length := by
    rw [hE.1]
    exact (List.getElem?_eq_some_iff.mp e2).1
  have h1 : E[a / 2]? = some (E[a / 2]'hlt) := List.getElem?_eq_getElem hlt
  have hc := hE.2.2 (a / 2) _ _ e2 h1
  rw [← e1] at hc
  have hko := hk _ _ h1 fun z => ha ⟨by omega, z⟩
  have hv : zk_vok K E.length (.ref b) := by
    cases he : (E[a / 2]'hlt) with
    | inl z =>
      rw [he] at hc
      rcases z with ⟨t2, l2, L | L⟩
      · exact (show False from hc).elim
      · exact (show False from hc).elim
    | inr z =>
      rw [he] at hc hko
      obtain ⟨c2, fs⟩ := z
      have e3 := hc.2.2 k hN
      unfold g_fv at e3
      rw [if_pos gr, hr] at e3
      exact hko _ (List.mem_of_getElem? e3)
  refine ⟨fun z => (hv z.1).2 z.2, fun z => ?_⟩
  rw [← hE.1]
  exact (hv z).1
end KPT
