/-! reading a request: the class -/
section SHIFT
variable {A F : Int → Int} {n0 : Int}
theorem sh_w4 (hF : ∀ q, 0 ≤ q → q < n0 → A (4 + q) = F q) {p : Int} (h0 : 0 ≤ p) (h1 : p + 4 ≤ n0) : b_w4 A (4 + p) = b_w4 F p := by
  refine b_w4_eq (hF p h0 (by omega)) ?_ ?_ ?_
  · rw [show 4 + p + 1 = 4 + (p + 1) by omega]
    exact hF _ (by omega) (by omega)
  · rw [show 4 + p + 2 = 4 + (p + 2) by omega]
    exact hF _ (by omega) (by omega)
  · rw [show 4 + p + 3 = 4 + (p + 3) by omega]
    exact hF _ (by omega) (by omega)
theorem sh_z (hF : ∀ q, 0 ≤ q → q < n0 → A (4 + q) = F q) : ∀ (f : Nat) {p : Int}, 0 ≤ p → p + f ≤ n0 → u_z A f (4 + p) = 4 + u_z F f p := by
  intro f
  induction f with
  | zero => exact fun _ _ => rfl
  | succ f ih =>
    intro p h0 h1
    unfold u_z
    rw [hF p h0 (by omega)]
    by_cases g : F p = 0
    · rw [if_pos g, if_pos g]
    · rw [if_neg g, if_neg g, show 4 + p + 1 = 4 + (p + 1) by omega]
      exact ih (by omega) (by omega)
theorem sh_u (hF : ∀ q, 0 ≤ q → q < n0 → A (4 + q) = F q) {p : Int} (h0 : 0 ≤ p) (h1 : p < n0) : u_at A (4 + p) = u_at F p := by
  unfold u_at
  rw [hF p h0 h1]
theorem sh_cts (hF : ∀ q, 0 ≤ q → q < n0 → A (4 + q) = F q) {p : Int} (h0 : 0 ≤ p) : ∀ (k : Nat) {i : Int}, 0 ≤ i → p + i + k ≤ n0 → u_cts A (4 + p) k i = u_cts F p k i := by
  intro k
  induction k with
  | zero => exact fun _ _ => rfl
  | succ k ih =>
    intro i hi h1
    unfold u_cts
    rw [ih (by omega) (by omega), show 4 + p + i = 4 + (p + i) by omega, sh_u hF (by omega) (by omega)]
theorem sh_ch (hF : ∀ q, 0 ≤ q → q < n0 → A (4 + q) = F q) {p to : Int} (h0 : 0 ≤ p) (h1 : p < to) (h2 : to ≤ n0) : u_ch A (4 + p) (4 + to) = u_ch F p to := by
  have hl := u_lead_R (u_at F p)
  unfold u_ch
  rw [sh_u hF h0 (by omega)]
  by_cases g1 : u_lead (u_at F p) = 0
  · rw [if_pos g1, if_pos g1]
  rw [if_neg g1, if_neg g1]
  by_cases g2 : to < p + u_lead (u_at F p)
  · rw [if_pos g2, if_pos (by omega)]
  rw [if_neg g2, if_neg (by omega)]
  by_cases g3 : u_lead (u_at F p) = 1
  · rw [if_pos g3, if_pos g3]
  rw [if_neg g3, if_neg g3, sh_cts hF h0 _ (by omega) (by omega), show 4 + p + 1 = 4 + (p + 1) by omega, sh_u hF (by omega) (by omega)]
theorem sh_bad (hF : ∀ q, 0 ≤ q → q < n0 → A (4 + q) = F q) {to : Int} (h2 : to ≤ n0) : ∀ (f : Nat) {p : Int}, 0 ≤ p → u_bad A (4 + to) f (4 + p) = if u_bad F to f p = -1 then -1 else 4 + u_bad F to f p := by
  intro f
  induction f with
  | zero => exact fun _ => rfl
  | succ f ih =>
    intro p h0
    unfold u_bad
    by_cases g1 : p < to
    · rw [if_pos (by omega), if_pos g1, sh_ch hF h0 g1 h2]
      have hr := u_ch_R F p to
      by_cases g2 : u_ch F p to = 0
      · rw [if_pos g2, if_pos g2, if_neg (by omega)]
      · rw [if_neg g2, if_neg g2, show 4 + p + u_ch F p to = 4 + (p + u_ch F p to) by omega]
        exact ih (by omega)
    · rw [if_neg (by omega), if_neg g1, if_pos rfl]
theorem sh_b (hF : ∀ q, 0 ≤ q → q < n0 → A (4 + q) = F q) {x : List Int} : ∀ {p : Int}, 0 ≤ p → p + x.length ≤ n0 → b_at F p x → b_at A (4 + p) x := by
  intro p h0 h1 h i v hv
  have hi : i < x.length := by
    obtain ⟨hh, -⟩ := List.getElem?_eq_some_iff.mp hv
    exact hh
  have := h i v hv
  rw [show 4 + p + (i : Int) = 4 + (p + i) by omega, hF _ (by omega) (by omega)]
  exact this
end SHIFT
def c_f (M : g_M) (o : Nat) (w p : Int) : g_M := g_wi (g_wi M o 1 w) o 2 p
def c_post (Q : Int → g_M → Prop) (M : g_M) (o : Nat) (R : Int × Int × Int) : Prop := (R.1 = 0 → Q (4 + R.2.2) M) ∧ (¬ R.1 = 0 → Q (-1) (c_f M o R.1 R.2.1))
theorem c_post.bad {Q : Int → g_M → Prop} {M : g_M} {o : Nat} {w p e : Int} (h : c_post Q M o (w, p, e)) (hw : w ≠ 0) : Q (-1) (c_f M o w p) := h.2 hw
section READC
variable {d : Nat} {M : g_M} {o a : Nat} {n n0 : Int} {F : Int → Int}
theorem c_fails {Q : Int → g_M → Prop} {w q : Int} (hD : c_RD M o a n) (hw : g_InR w) (h0 : 0 ≤ q) (h1 : q < 1000000000) (h : Q (-1) (c_f M o w q)) : g_Call (d + 1) 97 [.ref o, g_n w, g_n (4 + q)] M (g_qI Q) :=
  m_X6_fails hw ⟨by omega, by omega⟩ fun _ => ⟨hD.1, fun _ e _ => ⟨⟨by omega, by omega⟩, fun _ e2 _ => by
    subst e
    subst e2
    rw [show 4 + q - 4 = q by omega]
    exact h⟩⟩
theorem u_ltU1 {r : Int} (h : g_InR r) : g_lc ((Int64.ofInt r) &&& 4294967295) 1 < 0 ↔ r = 0 := by
  have := u_ltU (k := 1) h ⟨by decide, by decide⟩
  rw [show Int64.ofInt 1 = 1 from rfl] at this
  rw [this]
  have := h.1
  omega
theorem u_ltU5 {r : Int} (h : g_InR r) : g_lc ((Int64.ofInt r) &&& 4294967295) 5 < 0 ↔ 0 ≤ r ∧ r < 5 := by
  have := u_ltU (k := 5) h ⟨by decide, by decide⟩
  rw [show Int64.ofInt 5 = 5 from rfl] at this
  rw [this]
  have := h.1
  omega
theorem u_ltUs {r k : Int} (h : g_InR r) (h0 : 0 ≤ k) (h1 : k < 1000000000) : g_lc ((Int64.ofInt r) &&& 4294967295) (Int64.ofInt k) < 0 ↔ 0 ≤ r ∧ r < k := by
  rw [u_ltU h ⟨by omega, by omega⟩]
  have := h.1
  omega
theorem u_gtUs {r k : Int} (h : g_InR r) (h0 : 0 ≤ k) (h1 : k < 1000000000) : 0 < g_lc ((Int64.ofInt r) &&& 4294967295) (Int64.ofInt k) ↔ r < 0 ∨ k < r := by
  rw [u_gtU h ⟨by omega, by omega⟩]
  have := h.1
  omega
theorem c_text {Q : Int → g_M → Prop} {v left : Int} (hD : c_RD M o a n) (hF : ∀ q, 0 ≤ q → q < n0 → g_i M a (4 + q) = F q) (hn : 4 + n0 < n) (hm : n0 < 90000) (h0 : 0 ≤ v) (hl : 0 ≤ left) (h1 : v + left ≤ n0) (h : c_post Q M o (r_txt F v left)) : g_Call (d + 3) 102 [.ref o, g_n (4 + v), g_n left] M (g_qI Q) := by
  obtain ⟨hO, hr, hA, hn9⟩ := id hD
  unfold r_txt at h
  refine m_X6_text ⟨by omega, by omega⟩ ⟨by omega, by omega⟩ fun _ => ⟨fun g => ⟨hO, ?_⟩, fun g => ⟨hO, a, hr, c_w4 hA ⟨by omega, by omega⟩ (by omega) (by omega) fun _ _ hR => ?_⟩⟩
  · rw [if_pos g] at h
    exact c_fails hD ⟨by decide, by decide⟩ h0 (by omega) fun _ _ _ => h.bad (by decide)
  rw [sh_w4 hF h0 (by omega)] at hR ⊢
  rw [if_neg g] at h
  rw [u_ltU1 hR]
  refine ⟨fun g2 => ?_, fun g2 => ⟨⟨by omega, by omega⟩, ?_⟩⟩
  · rw [if_pos g2] at h
    exact c_fails hD ⟨by decide, by decide⟩ h0 (by omega) fun _ _ _ => h.bad (by decide)
  rw [if_neg g2] at h
  rw [u_gtUs hR (by omega) (by omega), u_U32 hR]
  refine ⟨fun g3 => ?_, fun g3 => ?_⟩
  · rw [if_pos g3] at h
    exact c_fails hD ⟨by decide, by decide⟩ h0 (by omega) fun _ _ _ => h.bad (by decide)
  rw [if_neg g3] at h
  have e1 : 4 + v + 3 + b_w4 F v = 4 + (v + 3 + b_w4 F v) := by omega
  rw [e1]
  refine ⟨⟨by omega, by omega⟩, ⟨by omega, by omega⟩, a, hr, n, hA, ⟨by omega, by omega⟩, ?_⟩
  rw [hF _ (by omega) (by omega)]
  refine ⟨fun g4 => ⟨a, hr, ⟨by omega, by omega⟩, ?_⟩, fun g4 => ?_⟩
  · rw [if_pos g4] at h
    rw [show 4 + v + 4 = 4 + (v + 4) by omega]
    refine c_bad hA hn9 (by omega) (by omega) (by omega) (by omega) fun _ _ hR2 => ?_
    rw [show (4 + (v + 3 + b_w4 F v) - (4 + (v + 4))).toNat = (b_w4 F v - 1).toNat by omega, sh_bad hF (by omega) _ (by omega)]
    rcases u_bad_R F (v + 3 + b_w4 F v) (b_w4 F v - 1).toNat (v + 4) with g5 | ⟨g5, g6⟩
    · rw [if_pos g5] at h ⊢
      refine ⟨fun _ => ⟨⟨by omega, by omega⟩, ?_⟩, fun g => absurd (by decide) g⟩
      have := h.1 rfl
      simp only at this
      rwa [show 4 + (v + 3 + b_w4 F v) + 1 = 4 + (v + 4 + b_w4 F v) by omega]
    · rw [if_neg (by omega)] at h ⊢
      exact ⟨fun g => absurd g (by omega), fun _ => c_fails hD ⟨by decide, by decide⟩ (by omega) (by omega) fun _ _ _ => h.bad (by decide)⟩
  · rw [if_neg g4] at h
    exact c_fails hD ⟨by decide, by decide⟩ (by omega) (by omega) fun _ _ _ => h.bad (by decide)
theorem c_value {Q : Int → g_M → Prop} {rd : Int → Int → Bool → Int × Int × Int} {k v last depth : Int} (hD : c_RD M o a n) (hB : ∀ q, -128 ≤ F q ∧ F q ≤ 127) (hF : ∀ q, 0 ≤ q → q < n0 → g_i M a (4 + q) = F q) (hn : 4 + n0 < n) (hm : n0 < 90000) (h0 : 0 ≤ v) (hl : v ≤ last) (h1 : last < n0) (hk : r_kind k) (hdp : 0 ≤ depth) (hdp1 : depth < 100)
    (hrd : ∀ (row : Bool) (Q1 : Int → g_M → Prop), c_post Q1 M o (rd v last row) → g_Call (d + 3) 98 [.ref o, g_n (4 + v), g_n (4 + last), g_n (bif row then 4 else 3), g_n (depth + 1)] M (g_qI Q1))
    (h : c_post Q M o (r_val F rd last k v)) : g_Call (d + 4) 101 [.ref o, g_n k, g_n (4 + v), g_n (4 + last), g_n depth] M (g_qI Q) := by
  obtain ⟨hO, hr, hA, hn9⟩ := id hD
  unfold r_val at h
  unfold r_kind at hk
  refine m_X6_value ⟨by omega, by omega⟩ ⟨by omega, by omega⟩ ⟨by omega, by omega⟩ ⟨by omega, by omega⟩ fun _ => ⟨⟨by omega, by omega⟩, ?_⟩
  rw [show 4 + last - (4 + v) = last - v by omega]
  refine ⟨fun k2 => ⟨hO, ?_⟩, fun k2 => ⟨fun k8 => ?_, fun k8 => ⟨fun k10 => ?_, fun k10 => ⟨fun k16 => ?_, fun k16 => ⟨fun k18 => ?_, fun k18 => ⟨⟨by omega, by omega⟩, hO, ?_⟩⟩⟩⟩⟩⟩
  · subst k2
    rw [if_neg (by omega), if_neg (by omega), if_neg (by omega), if_neg (by omega), if_pos rfl] at h
    refine c_text hD hF hn hm h0 (by omega) (by omega) ⟨fun g _ _ _ => ?_, fun g _ _ _ => ?_⟩
    · exact h.1 g
    · exact h.2 g
  · subst k8
    rw [if_neg (by omega), if_neg (by omega), if_neg (by omega), if_pos rfl] at h
    refine ⟨fun g => ⟨hO, ?_⟩, fun g => ⟨hO, a, hr, n, hA, ⟨by omega, by omega⟩, ?_⟩⟩
    · rw [if_pos g] at h
      exact c_fails hD ⟨by decide, by decide⟩ h0 (by omega) fun _ _ _ => h.bad (by decide)
    · rw [if_neg g] at h
      rw [hF v h0 (by omega)]
      refine ⟨fun g1 => ⟨⟨by omega, by omega⟩, ?_⟩, fun g1 => ⟨a, hr, n, hA, ⟨by omega, by omega⟩, ?_⟩⟩
      · rw [if_pos (Or.inl g1)] at h
        have := h.1 rfl
        simp only at this
        rwa [show 4 + v + 1 = 4 + (v + 1) by omega]
      rw [hF v h0 (by omega)]
      refine ⟨fun g2 => ⟨⟨by omega, by omega⟩, ?_⟩, fun g2 => ?_⟩
      · rw [if_pos (Or.inr g2)] at h
        have := h.1 rfl
        simp only at this
        rwa [show 4 + v + 1 = 4 + (v + 1) by omega]
      · rw [if_neg (by omega)] at h
        exact c_fails hD ⟨by decide, by decide⟩ h0 (by omega) fun _ _ _ => h.bad (by decide)
  · subst k10
    rw [if_neg (by omega), if_neg (by omega), if_pos rfl] at h
    exact h.1 rfl
  · subst k16
    rw [if_pos rfl] at h
    refine ⟨fun g => ⟨hO, ?_⟩, fun g => ⟨⟨by omega, by omega⟩, ?_⟩⟩
    · rw [if_pos g] at h
      exact c_fails hD ⟨by decide, by decide⟩ h0 (by omega) fun _ _ _ => h.bad (by decide)
    · rw [if_neg g] at h
      have := h.1 rfl
      simp only at this
      rwa [show 4 + v + 4 = 4 + (v + 4) by omega]
  · subst k18
    rw [if_neg (by omega), if_pos rfl] at h
    refine ⟨fun g => ⟨hO, ?_⟩, fun g => ⟨⟨by omega, by omega⟩, ?_⟩⟩
    · rw [if_pos g] at h
      exact c_fails hD ⟨by decide, by decide⟩ h0 (by omega) fun _ _ _ => h.bad (by decide)
    · rw [if_neg g] at h
      have := h.1 rfl
      simp only at this
      rwa [show 4 + v + 8 = 4 + (v + 8) by omega]
  · rw [if_neg (by omega), if_neg (by omega), if_neg (by omega), if_neg (by omega), if_neg (by omega)] at h
    have hk' : k = bif (k == 4) then 4 else 3 := by
      by_cases g : k = 4
      · subst g
        rfl
      · have : k = 3 := by omega
        subst this
        rfl
    have h8 := hrd (k == 4) (fun r M1 => g_ext M M1 → g_ok M1 → g_InR r → Q r M1) ⟨fun g _ _ _ => h.1 g, fun g _ _ _ => h.2 g⟩
    rwa [← hk'] at h8
end READC
