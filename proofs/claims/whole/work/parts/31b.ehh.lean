/-! THE REFERENCE'S HOUSE: what keeps it; an index's work in it -/
def E_H (m : Nat) (ρ : Nat → Nat) (st : Nat → I_T) (q : Nat → List (Nat × Int × List b_E)) (v : Nat → Int) (M : g_M) : Prop := E_bk m ρ M ∧ g_i M m 47 = -1 ∧ b_at (g_i M (ρ 0)) 2706200 [10, 0] ∧ (∀ x : Nat, x < 8 → R_ix m ρ x (st x) M) ∧ ∀ w : Nat, w < 2 → R_hs ρ w (q w) (v w) M
def E_HP (m : Nat) (ρ : Nat → Nat) (y : Nat) (q : Int) : Prop := (∃ x : Nat, x < 8 ∧ R_xP ρ x y q) ∨ (∃ w : Nat, w < 2 ∧ R_hP ρ w y q) ∨ (y = m ∧ q = 47) ∨ (y = ρ 0 ∧ 2706200 ≤ q)
def I_up (st : Nat → I_T) (x : Nat) (t : I_T) (y : Nat) : I_T := if y = x then t else st y
def I_lp (f : I_T → I_T) (w : Nat) (st : Nat → I_T) (x : Nat) (y : Nat) : I_T := if 4 * w ≤ y ∧ y < x then f (st y) else st y
theorem I_lp_0 (f : I_T → I_T) (w : Nat) (st : Nat → I_T) : I_lp f w st (4 * w) = st := by
  funext y
  exact if_neg (by omega)
theorem I_lp_at (f : I_T → I_T) (w : Nat) (st : Nat → I_T) (x : Nat) : I_lp f w st x x = st x := if_neg (by omega)
theorem I_lp_s (f : I_T → I_T) (w : Nat) (st : Nat → I_T) {x : Nat} (hx : 4 * w ≤ x) : I_lp f w st (x + 1) = I_up (I_lp f w st x) x (f (st x)) := by
  funext y
  unfold I_up I_lp
  by_cases g : y = x
  · rw [if_pos g, g, if_pos ⟨hx, Nat.lt_succ_self x⟩]
  · rw [if_neg g]
    by_cases g2 : 4 * w ≤ y ∧ y < x
    · rw [if_pos g2, if_pos ⟨g2.1, by omega⟩]
    · rw [if_neg g2, if_neg (by omega)]
theorem I_up_self (st : Nat → I_T) (x : Nat) : I_up st x (st x) = st := by
  funext y
  unfold I_up
  by_cases g : y = x
  · rw [if_pos g, g]
  · rw [if_neg g]
theorem I_lp_n {f : I_T → I_T} {w : Nat} {st : Nat → I_T} {x : Nat} (hx : 4 * w ≤ x) (hf : f (st x) = st x) : I_lp f w st (x + 1) = I_lp f w st x := by
  rw [I_lp_s f w st hx, hf]
  have := I_up_self (I_lp f w st x) x
  rw [I_lp_at] at this
  exact this
section EHH
variable {m d : Nat} {ρ : Nat → Nat} {M M1 : g_M} {st : Nat → I_T} {q : Nat → List (Nat × Int × List b_E)} {v : Nat → Int} {L : List Int}
theorem E_H.fr {S : Nat → Int → Prop} (h : E_H m ρ st q v M) (f : e_fr S M M1) (hS : ∀ y k, E_HP m ρ y k → ¬ S y k) : E_H m ρ st q v M1 := by
  obtain ⟨h1, h2, h3, h4, h5⟩ := h
  have h47 : g_i M1 m 47 = -1 := by
    rw [f.2.1 m 47 (hS _ _ (Or.inr (Or.inr (Or.inl ⟨rfl, rfl⟩))))]
    exact h2
  exact ⟨h1.fr f, h47, b_at_keep h3 fun k k1 k2 => f.2.1 _ _ (hS _ _ (Or.inr (Or.inr (Or.inr ⟨rfl, by omega⟩)))), fun x hx => (h4 x hx).fr f (fun y k z => hS y k (Or.inl ⟨x, hx, z⟩)) h47, fun w hw => (h5 w hw).fr f fun y k z => hS y k (Or.inr (Or.inl ⟨w, hw, z⟩))⟩
/-- one index is another -/
theorem E_H.upd {S : Nat → Int → Prop} {x : Nat} {t : I_T} (h : E_H m ρ st q v M) (f : e_fr S M M1) (hx : x < 8) (h1 : ∀ w, w < 2 → ∀ y k, R_hP ρ w y k → ¬ S y k) (h2 : ∀ x2, x2 < 8 → x ≠ x2 → ∀ y k, R_xP ρ x2 y k → ¬ S y k) (h3 : ∀ k, 2706200 ≤ k → ¬ S (ρ 0) k) (h47 : g_i M1 m 47 = -1) (hix : R_ix m ρ x t M1) : E_H m ρ (I_up st x t) q v M1 := by
  obtain ⟨k1, k2, k3, k4, k5⟩ := h
  refine ⟨k1.fr f, h47, b_at_keep k3 fun k j1 j2 => f.2.1 _ _ (h3 k (by omega)), fun y hy => ?_, fun w hw => (k5 w hw).fr f (h1 w hw)⟩
  unfold I_up
  by_cases g : y = x
  · rw [if_pos g, g]
    exact hix
  · rw [if_neg g]
    exact (k4 y hy).fr f (h2 y hy fun z => g z.symm) h47
/-- a row's number in the book -/
theorem E_bk.key (h : E_bk m ρ M) {y : Nat} {i j : Nat} (hi : i ∈ E_bf) (hj : j ∈ E_bf) (h1 : y = ρ i) (h2 : y = ρ j) : i = j := h.2.2 i hi j hj (h1.symm.trans h2)
theorem R_hP_EF (h : E_bk m ρ M) {x w : Nat} (hw : w < 2) {y : Nat} {q : Int} (g : R_hP ρ w y q) : ¬ R_EF m (ρ 0) (ρ 9) ρ x y q := by
  have hr := h.rw
  have hbb : ∀ {q : Int}, R_EF m (ρ 0) (ρ 9) ρ x (ρ 0) q → 1014000 ≤ q := fun z => by
    have := R_EF_b hr (h.ne (by decide) (by decide) (by decide)) z
    omega
  have hn : ∀ {k : Nat} {q : Int}, k ∈ E_bf → k ≠ 9 → k ≠ 0 → k ∉ R_fs → ¬ R_EF m (ρ 0) (ρ 9) ρ x (ρ k) q := fun hk h9 h0 hf => R_EF_n hr (h.ne hk (by decide) h9) (h.nm hk) (h.ne hk (by decide) h0) fun k2 hk2 => h.ne hk (E_fs_bf k2 hk2).1 fun z => hf (z ▸ hk2)
  rcases g with ⟨g | g | g, -⟩ | ⟨g | g | g, -⟩ | ⟨g, g1, g2⟩
  · rw [g]
    exact hn (by decide) (by decide) (by decide) (by decide)
  · rw [g]
    exact hn (by decide) (by decide) (by decide) (by decide)
  · rw [g]
    exact hn (by decide) (by decide) (by decide) (by decide)
  · rw [g]
    exact hn (by decide) (by decide) (by decide) (by decide)
  · rw [g]
    exact hn (by decide) (by decide) (by decide) (by decide)
  · rw [g]
    exact hn (by decide) (by decide) (by decide) (by decide)
  · rw [g]
    exact fun z => by
      have := hbb z
      omega
theorem R_xP_EF (h : E_bk m ρ M) {x x2 : Nat} (hx2 : x2 < 8) (hxx : x ≠ x2) {y : Nat} {q : Int} (g : R_xP ρ x2 y q) : ¬ R_EF m (ρ 0) (ρ 9) ρ x y q := by
  have hr := h.rw
  have hbb : ∀ {q : Int}, R_EF m (ρ 0) (ρ 9) ρ x (ρ 0) q → 1014000 ≤ q := fun z => by
    have := R_EF_b hr (h.ne (by decide) (by decide) (by decide)) z
    omega
  have hn : ∀ {k : Nat} {q : Int}, k ∈ E_bf → k ≠ 9 → k ≠ 0 → k ∉ R_fs → ¬ R_EF m (ρ 0) (ρ 9) ρ x (ρ k) q := fun hk h9 h0 hf => R_EF_n hr (h.ne hk (by decide) h9) (h.nm hk) (h.ne hk (by decide) h0) fun k2 hk2 => h.ne hk (E_fs_bf k2 hk2).1 fun z => hf (z ▸ hk2)
  rcases g with g | ⟨g | g, -⟩ | ⟨g | g | g, -⟩ | ⟨g, g1, g2⟩
  · rintro (z | z)
    · exact R_PX_le hr (h.at (k := 9) (by decide)).2 (h.ne (by decide) (by decide) (by decide)) g z
    · exact R_PX_EA hr (Ne.symm hxx) g z
  · rw [g]
    exact hn (by decide) (by decide) (by decide) (by decide)
  · rw [g]
    exact hn (by decide) (by decide) (by decide) (by decide)
  · rw [g]
    exact hn (by decide) (by decide) (by decide) (by decide)
  · rw [g]
    exact hn (by decide) (by decide) (by decide) (by decide)
  · rw [g]
    exact hn (by decide) (by decide) (by decide) (by decide)
  · rw [g]
    exact fun z => by
      have := hbb z
      omega
/-- what the work on an index leaves of the house, but for that index -/
theorem E_H.ef {x : Nat} {t : I_T} (h : E_H m ρ st q v M) (f : e_fr (R_EF m (ρ 0) (ρ 9) ρ x) M M1) (h47 : g_i M1 m 47 = -1) (hx : R_ix m ρ x t M1) (hx8 : x < 8) : E_H m ρ (I_up st x t) q v M1 :=
  h.upd f hx8 (fun w hw y k z => R_hP_EF h.1 hw z) (fun x2 hx2 hxx y k z => R_xP_EF h.1 hx2 hxx z) (fun k hk z => by
    have := R_EF_b h.1.rw (h.1.ne (by decide) (by decide) (by decide)) z
    omega) h47 hx
/-- an index without what is known of it -/
theorem R_ix.no {x : Nat} (h : R_ix m ρ x none M) : g_i M (ρ 35) x = 0 := h
theorem e_entX {Q : g_M → Prop} {x : Nat} {V : I_V} {T : N_T I_E} {m1 m2 c no v4 : Int} {es : List b_E} (h : E_H m ρ st q v M) (hS : E_S m (ρ 0) (ρ 9) (g_i M (ρ 0)) M L) (h40 : g_i M m 40 = 0 ∨ g_i M m 40 = 1) (hx : x < 8) (hst : st x = some (V, T, m1, m2)) (hct : E_ct (g_i M (ρ 0)) c 15 es) (hdl : (b_doc es).length ≤ 2000) (hL : L.length ≤ 1000) (hv4 : v4 = 0 ∨ v4 = 1) (hcn : I_cn v4 V T (I_ens V es no)) (h0no : 0 ≤ no) (hnoR : g_InR no) (hq : ∀ M1, e_fr (R_EF m (ρ 0) (ρ 9) ρ x) M M1 → E_S m (ρ 0) (ρ 9) (g_i M1 (ρ 0)) M1 L → (g_i M1 m 40 = 0 ∨ g_i M1 m 40 = 1) → E_H m ρ (I_up st x (some (V, I_io v4 V (I_ens V es no) T, m1, m2))) q v M1 → Q M1) : g_Call (d + 71) 384 [.ref m, g_n x, g_n c, g_n no, g_n v4] M (g_qV Q) := by
  have h1 := h.1
  have hix := h.2.2.2.1 x hx
  rw [hst] at hix
  obtain ⟨k1, k2, k3, ⟨k4, k5⟩, k6, k7⟩ := hix
  refine e_enterAll (d := d) hS k2 k3 hct hdl h.2.2.1 hL h40 rfl hv4 hcn h0no hnoR fun M1 f1 S1 T1 c1 => ?_
  have hr := h1.rw
  have hn : ∀ {k : Nat} {q : Int}, k ∈ E_bf → k ≠ 9 → k ≠ 0 → k ∉ R_fs → g_i M1 (ρ k) q = g_i M (ρ k) q := fun hk h9 h0 hf => f1.2.1 _ _ (R_EF_n hr (h1.ne hk (by decide) h9) (h1.nm hk) (h1.ne hk (by decide) h0) fun k2 hk2 => h1.ne hk (E_fs_bf k2 hk2).1 fun z => hf (z ▸ hk2))
  have hbk : ∀ q, q < 1014000 → g_i M1 (ρ 0) q = g_i M (ρ 0) q := fun q hq2 => f1.2.1 _ _ fun z => by
    have := R_EF_b hr (h1.ne (by decide) (by decide) (by decide)) z
    omega
  refine hq M1 f1 S1 c1 (h.ef f1 T1.2.2.2.1 ⟨?_, ?_, T1, ⟨?_, ?_⟩, k6, k7⟩ hx)
  · rw [hn (by decide) (by decide) (by decide) (by decide)]
    exact k1
  · obtain ⟨⟨a1, a2, a3, a4, a5, a6⟩, b1, ⟨y1, e1, e2, e3, e4, e5⟩, b3, b4, b5, b6, b7, b8, b9⟩ := k2
    refine ⟨⟨by rw [f1.2.2]; exact a1, f1.A a2, by rw [f1.2.2]; exact a3, f1.A a4, by rw [f1.2.2]; exact a5, f1.A a6⟩, b1, ⟨y1, e1, b_at_keep e2 fun q q1 q2 => hbk q (by omega), e3, e4, by rw [hn (by decide) (by decide) (by decide) (by decide)]; exact e5⟩, by rw [hn (by decide) (by decide) (by decide) (by decide)]; exact b3, by rw [hn (by decide) (by decide) (by decide) (by decide)]; exact b4, fun st2 hst2 => ?_, b6, b7, by rw [hn (by decide) (by decide) (by decide) (by decide)]; exact b8, by rw [hn (by decide) (by decide) (by decide) (by decide)]; exact b9⟩
    obtain ⟨y2, e1, e2, e3, e4, e5⟩ := b5 st2 hst2
    exact ⟨y2, e1, b_at_keep e2 fun q q1 q2 => hbk q (by omega), e3, e4, by rw [hn (by decide) (by decide) (by decide) (by decide)]; exact e5⟩
  · rw [hn (by decide) (by decide) (by decide) (by decide)]
    exact k4
  · rw [hn (by decide) (by decide) (by decide) (by decide)]
    exact k5
end EHH
