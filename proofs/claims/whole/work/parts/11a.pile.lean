/-! THE PILE of the class's room; what else stays -/
theorem g_lt {M : g_M} {x : Nat} {s : g_S} (h : g_sh M x = some s) : x < 2 * M.1.length := by
  obtain ⟨h1, h2⟩ := g_sh_s h
  have := (List.getElem?_eq_some_iff.mp h2).1
  omega
theorem g_O.lt {M : g_M} {x c : Nat} (h : g_O M x c) : x < 2 * M.1.length := g_lt h
theorem g_A.lt {M : g_M} {x t : Nat} {n : Int} (h : g_A M x t n) : x < 2 * M.1.length := by
  obtain ⟨m, h1, -⟩ := h
  exact g_lt h1
theorem g_neOA {M : g_M} {x a c t : Nat} {n : Int} (h : g_O M x c) (h2 : g_A M a t n) : x ≠ a := by
  rintro rfl
  obtain ⟨m, h3, -⟩ := h2
  unfold g_O at h
  rw [h] at h3
  exact absurd h3 (by simp)
theorem g_neOO {M : g_M} {x a c t : Nat} (h : g_O M x c) (h2 : g_O M a t) (hc : c ≠ t) : x ≠ a := by
  rintro rfl
  unfold g_O at h h2
  rw [h] at h2
  exact hc (by simpa using h2)
theorem g_neAA {M : g_M} {x a c t : Nat} {n k : Int} (h : g_A M x c n) (h2 : g_A M a t k) (hc : ¬ (c = t ∧ n = k)) : x ≠ a := by
  rintro rfl
  exact hc (h.fn h2)
theorem g_i_nw (M : g_M) (t n x : Nat) (j : Int) : g_i (g_nw M t n) x j = if x = 2 * M.1.length then 0 else g_i M x j := rfl
theorem g_r_nw (M : g_M) (t n x : Nat) (j : Int) : g_r (g_nw M t n) x j = if x = 2 * M.1.length then none else g_r M x j := rfl
theorem g_sl_nw (M : g_M) (t n : Nat) : g_sl (g_nw M t n) = g_sl M + n := by
  unfold g_sl g_nw
  rw [g_sl_app]
  rfl
def k_n (n : Int) : Prop := n = 256 ∨ n = 512 ∨ n = 1024 ∨ n = 2048 ∨ n = 4096 ∨ n = 8192 ∨ n = 16384 ∨ n = 32768
/-- all stays but the room's pile and the refs of S -/
def k_F (S : Nat → Prop) (r : Nat) (M M1 : g_M) : Prop := g_ext M M1 ∧ M.1.length ≤ M1.1.length ∧ (∀ a, g_r M1 r 1 = some a → g_r M r 1 = some a ∨ 2 * M.1.length ≤ a) ∧ (∀ k : Int, k ≠ 2 → g_i M1 r k = g_i M r k) ∧ (∀ k : Int, k ≠ 1 → g_r M1 r k = g_r M r k) ∧ ∀ x, x < 2 * M.1.length → x ≠ r → ¬ S x → g_r M r 1 ≠ some x → g_i M1 x = g_i M x ∧ g_r M1 x = g_r M x
theorem k_F.rf (S : Nat → Prop) (r : Nat) (M : g_M) : k_F S r M M := ⟨g_ext.rf M, Nat.le_refl _, fun _ h => Or.inl h, fun _ _ => rfl, fun _ _ => rfl, fun _ _ _ _ _ => ⟨rfl, rfl⟩⟩
theorem k_F.tr {S : Nat → Prop} {r : Nat} {M M1 M2 : g_M} (h : k_F S r M M1) (h2 : k_F S r M1 M2) : k_F S r M M2 := by
  obtain ⟨a1, a2, a3, a4, a5, a6⟩ := h
  obtain ⟨b1, b2, b3, b4, b5, b6⟩ := h2
  refine ⟨a1.tr b1, Nat.le_trans a2 b2, fun a h => ?_, fun k hk => (b4 k hk).trans (a4 k hk), fun k hk => (b5 k hk).trans (a5 k hk), fun x h1 h2 hs h3 => ?_⟩
  · rcases b3 a h with g | g
    · exact a3 a g
    · exact Or.inr (by omega)
  · obtain ⟨c1, c2⟩ := a6 x h1 h2 hs h3
    obtain ⟨c3, c4⟩ := b6 x (by omega) h2 hs (fun g => by
      rcases a3 x g with g2 | g2
      · exact h3 g2
      · omega)
    exact ⟨c3.trans c1, c4.trans c2⟩
theorem k_F.up {S T : Nat → Prop} {r : Nat} {M M1 : g_M} (h : k_F S r M M1) (hT : ∀ x, S x → T x) : k_F T r M M1 :=
  ⟨h.1, h.2.1, h.2.2.1, h.2.2.2.1, h.2.2.2.2.1, fun x h1 h2 h3 h4 => h.2.2.2.2.2 x h1 h2 (fun g => h3 (hT x g)) h4⟩
def k_0 : Nat → Prop := fun _ => False
theorem k_F.up0 {T : Nat → Prop} {r : Nat} {M M1 : g_M} (h : k_F k_0 r M M1) : k_F T r M M1 := h.up fun _ g => g.elim
theorem k_F.of {S : Nat → Prop} {r : Nat} {M M1 : g_M} (h : g_fr S M M1) (hr : ¬ S r) : k_F S r M M1 := by
  obtain ⟨h1, h2⟩ := h
  have hx : g_ext M M1 := by
    have : ∀ x s, g_sh M x = some s → g_sh M1 x = some s := fun x s g => by rw [g_fr.sh ⟨h1, h2⟩ x]; exact g
    exact this
  exact ⟨hx, by rw [h1]; exact Nat.le_refl _, fun a g => Or.inl (by rwa [(h2 r hr).2] at g), fun k _ => by rw [(h2 r hr).1], fun k _ => by rw [(h2 r hr).2], fun x _ _ hs _ => h2 x hs⟩
/-- the room r with its bytes b, the pile L; c, e: what all else holds -/
def k_P (M : g_M) (r b : Nat) (c e : Int) (L : List Int) : Prop := g_O M r 7 ∧ g_r M r 0 = some b ∧ ∃ (a : Nat) (n : Int), g_r M r 1 = some a ∧ g_A M a 1 n ∧ g_i M r 2 = L.length ∧ L.length ≤ n ∧ k_n n ∧ (g_sl M : Int) = c + 2 * n ∧ (M.1.length : Int) ≤ e + n ∧ b_at (g_i M a) 0 L
theorem k_F.A {S : Nat → Prop} {r b : Nat} {M M1 : g_M} {c e : Int} {L : List Int} (h : k_F S r M M1) (hP : k_P M r b c e L) {x t : Nat} {n : Int} (hA : g_A M x t n) (hn : t = 1 → ¬ k_n n) (hs : ¬ S x) : g_i M1 x = g_i M x ∧ g_r M1 x = g_r M x := by
  obtain ⟨o1, -, a, n1, o3, o4, -, -, o7, -⟩ := hP
  refine h.2.2.2.2.2 x hA.lt (g_neOA o1 hA).symm hs fun g => ?_
  rw [o3] at g
  cases g
  obtain ⟨rfl, rfl⟩ := o4.fn hA
  exact hn rfl o7
theorem k_F.O {S : Nat → Prop} {r b : Nat} {M M1 : g_M} {c e : Int} {L : List Int} (h : k_F S r M M1) (hP : k_P M r b c e L) {x ci : Nat} (hA : g_O M x ci) (hn : ci ≠ 7) (hs : ¬ S x) : g_i M1 x = g_i M x ∧ g_r M1 x = g_r M x := by
  obtain ⟨o1, -, a, n1, o3, o4, -⟩ := hP
  refine h.2.2.2.2.2 x hA.lt (g_neOO hA o1 hn) hs fun g => ?_
  rw [o3] at g
  cases g
  exact g_neOA hA o4 rfl
theorem k_P.top {M : g_M} {r b : Nat} {c e : Int} {L : List Int} (h : k_P M r b c e L) : g_i M r 2 = L.length := by
  obtain ⟨-, -, a, n, -, -, h, -⟩ := h
  exact h
section PILE
variable {d r b : Nat} {c e : Int} {L : List Int} {v : Int} {M : g_M}
theorem c_push {Q : g_M → Prop} (hP : k_P M r b c e L) (hv : g_InR v) (hl : L.length < 32768) (h : ∀ M1, k_F k_0 r M M1 → k_P M1 r b c e (L ++ [v]) → Q M1) : g_Call (d + 2) 104 [.ref r, g_n v] M (g_qV Q) := by
  have h30 : ∀ (M : g_M) (a : Nat) (n : Int), g_O M r 7 → g_r M r 0 = some b → g_r M r 1 = some a → g_A M a 1 n → g_i M r 2 = L.length → (L.length : Int) < n → k_n n → (g_sl M : Int) = c + 2 * n → (M.1.length : Int) ≤ e + n → b_at (g_i M a) 0 L → (∀ M1, k_F k_0 r M M1 → k_P M1 r b c e (L ++ [v]) → Q M1) → g_Run (d + 1) 104 30 [(0, .ref r), (1, g_n v)] [] M (g_qV Q) := by
    intro M a n o1 o2 o3 o4 o5 o6 o7 o8 o9 o10 h
    have hne : r ≠ a := g_neOA o1 o4
    refine s_X7_push_30 hv fun _ => ⟨o1, a, o3, n, o4, by rw [o5]; exact ⟨by omega, o6⟩, fun M7 e7 _ => ?_⟩
    rw [o5] at e7
    subst e7
    have e8 : g_i (g_wi M a L.length v) r 2 = L.length := by rw [g_i_wi, if_neg (fun z => hne z.1), o5]
    rw [e8]
    refine ⟨by unfold k_n at o7; exact ⟨by omega, by omega⟩, fun M12 e12 _ => ?_⟩
    subst e12
    refine h _ ⟨(g_extW rfl).tr (g_extW rfl), Nat.le_refl _, fun _ h => Or.inl h, fun k hk => ?_, fun _ _ => rfl, fun x _ hx _ hx2 => ⟨funext fun j => ?_, rfl⟩⟩ ⟨o1, o2, a, n, o3, o4, ?_, ?_, o7, o8, o9, ?_⟩
    · rw [g_i_wi, if_neg (fun z => hk z.2), g_i_wi, if_neg (fun z => hne z.1)]
    · rw [g_i_wi, if_neg (fun z => hx z.1), g_i_wi, if_neg (fun z => hx2 (by rw [z.1]; exact o3))]
    · rw [g_i_wi, if_pos ⟨rfl, rfl⟩, List.length_append, List.length_singleton]
      omega
    · rw [List.length_append, List.length_singleton]
      omega
    · refine b_app.mpr ⟨fun i w hw => ?_, b_cons.mpr ⟨?_, b_nil _ _⟩⟩
      · have := (List.getElem?_eq_some_iff.mp hw).1
        rw [g_i_wi, if_neg (fun z => hne z.1.symm), g_i_wi, if_neg (by omega)]
        exact o10 i w hw
      · rw [g_i_wi, if_neg (fun z => hne z.1.symm), g_i_wi, if_pos ⟨rfl, by omega⟩]
  obtain ⟨o1, o2, a, n, o3, o4, o5, o6, o7, o8, o9, o10⟩ := hP
  have hn := o7
  unfold k_n at hn
  have hr := o1.lt
  have ha := o4.lt
  refine m_X7_push hv fun _ => ⟨o1, a, o3, n, o4, ⟨by omega, by omega⟩, fun g => h30 M a n o1 o2 o3 o4 o5 (by rw [o5] at g; exact g) o7 o8 o9 o10 h, fun g => ⟨a, o3, a, o3, n, o4, ⟨by omega, by omega⟩, ⟨by omega, by omega⟩, ?_⟩⟩
  rw [o5] at g
  refine m_J7_copyOfI (d := d) ⟨by omega, by omega⟩ fun _ => ⟨n, o4, ⟨by omega, by omega⟩, fun g2 => absurd g2 (by omega), fun _ => ⟨⟨by omega, by omega⟩, fun M5 e5 _ => ?_⟩⟩
  have hA5 : g_A M5 (2 * M.1.length) 1 (2 * n) := by
    subst e5
    have := @g_A_nw 1 M (2 * n).toNat
    rwa [show (((2 * n).toNat : Nat) : Int) = 2 * n by omega] at this
  refine ⟨⟨by omega, by omega⟩, 2 * n, hA5, ⟨by omega, by omega, by omega, by omega, by omega⟩, fun M13 e13 _ => fun _ _ => ⟨_, rfl, fun M21 e21 _ => ?_⟩⟩
  have hx : g_ext M M21 := (g_extN e5).tr ((g_extC e13).tr (g_extR e21))
  have hx2 : g_ext M5 M21 := (g_extC e13).tr (g_extR e21)
  have hlen : M21.1.length = M.1.length + 1 := by
    subst e21
    subst e13
    subst e5
    show (M.1 ++ [_]).length = _
    rw [List.length_append, List.length_singleton]
  have hsl : (g_sl M21 : Int) = c + 2 * (2 * n) := by
    have : g_sl M21 = g_sl M + (2 * n).toNat := by
      subst e21
      subst e13
      subst e5
      exact g_sl_nw M 1 _
    omega
  have hi : ∀ x, x < 2 * M.1.length → g_i M21 x = g_i M x := by
    intro x hx
    subst e21
    subst e13
    subst e5
    funext j
    rw [g_i_wr, g_i_cp, if_neg (by omega), g_i_nw, if_neg (by omega)]
  have hrr : ∀ x, x < 2 * M.1.length → ∀ k : Int, ¬ (x = r ∧ k = 1) → g_r M21 x k = g_r M x k := by
    intro x hx k hk
    subst e21
    subst e13
    subst e5
    rw [g_r_wr, if_neg hk, g_r_cp, g_r_nw, if_neg (by omega)]
  have h1 : g_r M21 r 1 = some (2 * M.1.length) := by
    subst e21
    rw [g_r_wr, if_pos ⟨rfl, rfl⟩]
  have hF : k_F k_0 r M M21 := ⟨hx, by omega, fun y hy => Or.inr (by rw [h1] at hy; cases hy; exact Nat.le_refl _), fun k _ => by rw [hi r hr], fun k hk => hrr r hr k (fun z => hk z.2), fun x h0 h2 _ h3 => ⟨hi x h0, funext fun k => hrr x h0 k (fun z => h2 z.1)⟩⟩
  refine h30 M21 (2 * M.1.length) (2 * n) (o1.up hx) ?_ h1 (hA5.up hx2) ?_ (by omega) (by unfold k_n; omega) hsl (by omega) (fun i w hw => ?_) fun M1 f1 p1 => h M1 (hF.tr f1) p1
  · rw [hrr r hr 0 (by omega), o2]
  · rw [hi r hr, o5]
  · have := (List.getElem?_eq_some_iff.mp hw).1
    subst e21
    subst e13
    subst e5
    rw [g_i_wr, g_i_cp, if_pos ⟨rfl, by omega, by omega⟩, g_i_nw, if_neg (by omega)]
    rw [show (0 : Int) + (0 + (i : Int) - 0) = 0 + i by omega]
    exact o10 i w hw
end PILE
