/-! INDEX: its tree beside all else, class -/
theorem k_F.trN {S S1 : Nat → Prop} {r : Nat} {M M1 M2 : g_M} (h : k_F S r M M1) (h2 : k_F S1 r M1 M2) (hS : ∀ y, S1 y → S y ∨ 2 * M.1.length ≤ y) : k_F S r M M2 := by
  obtain ⟨a1, a2, a3, a4, a5, a6⟩ := h
  obtain ⟨b1, b2, b3, b4, b5, b6⟩ := h2
  refine ⟨a1.tr b1, Nat.le_trans a2 b2, fun a h => ?_, fun k hk => (b4 k hk).trans (a4 k hk), fun k hk => (b5 k hk).trans (a5 k hk), fun x h1 h2 hs h3 => ?_⟩
  · rcases b3 a h with g | g
    · exact a3 a g
    · exact Or.inr (by omega)
  · obtain ⟨c1, c2⟩ := a6 x h1 h2 hs h3
    obtain ⟨c3, c4⟩ := b6 x (by omega) h2 (fun z => by
      rcases hS x z with g | g
      · exact hs g
      · omega) fun z => by
      rcases a3 x z with g | g
      · exact h3 g
      · omega
    exact ⟨c3.trans c1, c4.trans c2⟩
theorem p_W.sm {M M1 : g_M} {o f t a : Nat} {n2 : Int} {s : Nat} {st : List (List Int)} (h : p_W M o f t a n2 s st) (hx : g_ext M M1) (ho : g_i M1 o = g_i M o ∧ g_r M1 o = g_r M o) (hf : g_i M1 f = g_i M f) (ht : g_i M1 t = g_i M t) (ha : g_i M1 a = g_i M a) : p_W M1 o f t a n2 s st := by
  obtain ⟨⟨o1, o2, o3, o4, o5, o6⟩, w2, w3, w4, w5, w6⟩ := h
  refine ⟨⟨o1.up hx, by rw [ho.2]; exact o2, by rw [ho.2]; exact o3, o4.up hx, o5.up hx, o6⟩, by rw [ho.2]; exact w2, w3.up hx, w4, by rw [ho.1]; exact w5, ?_⟩
  rw [hf, ht, ha]
  exact w6
theorem B_cs_kn : ∀ j : Fin 13, ¬ (B_cs j.val = 256 ∨ B_cs j.val = 512 ∨ B_cs j.val = 1024 ∨ B_cs j.val = 2048 ∨ B_cs j.val = 4096 ∨ B_cs j.val = 8192 ∨ B_cs j.val = 16384 ∨ B_cs j.val = 32768) := by decide +kernel
theorem B_cn_kn : ∀ j : Fin 12, ¬ (B_cn j.val = 256 ∨ B_cn j.val = 512 ∨ B_cn j.val = 1024 ∨ B_cn j.val = 2048 ∨ B_cn j.val = 4096 ∨ B_cn j.val = 8192 ∨ B_cn j.val = 16384 ∨ B_cn j.val = 32768) := by decide +kernel
theorem B_cn9_kn : ∀ j : Fin 12, ¬ (9 * B_cn j.val = 256 ∨ 9 * B_cn j.val = 512 ∨ 9 * B_cn j.val = 1024 ∨ 9 * B_cn j.val = 2048 ∨ 9 * B_cn j.val = 4096 ∨ 9 * B_cn j.val = 8192 ∨ 9 * B_cn j.val = 16384 ∨ 9 * B_cn j.val = 32768) := by decide +kernel
section ITR
variable {t j i : Nat} {w1 w2 : Int} {T : N_T I_E} {M M1 : g_M} {r b : Nat} {c e : Int} {L : List Int}
theorem C_t0.lens (h : C_t0 t j i M) : ∃ S, B_t t S M ∧ ∀ k ∈ B_fs, B_ty k = 1 → ¬ k_n (S.1 k) := by
  obtain ⟨S, hB, ⟨l0, l1, l2, hj⟩, ⟨l4, l5, l6, l7, l8, hi⟩, l10, l11⟩ := h
  have h1 := B_cs_kn ⟨j, by omega⟩
  have h2 := B_cn_kn ⟨i, by omega⟩
  have h3 := B_cn9_kn ⟨i, by omega⟩
  refine ⟨S, hB, fun k hk ht z => ?_⟩
  have hk' : k = 0 ∨ k = 1 ∨ k = 2 ∨ k = 4 ∨ k = 5 ∨ k = 6 ∨ k = 7 ∨ k = 8 ∨ k = 10 ∨ k = 11 := by
    unfold B_fs at hk
    simpa using hk
  rcases hk' with g | g | g | g | g | g | g | g | g | g <;> subst g
  · exact absurd ht (by decide)
  · rw [l1] at z; exact h1 z
  · rw [l2] at z; exact h1 z
  · rw [l4] at z; exact h3 z
  · rw [l5] at z; exact h3 z
  · rw [l6] at z; exact h2 z
  · exact absurd ht (by decide)
  · rw [l8] at z; exact h2 z
  · rw [l10] at z; exact absurd z (by unfold k_n; omega)
  · rw [l11] at z; exact absurd z (by unfold k_n; omega)
theorem C_t0.O (h : C_t0 t j i M) {y ci : Nat} (hy : g_O M y ci) (hc : ci ≠ 10) : ¬ B_own t M y := by
  obtain ⟨S, hB, -⟩ := h.lens
  rintro (z | ⟨k, hk, z⟩)
  · exact g_neOO hy hB.1 hc z
  · obtain ⟨a, a1, a2, -⟩ := hB.at hk
    rw [a1] at z
    cases z
    exact g_neOA hy a2 rfl
theorem C_t0.pile (h : C_t0 t j i M) (hP : k_P M r b c e L) : ¬ B_own t M r ∧ ∀ a, g_r M r 1 = some a → ¬ B_own t M a := by
  refine ⟨h.O hP.1 (by decide), fun a ha => ?_⟩
  obtain ⟨S, hB, hl⟩ := h.lens
  obtain ⟨-, -, a1, n1, o3, o4, -, -, o7, -⟩ := hP
  rw [ha] at o3
  cases o3
  rintro (z | ⟨k, hk, z⟩)
  · exact g_neOA hB.1 o4 z.symm
  · obtain ⟨a2, a3, a4, -⟩ := hB.at hk
    rw [a3] at z
    cases z
    obtain ⟨e1, e2⟩ := o4.fn a4
    subst e2
    exact hl k hk e1.symm o7
theorem B_own.lt (h : C_t0 t j i M) {y : Nat} (hy : B_own t M y) : y < 2 * M.1.length := by
  obtain ⟨S, hB, -⟩ := h.lens
  rcases hy with z | ⟨k, hk, z⟩
  · subst z
    exact hB.1.lt
  · obtain ⟨a, a1, a2, -⟩ := hB.at hk
    rw [a1] at z
    cases z
    exact a2.lt
theorem B_own.of (hr : g_r M1 t = g_r M t) (y : Nat) : B_own t M1 y ↔ B_own t M y := by
  unfold B_own
  rw [hr]
/-- the tree stays when nothing of its own changes -/
theorem C_tr.kF {S : Nat → Prop} (h : C_tr t w1 w2 T j i M) (hP : k_P M r b c e L) (f : k_F S r M M1) (hS : ∀ y, S y → ¬ B_own t M y) : C_tr t w1 w2 T j i M1 ∧ ∀ y, B_own t M1 y ↔ B_own t M y := by
  have h0 := h.t0
  obtain ⟨p1, p2⟩ := h0.pile hP
  have hsm : ∀ y, B_own t M y → g_i M1 y = g_i M y ∧ g_r M1 y = g_r M y := fun y hy => f.2.2.2.2.2 y (hy.lt h0) (fun z => p1 (z ▸ hy)) (fun z => hS y z hy) fun z => p2 y z hy
  have hto := hsm t (Or.inl rfl)
  refine ⟨?_, B_own.of hto.2⟩
  obtain ⟨S0, FS, FN, sg, hh, rt, l, ⟨⟨b1, b2, b3, b4⟩, h2⟩, h3⟩ := h
  refine ⟨S0, FS, FN, sg, hh, rt, l, ⟨⟨b1.up f.1, fun k => by rw [hto.1]; exact b2 k, fun k hk => ?_, fun k hk k2 hk2 => by rw [hto.2]; exact b4 k hk k2 hk2⟩, h2⟩, h3⟩
  obtain ⟨a, a1, a2, a3⟩ := b3 k hk
  obtain ⟨e1, -⟩ := hsm a (Or.inr ⟨k, hk, a1⟩)
  exact ⟨a, by rw [hto.2]; exact a1, a2.up f.1, by rw [e1]; exact a3⟩
/-- the pile stays when the tree changes -/
theorem k_P.BF {x w : Int} (hP : k_P M r b c e L) (h : C_t0 t j i M) (f : B_F t x w M M1) : k_P M1 r b (c + x) (e + w) L ∧ k_F (B_own t M) r M M1 := by
  obtain ⟨p1, p2⟩ := h.pile hP
  obtain ⟨f1, f2, f3, f4, f5, f6⟩ := f
  obtain ⟨o1, o2, a, n, o3, o4, o5, o6, o7, o8, o9, o10⟩ := hP
  obtain ⟨e1, e2⟩ := f3 r o1.lt p1
  obtain ⟨e3, e4⟩ := f3 a o4.lt (p2 a o3)
  refine ⟨⟨o1.up f1, by rw [e2]; exact o2, a, n, by rw [e2]; exact o3, o4.up f1, by rw [e1]; exact o5, o6, o7, by omega, by omega, by rw [e3]; exact o10⟩, f1, f2, fun q hq => Or.inl (by rwa [e2] at hq), fun k _ => by rw [e1], fun k _ => by rw [e2], fun y h1 _ h3 _ => f3 y h1 h3⟩
end ITR
/-- what an index may change -/
def I_H (x k1 k2 t r : Nat) (M M1 : g_M) : Prop := k_F (fun y => I_S3 x k1 k2 y ∨ B_own t M y) r M M1 ∧ (∀ y, B_own t M1 y → B_own t M y ∨ 2 * M.1.length ≤ y) ∧ (∀ k : Int, k ≠ 7 → k ≠ 8 → k ≠ 11 → k ≠ 12 → k ≠ 13 → g_i M1 x k = g_i M x k) ∧ g_r M1 x = g_r M x
theorem I_H.rf {x k1 k2 t r : Nat} {M : g_M} : I_H x k1 k2 t r M M := ⟨k_F.rf _ _ _, fun _ h => Or.inl h, fun _ _ _ _ _ _ => rfl, rfl⟩
theorem I_H.tr {x k1 k2 t r : Nat} {M M1 M2 : g_M} (h : I_H x k1 k2 t r M M1) (h2 : I_H x k1 k2 t r M1 M2) : I_H x k1 k2 t r M M2 := by
  refine ⟨h.1.trN h2.1 fun y hy => ?_, fun y hy => ?_, fun k a b c d e => (h2.2.2.1 k a b c d e).trans (h.2.2.1 k a b c d e), h2.2.2.2.trans h.2.2.2⟩
  · rcases hy with hy | hy
    · exact Or.inl (Or.inl hy)
    · rcases h.2.1 y hy with g | g
      · exact Or.inl (Or.inr g)
      · exact Or.inr g
  · rcases h2.2.1 y hy with g | g
    · exact h.2.1 y g
    · exact Or.inr (by have := h.1.2.1; omega)
/-- what no tree has -/
def I_dj (Y : Nat → Prop) (t : Nat) (M : g_M) : Prop := ∀ y, Y y → y < 2 * M.1.length ∧ ¬ B_own t M y
def I_Yn (V : I_V) (Y : Nat → Prop) (b f1 t1 a1 f2 t2 a2 k1 k2 : Nat) : Prop := Y b ∧ Y k1 ∧ Y k2 ∧ (Y f1 ∧ Y t1 ∧ Y a1) ∧ (V.2.2.2 ≠ none → Y f2 ∧ Y t2 ∧ Y a2)
/-- an index with its tree -/
def I_Z (V : I_V) (Y : Nat → Prop) (x r b p1 f1 t1 a1 p2 f2 t2 a2 t k1 k2 : Nat) (n c e : Int) (L : List Int) (T : N_T I_E) (j i : Nat) (M : g_M) : Prop := I_St V x r b p1 f1 t1 a1 p2 f2 t2 a2 t k1 k2 n (c + (B_ws j + B_wn i)) (e + (3 * j + 5 * i)) L M ∧ C_tr t V.1 V.2.1 T j i M ∧ I_dj Y t M ∧ I_Yn V Y b f1 t1 a1 f2 t2 a2 k1 k2
section IZ
variable {x r b p1 f1 t1 a1 p2 f2 t2 a2 t k1 k2 j i : Nat} {c e n : Int} {L : List Int} {M M1 : g_M} {V : I_V} {Y : Nat → Prop} {T : N_T I_E}
theorem I_Fr.H (h : I_Z V Y x r b p1 f1 t1 a1 p2 f2 t2 a2 t k1 k2 n c e L T j i M) (f : I_Fr x k1 k2 r M M1) : I_H x k1 k2 t r M M1 := by
  have hS : ∀ y, I_S3 x k1 k2 y → ¬ B_own t M y := fun y hy => by
    rcases hy with z | z | z
    · rw [z]; exact h.2.1.t0.O h.1.1.1 (by decide)
    · rw [z]; exact (h.2.2.1 k1 h.2.2.2.2.1).2
    · rw [z]; exact (h.2.2.1 k2 h.2.2.2.2.2.1).2
  obtain ⟨-, g⟩ := h.2.1.kF h.1.2.2.2.2.2.1 f.1 hS
  exact ⟨f.1.up fun _ z => Or.inl z, fun y hy => Or.inl ((g y).mp hy), fun k h7 h8 _ _ h13 => f.2.1 k h7 h8 h13, f.2.2⟩
theorem I_Z.fr (h : I_Z V Y x r b p1 f1 t1 a1 p2 f2 t2 a2 t k1 k2 n c e L T j i M) (f : I_Fr x k1 k2 r M M1) (hS1 : I_St V x r b p1 f1 t1 a1 p2 f2 t2 a2 t k1 k2 n (c + (B_ws j + B_wn i)) (e + (3 * j + 5 * i)) L M1) : I_Z V Y x r b p1 f1 t1 a1 p2 f2 t2 a2 t k1 k2 n c e L T j i M1 := by
  have hS : ∀ y, I_S3 x k1 k2 y → ¬ B_own t M y := fun y hy => by
    rcases hy with z | z | z
    · rw [z]; exact h.2.1.t0.O h.1.1.1 (by decide)
    · rw [z]; exact (h.2.2.1 k1 h.2.2.2.2.1).2
    · rw [z]; exact (h.2.2.1 k2 h.2.2.2.2.2.1).2
  obtain ⟨g1, g2⟩ := h.2.1.kF h.1.2.2.2.2.2.1 f.1 hS
  refine ⟨hS1, g1, fun y hy => ⟨?_, fun z => (h.2.2.1 y hy).2 ((g2 y).mp z)⟩, h.2.2.2⟩
  have := (h.2.2.1 y hy).1
  have := f.1.2.1
  omega
/-- the tree changes -/
theorem I_Z.go {T1 : N_T I_E} {j1 i1 : Nat} (h : I_Z V Y x r b p1 f1 t1 a1 p2 f2 t2 a2 t k1 k2 n c e L T j i M) (hT : C_tr t V.1 V.2.1 T1 j1 i1 M1) (f : B_Fc t j i j1 i1 M M1) : I_Z V Y x r b p1 f1 t1 a1 p2 f2 t2 a2 t k1 k2 n c e L T1 j1 i1 M1 ∧ I_H x k1 k2 t r M M1 ∧ (∀ y, Y y → g_i M1 y = g_i M y ∧ g_r M1 y = g_r M y) ∧ (∀ y ci, g_O M y ci → ci ≠ 10 → g_i M1 y = g_i M y ∧ g_r M1 y = g_r M y) := by
  obtain ⟨⟨s1, ⟨⟨n1, q1⟩, q2, q3, q4, q5, q6, q7⟩, ⟨s3, s4, s5⟩, s6, s7, s8, s9⟩, hT0, hdj, y1, y2, y3, ⟨y4, y5, y6⟩, y7⟩ := h
  obtain ⟨hP, hk⟩ := s8.BF hT0.t0 f.1
  have hY : ∀ y, Y y → g_i M1 y = g_i M y ∧ g_r M1 y = g_r M y := fun y hy => f.1.2.2.1 y (hdj y hy).1 (hdj y hy).2
  have hO : ∀ y ci, g_O M y ci → ci ≠ 10 → g_i M1 y = g_i M y ∧ g_r M1 y = g_r M y := fun y ci hy hc => f.1.2.2.1 y hy.lt (hT0.t0.O hy hc)
  have hx := hO x 3 s1.1 (by decide)
  have hpx : ∀ {o ff tt aa : Nat} {m : Int} {st : List (List Int)}, Y ff → Y tt → Y aa → p_W M o ff tt aa m 0 st → p_W M1 o ff tt aa m 0 st := fun g1 g2 g3 g => g.sm f.1.1 (hO _ 5 g.1.1 (by decide)) (hY _ g1).1 (hY _ g2).1 (hY _ g3).1
  have ht12 : g_i M1 t 12 = V.1 ∧ g_i M1 t 13 = V.2.1 := by
    obtain ⟨S, FS, FN, sg, hh, rt, l, ⟨hB, ha, -⟩, -⟩ := hT
    rw [hB.2.1 12, hB.2.1 13]
    exact ⟨ha.2.2.1.1, ha.2.2.1.2.1⟩
  refine ⟨⟨⟨s1.fr hk hx.2, ⟨⟨n1, hpx y4 y5 y6 q1⟩, q2, by rw [hx.1]; exact q3, by rw [hx.1]; exact q4, fun st hst => ?_, q6, q7⟩, ⟨s3.up f.1.1, s4, by rw [(hY b y1).1]; exact s5⟩, ht12.1, ht12.2, ?_, s9⟩, hT, fun y hy => ⟨?_, fun z => ?_⟩, y1, y2, y3, ⟨y4, y5, y6⟩, y7⟩, ⟨hk.up fun _ z => Or.inr z, f.1.2.2.2.1, fun k _ _ _ _ _ => by rw [hx.1], hx.2⟩, hY, hO⟩
  · obtain ⟨⟨m2, g1⟩, g2⟩ := q5 st hst
    obtain ⟨z1, z2, z3⟩ := y7 (by rw [hst]; exact Option.some_ne_none _)
    exact ⟨⟨m2, hpx z1 z2 z3 g1⟩, g2⟩
  · rw [show c + (B_ws j1 + B_wn i1) = c + (B_ws j + B_wn i) + (B_ws j1 + B_wn i1 - (B_ws j + B_wn i)) by omega, show e + (3 * (j1 : Int) + 5 * i1) = e + (3 * j + 5 * i) + (3 * j1 + 5 * i1 - (3 * j + 5 * i)) by omega]
    exact hP
  · have := (hdj y hy).1
    have := f.1.2.1
    omega
  · rcases f.1.2.2.2.1 y z with g | g
    · exact (hdj y hy).2 g
    · have := (hdj y hy).1
      omega
end IZ
