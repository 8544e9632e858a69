/-! THE REFERENCE'S CONSTRUCTOR drops its trees; both constructors are done -/
theorem zk_runR {K : Nat → Prop} {M : g_M} {E : q_H} {d y pc : Nat} {lv lv' : q_L} {st : List Value} {Q : Option Value → g_M → Prop} (h : g_Run d y pc lv st M Q) (hE : g_Rel E M) (hlv : g_lv lv lv') (hl : zk_lv K E.length lv') (hs : zk_vs K E.length st) (hk : zk_hok K E) (hin : zk_in K E) (c0 s0 : Nat) : ∃ (v : Option Value) (E1 : q_H) (M1 : g_M) (c s N : Nat), (∀ F n : Nat, N ≤ F → N ≤ n → q_run (q_callf F d) (q_own y) (q_maxL y) (q_ini y) (q_code y) (q_ret y) n pc lv' st E c0 s0 = some (v, E1, c, s)) ∧ g_Rel E1 (zk_pat K M M1) ∧ c + M.1.length = c0 + M1.1.length ∧ s + g_sl M = s0 + g_sl M1 ∧ g_ext M M1 ∧ Q v M1 ∧ zk_hok K E1 ∧ zk_in K E1 ∧ zk_J K E E1 := by
  obtain ⟨v, E', M', c, s, N, hrun, hrel, hc, hs', hext, hQ⟩ := h lv' E hlv hE c0 s0
  obtain ⟨-, x2, x3, x4⟩ := zk_run (K := K) (zk_callf N d) N pc lv' st E c0 s0 _ (hrun N N (Nat.le_refl _) (Nat.le_refl _)) hl hs hk hin
  exact ⟨v, E', M', c, s, N, hrun, zk_pat_Rel hE hrel hext hin x4, hc, hs', hext, hQ, x2, x3, x4⟩
theorem Z_after {ι : Nat → Nat} {κ : Nat → Nat → Nat} {ρ : Nat → Nat} {al sz : Nat → Nat × Nat} {cB eB : Int} {S : W_S} {an : List Int} {F : Int → Int} {tp : Int} {M2 M3 : g_M} {E1 E2 : q_H} (hE1 : g_Rel E1 M2) (hE2 : g_Rel E2 (zk_pat (Zm E1) M2 M3)) (kk2 : M3.1 = M2.1) (kr2 : ∀ x k, g_r M3 x k = g_r M2 x k) (A2 : Z_A ι κ al sz cB eB S an F tp M2) (hk1 : zk_hok Zc E1) (hP : Z_P ι κ ρ) (h264 : 264 ≤ E1.length) (hk2 : zk_hok (Zm E1) E2) (hJ2 : zk_J (Zm E1) E1 E2) : Z_A ι κ al sz cB eB S an F tp (zk_pat (Zm E1) M2 M3) ∧ Z_E E2 := by
  have hlen2 : E2.length = E1.length := by
    have e1 := hE2.1
    have e2 := hE1.1
    have e3 : (zk_pat (Zm E1) M2 M3).1.length = M3.1.length := rfl
    rw [kk2] at e3
    omega
  constructor
  · have f4 : e_fr (fun y _ => ¬ zk_F (Zm E1) y) M2 (zk_pat (Zm E1) M2 M3) := ⟨kk2, fun x k hx => by rw [zk_pat_y (Classical.not_not.mp hx)], kr2⟩
    refine A2.up f4 fun y hy hn => hn ?_
    have h9 := A2.1.nF (M2 := M2) hE1 rfl (fun _ _ => rfl) hk1 hP hy
    obtain ⟨⟨c, hc⟩, -⟩ := A2.1.ow hy
    obtain ⟨e1, e2⟩ := g_sh_s hc
    have hlt : y / 2 < E1.length := by
      rw [hE1.1]
      exact (List.getElem?_eq_some_iff.mp e2).1
    have hev : y % 2 = 0 := by omega
    refine ⟨hev, ?_, hlt⟩
    have h8 : ¬ Zc (y / 2) := fun z => h9 ⟨hev, z⟩
    unfold Zc at h8
    omega
  · have hZm : Zm E2 = Zm E1 := by
      funext i
      unfold Zm
      rw [hlen2]
    refine ⟨fun i e hi hn => ?_, by rw [hZm]; exact hk2, by omega⟩
    have hlt : i < E1.length := by
      rw [← hlen2]
      exact (List.getElem?_eq_some_iff.mp hi).1
    have hm : Zm E1 i := by
      unfold Zc at hn
      unfold Zm
      omega
    rw [hlen2]
    exact hk1 i e ((hJ2.2 i hm).symm.trans hi) hn
def zd_T (ρ : Nat → Nat) (y : Nat) (q : Int) : Prop := ∃ x : Nat, x < 8 ∧ R_EA 448 (ρ 0) ρ x y q
section ZDR
variable {ρ : Nat → Nat} {M M1 : g_M} {E : q_H}
theorem zd_n (hB : E_bk 448 ρ M) {k : Nat} {q : Int} (hk : k ∈ E_bf) (h0 : k ≠ 0) (h9 : k ≠ 9) (hf : k ∉ R_fs) : ¬ zd_T ρ (ρ k) q := fun ⟨x, _, z⟩ => R_EF_n (l := ρ 9) hB.rw (hB.ne hk (by decide) h9) (hB.nm hk) (hB.ne hk (by decide) h0) (fun k2 hk2 e => hf (by rw [hB.2.2 k hk k2 (E_fs_bf k2 hk2).1 e]; exact hk2)) (Or.inr z)
theorem zd_b (hB : E_bk 448 ρ M) {q : Int} (h : zd_T ρ (ρ 0) q) : 1014000 ≤ q ∧ q < 2598000 := by
  obtain ⟨x, hx, z⟩ := h
  have h9 := R_EF_b (l := ρ 9) hB.rw (hB.ne (by decide) (by decide) (by decide)) (Or.inr z)
  omega
theorem zd_m (hB : E_bk 448 ρ M) {q : Int} (h : zd_T ρ 448 q) : q = 4 ∨ q = 5 ∨ q = 6 ∨ q = 47 ∨ q = 55 ∨ q = 56 := by
  obtain ⟨x, -, z⟩ := h
  exact R_EA_m hB z
theorem zd_lp (hB : E_bk 448 ρ M) (h38 : ∀ q : Int, g_i M (ρ 38) q = 0) : ∀ (r j : Nat) (M1 : g_M), j + r = 8 → e_fr (zd_T ρ) M M1 → g_i M1 448 47 = -1 → g_Run 249 225 360 [(0, .ref 448), (1, g_n (j : Int))] [] M1 (g_qV fun M2 => e_fr (zd_T ρ) M M2 ∧ g_i M2 448 47 = -1) := by
  intro r
  induction r with
  | zero =>
    intro j M1 hj f h47
    have ej : j = 8 := by omega
    subst ej
    refine r_iload_n (k := 1) (by decide +kernel) rfl ?_
    refine r_bipush (n := 8) (x := 8) (by decide +kernel) rfl ?_
    refine r_ic_ge (off := 14) (t := 377) (by decide +kernel) (by decide +kernel) ⟨by decide, by decide⟩ ⟨by decide, by decide⟩ (fun _ => ?_) fun g => absurd g (by decide)
    exact r_retV (by decide +kernel) (by decide +kernel) ⟨f, h47⟩
  | succ r ih =>
    intro j M1 hj f h47
    have hB1 := hB.fr f
    have n38 : ∀ q : Int, g_i M1 (ρ 38) q = 0 := fun q => by
      rw [f.2.1 _ _ (zd_n hB (by decide) (by decide) (by decide) (by decide))]
      exact h38 q
    refine r_iload_n (k := 1) (by decide +kernel) rfl ?_
    refine r_bipush (n := 8) (x := 8) (by decide +kernel) rfl ?_
    refine r_ic_ge (off := 14) (t := 377) (by decide +kernel) (by decide +kernel) ⟨by omega, by omega⟩ ⟨by decide, by decide⟩ (fun g => absurd (by omega) g) fun _ => ?_
    refine r_aload_n (k := 0) (by decide +kernel) rfl ?_
    refine r_iload_n (k := 1) (by decide +kernel) rfl ?_
    refine r_invV (idx := 137) (z := 371) (as := [g_n (j : Int)]) (r := []) (ns := 0) (by decide +kernel) (by decide +kernel) rfl rfl rfl (show g_O M1 448 (q_own 371) from hB1.1) (by decide +kernel) (by decide +kernel) ?_
    refine r_callV (Q1 := fun M2 => e_fr (zd_T ρ) M M2 ∧ g_i M2 448 47 = -1) (e_dropTree (d := 245) (w1 := 1) (w2 := 1) (dn := ρ 38) hB1.rw (show j < 8 by omega) ⟨(hB1.at (k := 38) (by decide)).1, (hB1.at (k := 38) (by decide)).2, Or.inl rfl, Or.inl rfl, (n38 _).trans (if_neg (by decide)).symm, (n38 _).trans (if_neg (by decide)).symm⟩ h47 fun M2 hT f2 => ⟨f.tr (f2.up fun y q z => ⟨j, by omega, z⟩), hT.2.2.2.1⟩) fun M2 _ _ hM2 => ?_
    have h9 := ih (j + 1) M2 (by omega) hM2.1 hM2.2
    rw [show ((j + 1 : Nat) : Int) = (j : Int) + 1 by omega] at h9
    refine r_iinc (k := 1) (n := 1) (by decide +kernel) (by decide +kernel) rfl rfl rfl ?_
    exact r_goto (off := -14) (t := 360) (by decide +kernel) (by decide +kernel) h9
end ZDR
set_option maxRecDepth 100000 in
theorem zs_38 : zs_E[238]? = some (.inl (2, 16, .inl [])) := zs_at (by decide +kernel)
theorem zs_model : ∃ (E0 : q_H) (F : Nat), q_callf F 250 225 [.ref 448] zp_E1 = some (none, E0, 39, 2950516) ∧ E0.length = 264 ∧ Z_I 0 E0 3234588 := by
  obtain ⟨-, -, ⟨i1, i2⟩, -, -⟩ := zs_i1
  obtain ⟨-, ⟨f47, f40, f24, f3, f2⟩, -⟩ := zs_e3
  have hW := zs_W
  have hB := hW.1.1
  have hP := zs_P
  obtain ⟨z1, z2, z3⟩ := zs_Z
  have h38 : ∀ q : Int, g_i (zm zs_E) (zs_ρ 38) q = 0 := fun q => by
    have h9 := (zm_i_2 (i := 238) zs_38 q).1
    have e9 : zs_ρ 38 = 2 * 238 := by decide +kernel
    show zm_i zs_E (zs_ρ 38) q = 0
    rw [e9, h9]
    unfold zm_ie
    split <;> rfl
  have hlp := zd_lp hB h38 8 0 (zm zs_E) rfl (e_fr.rf _ _) f47
  have hlv : g_lv [(0, .ref 448), (1, g_n 0)] [(1, .int 0), (0, .ref 448)] := ⟨by decide, fun i v h => by
    match i, h with
    | 0, h => exact h
    | 1, h => exact h
    | i + 2, h =>
      have h8 : q_get [(0, .ref 448), (1, g_n 0)] (i + 2) = none := rfl
      rw [h8] at h
      cases h⟩
  have h448 : zk_vok (Zm zs_E) zs_E.length (.ref 448) := fun _ => ⟨by show 224 < zs_E.length; omega, fun z => by have := z.1; omega⟩
  obtain ⟨v, E0, M3, c, s, N, run, hE0, cc, ss, ext, ⟨ev, f3', h47⟩, hk2, hin2, hJ2⟩ := zk_runR (K := Zm zs_E) hlp zs_Rel hlv (fun q hq => by
    rcases List.mem_cons.mp hq with e | e
    · rw [e]
      trivial
    · rw [List.mem_singleton.mp e]
      exact h448) (fun v hv => absurd hv (by simp)) z2 (fun i hi => hi.2) 39 2950516
  have hl3 : M3.1.length = (zm zs_E).1.length := by rw [f3'.1]
  have hs3 : g_sl M3 = g_sl (zm zs_E) := by
    unfold g_sl
    rw [f3'.1]
  have ec : c = 39 := by omega
  have es : s = 2950516 := by omega
  subst ec
  subst es
  have A0 : Z_A zs_ι zs_κ (fun _ => (4, 4)) (fun _ => (0, 0)) 3234076 8 zs_S [] (fun _ => 0) 0 (zm zs_E) := ⟨zs_H, ⟨i1, by decide, b_nil _ _⟩, i2, by decide, by decide, fun q q0 q1 => absurd q1 (by omega)⟩
  obtain ⟨A4, Z4⟩ := Z_after zs_Rel hE0 f3'.1 f3'.2.2 A0 z1 hP z3 hk2 hJ2
  have nm : ∀ q : Int, q = 40 ∨ q = 24 ∨ q = 3 ∨ q = 2 → g_i M3 448 q = g_i (zm zs_E) 448 q := fun q hq => f3'.2.1 _ _ fun z => by
    have := zd_m hB z
    omega
  have W3 : E_W 448 zs_ρ zs_S (fun _ => []) M3 := by
    obtain ⟨⟨-, -, k3, k4, k5⟩, -, -, k8⟩ := hW
    refine ⟨⟨hB.fr f3', h47, b_at_keep k3 fun q q1 q2 => f3'.2.1 _ _ fun z => by have := zd_b hB z; omega, fun x hx => ?_, fun w hw => (k5 w hw).fr f3' fun y q z => ?_⟩, Or.inl ((nm 40 (by omega)).trans f40), Or.inl ((nm 24 (by omega)).trans f24), k8⟩
    · show g_i M3 (zs_ρ 35) x = 0
      rw [f3'.2.1 _ _ (zd_n hB (by decide) (by decide) (by decide) (by decide))]
      exact k4 x hx
    · rcases z with ⟨z | z | z, -⟩ | ⟨z | z | z, -⟩ | ⟨z, g1, g2⟩
      · rw [z]
        exact zd_n hB (by decide) (by decide) (by decide) (by decide)
      · rw [z]
        exact zd_n hB (by decide) (by decide) (by decide) (by decide)
      · rw [z]
        exact zd_n hB (by decide) (by decide) (by decide) (by decide)
      · rw [z]
        exact zd_n hB (by decide) (by decide) (by decide) (by decide)
      · rw [z]
        exact zd_n hB (by decide) (by decide) (by decide) (by decide)
      · rw [z]
        exact zd_n hB (by decide) (by decide) (by decide) (by decide)
      · rw [z]
        intro g
        have := zd_b hB g
        omega
  have B3 : Z_B zs_ρ zs_S (fun _ => []) [] (fun _ => 0) 0 M3 := ⟨W3, ⟨(nm 3 (by omega)).trans f3, by decide, b_nil _ _⟩, (nm 2 (by omega)).trans f2, by decide, by decide, fun q q0 q1 => absurd q1 (by omega)⟩
  have B4 : Z_B zs_ρ zs_S (fun _ => []) [] (fun _ => 0) 0 (zk_pat (Zm zs_E) (zm zs_E) M3) := B3.up (fun a c hc => hc) (fun _ _ => rfl) fun y hy => zk_pat_n fun z => by
    have h9 : zk_F Zc y := by
      rcases hy with e | ⟨k, hk, e⟩
      · rw [e]
        exact Z_F448
      · rw [e]
        exact hP.2.2.2 k hk
    have h8 := z.2.1
    have h7 := h9.2
    unfold Zc at h7
    omega
  have hlE : E0.length = 264 := by
    have e1 := hE0.1
    have e3 : (zk_pat (Zm zs_E) (zm zs_E) M3).1.length = M3.1.length := rfl
    have e4 := zs_len.1
    omega
  refine ⟨E0, 176 + N, ?_, hlE, by decide, zk_pat (Zm zs_E) (zm zs_E) M3, zs_ι, zs_κ, zs_ρ, fun _ => (4, 4), fun _ => (0, 0), 3234076, 8, zs_S, fun _ => [], [], fun _ => 0, 0, hE0, ?_, A4, B4, hP, Z4, ⟨by decide, by decide⟩, zs_W_ok, fun w _ => Int.le_refl 0⟩
  · refine q_cg (d := 249) (y := 225) (as := [.ref 448]) (by decide +kernel) ?_
    have h1 := q_pref_run (call := q_callf (176 + N) 249) (n := N) 176 _ _ _ _ _ _ zp_pre
    have h2 := run (176 + N) N (by omega) (Nat.le_refl _)
    rw [ev] at h2
    exact h1.trans h2
  · have e2 : g_sl (zk_pat (Zm zs_E) (zm zs_E) M3) = g_sl M3 := rfl
    rw [e2, hs3]
    exact zs_sl
