/-! BOTH, SIDE BY SIDE: a call of the one, the same call of the other -/
def Z_two (k : Nat) (E : q_H) (sl y1 y2 : Nat) (as : List Value) : Prop := ∃ (v : Int32) (E1 E2 : q_H) (c1 s1 c2 s2 F1 F2 : Nat) (fs1 fs2 : List Value), q_callf F1 250 y1 (.ref 0 :: as) E = some (some (.int v), E1, c1, s1) ∧ q_callf F2 250 y2 (.ref 448 :: as) E1 = some (some (.int v), E2, c2, s2) ∧ q_obj E 0 11 = some fs1 ∧ q_obj E1 448 12 = some fs2 ∧ Z_I (k + 1) E2 (sl + s1 + s2) ∧ E2.length = E.length + c1 + c2
theorem Z_comb {ι : Nat → Nat} {κ : Nat → Nat → Nat} {ρ : Nat → Nat} {al sz : Nat → Nat × Nat} {cB eB : Int} {S S1 : W_S} {q : Nat → List (Nat × Int × List b_E)} {an an1 : List Int} {F F1 : Int → Int} {tp tp1 rr : Int} {M : g_M} {E : q_H} {k sl y1 y2 : Nat} {as : List Value} (hk : k < 512) (hE : g_Rel E M) (hsl : g_sl M = sl) (hA : Z_A ι κ al sz cB eB S an F tp M) (hB : Z_B ρ S q an F tp M) (hP : Z_P ι κ ρ) (hZ : Z_E E) (hR : cB + tp ≤ 3234076 + 20 * k ∧ eB ≤ 8 + 2 * k) (has : ∀ v ∈ as, ∃ x, v = .int x)
    (h1 : ∀ {Q : Int → g_M → Prop}, (∀ al1 sz1 cB1 eB1 M1, Z_A ι κ al1 sz1 cB1 eB1 S1 an1 F1 tp1 M1 → cB1 + tp1 ≤ cB + tp + 20 → eB1 ≤ eB + 2 → Q rr M1) → g_Call 250 y1 (.ref 0 :: as) M (g_qI Q))
    (h2 : ∀ {Q : Int → g_M → Prop} {M' : g_M}, Z_B ρ S q an F tp M' → g_i M' (ρ 0) = g_i M (ρ 0) → (∀ q1 M1, M1.1 = M'.1 → (∀ x k, g_r M1 x k = g_r M' x k) → Z_B ρ S1 q1 an1 F1 tp1 M1 → Q rr M1) → g_Call 250 y2 (.ref 448 :: as) M' (g_qI Q))
    (hW : W_ok S1) (hgv : ∀ w, w < 2 → S1.2.2 w ≤ k + 1) : Z_two k E sl y1 y2 as := by
  obtain ⟨z1, z2, z3⟩ := hZ
  have hB0 := hB.1.1.1
  have hin : zk_in Zc E := fun i hi => Nat.lt_of_lt_of_le hi.2 z3
  have hargs : ∀ (K : Nat → Prop) (n a : Nat), a / 2 < n → ¬ K (a / 2) → zk_vs K n (.ref a :: as) := fun K n a ha hK v hv => by
    rcases List.mem_cons.mp hv with e | e
    · rw [e]
      exact fun _ => ⟨ha, hK⟩
    · obtain ⟨x, hx⟩ := has v e
      rw [hx]
      trivial
  obtain ⟨v1, E1, M1, c1, s1, N1, run1, hE1, cc1, ss1, ext1, ⟨r1, ev1, -, al1, sz1, cB1, eB1, er1, A1, b1, b2⟩, hk1, hin1, hJ1, hsr1⟩ := zk_call (K := Zc) (h1 (Q := fun r M1 => ∃ al1 sz1 cB1 eB1, r = rr ∧ Z_A ι κ al1 sz1 cB1 eB1 S1 an1 F1 tp1 M1 ∧ cB1 + tp1 ≤ cB + tp + 20 ∧ eB1 ≤ eB + 2) fun al1 sz1 cB1 eB1 M1 a b c => ⟨al1, sz1, cB1, eB1, rfl, a, b, c⟩) hE (hargs Zc E.length 0 (by omega) (fun z => absurd z.1 (by decide))) z1 hin
  subst er1
  -- the class holds its new state, the reference its old one
  have A2 : Z_A ι κ al1 sz1 cB1 eB1 S1 an1 F1 tp1 (zk_pat Zc M M1) := A1.up zk_pat_f fun y hy => A1.1.nF hE1 rfl (fun _ _ => rfl) hk1 hP hy
  have hi1 : ∀ y, (y = 448 ∨ ∃ k ∈ E_bf, y = ρ k) → g_i (zk_pat Zc M M1) y = g_i M y := fun y hy => zk_pat_y (by
    rcases hy with e | ⟨k, hk, e⟩
    · rw [e]
      exact Z_F448
    · rw [e]
      exact hP.2.2.2 k hk)
  have h224 : M.1[224]? = some (.inl 12) := by
    have h9 : g_sh M (2 * 224) = some (.inl 12) := hB0.1
    rwa [g_sh_2] at h9
  have B2 : Z_B ρ S q an F tp (zk_pat Zc M M1) := hB.up ext1 (fun k hk => hsr1 224 _ ⟨by decide, by decide⟩ h224 k (E_bf_R k hk).1 (E_bf_R k hk).2) hi1
  have hlen1 : E1.length = E.length + c1 := by
    have e1 := hE1.1
    have e2 := hE.1
    have e3 : (zk_pat Zc M M1).1.length = M1.1.length := rfl
    omega
  have zm1 : zk_hok (Zm E1) E1 := fun i e hi hn => by
    have hlt : i < E1.length := (List.getElem?_eq_some_iff.mp hi).1
    have hc : Zc i := by
      unfold Zm at hn
      unfold Zc
      omega
    have h9 : E[i]? = some e := (hJ1.2 i hc).symm.trans hi
    refine (z2 i e h9 fun z => ?_).map fun r hr hnr => ?_
    · unfold Zm at z
      unfold Zc at hc
      omega
    · unfold Zm at hnr ⊢
      omega
  have hinm : zk_in (Zm E1) E1 := fun i hi => hi.2
  -- the reference
  obtain ⟨v2, E2, M3, c2, s2, N2, run2, hE2, cc2, ss2, ext2, ⟨r2, ev2, -, q1, er2, kk2, kr2, B3⟩, hk2, hin2, hJ2, hsr2⟩ := zk_call (K := Zm E1) (h2 (Q := fun r M3 => ∃ q1, r = r1 ∧ M3.1 = (zk_pat Zc M M1).1 ∧ (∀ x k, g_r M3 x k = g_r (zk_pat Zc M M1) x k) ∧ Z_B ρ S1 q1 an1 F1 tp1 M3) B2 (hi1 (ρ 0) (Or.inr ⟨0, by decide, rfl⟩)) fun q1 M3 a b c => ⟨q1, rfl, a, b, c⟩) hE1 (hargs (Zm E1) E1.length 448 (by omega) (fun z => by have := z.1; omega)) zm1 hinm
  subst er2
  have hlen2 : E2.length = E1.length := by
    have e1 := hE2.1
    have e2 := hE1.1
    have e3 : (zk_pat (Zm E1) (zk_pat Zc M M1) M3).1.length = M3.1.length := rfl
    rw [kk2] at e3
    omega
  have B4 : Z_B ρ S1 q1 an1 F1 tp1 (zk_pat (Zm E1) (zk_pat Zc M M1) M3) := B3.up (fun a c hc => hc) (fun _ _ => rfl) fun y hy => zk_pat_n fun z => by
    have h9 : zk_F Zc y := by
      rcases hy with e | ⟨k, hk, e⟩
      · rw [e]
        exact Z_F448
      · rw [e]
        exact hP.2.2.2 k hk
    have h8 := z.2.1
    have h7 := h9.2
    unfold Zc at h7
    omega
  have A4 : Z_A ι κ al1 sz1 cB1 eB1 S1 an1 F1 tp1 (zk_pat (Zm E1) (zk_pat Zc M M1) M3) := by
    have f4 : e_fr (fun y _ => ¬ zk_F (Zm E1) y) (zk_pat Zc M M1) (zk_pat (Zm E1) (zk_pat Zc M M1) M3) := ⟨kk2, fun x k hx => by rw [zk_pat_y (Classical.not_not.mp hx)], kr2⟩
    refine A2.up f4 fun y hy hn => hn ?_
    have h9 := A2.1.nF (M2 := zk_pat Zc M M1) hE1 rfl (fun _ _ => rfl) hk1 hP hy
    obtain ⟨⟨c, hc⟩, -⟩ := A2.1.ow hy
    obtain ⟨e1, e2⟩ := g_sh_s hc
    have hlt : y / 2 < E1.length := by
      rw [hE1.1]
      exact (List.getElem?_eq_some_iff.mp e2).1
    have hev : y % 2 = 0 := by omega
    refine ⟨hev, ?_, hlt⟩
    have h8 : ¬ Zc (y / 2) := fun z => h9 ⟨hev, z⟩
    unfold Zc at h8
    omega
  have hZm : Zm E2 = Zm E1 := by
    funext i
    unfold Zm
    rw [hlen2]
  have Z4 : Z_E E2 := by
    refine ⟨fun i e hi hn => ?_, by rw [hZm]; exact hk2, by omega⟩
    have hlt : i < E1.length := by
      rw [← hlen2]
      exact (List.getElem?_eq_some_iff.mp hi).1
    have hm : Zm E1 i := by
      unfold Zc at hn
      unfold Zm
      omega
    rw [hlen2]
    exact hk1 i e ((hJ2.2 i hm).symm.trans hi) hn
  have hv : ∀ {w : Option Value}, w = some (g_n r2) → w = some (.int (Int32.ofInt r2)) := fun h => h
  have o1 : g_O M 0 11 := by
    have h9 : g_O M (ι 0) 11 := hA.1.1.O (by decide)
    rwa [hP.1] at h9
  obtain ⟨fs1, -, of1, -⟩ := hE.obj o1
  obtain ⟨fs2, -, of2, -⟩ := hE1.obj B2.1.1.1.1
  refine ⟨Int32.ofInt r2, E1, E2, c1, s1, c2, s2, N1, N2, fs1, fs2, ?_, ?_, of1, of2, ⟨by omega, _, ι, κ, ρ, al1, sz1, cB1, eB1, S1, q1, an1, F1, tp1, hE2, ?_, A4, B4, hP, Z4, ?_, hW, fun w hw => by have := hgv w hw; omega⟩, ?_⟩
  · rw [run1 N1 (Nat.le_refl _), ev1]
    rfl
  · rw [run2 N2 (Nat.le_refl _), ev2]
    rfl
  · have e1 : g_sl (zk_pat Zc M M1) = g_sl M1 := rfl
    have e2 : g_sl (zk_pat (Zm E1) (zk_pat Zc M M1) M3) = g_sl M3 := rfl
    rw [e2]
    omega
  · obtain ⟨r1', r2'⟩ := hR
    constructor
    · omega
    · omega
  · have e1 := hE2.1
    have e2 := hE1.1
    have e3 : (zk_pat (Zm E1) (zk_pat Zc M M1) M3).1.length = M3.1.length := rfl
    omega
/-- the room is enough -/
theorem B_wsn : (∀ j : Fin 13, B_ws j.val ≤ 546854) ∧ ∀ i : Fin 12, B_wn i.val ≤ 28329 := by decide +kernel
theorem Z_room {k : Nat} {E : q_H} {sl : Nat} (h : Z_I k E sl) : E.length ≤ 396798 ∧ sl ≤ 7911856 := by
  obtain ⟨hk, M, ι, κ, ρ, al, sz, cB, eB, S, q, an, F, tp, hE, hsl, hA, -, -, -, ⟨r1, r2⟩, -⟩ := h
  obtain ⟨h1, h2, h3, h4, h5, h6, h7, h8⟩ := hA.1
  have ht := hA.2.2
  obtain ⟨-, -, a, n, -, -, -, -, hn, hs, he, -⟩ := h3
  have hsz : ∀ x, x < 8 → (sz x).1 ≤ 12 ∧ (sz x).2 ≤ 11 := fun x hx => by
    obtain ⟨SS, -, b1, b2, -⟩ := (h6 x hx).1
    exact ⟨b1.2.2.2, b2.2.2.2.2.2⟩
  have hc : ∀ x, x < 8 → C_c sz x ≤ 575183 ∧ C_e sz x ≤ 91 := fun x hx => by
    obtain ⟨j1, j2⟩ := hsz x hx
    have b1 := B_wsn.1 ⟨(sz x).1, by omega⟩
    have b2 := B_wsn.2 ⟨(sz x).2, by omega⟩
    have b1 : B_ws (sz x).1 ≤ 546854 := b1
    have b2 : B_wn (sz x).2 ≤ 28329 := b2
    unfold C_c C_e
    constructor
    · omega
    · omega
  have s1 : C_sm (C_c sz) 8 ≤ 4601464 := by
    show 0 + C_c sz 0 + C_c sz 1 + C_c sz 2 + C_c sz 3 + C_c sz 4 + C_c sz 5 + C_c sz 6 + C_c sz 7 ≤ 4601464
    have c0 := (hc 0 (by decide)).1
    have c1 := (hc 1 (by decide)).1
    have c2 := (hc 2 (by decide)).1
    have c3 := (hc 3 (by decide)).1
    have c4 := (hc 4 (by decide)).1
    have c5 := (hc 5 (by decide)).1
    have c6 := (hc 6 (by decide)).1
    have c7 := (hc 7 (by decide)).1
    omega
  have s2 : C_sm (C_e sz) 8 ≤ 728 := by
    show 0 + C_e sz 0 + C_e sz 1 + C_e sz 2 + C_e sz 3 + C_e sz 4 + C_e sz 5 + C_e sz 6 + C_e sz 7 ≤ 728
    have c0 := (hc 0 (by decide)).2
    have c1 := (hc 1 (by decide)).2
    have c2 := (hc 2 (by decide)).2
    have c3 := (hc 3 (by decide)).2
    have c4 := (hc 4 (by decide)).2
    have c5 := (hc 5 (by decide)).2
    have c6 := (hc 6 (by decide)).2
    have c7 := (hc 7 (by decide)).2
    omega
  have t0 := ht.2.1
  have hle := hE.1
  unfold k_n at hn
  constructor
  · omega
  · omega
