/-! TREES OF THE REFERENCE: an entry is written -/
/-- the places that the writing of entry s may change -/
def R_nS (m b : Nat) (ρ : Nat → Nat) (x s : Nat) (y : Nat) (q : Int) : Prop := R_kA ρ x y q ∨ (y = ρ 46 ∧ q = 1500 * x + s) ∨ (y = m ∧ (q = 4 ∨ q = 5 ∨ q = 6)) ∨ (y = b ∧ R_kp x s ≤ q ∧ q < R_kp x s + 132)
/-- how the nodes of a tree are told, for sweeping -/
def R_nds (ρ : Nat → Nat) (x : Nat) (M : g_M) : Prop := ∀ j : Nat, j < 600 → g_i M (ρ 48) (600 * x + j) = 0 ∨ (g_i M (ρ 48) (600 * x + j) = 1 ∧ (g_i M (ρ 49) (600 * x + j) = 0 ∨ g_i M (ρ 49) (600 * x + j) = 1) ∧ 0 ≤ g_i M (ρ 50) (600 * x + j) ∧ g_i M (ρ 50) (600 * x + j) ≤ 9 ∧ ∀ i, R_has ρ x M j i → ∃ k : Nat, i = k ∧ k < 1500)
section RNE
variable {m b d x : Nat} {ρ : Nat → Nat} {M : g_M}
theorem R_kp_R {s : Nat} (hx : x < 8) (hs : s < 1500) : 1014000 ≤ R_kp x s ∧ R_kp x s + 132 ≤ 2598000 := by
  unfold R_kp
  exact ⟨by omega, by omega⟩
/-- one key is written -/
theorem e_putKey {Q : g_M → Prop} {lo o : Int} {D : Nat} {k : Int} {nm vb : List Int} (hR : e_R M m b) (hlo : 1014000 ≤ lo) (hlo2 : lo + 66 ≤ 2598000) (hs : b_st (g_i M b) 2706210 o D k nm vb) (hl : vb.length ≤ 64) (hdis : o + (b_el k nm vb).length ≤ 1014000 ∨ 2598000 ≤ o) (hq : ∀ M1, e_fr (fun y q => (y = m ∧ (q = 4 ∨ q = 5 ∨ q = 6)) ∨ (y = b ∧ lo ≤ q ∧ q < lo + 66)) M M1 → b_at (g_i M1 b) lo (b_el k [] vb) → Q M1) : g_Call (d + 4) 245 [.ref m, g_n lo, g_n (lo + 66)] M (g_qV fun M34 => g_ext M M34 → g_ok M34 → ∃ b37, g_r M34 m 0 = some b37 ∧ ∃ n39, g_A M34 b37 0 n39 ∧ ((0 : Int) ≤ o ∧ (o : Int) < n39) ∧ g_Call (d + 4) 246 [.ref m, g_n (g_i M34 b37 o)] M34 (g_qV fun M42 => g_ext M34 M42 → g_ok M42 → g_Call (d + 4) 246 [.ref m, g_n 0] M42 (g_qV fun M45 => g_ext M42 M45 → g_ok M45 → g_Call (d + 4) 253 [.ref m, g_n o] M45 (g_qV fun M48 => g_ext M45 M48 → g_ok M48 → Q M48)))) := by
  have hmb : m ≠ b := g_neOA hR.1 hR.2.2
  obtain ⟨v1, v2, v3, v4⟩ := hs.val
  have hel := b_el_len k nm vb
  have hkp := b_vs_pos (b_gv_vs hs.2.2.1)
  refine e_write (d := d + 3) hR (by omega) (by omega) (by omega) fun M34 f34 W34 => ?_
  intro _ _
  have f34' : e_fr (fun y q => (y = m ∧ (q = 4 ∨ q = 5 ∨ q = 6)) ∨ (y = b ∧ lo ≤ q ∧ q < lo + 66)) M M34 := f34.up fun y q z => Or.inl z
  have hup : ∀ {M1 M2 : g_M}, e_fr (e_WL m b lo (lo + 66)) M1 M2 → e_fr (fun y q => (y = m ∧ (q = 4 ∨ q = 5 ∨ q = 6)) ∨ (y = b ∧ lo ≤ q ∧ q < lo + 66)) M1 M2 := fun f => f.up fun y q z => by
    rcases z with ⟨z1, z2⟩ | z
    · exact Or.inl ⟨z1, by omega⟩
    · exact Or.inr z
  have hsM : ∀ {M1 : g_M}, e_fr (fun y q => (y = m ∧ (q = 4 ∨ q = 5 ∨ q = 6)) ∨ (y = b ∧ lo ≤ q ∧ q < lo + 66)) M M1 → b_st (g_i M1 b) 2706210 o D k nm vb := fun f => ⟨b_at_keep hs.1 fun q q1 q2 => f.2.1 b q fun z => by
    rcases z with z | z
    · exact hmb z.1.symm
    · have := z.2
      omega, hs.2⟩
  refine ⟨b, W34.1.2.1, 2706210, W34.1.2.2, ⟨by omega, by omega⟩, ?_⟩
  rw [(hsM f34').val.2.2.2]
  refine e_put (d := d + 3) W34 ⟨by omega, by omega⟩ fun M42 f42 W42 => ?_
  intro _ _
  refine e_put (d := d + 3) W42 ⟨by decide, by decide⟩ fun M45 f45 W45 => ?_
  intro _ _
  have F45 := (f34'.tr (hup f42)).tr (hup f45)
  refine e_putValue (d := d) W45 (hsM F45) (by omega) fun M48 f48 W48 => ?_
  intro _ _
  have hk8 : g_w8 k = k := g_w8_of (by omega) (by omega)
  have h08 : g_w8 0 = 0 := by decide +kernel
  have hW := (W48.at (by simp; omega)).1
  rw [hk8, h08] at hW
  refine hq M48 (F45.tr (hup f48)) ?_
  simpa [b_el] using hW
theorem R_has_fr {M1 : g_M} {S : Nat → Int → Prop} (f : e_fr S M M1) (h : ∀ k ∈ R_fs, k ≠ 45 → k ≠ 46 → ∀ q, ¬ S (ρ k) q) (j : Nat) (i : Int) : R_has ρ x M1 j i ↔ R_has ρ x M j i := by
  unfold R_has
  simp only [f.2.1 _ _ (h 50 (by decide) (by decide) (by decide) _), f.2.1 _ _ (h 49 (by decide) (by decide) (by decide) _), f.2.1 _ _ (h 51 (by decide) (by decide) (by decide) _), f.2.1 _ _ (h 52 (by decide) (by decide) (by decide) _)]
theorem e_newEntry {Q : Int → g_M → Prop} {U : Nat → Prop} {o1 o2 no : Int} {D1 D2 : Nat} {k1 k2 : Int} {nm1 vb1 nm2 vb2 : List Int} (hR : R_rw m b ρ M) (hx : x < 8) (h47 : g_i M m 47 = -1) (hnd : R_nds ρ x M) (hU : ∀ i : Nat, U i ↔ ∃ j : Nat, j < 600 ∧ g_i M (ρ 48) (600 * x + j) = 1 ∧ R_has ρ x M j i) (hk : ∀ i : Nat, i < 1500 → U i → g_i M (ρ 45) (1500 * x + i) ≠ 0) (hfr : ∃ i : Nat, i < 1500 ∧ ¬ U i) (hs1 : b_st (g_i M b) 2706210 o1 D1 k1 nm1 vb1) (hs2 : b_st (g_i M b) 2706210 o2 D2 k2 nm2 vb2) (hd1 : o1 + (b_el k1 nm1 vb1).length ≤ 1014000 ∨ 2598000 ≤ o1) (hd2 : o2 + (b_el k2 nm2 vb2).length ≤ 1014000 ∨ 2598000 ≤ o2) (hg : I_eg ((k1, vb1), (k2, vb2), no)) (h0 : 0 ≤ no) (hq : ∀ (s : Nat) M1, ¬ U s → e_fr (R_nS m b ρ x s) M M1 → R_e b ρ x s M1 ((k1, vb1), (k2, vb2), no) → (∀ i : Nat, i < 1500 → U i ∨ i = s → g_i M1 (ρ 45) (1500 * x + i) ≠ 0) → Q s M1) : g_Call (d + 6) 364 [.ref m, g_n x, g_n o1, g_n o2, g_n no] M (g_qI Q) := by
  have ho1R := hs1.R (by decide)
  have ho2R := hs2.R (by decide)
  have hnoR : g_InR no := hg.2.2
  have hxc : (x : Int) * 1500 = 1500 * x := Int.mul_comm _ _
  have hmb : m ≠ b := g_neOA hR.1.1 hR.1.2.2
  have hbr : ∀ {k : Nat}, k ∈ R_fs → ρ k ≠ b := fun hk => hR.nb hk
  have hmr : ∀ {k : Nat}, k ∈ R_fs → ρ k ≠ m := fun hk => hR.nm hk
  have n456 := hR.ne (k := 45) (k2 := 46) (by decide) (by decide) (by decide)
  -- from the free number on
  have h71 : ∀ (s : Nat) (M1 : g_M), s < 1500 → ¬ U s → e_fr (R_kA ρ x) M M1 → (∀ i : Nat, i < 1500 → U i → g_i M1 (ρ 45) (1500 * x + i) ≠ 0) → g_Run (d + 5) 364 71 [(0, .ref m), (1, g_n x), (2, g_n o1), (3, g_n o2), (4, g_n no), (5, g_n s)] [] M1 (g_qI Q) := by
    intro s M1 hs hsU f1 kk1
    have hR1 := hR.fr f1
    obtain ⟨r1, r2⟩ := hR1.at (k := 45) (by decide)
    have r2 : g_A M1 (ρ 45) 2 12000 := r2
    have hkpR := R_kp_R hx hs
    refine s_X12_newEntry_71 ⟨by omega, by omega⟩ ho1R ho2R hnoR ⟨by omega, by omega⟩ fun _ => ⟨hR1.1.1, ρ 45, r1, ⟨by omega, by omega⟩, ⟨by omega, by omega⟩, 12000, r2, ⟨by omega, by omega⟩, fun M9 e9 _ => ?_⟩
    rw [hxc] at e9
    have f9 : e_fr (R_nS m b ρ x s) M1 M9 := by
      rw [e9]
      exact e_fr.wi _ (Or.inl ⟨rfl, by omega, by omega⟩)
    have hR9 := hR1.fr f9
    obtain ⟨s1, s2⟩ := hR9.at (k := 46) (by decide)
    have s2 : g_A M9 (ρ 46) 1 12000 := s2
    refine ⟨ρ 46, s1, ⟨by omega, by omega⟩, ⟨by omega, by omega⟩, 12000, s2, ⟨by omega, by omega⟩, fun M20 e20 _ => ?_⟩
    rw [hxc] at e20
    have f20 : e_fr (R_nS m b ρ x s) M9 M20 := by
      rw [e20]
      exact e_fr.wi _ (Or.inr (Or.inl ⟨rfl, rfl⟩))
    have hR20 := hR9.fr f20
    have F20 : e_fr (R_nS m b ρ x s) M M20 := ((f1.up fun y q z => Or.inl z).tr f9).tr f20
    have hk45 : g_i M20 (ρ 45) (1500 * x + s) = 1 ∧ ∀ i : Nat, i < 1500 → U i → g_i M20 (ρ 45) (1500 * x + i) ≠ 0 := by
      refine ⟨by rw [e20, g_i_wi, if_neg (fun z => n456 z.1), e9, g_i_wi, if_pos ⟨rfl, rfl⟩], fun i hi hUi => ?_⟩
      rw [e20, g_i_wi, if_neg (fun z => n456 z.1), e9, g_i_wi]
      by_cases g : i = s
      · rw [g, if_pos ⟨rfl, rfl⟩]
        decide
      · rw [if_neg (fun z => g (by have := z.2; omega))]
        exact kk1 i hi hUi
    have hb20 : g_i M20 b = g_i M b := by
      funext q
      rw [e20, g_i_wi, if_neg (fun z => hbr (k := 46) (by decide) z.1.symm), e9, g_i_wi, if_neg (fun z => hbr (k := 45) (by decide) z.1.symm)]
      exact f1.2.1 b q fun z => hbr (k := 45) (by decide) z.1.symm
    have hn20 : g_i M20 (ρ 46) (1500 * x + s) = no := by rw [e20, g_i_wi, if_pos ⟨rfl, rfl⟩]
    have hkey0 : R_kp x s + 66 * ((0 : Nat) : Int) = R_kp x s := by omega
    have hkey1 : R_kp x s + 66 * ((1 : Nat) : Int) = R_kp x s + 66 := by omega
    refine e_keyAt (d := d + 4) (k := 0) hx hs (by decide) ?_
    intro _ _ _
    refine e_keyAt (d := d + 4) (k := 1) hx hs (by decide) ?_
    intro _ _ _
    rw [hkey0, hkey1]
    have hup : ∀ {lo : Int} {M2 M3 : g_M}, R_kp x s ≤ lo → lo + 66 ≤ R_kp x s + 132 → e_fr (fun y q => (y = m ∧ (q = 4 ∨ q = 5 ∨ q = 6)) ∨ (y = b ∧ lo ≤ q ∧ q < lo + 66)) M2 M3 → e_fr (R_nS m b ρ x s) M2 M3 := fun h1 h2 f => f.up fun y q z => by
      rcases z with z | ⟨z1, z2, z3⟩
      · exact Or.inr (Or.inr (Or.inl z))
      · exact Or.inr (Or.inr (Or.inr ⟨z1, by omega, by omega⟩))
    refine e_putKey (d := d + 1) (D := D1) (k := k1) (nm := nm1) (vb := vb1) (M := M20) hR20.1 (by omega) (by omega) (by rw [hb20]; exact hs1) hg.1.2 hd1 fun M48 f48 at48 => ?_
    have F48 := F20.tr (hup (Int.le_refl _) (by omega) f48)
    have hR48 := hR.fr F48
    have hp2 : b_st (g_i M48 b) 2706210 o2 D2 k2 nm2 vb2 := ⟨b_at_keep hs2.1 fun q q1 q2 => by
      rw [f48.2.1 b q fun z => ?_, hb20]
      rcases z with z | z
      · exact hmb z.1.symm
      · have := z.2
        omega, hs2.2⟩
    refine e_keyAt (d := d + 4) (k := 1) hx hs (by decide) ?_
    intro _ _ _
    refine e_keyAt (d := d + 4) (k := 1) hx hs (by decide) ?_
    intro _ _ _
    rw [hkey1]
    refine ⟨⟨by omega, by omega⟩, e_putKey (d := d + 1) (D := D2) (k := k2) (nm := nm2) (vb := vb2) (M := M48) hR48.1 (by omega) (by omega) hp2 hg.2.1.2 hd2 fun M76 f76 at76 => ?_⟩
    have F76 := F48.tr (hup (by omega) (by omega) f76)
    have hsm : ∀ {lo : Int} {M2 M3 : g_M}, e_fr (fun y q => (y = m ∧ (q = 4 ∨ q = 5 ∨ q = 6)) ∨ (y = b ∧ lo ≤ q ∧ q < lo + 66)) M2 M3 → ∀ k ∈ R_fs, ∀ q, g_i M3 (ρ k) q = g_i M2 (ρ k) q := by
      intro lo M2 M3 f k hk q
      refine f.2.1 _ _ fun z => ?_
      rcases z with z | z
      · exact hmr hk z.1
      · exact hbr hk z.1
    have hel1 := b_el_len k1 [] vb1
    rw [List.length_nil] at hel1
    have hvl1 : vb1.length ≤ 64 := hg.1.2
    refine hq s M76 hsU F76 ⟨hs, b_at_keep at48 fun q q1 q2 => ?_, at76, ?_, hg, h0⟩ fun i hi hor => ?_
    · have q2 : q < R_kp x s + (b_el k1 [] vb1).length := q2
      refine f76.2.1 b q fun z => ?_
      rcases z with z | z
      · exact hmb z.1.symm
      · have := z.2
        omega
    · rw [hsm f76 46 (by decide), hsm f48 46 (by decide)]
      exact hn20
    · rw [hsm f76 45 (by decide), hsm f48 45 (by decide)]
      rcases hor with g | g
      · exact hk45.2 i hi g
      · rw [g, hk45.1]
        decide
  -- after sweeping
  have h49 : ∀ (r s : Nat) (M1 : g_M), e_fr (R_kA ρ x) M M1 → R_kS ρ x M1 U → s + r < 1500 → ¬ U (s + r) → g_Run (d + 5) 364 49 [(0, .ref m), (1, g_n x), (2, g_n o1), (3, g_n o2), (4, g_n no), (5, g_n s)] [] M1 (g_qI Q) := by
    intro r
    have hgo : ∀ (s : Nat) (M1 : g_M), s < 1500 → e_fr (R_kA ρ x) M M1 → R_kS ρ x M1 U → ¬ U s → g_Run (d + 5) 364 49 [(0, .ref m), (1, g_n x), (2, g_n o1), (3, g_n o2), (4, g_n no), (5, g_n s)] [] M1 (g_qI Q) := by
      intro s M1 hs f1 kk hsU
      have hR1 := hR.fr f1
      obtain ⟨r1, r2⟩ := hR1.at (k := 45) (by decide)
      have r2 : g_A M1 (ρ 45) 2 12000 := r2
      refine s_X12_newEntry_49 ⟨by omega, by omega⟩ ho1R ho2R hnoR ⟨by omega, by omega⟩ fun _ => ⟨hR1.1.1, ρ 45, r1, ⟨by omega, by omega⟩, ⟨by omega, by omega⟩, 12000, r2, ⟨by omega, by omega⟩, ?_⟩
      rw [hxc, (kk s hs).2 hsU]
      exact ⟨fun _ => h71 s M1 hs hsU f1 fun i hi hUi => by rw [(kk i hi).1 hUi]; decide, fun z => absurd rfl z⟩
    induction r with
    | zero => exact fun s M1 f1 kk hs hsU => hgo s M1 hs f1 kk hsU
    | succ r ih =>
      intro s M1 f1 kk hs hsU
      by_cases g : U s
      · have hR1 := hR.fr f1
        obtain ⟨r1, r2⟩ := hR1.at (k := 45) (by decide)
        have r2 : g_A M1 (ρ 45) 2 12000 := r2
        refine s_X12_newEntry_49 ⟨by omega, by omega⟩ ho1R ho2R hnoR ⟨by omega, by omega⟩ fun _ => ⟨hR1.1.1, ρ 45, r1, ⟨by omega, by omega⟩, ⟨by omega, by omega⟩, 12000, r2, ⟨by omega, by omega⟩, ?_⟩
        rw [hxc, (kk s (by omega)).1 g]
        refine ⟨fun z => absurd z (by decide), fun _ => ⟨⟨by omega, by omega⟩, ?_⟩⟩
        have h9 := ih (s + 1) M1 f1 kk (by omega) (by rw [show s + 1 + r = s + (r + 1) by omega]; exact hsU)
        rwa [show ((s + 1 : Nat) : Int) = (s : Int) + 1 by omega] at h9
      · exact hgo s M1 (by omega) f1 kk g
  have h3 : ∀ (r s : Nat), s + r = 1500 → g_Run (d + 5) 364 3 [(0, .ref m), (1, g_n x), (2, g_n o1), (3, g_n o2), (4, g_n no), (5, g_n s)] [] M (g_qI Q) := by
    intro r
    induction r with
    | zero =>
      intro s hs
      have hs : s = 1500 := by omega
      subst hs
      refine s_X12_newEntry_3 ⟨by omega, by omega⟩ ho1R ho2R hnoR ⟨by omega, by omega⟩ fun _ => ⟨fun z => absurd z (by omega), fun _ => ⟨fun _ => ⟨hR.1.1, e_sweep (d := d + 2) hR hx h47 hnd fun M2 f2 kk2 => ?_⟩, fun z => absurd rfl z⟩⟩
      intro _ _
      obtain ⟨i, i1, i2⟩ := hfr
      have kk2' : R_kS ρ x M2 U := kk2.iff fun j => (hU j).symm
      exact h49 i 0 M2 f2 kk2' (by omega) (by rw [Nat.zero_add]; exact i2)
    | succ r ih =>
      intro s hs
      obtain ⟨r1, r2⟩ := hR.at (k := 45) (by decide)
      have r2 : g_A M (ρ 45) 2 12000 := r2
      refine s_X12_newEntry_3 ⟨by omega, by omega⟩ ho1R ho2R hnoR ⟨by omega, by omega⟩ fun _ => ⟨fun _ => ⟨hR.1.1, ρ 45, r1, ⟨by omega, by omega⟩, ⟨by omega, by omega⟩, 12000, r2, ⟨by omega, by omega⟩, fun z => ⟨fun z2 => absurd z2 (by omega), fun _ => ?_⟩, fun z => ⟨⟨by omega, by omega⟩, ?_⟩⟩, fun z => absurd (by omega) z⟩
      · rw [hxc] at z
        exact h71 s M (by omega) (fun g => hk s (by omega) g z) (e_fr.rf _ _) hk
      · have h9 := ih (s + 1) (by omega)
        rwa [show ((s + 1 : Nat) : Int) = (s : Int) + 1 by omega] at h9
  refine m_X12_newEntry ⟨by omega, by omega⟩ ho1R ho2R hnoR fun _ => ?_
  exact h3 1500 0 rfl
end RNE
