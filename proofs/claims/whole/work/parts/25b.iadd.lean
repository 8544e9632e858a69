/-! INDEX: a key comes to the keys of a document -/
/-- what may change: a row, and whether a key is too long -/
def I_F (x ky : Nat) (M M1 : g_M) : Prop := M1.1 = M.1 ∧ (∀ a, g_r M1 a = g_r M a) ∧ (∀ a, a ≠ x → a ≠ ky → g_i M1 a = g_i M a) ∧ ∀ k : Int, k ≠ 13 → g_i M1 x k = g_i M x k
theorem I_F.rf (x ky : Nat) (M : g_M) : I_F x ky M M := ⟨rfl, fun _ => rfl, fun _ _ _ => rfl, fun _ _ => rfl⟩
theorem I_F.tr {x ky : Nat} {M M1 M2 : g_M} (h : I_F x ky M M1) (h2 : I_F x ky M1 M2) : I_F x ky M M2 := ⟨h2.1.trans h.1, fun a => (h2.2.1 a).trans (h.2.1 a), fun a h3 h4 => (h2.2.2.1 a h3 h4).trans (h.2.2.1 a h3 h4), fun k hk => (h2.2.2.2 k hk).trans (h.2.2.2 k hk)⟩
theorem I_F.sh {x ky : Nat} {M M1 : g_M} (h : I_F x ky M M1) (a : Nat) : g_sh M1 a = g_sh M a := by
  unfold g_sh
  rw [h.1]
theorem I_F.O {x ky a ci : Nat} {M M1 : g_M} (h : I_F x ky M M1) (ho : g_O M a ci) : g_O M1 a ci := by
  unfold g_O
  rw [h.sh]
  exact ho
theorem I_F.A {x ky a t : Nat} {n : Int} {M M1 : g_M} (h : I_F x ky M M1) (ho : g_A M a t n) : g_A M1 a t n := by
  unfold g_A
  rw [h.sh]
  exact ho
theorem I_F.wx {x ky : Nat} {M : g_M} (v : Int) (hn : x ≠ ky) : I_F x ky M (g_wi M x 13 v) := by
  refine ⟨rfl, fun _ => rfl, fun a h1 _ => funext fun j => ?_, fun k hk => ?_⟩
  · rw [g_i_wi, if_neg (fun z => h1 z.1)]
  · rw [g_i_wi, if_neg (fun z => hk z.2)]
theorem I_F.wk {x ky : Nat} {M : g_M} (k v : Int) (hn : x ≠ ky) : I_F x ky M (g_wi M ky k v) := by
  refine ⟨rfl, fun _ => rfl, fun a _ h1 => funext fun j => ?_, fun k2 _ => ?_⟩
  · rw [g_i_wi, if_neg (fun z => h1 z.1)]
  · rw [g_i_wi, if_neg (fun z => hn z.1)]
theorem I_F.cp {x ky : Nat} {M : g_M} (s t n : Int) (hn : x ≠ ky) : I_F x ky M (g_cp M ky ky s t n) := by
  refine ⟨rfl, fun _ => rfl, fun a _ h1 => funext fun j => ?_, fun k2 _ => ?_⟩
  · rw [g_i_cp, if_neg (fun z => h1 z.1)]
  · rw [g_i_cp, if_neg (fun z => hn z.1)]
/-- the key of a placed value -/
def I_zk (z : Int × b_E) : I_K := (z.2.1, z.2.2.2)
noncomputable def I_zc (w : Int) (a b : Int × b_E) : Int := I_kc w (I_zk a) (I_zk b)
def I_zs (B : Int → Int) (n : Int) (z : Int × b_E) : Prop := b_st B n z.1 16 z.2.1 z.2.2.1 z.2.2.2 ∧ z.2.2.2.length ≤ 199000
section ADDKEY
variable {d x b ky : Nat} {n w : Int} {M : g_M}
theorem c_addKey {Q : Int → g_M → Prop} {K : List (Int × b_E)} {z : Int × b_E} {tl : Int} (hx : g_O M x 3) (h1 : g_r M x 1 = some b) (hA : g_A M b 0 n) (hn : n ≤ 1000000000) (hky : g_A M ky 1 700) (hw : I_w w) (ht : tl = 0 ∨ tl = 1) (h13 : g_i M x 13 = tl) (hK : b_at (g_i M ky) 0 (K.map Prod.fst)) (hKs : ∀ y ∈ K, I_zs (g_i M b) n y) (hz : I_zs (g_i M b) n z) (hl : K.length ≤ 699) (hq : ∀ M1, I_F x ky M M1 → g_i M1 x 13 = (if 64 < z.2.2.2.length then 1 else tl) → b_at (g_i M1 ky) 0 (((I_add (I_zc w) z K.reverse).reverse).map Prod.fst) → Q (I_add (I_zc w) z K.reverse).length M1) : g_Call (d + 41) 71 [.ref x, .ref ky, g_n K.length, g_n z.1, g_n w] M (g_qI Q) := by
  have hwR : g_InR w := by rcases hw with g | g <;> rw [g] <;> exact ⟨by decide, by decide⟩
  have hnR := hA.len
  have hzR := hz.1.R hn
  have hxk : x ≠ ky := g_neOA hx hky
  have hbx : b ≠ x := fun g => g_neOA hx hA g.symm
  have hbk : b ≠ ky := fun g => by
    subst g
    exact absurd (hA.fn hky).1 (by decide)
  have hz0 := hz.1.2.2.2.1
  have hz1 := hz.1.2.2.2.2
  -- from the place on
  have h104 : ∀ (M1 : g_M) (A B : List (Int × b_E)) {Q : Int → g_M → Prop}, I_F x ky M M1 → A.length + B.length = K.length → b_at (g_i M1 ky) 0 ((A ++ B).map Prod.fst) → (∀ M2, I_F x ky M1 M2 → g_i M2 x = g_i M1 x → b_at (g_i M2 ky) 0 ((A ++ z :: B).map Prod.fst) → Q ((A ++ z :: B).length : Int) M2) → g_Run (d + 40) 71 104 [(0, .ref x), (1, .ref ky), (2, g_n K.length), (3, g_n z.1), (4, g_n w), (5, g_n A.length)] [] M1 (g_qI Q) := by
    intro M1 A B Q f1 hAB hat hq2
    refine s_X3_addKey_104 ⟨by omega, by omega⟩ hzR hwR ⟨by omega, by omega⟩ fun _ => ⟨700, f1.A hky, ⟨by decide, by decide⟩, fun _ => ⟨⟨by omega, by omega⟩, ⟨by omega, by omega⟩, ⟨by omega, by omega, by omega, by omega, by omega⟩, fun M7 e7 _ => ⟨⟨by omega, by omega⟩, fun M12 e12 _ => ⟨⟨by omega, by omega⟩, ?_⟩⟩⟩, fun g => absurd (by omega) g⟩
    have f2 : I_F x ky M1 M12 := by
      rw [e12, e7]
      exact (I_F.cp _ _ _ hxk).tr (I_F.wk _ _ hxk)
    have h9 := hq2 M12 f2 (by
      funext j
      rw [e12, e7, g_i_wi, if_neg (fun g => hxk g.1), g_i_cp, if_neg (fun g => hxk g.1)]) (by
      rw [List.map_append] at hat
      rw [List.map_append, List.map_cons]
      refine b_at_cut hat (fun i i1 i2 => ?_) ?_ fun i i1 i2 => ?_
      · rw [List.length_map] at i2
        rw [e12, g_i_wi, if_neg (fun g => by have := g.2; omega), e7, g_i_cp, if_neg (fun g => by have := g.2; omega)]
      · rw [List.length_map, e12, g_i_wi, if_pos ⟨rfl, by omega⟩]
      · rw [List.length_map] at i2
        rw [List.length_map, e12, g_i_wi, if_neg (fun g => by have := g.2; omega), e7, g_i_cp, if_pos ⟨rfl, by omega, by omega⟩]
        congr 1
        omega)
    rw [List.length_append, List.length_cons] at h9
    rwa [show ((A.length + (B.length + 1) : Nat) : Int) = (K.length : Int) + 1 by omega] at h9
  have h54 : ∀ (R B : List (Int × b_E)) (M1 : g_M), K = R.reverse ++ B → I_F x ky M M1 → (∀ M2, I_F x ky M1 M2 → g_i M2 x = g_i M1 x → b_at (g_i M2 ky) 0 (((I_add (I_zc w) z R).reverse ++ B).map Prod.fst) → Q (((I_add (I_zc w) z R).reverse ++ B).length : Int) M2) → b_at (g_i M1 ky) 0 (K.map Prod.fst) → g_Run (d + 40) 71 54 [(0, .ref x), (1, .ref ky), (2, g_n K.length), (3, g_n z.1), (4, g_n w), (5, g_n R.length)] [] M1 (g_qI Q) := by
    intro R
    induction R with
    | nil =>
      intro B M1 hKe f1 hq2 hat
      have hlen := congrArg List.length hKe
      rw [List.reverse_nil, List.nil_append] at hlen
      refine s_X3_addKey_54 ⟨by omega, by omega⟩ hzR hwR ⟨by decide, by decide⟩ fun _ => ⟨fun g => absurd g (by decide), fun _ => ?_⟩
      exact h104 M1 [] B f1 (by rw [List.length_nil]; omega) (by rw [List.nil_append]; rw [hKe] at hat; exact hat) fun M2 f2 hi h => hq2 M2 f2 hi h
    | cons y R ih =>
      intro B M1 hKe f1 hq2 hat
      have hlen := congrArg List.length hKe
      rw [List.length_append, List.length_reverse, List.length_cons] at hlen
      have hyK : y ∈ K := by rw [hKe]; simp
      have hys := hKs y hyK
      have hb1 : g_i M1 b = g_i M b := f1.2.2.1 b hbx hbk
      have hA1 := f1.A hA
      have hyat : g_i M1 ky (((R.length + 1 : Nat) : Int) - 1) = y.1 := by
        have := hat R.length y.1 (by
          rw [hKe, List.reverse_cons, List.append_assoc, List.map_append, List.getElem?_append_right (by rw [List.length_map, List.length_reverse]; omega), List.length_map, List.length_reverse, Nat.sub_self]
          rfl)
        rw [← this]
        congr 1
        omega
      have e0 : v_cmp (60 + 1) y.2.1 y.2.2.2 z.2.1 z.2.2.2 * w = I_zc w y z := Int.mul_comm _ _
      have hr := (I_kc_T hw).r (I_zk y) (I_zk z)
      have hr : I_zc w y z = -1 ∨ I_zc w y z = 0 ∨ I_zc w y z = 1 := hr
      rw [List.length_cons]
      refine s_X3_addKey_54 ⟨by omega, by omega⟩ hzR hwR ⟨by omega, by omega⟩ fun _ => ⟨fun _ => ⟨f1.O hx, b, by rw [f1.2.1]; exact h1, ⟨by omega, by omega⟩, 700, f1.A hky, ⟨by omega, by omega⟩, b, by rw [f1.2.1]; exact h1, ?_⟩, fun g => absurd (by omega) g⟩
      rw [hyat]
      refine c_compare 16 (F := 60) (d := d + 4) hA1 hA1 hn hn hys.2 (by rw [hb1]; exact hys.1) (by rw [hb1]; exact hz.1) (by decide) (by decide) (by decide) ?_
      intro _ _ _
      rw [e0]
      have hadd : I_add (I_zc w) z (y :: R) = if I_zc w y z = 0 then y :: R else if I_zc w y z < 0 then z :: y :: R else y :: I_add (I_zc w) z R := rfl
      rw [hadd] at hq2
      refine ⟨⟨by omega, by omega⟩, fun g => ?_, fun g => ⟨fun g2 => ?_, fun g2 => ⟨⟨by omega, by omega⟩, ?_⟩⟩⟩
      · rw [if_pos g, ← hKe] at hq2
        exact hq2 M1 (I_F.rf _ _ _) rfl hat
      · rw [if_neg g, if_pos g2] at hq2
        have h9 := h104 (Q := Q) M1 (y :: R).reverse B f1 (by rw [List.length_reverse, List.length_cons]; omega) (by rw [← hKe]; exact hat) fun M2 f2 hi h => by
          have e9 : (z :: y :: R).reverse ++ B = (y :: R).reverse ++ z :: B := by simp
          have h8 := hq2 M2 f2 hi (by rw [e9]; exact h)
          rw [e9] at h8
          exact h8
        rw [List.length_reverse, List.length_cons] at h9
        exact h9
      · rw [if_neg g, if_neg g2] at hq2
        have e9 : (y :: I_add (I_zc w) z R).reverse ++ B = (I_add (I_zc w) z R).reverse ++ y :: B := by simp
        rw [e9] at hq2
        have h9 := ih (y :: B) M1 (by rw [hKe]; simp) f1 hq2 hat
        rwa [show ((R.length + 1 : Nat) : Int) + -1 = R.length by omega]
  have hgo : ∀ (M1 : g_M), I_F x ky M M1 → g_i M1 ky = g_i M ky → g_i M1 x 13 = (if 64 < z.2.2.2.length then 1 else tl) → g_Run (d + 40) 71 54 [(0, .ref x), (1, .ref ky), (2, g_n K.length), (3, g_n z.1), (4, g_n w), (5, g_n K.length)] [] M1 (g_qI Q) := by
    intro M1 f1 hk1 h13b
    have h9 := h54 K.reverse [] M1 (by simp) f1 (fun M2 f2 hi h => by
      rw [List.append_nil] at h ⊢
      rw [List.length_reverse]
      exact hq M2 (f1.tr f2) (by rw [hi]; exact h13b) h) (by rw [hk1]; exact hK)
    rwa [List.length_reverse] at h9
  have h36 : (64 < z.2.2.2.length ∨ tl = 1) → g_Run (d + 40) 71 36 [(0, .ref x), (1, .ref ky), (2, g_n K.length), (3, g_n z.1), (4, g_n w)] [.ref x] M (g_qI Q) := by
    intro hor
    refine s_X3_addKey_36 ⟨by omega, by omega⟩ hzR hwR fun _ => ⟨hx, fun M2 e2 _ => ⟨700, by rw [e2]; exact hky, ⟨by decide, by decide⟩, ⟨by decide, by decide⟩, ?_⟩⟩
    have hmin : min (K.length : Int) (700 - 1) = K.length := by omega
    rw [hmin]
    subst e2
    refine hgo _ (I_F.wx 1 hxk) (funext fun j => by rw [g_i_wi, if_neg (fun g => hxk g.1.symm)]) ?_
    rw [g_i_wi, if_pos ⟨rfl, rfl⟩]
    rcases hor with g | g
    · rw [if_pos g]
    · rw [g, ite_self]
  refine m_X3_addKey ⟨by omega, by omega⟩ hzR hwR fun _ => ⟨hx, fun g => ?_, fun g => h36 (Or.inr (by omega))⟩
  have hz2 := b_el_len z.2.1 z.2.2.1 z.2.2.2
  refine ⟨b, h1, c_nx2 (d := d + 39) hA hn hz.1 ?_⟩
  intro _ _ _
  refine ⟨b, h1, c_va (d := d + 39) hA ⟨by omega, by omega⟩ hz.1.nm ?_⟩
  intro _ _ _
  have e1 : z.1 + (b_el z.2.1 z.2.2.1 z.2.2.2).length - (z.1 + 1 + z.2.2.1.length + 1) = z.2.2.2.length := by omega
  rw [e1]
  refine ⟨⟨by omega, by omega⟩, fun g2 => h36 (Or.inl (by omega)), fun g2 => ⟨700, hky, ⟨by decide, by decide⟩, fun _ => ?_, fun g3 => absurd (by omega) g3⟩⟩
  intro M20 e20 _
  refine ⟨⟨by decide, by decide⟩, ⟨by decide, by decide⟩, ?_⟩
  have hmin : min (K.length : Int) (700 - 1) = K.length := by omega
  rw [hmin]
  subst e20
  refine hgo _ (I_F.wx 0 hxk) (funext fun j => by rw [g_i_wi, if_neg (fun g => hxk g.1.symm)]) ?_
  rw [g_i_wi, if_pos ⟨rfl, rfl⟩, if_neg (by omega)]
  omega
end ADDKEY
