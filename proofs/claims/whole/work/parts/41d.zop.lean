/-! BOTH, SIDE BY SIDE: each call -/
section ZOP
variable {k sl : Nat} {E : q_H}
theorem Z_one (x : Int32) : ∀ v ∈ [Value.int x], ∃ x, v = .int x := fun v hv => ⟨x, List.mem_singleton.mp hv⟩
theorem Z_ints (l : List Int32) : ∀ v ∈ l.map Value.int, ∃ x, v = .int x := fun v hv => by
  obtain ⟨x, -, e⟩ := List.mem_map.mp hv
  exact ⟨x, e.symm⟩
theorem W_ok_le {S : W_S} (h : ∀ w, w < 2 → S.2.2 w ≤ (k : Int)) : ∀ w, w < 2 → S.2.2 w ≤ (k : Int) + 1 := fun w hw => by
  have := h w hw
  omega
theorem two_feed (h : Z_I k E sl) (hk : k < 512) (a b c e f : Int32) : Z_two k E sl 193 425 ([a, b, c, e, f].map Value.int) := by
  obtain ⟨-, M, ι, κ, ρ, al, sz, cB, eB, S, q, an, F, tp, hE, hsl, hA, hB, hP, hZ, hR, hW, hgv⟩ := h
  have hR' := hR
  obtain ⟨A1, A2, A3⟩ := hA
  have ia := g_InR_toInt a
  have ib := g_InR_toInt b
  have ic := g_InR_toInt c
  have ie := g_InR_toInt e
  have jf := g_InR_toInt f
  have e0 : [a, b, c, e, f].map Value.int = [g_n a.toInt, g_n b.toInt, g_n c.toInt, g_n e.toInt, g_n f.toInt] := by
    rw [g_n_toInt, g_n_toInt, g_n_toInt, g_n_toInt, g_n_toInt]
    rfl
  have hints := Z_ints [a, b, c, e, f]
  rw [e0] at hints ⊢
  by_cases g : 2000 < tp + 20
  · refine Z_comb (rr := -1) (S1 := S) (an1 := an) (F1 := F) (tp1 := tp) hk hE hsl ⟨A1, A2, A3⟩ hB hP hZ hR hints (fun {Q} hq => ?_) (fun {Q M'} hB' _ hq => ?_) hW (W_ok_le hgv)
    · have h9 := c_feed (d := 248) (Q := Q) ia ib ic ie jf A1 A3 A2 (fun _ => hq al sz cB eB M ⟨A1, A2, A3⟩ (by omega) (by omega)) fun z => absurd g (by omega)
      rw [hP.1] at h9
      exact h9
    · obtain ⟨B1, B2, B3⟩ := hB'
      exact e_feed (d := 249) ia ib ic ie jf B1 B3 B2 (fun _ => hq q M' rfl (fun _ _ => rfl) ⟨B1, B2, B3⟩) fun z => absurd g (by omega)
  · refine Z_comb (rr := tp + 20) (S1 := S) (an1 := an) (F1 := X_fd (X_fd (X_fd (X_fd (X_fd F tp a.toInt) (tp + 4) b.toInt) (tp + 8) c.toInt) (tp + 12) e.toInt) (tp + 16) f.toInt) (tp1 := tp + 20) hk hE hsl ⟨A1, A2, A3⟩ hB hP hZ hR hints (fun {Q} hq => ?_) (fun {Q M'} hB' _ hq => ?_) hW (W_ok_le hgv)
    · have h9 := c_feed (d := 248) (Q := Q) ia ib ic ie jf A1 A3 A2 (fun z => absurd z g) fun _ M1 C1 T1 N1 => hq al sz cB eB M1 ⟨C1, N1, T1⟩ (by omega) (by omega)
      rw [hP.1] at h9
      exact h9
    · obtain ⟨B1, B2, B3⟩ := hB'
      exact e_feed (d := 249) ia ib ic ie jf B1 B3 B2 (fun z => absurd z g) fun _ M1 k1 k2 W1 T1 N1 => hq q M1 k1 k2 ⟨W1, N1, T1⟩
/-- what explain wants of the class's indexes -/
theorem C_H.bq {ι : Nat → Nat} {κ : Nat → Nat → Nat} {al sz : Nat → Nat × Nat} {cB eB : Int} {st : Nat → I_T} {D : Nat → List (Int × List b_E)} {gv : Nat → Int} {M : g_M} (H : C_H ι κ al sz cB eB st D gv M) : ∀ (B : Int → Int) (h s : b_E) (r : List b_E), b_sts B 2008 8 15 (h :: s :: r) → Q_rq 8 (h :: s :: r) = -1 → Q_op h.2.1 = 9 → ((K_F 20).1 (L_ch 8 h) 0).1 = 0 → ∀ x, x < 8 → ∀ V T m1 m2, st x = some (V, T, m1, m2) → C_bq B (p_jn V.2.2.1) (L_ch 8 h) ∧ ∀ s2, V.2.2.2 = some s2 → C_bq B (p_jn s2) (L_ch 8 h) := fun B h s r hs hrq o9 hK x hx V T m1 m2 e => by
  obtain ⟨r1, r2, r3, r4⟩ := Q_rq_hs (by decide) hrq
  have k3 := Q_hd_3 (by decide) r2 (by omega)
  obtain ⟨t1, -⟩ := hs.cons
  have t5 := t1.2.2.2.2
  have hel := b_el_len h.1 h.2.1 h.2.2
  have hst : b_st B 246408 8 15 h.1 h.2.1 h.2.2 := ⟨t1.1, t1.2.1, t1.2.2.1, t1.2.2.2.1, by omega⟩
  have h9 := (H.2.2.2.2.2.1 x hx).2
  rw [e] at h9
  obtain ⟨-, ⟨⟨n1, p1⟩, q2, -, -, q5, -, -⟩, -, -, -, -, ⟨⟨⟨n2, p2⟩, -⟩, -⟩, p3⟩ := h9
  have hlen : ∀ {o f t a : Nat} {n n' : Int} {u v : List (List Int)}, p_W M o f t a n 0 u → p_W M o f t a n' 0 v → u.length = v.length := fun h h' => by
    have e1 := h.2.2.2.2.1
    have e2 := h'.2.2.2.2.1
    omega
  refine ⟨C_bq_of _ (by rw [hlen p2 p1]; exact q2) hst k3 (by omega) hK, fun s2 hs2 => ?_⟩
  obtain ⟨⟨n3, p4⟩, q6⟩ := q5 s2 hs2
  obtain ⟨⟨⟨n4, p5⟩, -⟩, -⟩ := p3 s2 hs2
  exact C_bq_of _ (by rw [hlen p5 p4]; exact q6) hst k3 (by omega) hK
theorem two_ask (h : Z_I k E sl) (hk : k < 512) (a : Int32) : Z_two k E sl 195 426 ([a].map Value.int) := by
  obtain ⟨-, M, ι, κ, ρ, al, sz, cB, eB, S, q, an, F, tp, hE, hsl, hA, hB, hP, hZ, hR, hW, hgv⟩ := h
  obtain ⟨A1, A2, A3⟩ := hA
  have ia := g_InR_toInt a
  have e0 : [a].map Value.int = [g_n a.toInt] := by
    rw [g_n_toInt]
    rfl
  have hints := Z_ints [a]
  rw [e0] at hints ⊢
  have hgv6 : ∀ w, w < 2 → S.2.2 w ≤ 1000000 := fun w hw => by
    have := hgv w hw
    omega
  obtain ⟨t1, t2, t3, t4⟩ := A3
  have hb2 : ∀ q, -128 ≤ g_i M (ι 2) q ∧ g_i M (ι 2) q ≤ 127 := fun q => hE.2.1.byte (n := 246408) (A1.1.A (by decide)) q
  have hb0 : ∀ q, -128 ≤ g_i M (ρ 0) q ∧ g_i M (ρ 0) q ≤ 127 := fun q => hE.2.1.byte hB.1.1.1.R.2.2 q
  by_cases g : a.toInt < 0 ∨ tp < a.toInt
  · refine Z_comb (rr := -1) (S1 := S) (an1 := an) (F1 := F) (tp1 := tp) hk hE hsl ⟨A1, A2, t1, t2, t3, t4⟩ hB hP hZ hR hints (fun {Q} hq => ?_) (fun {Q M'} hB' _ hq => ?_) hW (W_ok_le hgv)
    · have h9 := c_askH (d := 17) (Q := Q) (n := a.toInt) (tp := tp) (F := fun q => g_i M (ι 2) (4 + q)) ia A1 hW hgv6 t1 t3 (fun q => hb2 _) (fun q _ _ => rfl) (fun _ => hq al sz cB eB M ⟨A1, A2, t1, t2, t3, t4⟩ (by omega) (by omega)) A1.bq fun z0 z1 => absurd g (by omega)
      rw [hP.1] at h9
      exact h9
    · obtain ⟨B1, B2, B3⟩ := hB'
      exact e_ask (d := 16) (F := F) (G := fun q => if 0 ≤ q ∧ q < a.toInt then F q else g_i M' (ρ 0) q) ia B1 B3 (fun q q0 q1 => if_pos ⟨q0, q1⟩) (fun q hq => if_neg (by omega)) hW hgv6 (fun _ => hq q M' rfl (fun _ _ => rfl) ⟨B1, B2, B3⟩) fun z0 z1 => absurd g (by omega)
  · obtain ⟨G, hG⟩ : ∃ G : Int → Int, G = fun q => if 0 ≤ q ∧ q < a.toInt then F q else g_i M (ρ 0) q := ⟨_, rfl⟩
    have g1 : ∀ q, 0 ≤ q → q < a.toInt → G q = F q := fun q q0 q1 => by
      rw [hG]
      exact if_pos ⟨q0, q1⟩
    have g2 : ∀ q, (q < 0 ∨ a.toInt ≤ q) → G q = g_i M (ρ 0) q := fun q hq => by
      rw [hG]
      exact if_neg (by omega)
    have hGb : ∀ q, -128 ≤ G q ∧ G q ≤ 127 := fun q => by
      by_cases k : 0 ≤ q ∧ q < a.toInt
      · rw [g1 q k.1 k.2, ← t4 q k.1 (by omega)]
        exact hb2 _
      · rw [g2 q (by omega)]
        exact hb0 q
    obtain ⟨hW1, hgv1⟩ := W_ok_ask (F := G) (n := a.toInt) (S := S) hGb (by omega) (by omega) hW hgv6
    refine Z_comb (rr := (W_ask G a.toInt S).1.length) (S1 := (W_ask G a.toInt S).2) (an1 := (W_ask G a.toInt S).1) (F1 := F) (tp1 := 0) hk hE hsl ⟨A1, A2, t1, t2, t3, t4⟩ hB hP hZ hR hints (fun {Q} hq => ?_) (fun {Q M'} hB' hρ hq => ?_) hW1 fun w hw => by
      have h8 := hgv1 w
      have h7 := hgv w hw
      omega
    · have h9 := c_askH (d := 17) (Q := Q) (n := a.toInt) (tp := tp) (F := G) ia A1 hW hgv6 t1 t3 hGb (fun q q0 q1 => by rw [g1 q q0 q1]; exact t4 q q0 (by omega)) (fun z => absurd z g) A1.bq fun z0 z1 al1 sz1 cB1 eB1 M1 hb C1 W1 L1 T1 => hq al1 sz1 cB1 eB1 M1 ⟨C1, C_an.of W1 L1, T1, by omega, by omega, fun q q0 q1 => absurd q1 (by omega)⟩ (by omega) (by omega)
      rw [hP.1] at h9
      exact h9
    · obtain ⟨B1, B2, B3⟩ := hB'
      exact e_ask (d := 16) (F := F) (G := G) ia B1 B3 g1 (fun q hq => by rw [g2 q hq, hρ]) hW hgv6 (fun z => absurd z g) fun z0 z1 q1 M1 k1 k2 W1 N1 T1 => hq q1 M1 k1 k2 ⟨W1, N1, T1, by omega, by omega, fun q q0 q1 => absurd q1 (by omega)⟩
/-- what is only told -/
theorem Z_tell {y1 y2 : Nat} {as : List Value} {ι : Nat → Nat} {κ : Nat → Nat → Nat} {ρ : Nat → Nat} {al sz : Nat → Nat × Nat} {cB eB : Int} {S : W_S} {q : Nat → List (Nat × Int × List b_E)} {an : List Int} {F : Int → Int} {tp rr : Int} {M : g_M} (hk : k < 512) (hE : g_Rel E M) (hsl : g_sl M = sl) (hA : Z_A ι κ al sz cB eB S an F tp M) (hB : Z_B ρ S q an F tp M) (hP : Z_P ι κ ρ) (hZ : Z_E E) (hR : cB + tp ≤ 3234076 + 20 * k ∧ eB ≤ 8 + 2 * k) (hW : W_ok S) (hgv : ∀ w, w < 2 → S.2.2 w ≤ (k : Int)) (has : ∀ v ∈ as, ∃ x, v = .int x) (h1 : ∀ {Q : Int → g_M → Prop}, Q rr M → g_Call 250 y1 (.ref (ι 0) :: as) M (g_qI Q)) (h2 : ∀ {Q : Int → g_M → Prop} {M' : g_M}, Z_B ρ S q an F tp M' → Q rr M' → g_Call 250 y2 (.ref 448 :: as) M' (g_qI Q)) : Z_two k E sl y1 y2 as := by
  refine Z_comb (rr := rr) (S1 := S) (an1 := an) (F1 := F) (tp1 := tp) hk hE hsl hA hB hP hZ hR has (fun {Q} hq => ?_) (fun {Q M'} hB' _ hq => h2 hB' (hq q M' rfl (fun _ _ => rfl) hB')) hW (W_ok_le hgv)
  have h9 := h1 (Q := Q) (hq al sz cB eB M hA (by omega) (by omega))
  rw [hP.1] at h9
  exact h9
theorem two_answer (h : Z_I k E sl) (hk : k < 512) (a : Int32) : Z_two k E sl 199 427 ([a].map Value.int) := by
  obtain ⟨-, M, ι, κ, ρ, al, sz, cB, eB, S, q, an, F, tp, hE, hsl, hA, hB, hP, hZ, hR, hW, hgv⟩ := h
  have ia := g_InR_toInt a
  have e0 : [a].map Value.int = [g_n a.toInt] := by
    rw [g_n_toInt]
    rfl
  have hints := Z_ints [a]
  rw [e0] at hints ⊢
  exact Z_tell (rr := X_byte an a.toInt) hk hE hsl hA hB hP hZ hR hW hgv hints (fun {Q} hq => c_answer (d := 249) ia hA.1 hA.2.1 hq) fun {Q M'} hB' hq => e_answer (d := 248) ia hB'.1 hB'.2.1 hq
theorem two_state (h : Z_I k E sl) (hk : k < 512) (a : Int32) : Z_two k E sl 200 428 ([a].map Value.int) := by
  obtain ⟨-, M, ι, κ, ρ, al, sz, cB, eB, S, q, an, F, tp, hE, hsl, hA, hB, hP, hZ, hR, hW, hgv⟩ := h
  have ia := g_InR_toInt a
  have e0 : [a].map Value.int = [g_n a.toInt] := by
    rw [g_n_toInt]
    rfl
  have hints := Z_ints [a]
  rw [e0] at hints ⊢
  exact Z_tell (rr := X_st S.1 S.2.1 an.length tp a.toInt) hk hE hsl hA hB hP hZ hR hW hgv hints (fun {Q} hq => c_state (d := 248) ia hA.1 hA.2.1 hA.2.2.1 hq) fun {Q M'} hB' hq => e_state (d := 249) ia hB'.1 hB'.2.1 hB'.2.2.1 hq
theorem two_number (h : Z_I k E sl) (hk : k < 512) (a b : Int32) : Z_two k E sl 201 430 ([a, b].map Value.int) := by
  obtain ⟨-, M, ι, κ, ρ, al, sz, cB, eB, S, q, an, F, tp, hE, hsl, hA, hB, hP, hZ, hR, hW, hgv⟩ := h
  have ia := g_InR_toInt a
  have ib := g_InR_toInt b
  have e0 : [a, b].map Value.int = [g_n a.toInt, g_n b.toInt] := by
    rw [g_n_toInt, g_n_toInt]
    rfl
  have hints := Z_ints [a, b]
  rw [e0] at hints ⊢
  exact Z_tell (rr := match X_dn S.2.1 a.toInt b.toInt with
    | none => 0
    | some z => z.1) hk hE hsl hA hB hP hZ hR hW hgv hints (fun {Q} hq => c_number (d := 248) ia ib hA.1 hq) fun {Q M'} hB' hq => e_number (d := 248) ia ib hB'.1 hq
theorem two_size (h : Z_I k E sl) (hk : k < 512) (a b : Int32) : Z_two k E sl 202 431 ([a, b].map Value.int) := by
  obtain ⟨-, M, ι, κ, ρ, al, sz, cB, eB, S, q, an, F, tp, hE, hsl, hA, hB, hP, hZ, hR, hW, hgv⟩ := h
  have ia := g_InR_toInt a
  have ib := g_InR_toInt b
  have e0 : [a, b].map Value.int = [g_n a.toInt, g_n b.toInt] := by
    rw [g_n_toInt, g_n_toInt]
    rfl
  have hints := Z_ints [a, b]
  rw [e0] at hints ⊢
  exact Z_tell (rr := match X_dn S.2.1 a.toInt b.toInt with
    | none => -1
    | some z => ((b_doc z.2).length : Int)) hk hE hsl hA hB hP hZ hR hW hgv hints (fun {Q} hq => c_size (d := 248) ia ib hA.1 hq) fun {Q M'} hB' hq => e_size (d := 247) ia ib hB'.1 hq
theorem two_byteAt (h : Z_I k E sl) (hk : k < 512) (a b c : Int32) : Z_two k E sl 203 432 ([a, b, c].map Value.int) := by
  obtain ⟨-, M, ι, κ, ρ, al, sz, cB, eB, S, q, an, F, tp, hE, hsl, hA, hB, hP, hZ, hR, hW, hgv⟩ := h
  have ia := g_InR_toInt a
  have ib := g_InR_toInt b
  have ic := g_InR_toInt c
  have e0 : [a, b, c].map Value.int = [g_n a.toInt, g_n b.toInt, g_n c.toInt] := by
    rw [g_n_toInt, g_n_toInt, g_n_toInt]
    rfl
  have hints := Z_ints [a, b, c]
  rw [e0] at hints ⊢
  exact Z_tell (rr := match X_dn S.2.1 a.toInt b.toInt with
    | none => -1
    | some z => X_byte (b_doc z.2) c.toInt) hk hE hsl hA hB hP hZ hR hW hgv hints (fun {Q} hq => c_byteAt (d := 248) ia ib ic hA.1 hq) fun {Q M'} hB' hq => e_byteAt (d := 247) ia ib ic hB'.1 hq
end ZOP
