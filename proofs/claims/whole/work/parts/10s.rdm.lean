/-! reading a request: the reference -/
theorem u_add4 {X : Int64} (h0 : 0 ≤ X.toInt) (h1 : X.toInt < 5000000000) : (4 + X).toInt = 4 + X.toInt := by
  rw [Int64.toInt_add, show (4 : Int64).toInt = 4 from rfl]
  simp [Int.bmod]
  omega
theorem u_lt4 {r k : Int} (h : g_InR r) (h0 : 0 ≤ k) (h1 : k < 1000000000) : g_lc (Int64.ofInt k) (4 + ((Int64.ofInt r) &&& 4294967295)) < 0 ↔ r < 0 ∨ k - 4 < r := by
  have h2 := u_U h
  obtain ⟨g1, g2⟩ := id h
  rw [u_lt, u_i64 ⟨by omega, by omega⟩, u_add4 (by rw [h2]; split <;> omega) (by rw [h2]; split <;> omega), h2]
  split <;> omega
def e_post (Q : Int → g_M → Prop) (M : g_M) (m : Nat) (R : Int × Int × Int) : Prop := (R.1 = 0 → Q 1 M) ∧ (¬ R.1 = 0 → Q 0 (e_f M m R.1 R.2.1))
theorem e_post.bad {Q : Int → g_M → Prop} {M : g_M} {m : Nat} {w p e : Int} (h : e_post Q M m (w, p, e)) (hw : w ≠ 0) : Q 0 (e_f M m w p) := h.2 hw
section READM
variable {d : Nat} {M : g_M} {m b : Nat} {n0 : Int}
theorem e_rdval {Q : Int → g_M → Prop} {rd : Int → Int → Bool → Int × Int × Int} {k v last depth : Int} (hR : e_R M m b) (hB : ∀ q, -128 ≤ g_i M b q ∧ g_i M b q ≤ 127) (h0 : 0 ≤ v) (hl : v ≤ last) (h1 : last < 90000) (hk : r_kind k) (hdp : 0 ≤ depth) (hdp1 : depth < 100)
    (hrd : ∀ (row : Bool) (Q1 : Int → g_M → Prop), e_post Q1 M m (rd v last row) → g_Call (d + 5) 261 [.ref m, g_n v, g_n last, g_n (bif row then 1 else 0), g_n (depth + 1)] M (g_qI Q1))
    (h : e_post Q M m (r_val (g_i M b) rd last k v)) : g_Call (d + 6) 266 [.ref m, g_n k, g_n v, g_n last, g_n depth] M (g_qI Q) := by
  unfold r_val at h
  unfold r_kind at hk
  have hrow : k = 3 ∨ k = 4 → g_Run (d + 5) 266 15 [(0, .ref m), (1, g_n k), (2, g_n v), (3, g_n last), (4, g_n depth), (5, g_n (last - v))] [] M (g_qI Q) := by
    intro k34
    rw [if_neg (by omega), if_neg (by omega), if_neg (by omega), if_neg (by omega), if_neg (by omega)] at h
    refine s_X12_readValue_15 ⟨by omega, by omega⟩ ⟨by omega, by omega⟩ ⟨by omega, by omega⟩ ⟨by omega, by omega⟩ ⟨by omega, by omega⟩ fun _ => ⟨fun k4 => ⟨⟨by omega, by omega⟩, hR.1, ?_⟩, fun k4 => ⟨⟨by omega, by omega⟩, hR.1, ?_⟩⟩
    · subst k4
      exact hrd true _ ⟨fun g _ _ _ => ⟨Or.inr rfl, h.1 g⟩, fun g _ _ _ => ⟨Or.inl rfl, h.2 g⟩⟩
    · have : k = 3 := by omega
      subst this
      exact hrd false _ ⟨fun g _ _ _ => ⟨Or.inr rfl, h.1 g⟩, fun g _ _ _ => ⟨Or.inl rfl, h.2 g⟩⟩
  refine m_X12_readValue ⟨by omega, by omega⟩ ⟨by omega, by omega⟩ ⟨by omega, by omega⟩ ⟨by omega, by omega⟩ fun hok => ⟨⟨by omega, by omega⟩, fun k3 => hrow (Or.inl k3), fun k3 => ⟨fun k4 => hrow (Or.inr k4), fun k4 => ⟨fun k2 => ?_, fun k2 => ⟨hR.1, ?_⟩⟩⟩⟩
  · subst k2
    rw [if_neg (by omega), if_neg (by omega), if_neg (by omega), if_neg (by omega), if_pos rfl] at h
    unfold r_txt at h
    refine ⟨fun g => ⟨hR.1, ?_⟩, fun g => ⟨hR.1, e_int4 hR h0 (by omega) fun _ _ hr => ?_⟩⟩
    · rw [if_pos g] at h
      exact e_fails hR ⟨by decide, by decide⟩ ⟨by omega, by omega⟩ fun _ _ _ => ⟨Or.inl rfl, h.bad (by decide)⟩
    rw [if_neg g] at h
    rw [u_ltU1 hr]
    refine ⟨fun g2 => ?_, fun g2 => ?_⟩
    · rw [if_pos g2] at h
      exact e_fails hR ⟨by decide, by decide⟩ ⟨by omega, by omega⟩ fun _ _ _ => ⟨Or.inl rfl, h.bad (by decide)⟩
    rw [if_neg g2] at h
    rw [u_lt4 hr (by omega) (by omega), u_U32 hr]
    refine ⟨fun g3 => ?_, fun g3 => ?_⟩
    · rw [if_pos (by omega)] at h
      exact e_fails hR ⟨by decide, by decide⟩ ⟨by omega, by omega⟩ fun _ _ _ => ⟨Or.inl rfl, h.bad (by decide)⟩
    rw [if_neg (by omega)] at h
    rw [show v + 4 + b_w4 (g_i M b) v - 1 = v + 3 + b_w4 (g_i M b) v by omega]
    refine ⟨⟨by omega, by omega⟩, ⟨by omega, by omega⟩, ⟨by omega, by omega⟩, b, hR.2.1, _, hR.2.2, ⟨by omega, by omega⟩, fun g4 => ⟨⟨by omega, by omega⟩, ?_⟩, fun g4 => ?_⟩
    · rw [if_pos g4] at h
      refine e_right hR (by omega) (by omega) (by omega) (fun g5 _ _ _ => ⟨Or.inr rfl, ?_⟩) (fun g5 _ _ _ => ⟨Or.inl rfl, ?_⟩)
      · rw [show v + 3 + b_w4 (g_i M b) v - (v + 4) = b_w4 (g_i M b) v - 1 by omega] at g5
        rw [if_pos g5] at h
        exact h.1 rfl
      · rw [show v + 3 + b_w4 (g_i M b) v - (v + 4) = b_w4 (g_i M b) v - 1 by omega] at g5 ⊢
        rw [if_neg g5] at h
        exact h.bad (by decide)
    · rw [if_neg g4] at h
      exact e_fails hR ⟨by decide, by decide⟩ ⟨by omega, by omega⟩ fun _ _ _ => ⟨Or.inl rfl, h.bad (by decide)⟩
  · have hbad : ∀ w, w = 1 ∨ w = 5 → Q 0 (e_f M m w v) → g_Call (d + 5) 257 [.ref m, g_n w, g_n v] M (g_qI fun r62 M59 => g_ext M M59 → g_ok M59 → g_InR r62 → (r62 = 0 ∨ r62 = 1) ∧ Q r62 M59) := fun w hw hq => e_fails hR ⟨by omega, by omega⟩ ⟨by omega, by omega⟩ fun _ _ _ => ⟨Or.inl rfl, hq⟩
    refine m_X12_lengthOf ⟨by omega, by omega⟩ ⟨by omega, by omega⟩ fun _ => ⟨fun k16 _ _ _ => ?_, fun k16 => ⟨fun k18 _ _ _ => ?_, fun k18 => ⟨fun k8 _ _ _ => ?_, fun k8 => ⟨fun k10 _ _ _ => ?_, fun k10 => absurd hk (by omega)⟩⟩⟩⟩
    · rw [if_pos k16] at h
      refine ⟨fun g => ?_, fun g => ⟨fun e => absurd e (by omega), fun _ => ?_⟩⟩
      · rw [if_pos g] at h
        exact hbad 1 (Or.inl rfl) (h.bad (by decide))
      · rw [if_neg g] at h
        exact h.1 rfl
    · rw [if_neg k16, if_pos k18] at h
      refine ⟨fun g => ?_, fun g => ⟨fun e => absurd e (by omega), fun _ => ?_⟩⟩
      · rw [if_pos g] at h
        exact hbad 1 (Or.inl rfl) (h.bad (by decide))
      · rw [if_neg g] at h
        exact h.1 rfl
    · rw [if_neg k16, if_neg k18, if_neg (by omega), if_pos k8] at h
      refine ⟨fun g => ?_, fun g => ⟨fun _ => e_at hR h0 (by omega) fun _ _ _ => ?_, fun e => absurd k8 e⟩⟩
      · rw [if_pos g] at h
        exact hbad 1 (Or.inl rfl) (h.bad (by decide))
      · rw [if_neg g] at h
        have hb := hB v
        rw [g_and255 hb.1 hb.2]
        refine ⟨fun g2 => ?_, fun g2 => ?_⟩
        · rw [if_pos (by omega)] at h
          exact h.1 rfl
        · rw [if_neg (by omega)] at h
          exact e_fails hR ⟨by omega, by omega⟩ ⟨by omega, by omega⟩ fun _ _ _ => ⟨fun _ => h.bad (by decide), fun e => absurd rfl e⟩
    · rw [if_neg k16, if_neg k18, if_pos k10] at h
      exact ⟨fun g => absurd g (by omega), fun g => ⟨fun e => absurd e k8, fun _ => h.1 rfl⟩⟩
theorem e_kind {Q : Int → g_M → Prop} {k : Int} (hk : g_InR k) (h1 : r_kind k → Q 1 M) (h0 : ¬ r_kind k → Q 0 M) : g_Call (d + 1) 263 [g_n k] M (g_qI Q) := by
  unfold r_kind at h1 h0
  exact m_X12_isKind hk fun _ => ⟨fun e => h1 (by omega), fun _ => ⟨fun e => h1 (by omega), fun _ => ⟨fun e => h1 (by omega), fun _ => ⟨fun e => h1 (by omega), fun _ => ⟨fun e => h1 (by omega), fun _ => ⟨fun e => h1 (by omega), fun _ => ⟨fun e => h1 (by omega), fun _ => h0 (by omega)⟩⟩⟩⟩⟩⟩⟩
theorem e_rdels {Q : Int → g_M → Prop} {rv : Int → Int → Int × Int × Int} {D : Nat} {row : Bool} {c last depth w : Int} (hR : e_R M m b) (hB : ∀ q, -128 ≤ g_i M b q ∧ g_i M b q ≤ 127) (h0 : 0 ≤ c) (hw : b_w4 (g_i M b) c = w) (hlast : last = c + w - 1) (h5 : 5 ≤ w) (h1 : last < 3900) (hdp : g_InR depth)
    (hgood : ∀ k v, r_kind k → v ≤ last → c < v → r_good (g_i M b) D v last k (rv k v))
    (hrv : ∀ k v (Q1 : Int → g_M → Prop), r_kind k → c < v → v ≤ last → e_post Q1 M m (rv k v) → g_Call (d + 6) 266 [.ref m, g_n k, g_n v, g_n last, g_n depth] M (g_qI Q1))
    (h : e_post Q M m (r_els (g_i M b) rv row last w.toNat [] (c + 4))) : g_Call (d + 7) 262 [.ref m, g_n c, g_n (bif row then 1 else 0), g_n depth] M (g_qI Q) := by
  have hrR : g_InR (bif row then 1 else 0) := by
    cases row <;> exact ⟨by decide, by decide⟩
  have hendl : ∀ (e i : Int), g_InR e → g_InR i → ¬ e < last → e_post Q M m (r_end (g_i M b) last) → g_Run (d + 6) 262 16 [(0, .ref m), (1, g_n c), (2, g_n (bif row then 1 else 0)), (3, g_n depth), (4, g_n last), (5, g_n e), (6, g_n i)] [] M (g_qI Q) := by
    intro e i he hi hel hq
    unfold r_end at hq
    refine s_X12_readElements_16 ⟨by omega, by omega⟩ hrR hdp ⟨by omega, by omega⟩ he hi fun _ => ⟨fun g => absurd g hel, fun _ => ⟨hR.1, b, hR.2.1, _, hR.2.2, ⟨by omega, by omega⟩, fun g => ?_, fun g => ?_⟩⟩
    · rw [if_pos g] at hq
      exact hq.1 rfl
    · rw [if_neg g] at hq
      exact e_fails hR ⟨by decide, by decide⟩ ⟨by omega, by omega⟩ fun _ _ _ => ⟨fun _ => hq.bad (by decide), fun e => absurd rfl e⟩
  have hloop : ∀ (f : Nat) (es : List b_E) (p : Int), b_at (g_i M b) (c + 4) (b_ser es) → p = c + 4 + (b_ser es).length → p ≤ last → last - p ≤ f → (∀ e ∈ es, b_nz e.2.1 ∧ b_gv D e.1 e.2.2) → e_post Q M m (r_els (g_i M b) rv row last f es p) → g_Run (d + 6) 262 16 [(0, .ref m), (1, g_n c), (2, g_n (bif row then 1 else 0)), (3, g_n depth), (4, g_n last), (5, g_n p), (6, g_n es.length)] [] M (g_qI Q) := by
    intro f
    induction f with
    | zero =>
      intro es p e1 e2 e3 e4 e5 hq
      have hmany := b_ser_many es
      exact hendl p _ ⟨by omega, by omega⟩ ⟨by omega, by omega⟩ (by omega) hq
    | succ f ih2 =>
      intro es p e1 e2 e3 e4 e5 hq
      have hmany := b_ser_many es
      unfold r_els at hq
      by_cases g : p < last
      · rw [if_pos g] at hq
        obtain ⟨z1, z2, z3, z4⟩ := r_z_R (F := g_i M b) g
        have hpb := hB p
        have hbad : ∀ w2 q, w2 ≠ 0 → r_elm (g_i M b) rv row last es p = (w2, q, 0) → g_InR w2 → g_InR q → g_Call (d + 6) 257 [.ref m, g_n w2, g_n q] M (g_qI fun r37 M34 => g_ext M M34 → g_ok M34 → g_InR r37 → (r37 = 0 ∨ r37 = 1) ∧ Q r37 M34) := by
          intro w2 q hw2 he r1 r2
          rw [he] at hq
          rw [if_neg hw2] at hq
          exact e_fails hR r1 r2 fun _ _ _ => ⟨Or.inl rfl, hq.2 hw2⟩
        refine s_X12_readElements_16 ⟨by omega, by omega⟩ hrR hdp ⟨by omega, by omega⟩ ⟨by omega, by omega⟩ ⟨by omega, by omega⟩ fun _ => ⟨fun _ => ⟨hR.1, b, hR.2.1, _, hR.2.2, ⟨by omega, by omega⟩, fun k0 => ?_, fun k0 => ⟨b, hR.2.1, _, hR.2.2, ⟨by omega, by omega⟩, e_kind ⟨by omega, by omega⟩ (fun hk _ _ _ => ⟨fun e => absurd e (by decide), fun _ => ⟨⟨by omega, by omega⟩, ?_⟩⟩) (fun hk _ _ _ => ⟨fun _ => ?_, fun e => absurd rfl e⟩)⟩⟩, fun g2 => absurd g g2⟩
        · exact hbad 2 p (by decide) (by unfold r_elm; rw [if_pos k0]) ⟨by decide, by decide⟩ ⟨by omega, by omega⟩
        · have hel : r_elm (g_i M b) rv row last es p = (if r_z (g_i M b) last p < last then (if r_bad (g_i M b) last p = -1 then (if r_wrong (g_i M b) row last es p = true then (7, p + 1, 0) else rv (g_i M b p) (r_z (g_i M b) last p + 1)) else (4, r_bad (g_i M b) last p, 0)) else (1, p + 1, 0)) := by
            unfold r_elm
            rw [if_neg k0, if_pos hk]
          have hnl : (r_nm (g_i M b) last p).length = (r_z (g_i M b) last p - p - 1).toNat := b_sub_len _ _ _
          have hnat : b_at (g_i M b) (p + 1) (r_nm (g_i M b) last p) := b_sub_at _ _ _
          have h166 : r_z (g_i M b) last p < last → r_bad (g_i M b) last p = -1 → r_wrong (g_i M b) row last es p = false → g_Run (d + 6) 262 166 [(0, .ref m), (1, g_n c), (2, g_n (bif row then 1 else 0)), (3, g_n depth), (4, g_n last), (5, g_n p), (6, g_n es.length), (7, g_n (p + 1)), (8, g_n (r_z (g_i M b) last p))] [] M (g_qI Q) := by
            intro g3 g4 g5
            rw [if_pos g3, if_pos g4, if_neg (by rw [g5]; decide)] at hel
            refine s_X12_readElements_166 ⟨by omega, by omega⟩ hrR hdp ⟨by omega, by omega⟩ ⟨by omega, by omega⟩ ⟨by omega, by omega⟩ ⟨by omega, by omega⟩ ⟨by omega, by omega⟩ fun _ => ⟨hR.1, b, hR.2.1, _, hR.2.2, ⟨by omega, by omega⟩, ⟨by omega, by omega⟩, hrv _ _ _ hk (by omega) (by omega) ⟨fun z _ _ _ => ⟨fun e => absurd e (by decide), fun _ => ?_⟩, fun z _ _ _ => ⟨fun _ => ?_, fun e => absurd rfl e⟩⟩⟩
            · have z' : (r_elm (g_i M b) rv row last es p).1 = 0 := by
                rw [hel]
                exact z
              obtain ⟨w1, w2, w3, w4, w5, w6, w7, -⟩ := r_elm_good g (fun k v a1 a2 a3 => hgood k v a1 a2 (by omega)) z'
              have hlen := b_el_len (r_E (g_i M b) rv last p).1 (r_E (g_i M b) rv last p).2.1 (r_E (g_i M b) rv last p).2.2
              rw [if_pos z'] at hq
              have hs : b_ser (es ++ [r_E (g_i M b) rv last p]) = b_ser es ++ b_el (r_E (g_i M b) rv last p).1 (r_E (g_i M b) rv last p).2.1 (r_E (g_i M b) rv last p).2.2 := by
                rw [b_ser_app]
                show _ ++ (b_el _ _ _ ++ []) = _
                rw [List.append_nil]
              have hn1 : (r_E (g_i M b) rv last p).2.1.length = (r_z (g_i M b) last p - p - 1).toNat := hnl
              refine ⟨⟨by omega, by omega⟩, b, hR.2.1, _, hR.2.2, ⟨by omega, by omega⟩, ⟨by omega, by omega⟩, e_lengthOf hR (vb := (r_E (g_i M b) rv last p).2.2) (b_gv_vs w5) (b_sub_at _ _ _) (by omega) (by omega) fun _ _ _ => ⟨⟨by omega, by omega⟩, ⟨by omega, by omega⟩, ?_⟩⟩
              have h8 := ih2 (es ++ [r_E (g_i M b) rv last p]) _ (by rw [hs]; exact b_app.mpr ⟨e1, by rwa [← e2]⟩) (by rw [hs, List.length_append]; omega) w7 (by omega) (fun e he => by
                rcases List.mem_append.mp he with he | he
                · exact e5 e he
                · rw [List.mem_singleton.mp he]
                  exact ⟨w4, w5⟩) hq
              rw [List.length_append, List.length_singleton, show ((es.length + 1 : Nat) : Int) = (es.length : Int) + 1 by omega] at h8
              rwa [show r_z (g_i M b) last p + 1 + ((r_E (g_i M b) rv last p).2.2.length : Int) = (rv (g_i M b p) (r_z (g_i M b) last p + 1)).2.2 by omega]
            · rw [hel, if_neg z] at hq
              exact hq.2 z
          have h95 : g_Run (d + 6) 262 95 [(0, .ref m), (1, g_n c), (2, g_n (bif row then 1 else 0)), (3, g_n depth), (4, g_n last), (5, g_n p), (6, g_n es.length), (7, g_n (p + 1)), (8, g_n (r_z (g_i M b) last p))] [] M (g_qI Q) := by
            refine s_X12_readElements_95 ⟨by omega, by omega⟩ hrR hdp ⟨by omega, by omega⟩ ⟨by omega, by omega⟩ ⟨by omega, by omega⟩ ⟨by omega, by omega⟩ ⟨by omega, by omega⟩ fun _ => ⟨fun g3 => ⟨hR.1, e_right hR (by omega) (by omega) (by omega) (fun g4 _ _ _ => ⟨fun e => absurd e (by decide), fun _ => ?_⟩) (fun g4 _ _ _ => ⟨fun _ => ?_, fun e => absurd rfl e⟩)⟩, fun g3 => ⟨hR.1, ?_⟩⟩
            · have g4 : r_bad (g_i M b) last p = -1 := g4
              have hseven : r_wrong (g_i M b) row last es p = true → g_Call (d + 6) 257 [.ref m, g_n 7, g_n (p + 1)] M (g_qI fun r37 M34 => g_ext M M34 → g_ok M34 → g_InR r37 → (r37 = 0 ∨ r37 = 1) ∧ Q r37 M34) := fun g5 => hbad 7 _ (by decide) (by rw [hel, if_pos g3, if_pos g4, if_pos g5]) ⟨by decide, by decide⟩ ⟨by omega, by omega⟩
              refine ⟨fun hr0 => ?_, fun hr1 => ?_⟩
              · have hrow : row = false := by
                  cases row
                  · rfl
                  · exact absurd hr0 (by decide)
                have h8 := e_there (d := d + 1) (es := es) (x := r_nm (g_i M b) last p) (c := c) (p := p + 1) (Q := fun r10 M7 => g_ext M M7 → g_ok M7 → g_InR r10 → ((r10 = 0 → g_Run (d + 6) 262 166 [(0, .ref m), (1, g_n c), (2, g_n (bif row then 1 else 0)), (3, g_n depth), (4, g_n last), (5, g_n p), (6, g_n es.length), (7, g_n (p + 1)), (8, g_n (r_z (g_i M b) last p))] [] M7 (g_qI Q)) ∧ (¬ r10 = 0 → g_Call (d + 6) 257 [.ref m, g_n 7, g_n (p + 1)] M7 (g_qI fun r15 M12 => g_ext M7 M12 → g_ok M12 → g_InR r15 → (r15 = 0 ∨ r15 = 1) ∧ Q r15 M12)))) hR e1 (b_gv_ok e5) h0 (by omega) hnat (by omega) (by omega) ?_
                · rwa [← e2, show p + 1 + ((r_nm (g_i M b) last p).length : Int) = r_z (g_i M b) last p by omega] at h8
                · intro _ _ _
                  by_cases g5 : u_has es (r_nm (g_i M b) last p) = true
                  · rw [if_pos g5]
                    exact ⟨fun e => absurd e (by decide), fun _ => hseven (by subst hrow; exact g5)⟩
                  · rw [if_neg g5]
                    exact ⟨fun _ => h166 g3 g4 (by subst hrow; unfold r_wrong; rw [cond_false]; simpa using g5), fun e => absurd rfl e⟩
              · have hrow : row = true := by
                  cases row
                  · exact absurd rfl hr1
                  · rfl
                have h8 := e_isDig (d := d + 4) (x := r_nm (g_i M b) last p) (k := es.length) (p := p + 1) (Q := fun r20 M17 => g_ext M M17 → g_ok M17 → g_InR r20 → ((r20 = 0 → g_Call (d + 6) 257 [.ref m, g_n 7, g_n (p + 1)] M17 (g_qI fun r25 M22 => g_ext M17 M22 → g_ok M22 → g_InR r25 → (r25 = 0 ∨ r25 = 1) ∧ Q r25 M22)) ∧ (¬ r20 = 0 → g_Run (d + 6) 262 166 [(0, .ref m), (1, g_n c), (2, g_n (bif row then 1 else 0)), (3, g_n depth), (4, g_n last), (5, g_n p), (6, g_n es.length), (7, g_n (p + 1)), (8, g_n (r_z (g_i M b) last p))] [] M17 (g_qI Q)))) hR hnat (by omega) (by omega) (by omega) ?_
                · rwa [show p + 1 + ((r_nm (g_i M b) last p).length : Int) = r_z (g_i M b) last p by omega] at h8
                · intro _ _ _
                  by_cases g5 : r_nm (g_i M b) last p = b_dg es.length
                  · rw [if_pos g5]
                    exact ⟨fun e => absurd e (by decide), fun _ => h166 g3 g4 (by subst hrow; unfold r_wrong; rw [cond_true, decide_eq_true g5]; rfl)⟩
                  · rw [if_neg g5]
                    exact ⟨fun _ => hseven (by subst hrow; unfold r_wrong; rw [cond_true, decide_eq_false g5]; rfl), fun e => absurd rfl e⟩
            · have g4' : ¬ r_bad (g_i M b) last p = -1 := g4
              have hel4 : r_elm (g_i M b) rv row last es p = (4, r_bad (g_i M b) last p, 0) := by rw [hel, if_pos g3, if_neg g4']
              rw [hel4] at hq
              rw [if_neg (show ¬ ((4 : Int), r_bad (g_i M b) last p, (0 : Int)).1 = 0 by simp)] at hq
              exact hq.bad (by decide)
            · exact hbad 1 _ (by decide) (by rw [hel, if_neg g3]) ⟨by decide, by decide⟩ ⟨by omega, by omega⟩
          have h72 : ∀ (k2 : Nat) (q : Int), p + 1 ≤ q → q + k2 = r_z (g_i M b) last p → g_Run (d + 6) 262 72 [(0, .ref m), (1, g_n c), (2, g_n (bif row then 1 else 0)), (3, g_n depth), (4, g_n last), (5, g_n p), (6, g_n es.length), (7, g_n (p + 1)), (8, g_n q)] [] M (g_qI Q) := by
            intro k2
            induction k2 with
            | zero =>
              intro q q1 q2
              have : q = r_z (g_i M b) last p := by omega
              subst this
              exact s_X12_readElements_72 ⟨by omega, by omega⟩ hrR hdp ⟨by omega, by omega⟩ ⟨by omega, by omega⟩ ⟨by omega, by omega⟩ ⟨by omega, by omega⟩ ⟨by omega, by omega⟩ fun _ => ⟨fun g3 => ⟨hR.1, b, hR.2.1, _, hR.2.2, ⟨by omega, by omega⟩, fun _ => h95, fun g4 => absurd (z4 g3) g4⟩, fun _ => h95⟩
            | succ k2 ih3 =>
              intro q q1 q2
              exact s_X12_readElements_72 ⟨by omega, by omega⟩ hrR hdp ⟨by omega, by omega⟩ ⟨by omega, by omega⟩ ⟨by omega, by omega⟩ ⟨by omega, by omega⟩ ⟨by omega, by omega⟩ fun _ => ⟨fun g3 => ⟨hR.1, b, hR.2.1, _, hR.2.2, ⟨by omega, by omega⟩, fun g4 => absurd g4 (z3 q q1 (by omega)), fun _ => ⟨⟨by omega, by omega⟩, ih3 (q + 1) (by omega) (by omega)⟩⟩, fun g3 => absurd (by omega) g3⟩
          exact h72 (r_z (g_i M b) last p - (p + 1)).toNat (p + 1) (Int.le_refl _) (by omega)
        · exact hbad 3 p (by decide) (by unfold r_elm; rw [if_neg k0, if_neg hk]) ⟨by decide, by decide⟩ ⟨by omega, by omega⟩
      · rw [if_neg g] at hq
        exact hendl p _ ⟨by omega, by omega⟩ ⟨by omega, by omega⟩ g hq
  refine m_X12_readElements ⟨by omega, by omega⟩ hrR hdp fun _ => ⟨hR.1, m_X12_last ⟨by omega, by omega⟩ fun _ => ⟨hR.1, e_int4 hR h0 (by omega) fun _ _ _ => ⟨⟨by omega, by omega⟩, ⟨by omega, by omega⟩, fun _ _ _ => e_first h0 (by omega) fun _ _ _ => ?_⟩⟩⟩
  rw [hw, ← hlast]
  exact hloop w.toNat [] (c + 4) (b_nil _ _) (by rw [show b_ser [] = [] from rfl, List.length_nil]; omega) (by omega) (by omega) (fun e he => absurd he (by simp)) h
theorem e_rddoc (hR : e_R M m b) (hB : ∀ q, -128 ≤ g_i M b q ∧ g_i M b q ≤ 127) : ∀ (D : Nat) {c limit : Int} {row : Bool} {d : Nat} {Q : Int → g_M → Prop}, D ≤ 15 → 0 ≤ c → c ≤ limit → limit < 3900 → e_post Q M m (r_doc (g_i M b) D c limit row) → g_Call (d + 3 * D + 5) 261 [.ref m, g_n c, g_n limit, g_n (bif row then 1 else 0), g_n (17 - (D : Int))] M (g_qI Q) := by
  have hkR : ∀ row : Bool, g_InR (bif row then 1 else 0) := fun row => by
    cases row <;> exact ⟨by decide, by decide⟩
  intro D
  induction D with
  | zero =>
    intro c limit row d Q hD h0 hl h1 h
    have hbad : ∀ w, g_InR w → Q 0 (e_f M m w c) → g_Call (d + 4) 257 [.ref m, g_n w, g_n c] M (g_qI fun r62 M59 => g_ext M M59 → g_ok M59 → g_InR r62 → (r62 = 0 ∨ r62 = 1) ∧ Q r62 M59) := fun w hw hq => e_fails hR hw ⟨by omega, by omega⟩ fun _ _ _ => ⟨Or.inl rfl, hq⟩
    unfold r_doc at h
    refine m_X12_readContainer (d := d + 4) ⟨by omega, by omega⟩ ⟨by omega, by omega⟩ (hkR row) ⟨by omega, by omega⟩ fun _ => ⟨⟨by omega, by omega⟩, fun g1 => ⟨hR.1, ?_⟩, fun g1 => ⟨hR.1, e_int4 hR h0 (by omega) fun _ _ hr => ?_⟩⟩
    · rw [if_pos g1] at h
      exact hbad 1 ⟨by decide, by decide⟩ (h.bad (by decide))
    rw [if_neg g1] at h
    rw [u_ltU5 hr]
    refine ⟨fun g2 => ?_, fun g2 => ⟨⟨by omega, by omega⟩, ?_⟩⟩
    · rw [if_pos g2] at h
      exact hbad 2 ⟨by decide, by decide⟩ (h.bad (by decide))
    rw [if_neg g2] at h
    rw [u_gtUs hr (by omega) (by omega)]
    refine ⟨fun g3 => ?_, fun g3 => ⟨fun _ => ?_, fun g4 => absurd (by omega) g4⟩⟩
    · rw [if_pos g3] at h
      exact hbad 1 ⟨by decide, by decide⟩ (h.bad (by decide))
    · rw [if_neg g3] at h
      exact hbad 8 ⟨by decide, by decide⟩ (h.bad (by decide))
  | succ D ih =>
    intro c limit row d Q hD h0 hl h1 h
    have hbad : ∀ w, g_InR w → Q 0 (e_f M m w c) → g_Call (d + 3 * D + 7) 257 [.ref m, g_n w, g_n c] M (g_qI fun r62 M59 => g_ext M M59 → g_ok M59 → g_InR r62 → (r62 = 0 ∨ r62 = 1) ∧ Q r62 M59) := fun w hw hq => e_fails hR hw ⟨by omega, by omega⟩ fun _ _ _ => ⟨Or.inl rfl, hq⟩
    unfold r_doc at h
    refine m_X12_readContainer (d := d + 3 * D + 7) ⟨by omega, by omega⟩ ⟨by omega, by omega⟩ (hkR row) ⟨by omega, by omega⟩ fun _ => ⟨⟨by omega, by omega⟩, fun g1 => ⟨hR.1, ?_⟩, fun g1 => ⟨hR.1, e_int4 hR h0 (by omega) fun _ _ hr => ?_⟩⟩
    · rw [if_pos g1] at h
      exact hbad 1 ⟨by decide, by decide⟩ (h.bad (by decide))
    rw [if_neg g1] at h
    rw [u_ltU5 hr]
    refine ⟨fun g2 => ?_, fun g2 => ⟨⟨by omega, by omega⟩, ?_⟩⟩
    · rw [if_pos (by omega)] at h
      exact hbad 2 ⟨by decide, by decide⟩ (h.bad (by decide))
    rw [if_neg (by omega)] at h
    rw [u_gtUs hr (by omega) (by omega)]
    refine ⟨fun g3 => ?_, fun g3 => ⟨fun g4 => absurd g4 (by omega), fun _ => ?_⟩⟩
    · rw [if_pos g3] at h
      exact hbad 1 ⟨by decide, by decide⟩ (h.bad (by decide))
    rw [if_neg g3] at h
    refine e_rdels (d := d + 3 * D) (D := D) hR hB h0 rfl rfl (by omega) (by omega) ⟨by omega, by omega⟩ (fun k v a1 a2 a3 => r_val_good hB (by omega) a2 a1 (fun row2 => r_doc_good hB D v _ row2 (by omega))) (fun k v Q1 a1 a2 a3 a4 => ?_) ⟨fun z _ _ _ => ⟨Or.inr rfl, h.1 z⟩, fun z _ _ _ => ⟨Or.inl rfl, h.2 z⟩⟩
    refine e_rdval hR hB (by omega) a3 (by omega) a1 (by omega) (by omega) (fun row2 Q2 a5 => ?_) a4
    have := ih (d := d) (by omega) (by omega) a3 (by omega) a5
    rwa [show (17 : Int) - (D : Int) = 17 - ((D + 1 : Nat) : Int) + 1 by omega] at this
/-- the whole request, n bytes from place 0 on -/
theorem e_readAll {Q : Int → g_M → Prop} {n : Int} (hR : e_R M m b) (hB : ∀ q, -128 ≤ g_i M b q ∧ g_i M b q ≤ 127) (h0 : 0 ≤ n) (h1 : n < 3900) (h : e_post Q M m (r_doc (g_i M b) 16 0 n false)) : g_Call (d + 54) 260 [.ref m, g_n n] M (g_qI Q) := by
  have hbad : ∀ w, g_InR w → Q 0 (e_f M m w 0) → g_Call (d + 53) 257 [.ref m, g_n w, g_n 0] M (g_qI fun r62 M59 => g_ext M M59 → g_ok M59 → g_InR r62 → (r62 = 0 ∨ r62 = 1) ∧ Q r62 M59) := fun w hw hq => e_fails hR hw ⟨by omega, by omega⟩ fun _ _ _ => ⟨Or.inl rfl, hq⟩
  unfold r_doc at h
  refine m_X12_readAll ⟨by omega, by omega⟩ fun _ => ⟨fun g1 => ⟨hR.1, ?_⟩, fun g1 => ⟨hR.1, e_int4 hR (by omega) (by omega) fun _ _ hr => ?_⟩⟩
  · rw [if_pos (by omega)] at h
    exact hbad 1 ⟨by decide, by decide⟩ (h.bad (by decide))
  rw [if_neg (by omega)] at h
  rw [u_ltU5 hr]
  refine ⟨fun g2 => ?_, fun g2 => ?_⟩
  · rw [if_pos (by omega)] at h
    exact hbad 2 ⟨by decide, by decide⟩ (h.bad (by decide))
  rw [u_ltUs hr h0 (by omega)]
  refine ⟨fun g3 => ?_, fun g3 => ?_⟩
  · rw [if_pos ⟨by omega, Or.inr ⟨rfl, by omega⟩⟩] at h
    exact hbad 2 ⟨by decide, by decide⟩ (h.bad (by decide))
  rw [if_neg (by omega)] at h
  rw [u_gtUs hr h0 (by omega)]
  refine ⟨fun g4 => ?_, fun g4 => ?_⟩
  · rw [if_pos (by omega)] at h
    exact hbad 1 ⟨by decide, by decide⟩ (h.bad (by decide))
  rw [if_neg (by omega)] at h
  refine e_rdels (d := d + 46) (D := 15) (row := false) hR hB (by omega) rfl rfl (by omega) (by omega) ⟨by decide, by decide⟩ (fun k v a1 a2 a3 => r_val_good hB (by omega) a2 a1 (fun row2 => r_doc_good hB 15 v _ row2 (by omega))) (fun k v Q1 a1 a2 a3 a4 => ?_) ⟨fun z _ _ _ => ⟨Or.inr rfl, h.1 z⟩, fun z _ _ _ => ⟨Or.inl rfl, h.2 z⟩⟩
  refine e_rdval (d := d + 46) hR hB (by omega) a3 (by omega) a1 (by omega) (by omega) (fun row2 Q2 a5 => ?_) a4
  exact e_rddoc (d := d + 1) hR hB 15 (by omega) (by omega) a3 (by omega) a5
end READM
/-- the whole request, as the class reads it -/
theorem c_reads {d : Nat} {M : g_M} {o a : Nat} {n n0 : Int} {F : Int → Int} {Q : Int → g_M → Prop} (hD : c_RD M o a n) (hB : ∀ q, -128 ≤ F q ∧ F q ≤ 127) (hF : ∀ q, 0 ≤ q → q < n0 → g_i M a (4 + q) = F q) (hn : 4 + n0 < n) (hm : n0 < 3900) (h0 : 0 ≤ n0) (hpos : (r_doc F 16 0 n0 false).1 = 0 → Q 1 M) (hneg : ¬ (r_doc F 16 0 n0 false).1 = 0 → Q 0 (c_f M o (r_doc F 16 0 n0 false).1 (r_doc F 16 0 n0 false).2.1)) : g_Call (d + 52) 96 [.ref o, g_n n0] M (g_qI Q) := by
  refine m_X6_reads ⟨by omega, by omega⟩ fun _ => ⟨⟨by omega, by omega⟩, hD.1, ?_⟩
  have hg := r_doc_good hB 16 0 n0 false (by omega)
  exact c_doc (d := d) (row := false) hD hB hF hn hm 16 (c := 0) (limit := n0) (by omega) (by omega) h0 (by omega) ⟨fun z _ _ _ => ⟨fun g => absurd g (by have := (hg z).1; omega), fun _ => hpos z⟩, fun z _ _ _ => ⟨fun _ => hneg z, fun g => absurd (by decide) g⟩⟩
