/-! REQUESTS, THE REFERENCE: documents are taken out; what goes with them -/
theorem I_cgo.app {V : I_V} (hv : I_vok V) : ∀ {E F : List I_E} {T : N_T I_E}, N_good (I_c V.1 V.2.1) T → I_cgo V T (E ++ F) → I_cgo V (I_out V E T) F ∧ N_good (I_c V.1 V.2.1) (I_out V E T) := by
  intro E
  induction E with
  | nil => exact fun hT h => ⟨h, hT⟩
  | cons e E ih =>
    intro F T hT h
    have h1 := h.step (E := E ++ F) hv.1 hv.2.1 hT
    exact ih (N_leave_ok (I_c_T hv.1 hv.2.1) hT (h.2.1 e List.mem_cons_self)).1 h1
theorem I_cgo.pre {V : I_V} {E F : List I_E} {T : N_T I_E} (h : I_cgo V T (E ++ F)) : I_cgo V T E := ⟨fun e he => h.1 e (List.mem_append_left _ he), fun e he => h.2.1 e (List.mem_append_left _ he), (List.pairwise_append.mp h.2.2.1).1, h.2.2.2⟩
theorem I_can.app {V : I_V} (hv : I_vok V) : ∀ {E F : List I_E} {T : N_T I_E}, N_good (I_c V.1 V.2.1) T → I_can V T (E ++ F) → I_can V (I_in V E T) F ∧ N_good (I_c V.1 V.2.1) (I_in V E T) := by
  intro E
  induction E with
  | nil => exact fun hT h => ⟨h, hT⟩
  | cons e E ih =>
    intro F T hT h
    have h1 := h.step (E := E ++ F) hv.1 hv.2.1 hT
    exact ih (N_enter_ok (I_c_T hv.1 hv.2.1) hT (fun a ha => h.2.1 e List.mem_cons_self a ha)).1 h1
theorem I_can.pre {V : I_V} {E F : List I_E} {T : N_T I_E} (h : I_can V T (E ++ F)) : I_can V T E := ⟨fun e he => h.1 e (List.mem_append_left _ he), fun e he => h.2.1 e (List.mem_append_left _ he), (List.pairwise_append.mp h.2.2.1).1, by have := h.2.2.2; rw [List.length_append] at this; omega⟩
abbrev Q_z : Type := Bool × Nat × Int × List b_E
def Q_k (l : List Q_z) : List (Nat × Int × List b_E) := (l.filter fun z => not z.1).map fun z => z.2
def Q_3 (l : List Q_z) : List (Bool × Int × List b_E) := l.map fun z => (z.1, z.2.2)
theorem Q_k_app (A B : List Q_z) : Q_k (A ++ B) = Q_k A ++ Q_k B := by
  unfold Q_k
  rw [List.filter_append, List.map_append]
theorem Q_k_1 (z : Q_z) : Q_k [z] = if z.1 = true then [] else [z.2] := by
  unfold Q_k
  cases h : z.1 <;> simp [h]
theorem Q_k_dn (l : List Q_z) : Z_k (Q_3 l) = R_dn (Q_k l) := by
  unfold Z_k Q_3 R_dn Q_k
  rw [List.filter_map, List.map_map, List.map_map]
  rfl
theorem Q_3_dn (l : List Q_z) : ((Q_3 l).map fun z => z.2) = R_dn (l.map fun z => z.2) := by
  unfold Q_3 R_dn
  rw [List.map_map, List.map_map]
  rfl
noncomputable def I_rem (l : List (Bool × Int × List b_E)) (t : I_T) : I_T := match t with
  | none => none
  | some (V, T, m1, m2) => some (V, I_out V (I_mk V l) T, m1, m2)
noncomputable def I_rem1 (no : Int) (es : List b_E) (t : I_T) : I_T := match t with
  | none => none
  | some (V, T, m1, m2) => some (V, I_out V (I_ens V es no) T, m1, m2)
theorem I_mk_app (V : I_V) (A B : List (Bool × Int × List b_E)) : I_mk V (A ++ B) = I_mk V A ++ I_mk V B := List.flatMap_append
theorem I_mk_1 (V : I_V) (z : Bool × Int × List b_E) : I_mk V [z] = if z.1 = true then I_ens V z.2.2 z.2.1 else [] := by
  rw [I_mk_c]
  exact List.append_nil _
theorem I_out_app (V : I_V) (E F : List I_E) (T : N_T I_E) : I_out V (E ++ F) T = I_out V F (I_out V E T) := List.foldl_append
theorem I_rem_snoc (A : List (Bool × Int × List b_E)) (z : Bool × Int × List b_E) (t : I_T) : I_rem (A ++ [z]) t = if z.1 = true then I_rem1 z.2.1 z.2.2 (I_rem A t) else I_rem A t := by
  rcases t with _ | ⟨V, T, m1, m2⟩
  · by_cases g : z.1 = true
    · rw [if_pos g]
      rfl
    · rw [if_neg g]
      rfl
  · show some (V, I_out V (I_mk V (A ++ [z])) T, m1, m2) = _
    rw [I_mk_app, I_mk_1]
    by_cases g : z.1 = true
    · rw [if_pos g, if_pos g, I_out_app]
      rfl
    · rw [if_neg g, if_neg g, List.append_nil]
      rfl
theorem I_rem_nil (t : I_T) : I_rem [] t = t := by rcases t with _ | ⟨V, T, m1, m2⟩ <;> rfl
theorem I_lp_all (f g : I_T → I_T) (w : Nat) (st : Nat → I_T) : I_lp g w (I_lp f w st (4 * w + 4)) (4 * w + 4) = I_lp (fun t => g (f t)) w st (4 * w + 4) := by
  funext y
  unfold I_lp
  by_cases h : 4 * w ≤ y ∧ y < 4 * w + 4
  · rw [if_pos h, if_pos h, if_pos h]
  · rw [if_neg h, if_neg h, if_neg h]
theorem I_lp_in (f : I_T → I_T) (w : Nat) (st : Nat → I_T) {y : Nat} (h : 4 * w ≤ y ∧ y < 4 * w + 4) : I_lp f w st (4 * w + 4) y = f (st y) := if_pos h
theorem I_lp_id (w : Nat) (st : Nat → I_T) {f : I_T → I_T} (hf : ∀ t, f t = t) : I_lp f w st (4 * w + 4) = st := by
  funext y
  unfold I_lp
  split
  · exact hf _
  · rfl
/-- the house without its shelves -/
def E_H0 (m : Nat) (ρ : Nat → Nat) (st : Nat → I_T) (M : g_M) : Prop := E_bk m ρ M ∧ g_i M m 47 = -1 ∧ b_at (g_i M (ρ 0)) 2706200 [10, 0] ∧ ∀ x : Nat, x < 8 → R_ix m ρ x (st x) M
section EOUT
variable {m d : Nat} {ρ : Nat → Nat} {M M1 : g_M} {st : Nat → I_T} {q : Nat → List (Nat × Int × List b_E)} {v : Nat → Int} {L : List Int}
theorem E_H.h0 (h : E_H m ρ st q v M) : E_H0 m ρ st M := ⟨h.1, h.2.1, h.2.2.1, h.2.2.2.1⟩
theorem E_H0.with (h : E_H0 m ρ st M) (hs : ∀ w, w < 2 → R_hs ρ w (q w) (v w) M) : E_H m ρ st q v M := ⟨h.1, h.2.1, h.2.2.1, h.2.2.2, hs⟩
theorem E_H0.fr {S : Nat → Int → Prop} (h : E_H0 m ρ st M) (f : e_fr S M M1) (h1 : ∀ x, x < 8 → ∀ y k, R_xP ρ x y k → ¬ S y k) (h2 : ¬ S m 47) (h3 : ∀ k, 2706200 ≤ k → ¬ S (ρ 0) k) : E_H0 m ρ st M1 := by
  obtain ⟨k1, k2, k3, k4⟩ := h
  have h47 : g_i M1 m 47 = -1 := by
    rw [f.2.1 m 47 h2]
    exact k2
  exact ⟨k1.fr f, h47, b_at_keep k3 fun k j1 j2 => f.2.1 _ _ (h3 k (by omega)), fun x hx => (k4 x hx).fr f (h1 x hx) h47⟩
theorem e_entX0 {Q : g_M → Prop} {x : Nat} {V : I_V} {T : N_T I_E} {m1 m2 c no v4 : Int} {es : List b_E} (h : E_H0 m ρ st M) (hS : E_S m (ρ 0) (ρ 9) (g_i M (ρ 0)) M L) (h40 : g_i M m 40 = 0 ∨ g_i M m 40 = 1) (hx : x < 8) (hst : st x = some (V, T, m1, m2)) (hct : E_ct (g_i M (ρ 0)) c 15 es) (hdl : (b_doc es).length ≤ 2000) (hL : L.length ≤ 1000) (hv4 : v4 = 0 ∨ v4 = 1) (hcn : I_cn v4 V T (I_ens V es no)) (h0no : 0 ≤ no) (hnoR : g_InR no) (hq : ∀ M1, e_fr (R_EF m (ρ 0) (ρ 9) ρ x) M M1 → E_S m (ρ 0) (ρ 9) (g_i M1 (ρ 0)) M1 L → (g_i M1 m 40 = 0 ∨ g_i M1 m 40 = 1) → E_H0 m ρ (I_up st x (some (V, I_io v4 V (I_ens V es no) T, m1, m2))) M1 → Q M1) : g_Call (d + 71) 384 [.ref m, g_n x, g_n c, g_n no, g_n v4] M (g_qV Q) := by
  obtain ⟨h1, h2, h3, h4⟩ := h
  have hix := h4 x hx
  rw [hst] at hix
  obtain ⟨k1, k2, k3, ⟨k4, k5⟩, k6, k7⟩ := hix
  refine e_enterAll (d := d) hS k2 k3 hct hdl h3 hL h40 rfl hv4 hcn h0no hnoR fun M1 f1 S1 T1 c1 => ?_
  have hr := h1.rw
  have hn : ∀ {k : Nat} {q : Int}, k ∈ E_bf → k ≠ 9 → k ≠ 0 → k ∉ R_fs → g_i M1 (ρ k) q = g_i M (ρ k) q := fun hk h9 h0 hf => f1.2.1 _ _ (R_EF_n hr (h1.ne hk (by decide) h9) (h1.nm hk) (h1.ne hk (by decide) h0) fun k2 hk2 => h1.ne hk (E_fs_bf k2 hk2).1 fun z => hf (z ▸ hk2))
  have hbb : ∀ q, R_EF m (ρ 0) (ρ 9) ρ x (ρ 0) q → 1014000 ≤ q ∧ q < 2598000 := fun q z => by
    have := R_EF_b hr (h1.ne (by decide) (by decide) (by decide)) z
    omega
  have hbk : ∀ q, q < 1014000 → g_i M1 (ρ 0) q = g_i M (ρ 0) q := fun q hq2 => f1.2.1 _ _ fun z => by
    have := hbb q z
    omega
  have h47 := T1.2.2.2.1
  refine hq M1 f1 S1 c1 ⟨h1.fr f1, h47, b_at_keep h3 fun k j1 j2 => f1.2.1 _ _ fun z => by
    have := hbb k z
    omega, fun y hy => ?_⟩
  unfold I_up
  by_cases g : y = x
  · rw [if_pos g, g]
    refine ⟨?_, ?_, T1, ⟨?_, ?_⟩, k6, k7⟩
    · rw [hn (by decide) (by decide) (by decide) (by decide)]
      exact k1
    · obtain ⟨⟨a1, a2, a3, a4, a5, a6⟩, b1, ⟨y1, e1, e2, e3, e4, e5⟩, b3, b4, b5, b6, b7, b8, b9⟩ := k2
      refine ⟨⟨by rw [f1.2.2]; exact a1, f1.A a2, by rw [f1.2.2]; exact a3, f1.A a4, by rw [f1.2.2]; exact a5, f1.A a6⟩, b1, ⟨y1, e1, b_at_keep e2 fun q q1 q2 => hbk q (by omega), e3, e4, by rw [hn (by decide) (by decide) (by decide) (by decide)]; exact e5⟩, by rw [hn (by decide) (by decide) (by decide) (by decide)]; exact b3, by rw [hn (by decide) (by decide) (by decide) (by decide)]; exact b4, fun st2 hst2 => ?_, b6, b7, by rw [hn (by decide) (by decide) (by decide) (by decide)]; exact b8, by rw [hn (by decide) (by decide) (by decide) (by decide)]; exact b9⟩
      obtain ⟨y2, e1, e2, e3, e4, e5⟩ := b5 st2 hst2
      exact ⟨y2, e1, b_at_keep e2 fun q q1 q2 => hbk q (by omega), e3, e4, by rw [hn (by decide) (by decide) (by decide) (by decide)]; exact e5⟩
    · rw [hn (by decide) (by decide) (by decide) (by decide)]
      exact k4
    · rw [hn (by decide) (by decide) (by decide) (by decide)]
      exact k5
  · rw [if_neg g]
    exact (h4 y hy).fr f1 (fun a q z => R_xP_EF h1 hy (fun w => g w.symm) z) h47
end EOUT
