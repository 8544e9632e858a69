/-! TREES OF THE REFERENCE: an entry goes from a leaf -/
/-- what comes of an entry's going -/
def R_gq (m b : Nat) (ρ : Nat → Nat) (x : Nat) (h n : Nat) (us : List Nat) (l : List (N_i V_W h)) (T : List (N_i I_E h)) (M : g_M) (Q : g_M → Prop) : Prop := ∀ M1 l1 us1 gone, e_fr (R_C m ρ x (fun k => k ∈ V_ns h n l)) M M1 → R_D b ρ x M1 h n l1 → T = l1.map (V_er h) → R_us ρ x M1 us1 → us.Perm (gone ++ us1) → (V_ns h n l).Perm (gone ++ V_ns h n l1) → (∀ i ∈ V_us h l1, i ∈ V_us h l) → Q M1
theorem N_pl_lt {E : Type} {c : E → E → Int} (hc : v_T c) {e : E} {l : List E} (hk : l.Pairwise fun a b => c a b < 0) (hex : ∃ a ∈ l, c a e = 0) : N_pl c e l < l.length := by
  obtain ⟨A, B, h1, h2, h3, -⟩ := N_pl_split hc (e := e) hk
  obtain ⟨a, ha, hae⟩ := hex
  rw [h1] at ha
  rcases List.mem_append.mp ha with z | z
  · have := h3 a z
    omega
  · have hB : 0 < B.length := List.length_pos_of_mem z
    have := congrArg List.length h1
    rw [List.length_append] at this
    omega
section RGO
variable {m b d x dn : Nat} {ρ : Nat → Nat} {M : g_M} {w1 w2 : Int}
theorem e_goes0 {Q : g_M → Prop} {n s : Nat} {us : List Nat} {l : List (N_i V_W 0)} {e : I_E} (hR : R_rw m b ρ M) (hx : x < 8) (hw : R_wy m x w1 w2 dn M) (hD : R_D b ρ x M 0 n l) (hus : R_us ρ x M us) (he : R_e b ρ x s M e) (hex : N_pl (I_c w1 w2) e (l.map fun y : N_i V_W 0 => V_e y) < l.length) (hq : R_gq m b ρ x 0 n us l (N_gone (I_c w1 w2) e 0 (l.map (V_er 0))) M Q) : g_Call (d + 44) 379 [.ref m, g_n x, g_n n, g_n s] M (g_qV Q) := by
  obtain ⟨a1, a2, ⟨ps, p1, p2, p3⟩, a4⟩ := R_D_0.mp hD
  have hpl := R_ps_len (n := n) (f := 0) p3
  rw [List.length_map] at hpl
  have hs := he.1
  obtain ⟨k, hk⟩ : ∃ k, k = N_pl (I_c w1 w2) e (l.map fun y : N_i V_W 0 => V_e y) := ⟨_, rfl⟩
  rw [← hk] at hex
  obtain ⟨A, y, B, hl, hAk⟩ : ∃ A y B, l = A ++ y :: B ∧ A.length = k := by
    have hd : l.drop k ≠ [] := fun z => by
      have := List.drop_eq_nil_iff.mp z
      omega
    obtain ⟨y, B, hz⟩ := List.exists_cons_of_ne_nil hd
    exact ⟨l.take k, y, B, by rw [← hz, List.take_append_drop], by rw [List.length_take]; omega⟩
  obtain ⟨PA, p, PB, hps, hPAk⟩ : ∃ PA p PB, ps = PA ++ p :: PB ∧ PA.length = k := by
    have hd : ps.drop k ≠ [] := fun z => by
      have := List.drop_eq_nil_iff.mp z
      omega
    obtain ⟨y, B, hz⟩ := List.exists_cons_of_ne_nil hd
    exact ⟨ps.take k, y, B, by rw [← hz, List.take_append_drop], by rw [List.length_take]; omega⟩
  have hll := congrArg List.length hl
  rw [List.length_append, List.length_cons] at hll
  refine m_X12_goes ⟨by omega, by omega⟩ ⟨by omega, by omega⟩ ⟨by omega, by omega⟩ fun _ => ⟨hR.1.1, e_isLeafN (d := d + 42) hR hx a1 (Or.inr p1.1) ?_⟩
  intro _ _ _
  rw [p1.1]
  refine ⟨fun z => absurd z (by decide), fun _ => e_placeIn (d := d + 2) hR hx hw hD he ?_⟩
  intro _ _ _
  rw [← hk, show (k : Int) = (PA.length : Nat) by rw [hPAk]]
  rw [hps] at p1 p2
  refine e_removeAt (d := d + 41) hR hx a1 p1 (by rw [← hps]; omega) p2 fun M54 f54 no54 => ?_
  intro _ _
  have F54 : e_fr (R_C m ρ x (fun j => j ∈ V_ns 0 n l)) M M54 := f54.up fun y q z => R_C.A (A := fun j => j ∈ V_ns 0 n l) (V_ns_m 0 n l) z
  have hfst : PA.map Prod.fst = B_il (A.map (V_k 0)) ∧ PB.map Prod.fst = B_il (B.map (V_k 0)) := by
    rw [hl, hps, List.map_append, List.map_append, B_il_app, List.map_cons, List.map_cons, B_il_c] at p3
    obtain ⟨g1, g2⟩ := List.append_inj p3 (by rw [List.length_map, B_il_len, List.length_map, hPAk, hAk])
    exact ⟨g1, (List.cons.inj g2).2⟩
  have hsub : ∀ w ∈ A ++ B, w ∈ l := fun w hw2 => by
    rw [hl]
    rcases List.mem_append.mp hw2 with z | z
    · exact List.mem_append_left _ z
    · exact List.mem_append_right _ (List.mem_cons_of_mem _ z)
  refine hq M54 (A ++ B) us [] F54 (R_D_0.mpr ⟨a1, by rw [List.length_append]; omega, ⟨PA ++ PB, no54, fun q hq2 => p2 q ?_, by rw [List.map_append, List.map_append, B_il_app, hfst.1, hfst.2]⟩, fun w hw2 => (a4 w (hsub w hw2)).fr F54 fun y q z => R_C_eA hR z⟩) ?_ (hus.nA (A := fun j => j = n) hR (f54.up fun y q z => ⟨n, rfl, z⟩)) (List.Perm.refl _) (List.Perm.refl _) fun i hi => ?_
  · rcases List.mem_append.mp hq2 with z | z
    · exact List.mem_append_left _ z
    · exact List.mem_append_right _ (List.mem_cons_of_mem _ z)
  · rw [N_gone_0]
    have hes : N_es (l.map (V_er 0)) = l.map fun y : N_i V_W 0 => V_e y := rfl
    rw [hes, ← hk, hl, List.map_append, List.map_cons, List.map_append]
    have hAl : k = (A.map (V_er 0)).length := by rw [List.length_map, hAk]
    rw [hAl]
    exact N_erase _ _ _
  · obtain ⟨w, hw2, rfl⟩ := List.mem_map.mp hi
    exact List.mem_map.mpr ⟨w, hsub w hw2, rfl⟩
end RGO
