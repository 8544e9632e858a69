/-! STAGES: $group, the class: what is said of a group's values -/
theorem G_z_snoc (l : List (Option b_E)) (o : Option b_E) : G_z (l ++ [o]) = G_z l + G_tm o := by
  unfold G_z
  rw [List.map_append, List.sum_append]
  simp
theorem G_z_R : ∀ l : List (Option b_E), -9223372036854775808 * (l.length : Int) ≤ G_z l ∧ G_z l ≤ 9223372036854775808 * (l.length : Int) := by
  intro l
  induction l with
  | nil => exact ⟨Int.le_refl _, Int.le_refl _⟩
  | cons o l ih =>
    have h1 : G_z (o :: l) = G_tm o + G_z l := rfl
    have h2 : -9223372036854775808 ≤ G_tm o ∧ G_tm o ≤ 9223372036854775807 := by
      rcases o with _ | w
      · exact ⟨by decide, by decide⟩
      · show _ ≤ (if w.1 = 16 ∨ w.1 = 18 then (v_num w.1 w.2.2).toInt else 0) ∧ (if w.1 = 16 ∨ w.1 = 18 then (v_num w.1 w.2.2).toInt else 0) ≤ _
        split
        · exact z_R _
        · exact ⟨by decide, by decide⟩
    rw [h1, List.length_cons]
    omega
theorem G_kd {D : Nat} {k : Int} {vb : List Int} (h : b_gv D k vb) : 0 ≤ k ∧ k < 128 := by
  rcases b_gv_vs h with ⟨h, -⟩ | ⟨h, -⟩ | ⟨h, -⟩ | ⟨h, -⟩ | ⟨h, -⟩ | ⟨h | h, -⟩ <;> rw [h] <;> exact ⟨by decide, by decide⟩
theorem G_st_snoc {once : Bool} : ∀ (l : List (Option b_E)) (pre : List b_E) (o : Option b_E), G_st once pre (l ++ [o]) = G_st once pre l ++ G_st once (pre ++ l.filterMap id) [o] := by
  intro l
  induction l with
  | nil =>
    intro pre o
    have : ([] : List (Option b_E)).filterMap id = [] := rfl
    rw [this, List.append_nil]
    rfl
  | cons a l ih =>
    intro pre o
    rcases a with _ | y
    · show G_st once pre (l ++ [o]) = G_st once pre l ++ G_st once (pre ++ (none :: l).filterMap id) [o]
      rw [ih]
      rfl
    · have hf : (some y :: l).filterMap id = y :: l.filterMap id := rfl
      have hs : ∀ r, G_st once pre (some y :: r) = if once = true ∧ (pre.any fun z => F_eq z y) = true then G_st once (pre ++ [y]) r else y :: G_st once (pre ++ [y]) r := fun _ => rfl
      rw [List.cons_append, hs, hs, ih, hf]
      have hp : pre ++ [y] ++ l.filterMap id = pre ++ y :: l.filterMap id := by simp
      rw [hp]
      split
      · rfl
      · rfl
def G_vals (b va : Nat) (lo : Int) (yl : Nat) (vs : List (Option b_E)) (M : g_M) : Prop := ∀ (j : Nat) (o : Option b_E), vs[j]? = some o → G_at (g_i M b) lo yl (g_i M va j) o
theorem G_ko.R {B : Int → Int} {lo p : Int} {yl : Nat} {w : b_E} (h : G_ko B lo yl p w) : g_InR p ∧ 0 ≤ p := by
  obtain ⟨nm, z1, -⟩ := h
  exact ⟨z1.R (by decide), z1.2.2.2.1⟩
theorem G_at.R {B : Int → Int} {lo p : Int} {yl : Nat} {o : Option b_E} (h : G_at B lo yl p o) : g_InR p := by
  rcases h with ⟨-, z⟩ | ⟨w, -, z⟩
  · rw [z]
    exact ⟨by decide, by decide⟩
  · exact z.R.1
section GSAY
variable {so r b po pf pt ou sc be fr ke gr va : Nat} {M0 M M1 : g_M} {lo : Int} {yl : Nat} {vs : List (Option b_E)}
theorem c_sum {d : Nat} {Q : Int64 → g_M → Prop} (hso : g_O M so 9) (h1 : g_r M so 1 = some b) (hA : g_A M b 0 246408) (h10 : g_r M so 10 = some va) (hva : g_A M va 1 200) (hl : vs.length ≤ 200) (hv : G_vals b va lo yl vs M) (hq1 : G_over (G_z vs) → Q (Int64.ofInt (G_z vs)) (g_wi M so 19 1)) (hq0 : ¬ G_over (G_z vs) → Q (Int64.ofInt (G_z vs)) M) : g_Call (d + 4) 159 [.ref so, g_n vs.length] M (g_qL Q) := by
  have hlp : ∀ (t i : Nat), i + t = vs.length → g_Run (d + 3) 159 8 [(0, .ref so), (1, g_n vs.length), (2, .long (Int64.ofInt (G_z (vs.take i)))), (4, .long (Int64.ofInt (G_z (vs.take i) / 18446744073709551616))), (6, g_n i)] [] M (g_qL Q) := by
    intro t
    induction t with
    | zero =>
      intro i hi
      rw [List.take_of_length_le (by omega)]
      have hz := G_z_R vs
      have hfit := G_fit (G_z vs) (by omega)
      refine s_X9_sum_8 ⟨by omega, by omega⟩ ⟨by omega, by omega⟩ fun _ => ⟨fun z => absurd z (by omega), fun _ => ⟨fun g0 => hq0 ?_, fun g0 => ⟨hso, fun M2 e2 _ => ?_⟩⟩⟩
      · rw [g_lc0] at g0
        exact hfit.mp (congrArg Int64.toInt g0)
      · rw [e2]
        refine hq1 (Classical.byContradiction fun z => g0 ?_)
        rw [g_lc0]
        exact z_inj (hfit.mpr z)
    | succ t ih =>
      intro i hi
      obtain ⟨o, ho⟩ : ∃ o, vs[i]? = some o := ⟨_, List.getElem?_eq_getElem (by omega)⟩
      have htk : vs.take (i + 1) = vs.take i ++ [o] := by rw [List.take_add_one, ho]; rfl
      have hz := G_z_R (vs.take i)
      rw [List.length_take] at hz
      have hvi := hv i o ho
      have hpR := hvi.R
      have h9 := ih (i + 1) (by omega)
      rw [htk, G_z_snoc, show ((i + 1 : Nat) : Int) = (i : Int) + 1 by omega] at h9
      refine s_X9_sum_8 ⟨by omega, by omega⟩ ⟨by omega, by omega⟩ fun _ => ⟨fun _ => ⟨hso, b, h1, va, h10, _, hva, ⟨by omega, by omega⟩, c_isNum (d := d + 1) hA ⟨by decide, by decide⟩ hpR ?_⟩, fun z => absurd (by omega) z⟩
      intro _ _ _
      rcases hvi with ⟨z1, z2⟩ | ⟨w, z1, nm, z2, -⟩
      · rw [z2, b_kd_neg, if_neg (by decide)]
        rw [z1] at h9
        change g_Run (d + 3) 159 8 [(0, .ref so), (1, g_n vs.length), (2, .long (Int64.ofInt (G_z (vs.take i) + 0))), (4, .long (Int64.ofInt ((G_z (vs.take i) + 0) / 18446744073709551616))), (6, g_n ((i : Int) + 1))] [] M (g_qL Q) at h9
        rw [Int.add_zero] at h9
        exact ⟨fun _ => ⟨⟨by omega, by omega⟩, h9⟩, fun z => absurd rfl z⟩
      · have hkd : b_kd (g_i M b) 246408 (g_i M va i) = w.1 := by
          have a1 := z2.2.2.2.1
          have a2 := z2.2.2.2.2
          rw [b_kd_in (by omega) (by rw [b_el_len] at a2; omega)]
          exact z2.val.2.2.2
        rw [hkd]
        by_cases hk : w.1 = 16 ∨ w.1 = 18
        · rw [if_pos hk]
          have htm : G_tm o = (v_num w.1 w.2.2).toInt := by rw [z1]; exact if_pos hk
          rw [htm] at h9
          refine ⟨fun z => absurd z (by decide), fun _ => ⟨b, h1, va, h10, _, hva, ⟨by omega, by omega⟩, c_wh (d := d + 1) hA (by decide) z2 hk ?_⟩⟩
          intro _ _
          have hcy := G_cy (G_z (vs.take i)) (v_num w.1 w.2.2)
          rw [← u_lt] at hcy
          rw [← G_low] at h9
          refine ⟨fun g1 => ⟨⟨by omega, by omega⟩, ?_⟩, fun g1 => ⟨⟨by omega, by omega⟩, ?_⟩⟩
          · rw [← G_high1 (G_z (vs.take i)) (v_num w.1 w.2.2) 1 (Or.inl ⟨rfl, hcy.mp g1⟩) (by omega)] at h9
            exact h9
          · rw [← G_high1 (G_z (vs.take i)) (v_num w.1 w.2.2) 0 (Or.inr ⟨rfl, fun z => g1 (hcy.mpr z)⟩) (by omega)] at h9
            exact h9
        · rw [if_neg hk]
          have htm : G_tm o = 0 := by rw [z1]; exact if_neg hk
          rw [htm, Int.add_zero] at h9
          exact ⟨fun _ => ⟨⟨by omega, by omega⟩, h9⟩, fun z => absurd rfl z⟩
  refine m_X9_sum ⟨by omega, by omega⟩ fun _ => ?_
  exact hlp vs.length 0 (by omega)
theorem c_extreme {d : Nat} {Q : Int → g_M → Prop} {w : Int} (hw : w = 1 ∨ w = -1) (hso : g_O M so 9) (h1 : g_r M so 1 = some b) (hA : g_A M b 0 246408) (h10 : g_r M so 10 = some va) (hva : g_A M va 1 200) (hl : vs.length ≤ 200) (hlo : 82808 ≤ lo) (hlo2 : lo ≤ 123208) (hyl : yl ≤ 82800) (hv : G_vals b va lo yl vs M) (hq : ∀ p, G_at (g_i M b) lo yl p (G_ext w vs) → Q p M) : g_Call (d + 66) 160 [.ref so, g_n vs.length, g_n w] M (g_qI Q) := by
  have hwR : g_InR w := ⟨by omega, by omega⟩
  have hlp : ∀ (t i : Nat) (p : Int), i + t = vs.length → G_at (g_i M b) lo yl p (G_ext w (vs.take i)) → g_Run (d + 65) 160 5 [(0, .ref so), (1, g_n vs.length), (2, g_n w), (3, g_n p), (4, g_n i)] [] M (g_qI Q) := by
    intro t
    induction t with
    | zero =>
      intro i p hi hp
      rw [List.take_of_length_le (by omega)] at hp
      exact s_X9_extreme_5 ⟨by omega, by omega⟩ hwR hp.R ⟨by omega, by omega⟩ fun _ => ⟨fun z => absurd z (by omega), fun _ => hq p hp⟩
    | succ t ih =>
      intro i p hi hp
      obtain ⟨o, ho⟩ : ∃ o, vs[i]? = some o := ⟨_, List.getElem?_eq_getElem (by omega)⟩
      have htk : vs.take (i + 1) = vs.take i ++ [o] := by rw [List.take_add_one, ho]; rfl
      have hex : G_ext w (vs.take (i + 1)) = G_bt w (G_ext w (vs.take i)) o := by
        rw [htk]
        unfold G_ext
        rw [List.foldl_append]
        rfl
      have hvi := hv i o ho
      have hnx : ∀ p2, G_at (g_i M b) lo yl p2 (G_bt w (G_ext w (vs.take i)) o) → g_InR ((i : Int) + 1) ∧ g_Run (d + 65) 160 5 [(0, .ref so), (1, g_n vs.length), (2, g_n w), (3, g_n p2), (4, g_n ((i : Int) + 1))] [] M (g_qI Q) := by
        intro p2 h2
        rw [← hex] at h2
        refine ⟨⟨by omega, by omega⟩, ?_⟩
        have h9 := ih (i + 1) p2 (by omega) h2
        rwa [show ((i + 1 : Nat) : Int) = (i : Int) + 1 by omega] at h9
      refine s_X9_extreme_5 ⟨by omega, by omega⟩ hwR hp.R ⟨by omega, by omega⟩ fun _ => ⟨fun _ => ⟨hso, va, h10, _, hva, ⟨by omega, by omega⟩, fun g0 => hnx p ?_, fun g0 => ?_⟩, fun z => absurd (by omega) z⟩
      · rcases hvi with ⟨z1, z2⟩ | ⟨x, z1, z2⟩
        · rw [z1]
          exact hp
        · have := z2.R.2
          omega
      · rcases hvi with ⟨z1, z2⟩ | ⟨x, z1, z2⟩
        · omega
        have hvx : G_at (g_i M b) lo yl (g_i M va i) (some x) := Or.inr ⟨x, rfl, z2⟩
        rw [z1] at hnx
        rcases hp with ⟨z3, z4⟩ | ⟨z, z3, z4⟩
        · refine ⟨fun _ => ⟨va, h10, _, hva, ⟨by omega, by omega⟩, hnx _ ?_⟩, fun g1 => absurd (by omega) g1⟩
          rw [z3]
          exact hvx
        · have hz0 := z4.R.2
          have hzl := z2.len hlo hlo2 hyl
          obtain ⟨nm1, y1, -⟩ := id z2
          obtain ⟨nm2, y2, -⟩ := id z4
          refine ⟨fun g1 => absurd g1 (by omega), fun _ => ⟨b, h1, va, h10, _, hva, ⟨by omega, by omega⟩, b, h1, c_compare 30 (F := 60) (d := d + 1) hA hA (by decide) (by decide) hzl y1 y2 (by decide) (by decide) (by decide) ?_⟩⟩
          intro _ _ _
          have hr := (v_vc_T 61).r (x.1, x.2.2) (z.1, z.2.2)
          change v_cmp 61 x.1 x.2.2 z.1 z.2.2 = -1 ∨ v_cmp 61 x.1 x.2.2 z.1 z.2.2 = 0 ∨ v_cmp 61 x.1 x.2.2 z.1 z.2.2 = 1 at hr
          have hcm : v_cmp 61 x.1 x.2.2 z.1 z.2.2 * w = w * v_cmp 61 x.1 x.2.2 z.1 z.2.2 := Int.mul_comm _ _
          have hbt : G_bt w (G_ext w (vs.take i)) (some x) = if w * v_cmp 61 x.1 x.2.2 z.1 z.2.2 > 0 then some x else some z := by rw [z3]; rfl
          rw [hbt] at hnx
          refine ⟨by rcases hr with g | g | g <;> rcases hw with k | k <;> rw [g, k] <;> exact ⟨by decide, by decide⟩, fun g1 => ⟨va, h10, _, hva, ⟨by omega, by omega⟩, hnx _ ?_⟩, fun g1 => hnx p ?_⟩
          · rw [hcm] at g1
            rw [if_pos g1]
            exact hvx
          · rw [hcm] at g1
            rw [if_neg g1]
            exact Or.inr ⟨z, rfl, z4⟩
  refine m_X9_extreme ⟨by omega, by omega⟩ hwR fun _ => ?_
  exact hlp vs.length 0 (-1) (by omega) (Or.inl ⟨rfl, rfl⟩)
theorem c_writeValues {d : Nat} {Q : g_M → Prop} {once : Bool} {u : List Int} (hT : G_T so b po pf pt ou sc be fr ke gr va M) (hl : vs.length ≤ 200) (hlo : 82808 ≤ lo) (hlo2 : lo ≤ 123208) (hyl : yl ≤ 82800) (hv : G_vals b va lo yl vs M) (hW : c_Wr ou b 246408 lo (lo + 40400) u M) (hq : ∀ M1, e_fr (c_WL ou b lo (lo + 40400)) M M1 → c_Wr ou b 246408 lo (lo + 40400) (u ++ b_doc (G_row 0 (G_st once [] vs))) M1 → Q M1) : g_Call (d + 66) 161 [.ref so, g_n vs.length, g_n (if once = true then 1 else 0)] M (g_qV Q) := by
  obtain ⟨a1, a2, a3, a4, a5, a6, a7, a8⟩ := hT.1.n1
  obtain ⟨b1, b2, b3, b4, b5, b6, b7⟩ := hT.1.n2
  obtain ⟨vn1, vn2, vn3, vn4, vn5, vn6, vn7, vn8, vn9⟩ := hT.n va (Or.inr (Or.inr rfl))
  obtain ⟨⟨⟨s1, s2, s3⟩, w2, hp, ⟨w4, w5, w6, w7⟩, -, ⟨u1, u2⟩, -⟩, ⟨-, -, t3⟩, ⟨-, -, k3⟩, -⟩ := id hT
  have honR : g_InR (if once = true then 1 else 0) := by split <;> exact ⟨by decide, by decide⟩
  -- the objects under what is written
  have hO : ∀ {M2 : g_M}, e_fr (c_WL ou b lo (lo + 40400)) M M2 → g_O M2 so 9 ∧ g_r M2 so 1 = some b ∧ g_A M2 b 0 246408 ∧ g_r M2 so 4 = some ou ∧ g_O M2 ou 4 ∧ g_r M2 so 10 = some va ∧ g_A M2 va 1 200 ∧ G_vals b va lo yl vs M2 := by
    intro M2 f
    refine ⟨f.O s1, by rw [f.2.2]; exact s2, f.A s3, by rw [f.2.2]; exact w4, f.O u1, by rw [f.2.2]; exact t3, f.A k3, fun j o ho => ?_⟩
    rw [f.2.1 va j fun z => ?_]
    · refine (hv j o ho).kp (Nat.le_refl _) (fun k _ k2 => f.2.1 b k fun z => ?_) (by omega)
      rcases z with ⟨z, -⟩ | ⟨-, z⟩
      · exact b4 z
      · exact k2 z
    · rcases z with ⟨z, -⟩ | ⟨z, -⟩
      · exact vn6 z
      · exact vn2 z
  have hlp : ∀ (r : Int), g_InR r → w_r lo (lo + 40400) r u.length → ∀ (t i : Nat) (M2 : g_M), i + t = vs.length → e_fr (c_WL ou b lo (lo + 40400)) M M2 → c_Wr ou b 246408 lo (lo + 40400) (u ++ ([0, 0, 0, 0] ++ b_ser (G_row 0 (G_st once [] (vs.take i))))) M2 → g_Run (d + 65) 161 14 [(0, .ref so), (1, g_n vs.length), (2, g_n (if once = true then 1 else 0)), (3, g_n r), (4, g_n (G_st once [] (vs.take i)).length), (5, g_n i)] [] M2 (g_qV Q) := by
    intro r hrR hr t
    induction t with
    | zero =>
      intro i M2 hi f W
      obtain ⟨o1, o2, o3, o4, o5, o6, o7, o8⟩ := hO f
      rw [List.take_of_length_le (by omega)] at W ⊢
      have hgl := G_st_len (once := once) vs []
      refine s_X9_writeValues_14 ⟨by omega, by omega⟩ honR hrR ⟨by omega, by omega⟩ ⟨by omega, by omega⟩ fun _ => ⟨fun z => absurd z (by omega), fun _ => ⟨o1, ou, o4, o5, c_close (d := d + 63) W hr fun M5 f5 W5 => ?_⟩⟩
      intro _ _
      rw [← b_doc_app] at W5
      exact hq M5 (f.tr f5) W5
    | succ t ih =>
      intro i M2 hi f W
      obtain ⟨o1, o2, o3, o4, o5, o6, o7, o8⟩ := hO f
      obtain ⟨o, ho⟩ : ∃ o, vs[i]? = some o := ⟨_, List.getElem?_eq_getElem (by omega)⟩
      have htk : vs.take (i + 1) = vs.take i ++ [o] := by rw [List.take_add_one, ho]; rfl
      have hsn : G_st once [] (vs.take (i + 1)) = G_st once [] (vs.take i) ++ G_st once ((vs.take i).filterMap id) [o] := by
        rw [htk, G_st_snoc]
        rfl
      have hgl := G_st_len (once := once) (vs.take i) []
      rw [List.length_take] at hgl
      have hwR : g_InR ((G_st once [] (vs.take i)).length : Int) := ⟨by omega, by omega⟩
      have hvi := o8 i o ho
      have hnx : ∀ (M3 : g_M), e_fr (c_WL ou b lo (lo + 40400)) M M3 → c_Wr ou b 246408 lo (lo + 40400) (u ++ ([0, 0, 0, 0] ++ b_ser (G_row 0 (G_st once [] (vs.take (i + 1)))))) M3 → g_InR ((i : Int) + 1) ∧ g_Run (d + 65) 161 14 [(0, .ref so), (1, g_n vs.length), (2, g_n (if once = true then 1 else 0)), (3, g_n r), (4, g_n (G_st once [] (vs.take (i + 1))).length), (5, g_n ((i : Int) + 1))] [] M3 (g_qV Q) := by
        intro M3 f3 W3
        refine ⟨⟨by omega, by omega⟩, ?_⟩
        have h9 := ih (i + 1) M3 (by omega) f3 W3
        rwa [show ((i + 1 : Nat) : Int) = (i : Int) + 1 by omega] at h9
      -- it stays, or not
      have h108 : ∀ (w6 w7 : Int), g_InR w7 → ((w6 = 0 ∧ G_st once ((vs.take i).filterMap id) [o] = []) ∨ (w6 = 1 ∧ ∃ x, o = some x ∧ G_st once ((vs.take i).filterMap id) [o] = [x])) → g_Run (d + 65) 161 108 [(0, .ref so), (1, g_n vs.length), (2, g_n (if once = true then 1 else 0)), (3, g_n r), (4, g_n (G_st once [] (vs.take i)).length), (5, g_n i), (6, g_n w6), (7, g_n w7)] [] M2 (g_qV Q) := by
        intro w6 w7 h7R hc
        rcases hc with ⟨rfl, h2⟩ | ⟨rfl, x, hx, h2⟩
        · rw [h2, List.append_nil] at hsn
          rw [hsn] at hnx
          exact s_X9_writeValues_108 ⟨by omega, by omega⟩ honR hrR hwR ⟨by omega, by omega⟩ ⟨by decide, by decide⟩ h7R fun _ => ⟨fun _ => hnx M2 f W, fun z => absurd rfl z⟩
        · rw [h2] at hsn
          rw [hx] at hvi
          rcases hvi with ⟨z, -⟩ | ⟨x', z1, nm, z2, z3⟩
          · exact absurd z (by simp)
          have z1' := Option.some.inj z1
          subst z1'
          obtain ⟨kd1, kd2⟩ := G_kd z2.2.2.1
          refine s_X9_writeValues_108 ⟨by omega, by omega⟩ honR hrR hwR ⟨by omega, by omega⟩ ⟨by decide, by decide⟩ h7R fun _ => ⟨fun z => absurd z (by decide), fun _ => ⟨o1, ou, o4, b, o2, va, o6, _, o7, ⟨by omega, by omega⟩, c_kd2 (d := d + 64) o3 (by decide) z2 ?_⟩⟩
          intro _ _ _
          refine ⟨o5, c_item (d := d + 63) W kd1 kd2 (by omega) fun M18 f18 W18 => ?_⟩
          intro _ _
          have f18' := f.tr f18
          obtain ⟨p1, p2, p3, p4, p5, p6, p7, p8⟩ := hO f18'
          have hvi2 := p8 i o ho
          rw [hx] at hvi2
          rcases hvi2 with ⟨z, -⟩ | ⟨x', y1, nm2, y2, -⟩
          · exact absurd z (by simp)
          have y1' := Option.some.inj y1
          subst y1'
          refine ⟨ou, p4, b, p2, va, p6, _, p7, ⟨by omega, by omega⟩, p5, c_outVal (d := d + 63) W18 p3 (by decide) y2 fun M31 f31 W31 => ?_⟩
          intro _ _
          refine ⟨⟨by omega, by omega⟩, ?_⟩
          have h9 := hnx M31 (f18'.tr f31) (by
            rw [hsn, G_row_snoc, b_ser_app, b_ser_1, Nat.zero_add]
            have ew : u ++ ([0, 0, 0, 0] ++ b_ser (G_row 0 (G_st once [] (vs.take i)))) ++ (x.1 :: (b_dg (G_st once [] (vs.take i)).length ++ [0])) ++ x.2.2 = u ++ ([0, 0, 0, 0] ++ (b_ser (G_row 0 (G_st once [] (vs.take i))) ++ b_el x.1 (b_dg (G_st once [] (vs.take i)).length) x.2.2)) := by
              unfold b_el
              simp
            rw [ew] at W31
            exact W31)
          rw [hsn, List.length_append, List.length_singleton] at h9
          rwa [show (((G_st once [] (vs.take i)).length + 1 : Nat) : Int) = ((G_st once [] (vs.take i)).length : Int) + 1 by omega] at h9
      rcases hvi with ⟨z1, z2⟩ | ⟨x, z1, z2⟩
      · -- no value
        have hnone : G_st once ((vs.take i).filterMap id) [o] = [] := by rw [z1]; rfl
        refine s_X9_writeValues_14 ⟨by omega, by omega⟩ honR hrR hwR ⟨by omega, by omega⟩ fun _ => ⟨fun _ => ⟨o1, va, o6, _, o7, ⟨by omega, by omega⟩, fun _ => ?_, fun g => absurd (by omega) g⟩, fun z => absurd (by omega) z⟩
        refine s_X9_writeValues_40 ⟨by omega, by omega⟩ honR hrR hwR ⟨by omega, by omega⟩ ⟨by decide, by decide⟩ ⟨by decide, by decide⟩ fun _ => ⟨fun _ => ⟨fun _ => h108 0 0 ⟨by decide, by decide⟩ (Or.inl ⟨rfl, hnone⟩), fun _ => ⟨fun _ => h108 0 0 ⟨by decide, by decide⟩ (Or.inl ⟨rfl, hnone⟩), fun g => absurd rfl g⟩⟩, fun _ => h108 0 0 ⟨by decide, by decide⟩ (Or.inl ⟨rfl, hnone⟩)⟩
      · have hx0 := z2.R.2
        have hG : G_st once ((vs.take i).filterMap id) [o] = if once = true ∧ (((vs.take i).filterMap id).any fun z => F_eq z x) = true then [] else [x] := by
          rw [z1]
          show (if _ then _ else _) = _
          rfl
        refine s_X9_writeValues_14 ⟨by omega, by omega⟩ honR hrR hwR ⟨by omega, by omega⟩ fun _ => ⟨fun _ => ⟨o1, va, o6, _, o7, ⟨by omega, by omega⟩, fun g => absurd g (by omega), fun _ => ?_⟩, fun z => absurd (by omega) z⟩
        cases once with
        | false =>
          rw [if_neg (by simp)] at hG
          have hend := fun w7 h7 => h108 1 w7 h7 (Or.inr ⟨rfl, x, z1, hG⟩)
          exact s_X9_writeValues_40 ⟨by omega, by omega⟩ honR hrR hwR ⟨by omega, by omega⟩ ⟨by decide, by decide⟩ ⟨by decide, by decide⟩ fun _ => ⟨fun _ => ⟨fun _ => hend 0 ⟨by decide, by decide⟩, fun g => absurd rfl g⟩, fun _ => hend 0 ⟨by decide, by decide⟩⟩
        | true =>
          -- the earlier ones
          have hin : ∀ (t2 k : Nat), k + t2 = i → (((vs.take k).filterMap id).any fun z => F_eq z x) = false → g_Run (d + 65) 161 40 [(0, .ref so), (1, g_n vs.length), (2, g_n (if true = true then 1 else 0)), (3, g_n r), (4, g_n (G_st true [] (vs.take i)).length), (5, g_n i), (6, g_n 1), (7, g_n k)] [] M2 (g_qV Q) := by
            intro t2
            induction t2 with
            | zero =>
              intro k hk hn
              have hki : k = i := by omega
              rw [hki] at hn
              rw [hn, if_neg (by simp)] at hG
              exact s_X9_writeValues_40 ⟨by omega, by omega⟩ honR hrR hwR ⟨by omega, by omega⟩ ⟨by decide, by decide⟩ ⟨by omega, by omega⟩ fun _ => ⟨fun g => absurd g (by omega), fun _ => h108 1 k ⟨by omega, by omega⟩ (Or.inr ⟨rfl, x, z1, hG⟩)⟩
            | succ t2 ih2 =>
              intro k hk hn
              obtain ⟨o', ho'⟩ : ∃ o', vs[k]? = some o' := ⟨_, List.getElem?_eq_getElem (by omega)⟩
              have htk' : vs.take (k + 1) = vs.take k ++ [o'] := by rw [List.take_add_one, ho']; rfl
              have hks : (((vs.take (k + 1)).filterMap id).any fun z => F_eq z x) = ((((vs.take k).filterMap id).any fun z => F_eq z x) || (([o'].filterMap id).any fun z => F_eq z x)) := by
                rw [htk', List.filterMap_append, List.any_append]
              have hnx2 : (([o'].filterMap id).any fun z => F_eq z x) = false → g_InR ((k : Int) + 1) ∧ g_Run (d + 65) 161 40 [(0, .ref so), (1, g_n vs.length), (2, g_n (if true = true then 1 else 0)), (3, g_n r), (4, g_n (G_st true [] (vs.take i)).length), (5, g_n i), (6, g_n 1), (7, g_n ((k : Int) + 1))] [] M2 (g_qV Q) := by
                intro h
                refine ⟨⟨by omega, by omega⟩, ?_⟩
                have h9 := ih2 (k + 1) (by omega) (by rw [hks, hn, h]; rfl)
                rwa [show ((k + 1 : Nat) : Int) = (k : Int) + 1 by omega] at h9
              refine s_X9_writeValues_40 ⟨by omega, by omega⟩ honR hrR hwR ⟨by omega, by omega⟩ ⟨by decide, by decide⟩ ⟨by omega, by omega⟩ fun _ => ⟨fun _ => ⟨fun g => absurd g (by decide), fun _ => ⟨fun g => absurd g (by decide), fun _ => ⟨o1, va, o6, _, o7, ⟨by omega, by omega⟩, fun g => hnx2 ?_, fun g => ?_⟩⟩⟩, fun g => absurd (by omega) g⟩
              · rcases o8 k o' ho' with ⟨y1, -⟩ | ⟨x', y1, y2⟩
                · rw [y1]
                  rfl
                · have := y2.R.2
                  omega
              · rcases o8 k o' ho' with ⟨-, y2⟩ | ⟨x', y1, y2⟩
                · omega
                obtain ⟨nm1, q1, -⟩ := id y2
                obtain ⟨nm2, q2, -⟩ := id z2
                refine ⟨b, o2, va, o6, _, o7, ⟨by omega, by omega⟩, b, o2, va, o6, _, o7, ⟨by omega, by omega⟩, c_compare 30 (F := 60) (d := d + 1) o3 o3 (by decide) (by decide) (y2.len hlo hlo2 hyl) q1 q2 (by decide) (by decide) (by decide) ?_⟩
                intro _ _ _
                have hone : (([o'].filterMap id).any fun z => F_eq z x) = F_eq x' x := by
                  rw [y1]
                  show (F_eq x' x || false) = _
                  rw [Bool.or_false]
                refine ⟨fun g1 => ⟨⟨by omega, by omega⟩, ?_⟩, fun g1 => hnx2 (by rw [hone]; exact decide_eq_false g1)⟩
                -- the same stood ahead
                have hyes : (((vs.take i).filterMap id).any fun z => F_eq z x) = true := by
                  rw [List.any_eq_true]
                  refine ⟨x', ?_, decide_eq_true g1⟩
                  rw [List.mem_filterMap]
                  refine ⟨some x', ?_, rfl⟩
                  rw [← y1]
                  exact List.mem_of_getElem? (i := k) (by rw [List.getElem?_take, if_pos (by omega)]; exact ho')
                rw [hyes, if_pos ⟨rfl, rfl⟩] at hG
                refine s_X9_writeValues_40 ⟨by omega, by omega⟩ honR hrR hwR ⟨by omega, by omega⟩ ⟨by decide, by decide⟩ ⟨by omega, by omega⟩ fun _ => ⟨fun _ => ⟨fun g => absurd g (by decide), fun _ => ⟨fun _ => h108 0 _ ⟨by omega, by omega⟩ (Or.inl ⟨rfl, hG⟩), fun g => absurd rfl g⟩⟩, fun _ => h108 0 _ ⟨by omega, by omega⟩ (Or.inl ⟨rfl, hG⟩)⟩
          exact hin i 0 (by omega) rfl
  refine m_X9_writeValues ⟨by omega, by omega⟩ honR fun _ => ⟨s1, ou, w4, u1, c_open (d := d + 63) hW fun r M5 f5 W5 hr => ?_⟩
  intro _ _ hrR
  refine hlp r hrR hr vs.length 0 M5 (by omega) f5 ?_
  have : b_ser (G_row 0 (G_st once [] (vs.take 0))) = [] := rfl
  rw [this, List.append_nil]
  exact W5
end GSAY
