/-! EXPLAIN, PURE: intervals up to ends that are the SAME -/
def D_ci (a b : Int) : Int := if a < b then -1 else if b < a then 1 else 0
theorem D_ci_l {a b : Int} (h : a < b) : D_ci a b = -1 := if_pos h
theorem D_ci_g {a b : Int} (h : b < a) : D_ci a b = 1 := by
  unfold D_ci
  rw [if_neg (by omega), if_pos h]
theorem D_ci_e {a b : Int} (h : a = b) : D_ci a b = 0 := by
  unfold D_ci
  rw [if_neg (by omega), if_neg (by omega)]
theorem D_ci_3 (a b : Int) : (a < b ∧ D_ci a b = -1) ∨ (a = b ∧ D_ci a b = 0) ∨ (b < a ∧ D_ci a b = 1) := by
  by_cases h : a < b
  · exact Or.inl ⟨h, D_ci_l h⟩
  · by_cases g : b < a
    · exact Or.inr (Or.inr ⟨g, D_ci_g g⟩)
    · exact Or.inr (Or.inl ⟨by omega, D_ci_e (by omega)⟩)
theorem D_ci_T : v_T D_ci := by
  refine ⟨fun x y => ?_, fun x y => ?_, fun x y z h1 h2 => ?_⟩
  · rcases D_ci_3 x y with h | h | h
    · exact Or.inl h.2
    · exact Or.inr (Or.inl h.2)
    · exact Or.inr (Or.inr h.2)
  · have a := D_ci_3 x y
    have b := D_ci_3 y x
    omega
  · have a := D_ci_3 x y
    have b := D_ci_3 y z
    have c := D_ci_3 x z
    omega
theorem D_c_eq (e f : D_e) : D_c e f = if (if D_ci e.1 f.1 = 0 then D_ci e.2.1 f.2.1 else D_ci e.1 f.1) = 0 then (if e.2.1 = 1 then v_cmp 61 e.2.2.2.1 e.2.2.2.2.2 f.2.2.2.1 f.2.2.2.2.2 else 0) else (if D_ci e.1 f.1 = 0 then D_ci e.2.1 f.2.1 else D_ci e.1 f.1) := by
  have z1 : ¬ (-1 : Int) = 0 := by decide
  have z2 : ¬ (1 : Int) = 0 := by decide
  unfold D_c
  by_cases a : e.1 < f.1
  · rw [if_pos a, D_ci_l a, if_neg z1, if_neg z1]
  · rw [if_neg a]
    by_cases b : f.1 < e.1
    · rw [if_pos b, D_ci_g b, if_neg z2, if_neg z2]
    · rw [if_neg b, D_ci_e (show e.1 = f.1 by omega), if_pos rfl]
      by_cases c : e.2.1 < f.2.1
      · rw [if_pos c, D_ci_l c, if_neg z1]
      · rw [if_neg c]
        by_cases k : f.2.1 < e.2.1
        · rw [if_pos k, D_ci_g k, if_neg z2]
        · rw [if_neg k, D_ci_e (show e.2.1 = f.2.1 by omega), if_pos rfl]
theorem D_c_T : v_T D_c := by
  have h1 : v_T (fun e f : D_e => D_ci e.1 f.1) := D_ci_T.pb (fun e : D_e => e.1)
  have h2 : v_T (fun e f : D_e => D_ci e.2.1 f.2.1) := D_ci_T.pb (fun e : D_e => e.2.1)
  have h3 := h1.th h2
  have h4 := h3.tl (c2 := fun (i : Int) (e f : D_e) => if i = 1 then v_cmp 61 e.2.2.2.1 e.2.2.2.2.2 f.2.2.2.1 f.2.2.2.2.2 else 0) (fun e : D_e => e.2.1) (fun x y hxy => by
    have a := D_ci_3 x.1 y.1
    have b := D_ci_3 x.2.1 y.2.1
    by_cases g : D_ci x.1 y.1 = 0
    · rw [if_pos g] at hxy
      omega
    · rw [if_neg g] at hxy
      exact absurd hxy g) (fun i => by
    by_cases g : i = 1
    · have e : (fun (e f : D_e) => if i = 1 then v_cmp 61 e.2.2.2.1 e.2.2.2.2.2 f.2.2.2.1 f.2.2.2.2.2 else 0) = fun (e f : D_e) => v_cmp 61 e.2.2.2.1 e.2.2.2.2.2 f.2.2.2.1 f.2.2.2.2.2 := by
        funext e f
        exact if_pos g
      rw [e]
      exact (v_vc_T 61).pb (fun e : D_e => (e.2.2.2.1, e.2.2.2.2.2))
    · have e : (fun (e f : D_e) => if i = 1 then v_cmp 61 e.2.2.2.1 e.2.2.2.2.2 f.2.2.2.1 f.2.2.2.2.2 else 0) = fun (_ _ : D_e) => (0 : Int) := by
        funext e f
        exact if_neg g
      rw [e]
      exact v_T.zero)
  have e : D_c = fun (e f : D_e) => if (if D_ci e.1 f.1 = 0 then D_ci e.2.1 f.2.1 else D_ci e.1 f.1) = 0 then (if e.2.1 = 1 then v_cmp 61 e.2.2.2.1 e.2.2.2.2.2 f.2.2.2.1 f.2.2.2.2.2 else 0) else (if D_ci e.1 f.1 = 0 then D_ci e.2.1 f.2.1 else D_ci e.1 f.1) := by
    funext e f
    exact D_c_eq e f
  rw [e]
  exact h4
theorem D_c_0 {e f : D_e} (h : D_c e f = 0) : e.1 = f.1 ∧ e.2.1 = f.2.1 := by
  rw [D_c_eq] at h
  have a := D_ci_3 e.1 f.1
  have b := D_ci_3 e.2.1 f.2.1
  by_cases g : D_ci e.1 f.1 = 0
  · rw [if_pos g] at h
    by_cases g2 : D_ci e.2.1 f.2.1 = 0
    · exact ⟨by omega, by omega⟩
    · rw [if_neg g2] at h
      exact absurd h g2
  · rw [if_neg g, if_neg g] at h
    exact absurd h g
/-- two lists, one by one -/
def D_2 {α β : Type} (R : α → β → Prop) : List α → List β → Prop
  | [], [] => True
  | a :: l, b :: m => R a b ∧ D_2 R l m
  | [], _ :: _ => False
  | _ :: _, [] => False
section DII
variable {α β γ ι : Type} {R : α → β → Prop} {S : γ → ι → Prop}
theorem D_2.len : ∀ {l : List α} {m : List β}, D_2 R l m → l.length = m.length
  | [], [], _ => rfl
  | _ :: _, _ :: _, h => by rw [List.length_cons, List.length_cons, h.2.len]
  | [], _ :: _, h => h.elim
  | _ :: _, [], h => h.elim
theorem D_2.app : ∀ {l : List α} {m : List β} {l2 : List α} {m2 : List β}, D_2 R l m → D_2 R l2 m2 → D_2 R (l ++ l2) (m ++ m2)
  | [], [], _, _, _, h2 => h2
  | _ :: _, _ :: _, _, _, h, h2 => ⟨h.1, h.2.app h2⟩
  | [], _ :: _, _, _, h, _ => h.elim
  | _ :: _, [], _, _, h, _ => h.elim
theorem D_2.fm {f : α → List γ} {g : β → List ι} (hf : ∀ a b, R a b → D_2 S (f a) (g b)) : ∀ {l : List α} {m : List β}, D_2 R l m → D_2 S (l.flatMap f) (m.flatMap g)
  | [], [], _ => trivial
  | a :: l, b :: m, h => by
    rw [List.flatMap_cons, List.flatMap_cons]
    exact (hf a b h.1).app (D_2.fm hf h.2)
  | [], _ :: _, h => h.elim
  | _ :: _, [], h => h.elim
theorem D_2.mp {f : α → γ} {g : β → ι} (hf : ∀ a b, R a b → S (f a) (g b)) : ∀ {l : List α} {m : List β}, D_2 R l m → D_2 S (l.map f) (m.map g)
  | [], [], _ => trivial
  | a :: _, b :: _, h => ⟨hf a b h.1, D_2.mp hf h.2⟩
  | [], _ :: _, h => h.elim
  | _ :: _, [], h => h.elim
theorem D_2.any {f : α → Bool} {g : β → Bool} (hf : ∀ a b, R a b → f a = g b) : ∀ {l : List α} {m : List β}, D_2 R l m → l.any f = m.any g
  | [], [], _ => rfl
  | a :: _, b :: _, h => by rw [List.any_cons, List.any_cons, hf a b h.1, D_2.any hf h.2]
  | [], _ :: _, h => h.elim
  | _ :: _, [], h => h.elim
theorem D_2.all {f : α → Bool} {g : β → Bool} (hf : ∀ a b, R a b → f a = g b) : ∀ {l : List α} {m : List β}, D_2 R l m → l.all f = m.all g
  | [], [], _ => rfl
  | a :: _, b :: _, h => by rw [List.all_cons, List.all_cons, hf a b h.1, D_2.all hf h.2]
  | [], _ :: _, h => h.elim
  | _ :: _, [], h => h.elim
theorem D_2.up {R2 : α → β → Prop} (hf : ∀ a b, R a b → R2 a b) : ∀ {l : List α} {m : List β}, D_2 R l m → D_2 R2 l m
  | [], [], _ => trivial
  | a :: _, b :: _, h => ⟨hf a b h.1, D_2.up hf h.2⟩
  | [], _ :: _, h => h.elim
  | _ :: _, [], h => h.elim
theorem D_2.tr {R2 : β → γ → Prop} {R3 : α → γ → Prop} (hf : ∀ a b c, R a b → R2 b c → R3 a c) : ∀ {l : List α} {m : List β} {n : List γ}, D_2 R l m → D_2 R2 m n → D_2 R3 l n
  | [], [], [], _, _ => trivial
  | a :: _, b :: _, c :: _, h, h2 => ⟨hf a b c h.1 h2.1, D_2.tr hf h.2 h2.2⟩
  | [], _ :: _, _, h, _ => h.elim
  | _ :: _, [], _, h, _ => h.elim
  | _, [], _ :: _, _, h => h.elim
  | _, _ :: _, [], _, h => h.elim
theorem D_2.rf {R : α → α → Prop} (hf : ∀ a, R a a) : ∀ {l : List α}, D_2 R l l
  | [] => trivial
  | a :: _ => ⟨hf a, D_2.rf hf⟩
end DII
/-- two intervals are the same but for which of two values that are the SAME they name -/
def D_R (x y : D_i) : Prop := D_c (D_lo x) (D_lo y) = 0 ∧ x.2.2.1 = y.2.2.1 ∧ D_c (D_hi x) (D_hi y) = 0 ∧ x.2.2.2.2 = y.2.2.2.2
theorem D_R.rf (x : D_i) : D_R x x := ⟨D_c_T.rf _, rfl, D_c_T.rf _, rfl⟩
theorem D_R.sy {x y : D_i} (h : D_R x y) : D_R y x := ⟨D_c_T.e0 h.1, h.2.1.symm, D_c_T.e0 h.2.2.1, h.2.2.2.symm⟩
theorem D_R.tr {x y z : D_i} (h : D_R x y) (h2 : D_R y z) : D_R x z := ⟨by rw [D_c_T.cg h.1 (D_c_T.rf (D_lo z))]; exact h2.1, h.2.1.trans h2.2.1, by rw [D_c_T.cg h.2.2.1 (D_c_T.rf (D_hi z))]; exact h2.2.2.1, h.2.2.2.trans h2.2.2.2⟩
theorem D_R.c1 {x y : D_i} (h : D_R x y) : x.1 = y.1 := by
  have := (D_c_0 h.1).1
  rwa [D_lo_1, D_lo_1] at this
theorem D_mt_R {x x2 y y2 : D_i} (hx : D_R x x2) (hy : D_R y y2) : D_2 D_R (D_mt x y) (D_mt x2 y2) := by
  have elo : D_c (D_lo x) (D_lo y) = D_c (D_lo x2) (D_lo y2) := D_c_T.cg hx.1 hy.1
  have ehi : D_c (D_hi x) (D_hi y) = D_c (D_hi x2) (D_hi y2) := D_c_T.cg hx.2.2.1 hy.2.2.1
  have e1 : D_c (D_one x y) (D_one x2 y2) = 0 := by
    unfold D_one
    rw [elo]
    split
    · exact hy.1
    · exact hx.1
  have e2 : D_c (D_two x y) (D_two x2 y2) = 0 := by
    unfold D_two
    rw [ehi]
    split
    · exact hy.2.2.1
    · exact hx.2.2.1
  have i1 : D_1in x y = D_1in x2 y2 := by
    unfold D_1in
    rw [elo, hx.2.1, hy.2.1]
  have i2 : D_2in x y = D_2in x2 y2 := by
    unfold D_2in
    rw [ehi, hx.2.2.2, hy.2.2.2]
  have hk : D_kp x y = D_kp x2 y2 := by
    unfold D_kp
    rw [D_c_T.cg e1 e2, i1, i2]
  unfold D_mt
  rw [← hk]
  by_cases g : D_kp x y = true
  · rw [if_pos g, if_pos g]
    have r1 := D_rs_ends g
    rw [hk] at g
    have r2 := D_rs_ends g
    exact ⟨⟨by rw [r1.1, r2.1]; exact e1, i1, by rw [r1.2, r2.2]; exact e2, i2⟩, trivial⟩
  · rw [if_neg g, if_neg g]
    trivial
theorem D_mts_R {A A2 B B2 : List D_i} (hA : D_2 D_R A A2) (hB : D_2 D_R B B2) : D_2 D_R (D_mts A B) (D_mts A2 B2) := D_2.fm (R := D_R) (S := D_R) (f := fun x => D_mtr x B) (g := fun x => D_mtr x B2) (fun x x2 hx => D_2.fm (R := D_R) (S := D_R) (f := D_mt x) (g := D_mt x2) (fun _ _ hy => D_mt_R hx hy) hB) hA
theorem D_w_R {x y : D_i} {e f : D_e} (h : D_R x y) (he : D_c e f = 0) : D_w x e = D_w y f := by
  unfold D_w
  rw [D_c_T.cg h.1 he, D_c_T.cg he h.2.2.1, h.2.1, h.2.2.2]
theorem D_isp_R {x y : D_i} (h : D_R x y) : D_isp x = D_isp y := by
  have hp : ∀ x : D_i, D_isp x = decide ((D_lo x).2.1 = 1 ∧ (D_hi x).2.1 = 1 ∧ D_c (D_lo x) (D_hi x) = 0) := by
    rintro ⟨c, lo, li, hi, hj⟩
    cases lo with
    | none => exact (decide_eq_false fun z => absurd z.1 (show ¬ (0 : Int) = 1 by decide)).symm
    | some y =>
      cases hi with
      | none => exact (decide_eq_false fun z => absurd z.2.1 (show ¬ (2 : Int) = 1 by decide)).symm
      | some w =>
        show F_eq y.2 w.2 = _
        have e : D_c (c, 1, y) (c, 1, w) = v_cmp 61 y.2.1 y.2.2.2 w.2.1 w.2.2.2 := by
          exact (if_neg (Int.lt_irrefl c)).trans ((if_neg (Int.lt_irrefl c)).trans ((if_neg (Int.lt_irrefl 1)).trans ((if_neg (Int.lt_irrefl 1)).trans (if_pos rfl))))
        unfold F_eq
        refine decide_eq_decide.mpr ⟨fun z => ⟨rfl, rfl, e.trans z⟩, fun z => e.symm.trans z.2.2⟩
  rw [hp, hp, (D_c_0 h.1).2, (D_c_0 h.2.2.1).2, D_c_T.cg h.1 h.2.2.1]
/-- bounds up to SAME ends -/
def D_O : Option (List D_i) → Option (List D_i) → Prop
  | none, none => True
  | some A, some B => D_2 D_R A B
  | none, some _ => False
  | some _, none => False
theorem D_O.gd : ∀ {a b : Option (List D_i)}, D_O a b → D_2 D_R (a.getD []) (b.getD [])
  | none, none, _ => trivial
  | some _, some _, h => h
  | none, some _, h => h.elim
  | some _, none, h => h.elim
theorem D_O.tr : ∀ {a b c : Option (List D_i)}, D_O a b → D_O b c → D_O a c
  | none, none, none, _, _ => trivial
  | some _, some _, some _, h, h2 => D_2.tr (R := D_R) (R2 := D_R) (R3 := D_R) (fun _ _ _ g g2 => g.tr g2) h h2
  | none, some _, _, h, _ => h.elim
  | some _, none, _, h, _ => h.elim
  | _, none, some _, _, h => h.elim
  | _, some _, none, _, h => h.elim
theorem D_rk_O : ∀ {a a2 b b2 : Option (List D_i)}, D_O a a2 → D_O b b2 → D_rk a b = D_rk a2 b2 ∧ D_rn a b = D_rn a2 b2
  | none, none, _, _, _, _ => ⟨rfl, rfl⟩
  | some A, some A2, b, b2, ha, hb => by
    have e1 : A.all D_isp = A2.all D_isp := D_2.all (R := D_R) (fun _ _ h => D_isp_R h) ha
    have e2 : A.length = A2.length := D_2.len ha
    unfold D_rk D_rn
    simp only [e1, e2]
    by_cases g : A2.all D_isp = true
    · rw [if_pos g, if_pos g, if_pos g, if_pos g]
      cases b with
      | none => cases b2 with
        | none => exact ⟨rfl, rfl⟩
        | some _ => exact hb.elim
      | some B => cases b2 with
        | none => exact hb.elim
        | some B2 =>
          have e3 : B.length = B2.length := D_2.len hb
          exact ⟨rfl, by show (A2.length : Int) * (B.length : Int) = (A2.length : Int) * (B2.length : Int); rw [e3]⟩
    · rw [if_neg g, if_neg g, if_neg g, if_neg g]
      exact ⟨rfl, rfl⟩
  | none, some _, _, _, h, _ => h.elim
  | some _, none, _, _, h, _ => h.elim
theorem D_lkd_O {V : I_V} {a a2 b b2 : Option (List D_i)} (ha : D_O a a2) (hb : D_O b b2) (es : List b_E) : D_lkd V a b es = D_lkd V a2 b2 es := by
  have hk : ∀ {A B : List D_i}, D_2 D_R A B → D_ink A = D_ink B := fun h => by
    funext k
    exact D_2.any (R := D_R) (fun _ _ g => D_w_R g (D_c_T.rf _)) h
  unfold D_lkd
  rw [hk ha.gd, hk hb.gd, (D_rk_O ha hb).1]
