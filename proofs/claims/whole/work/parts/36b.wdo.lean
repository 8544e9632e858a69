/-! WHAT A REQUEST DOES, PURE -/
/-- the state: indexes, documents with numbers, last numbers -/
abbrev W_S := (Nat → I_T) × (Nat → List (Int × List b_E)) × (Nat → Int)
/-- fault (0: none) and its place, the answer's elements, the state -/
abbrev W_R := (Int × Int) × List Int × W_S
def W_f (S : W_S) (c p : Int) : W_R := ((c, p), [], S)
noncomputable def W_p (h : b_E) : List b_E → Bool := fun es => (F_X 20).1 (b_ch h.2.2) (3, [], b_doc es)
/-- after a filter was found right -/
noncomputable def W_K (q : Int) (h : b_E) (S : W_S) (R : W_R) : W_R := if ((K_F 20).1 (L_ch q h) 0).1 = 0 then R else W_f S (10 + ((K_F 20).1 (L_ch q h) 0).1) ((K_F 20).1 (L_ch q h) 0).2.1
noncomputable def W_ins (w : Nat) (h : b_E) (S : W_S) : W_R := @ite _ ((S.2.1 w).length < 200 ∧ S_sum ((S.2.1 w).map Prod.snd) + h.2.2.length ≤ 40000 ∧ ∀ x, 4 * w ≤ x → x < 4 * w + 4 → I_fit (b_ch h.2.2) (S.1 x)) (Classical.propDecidable _) ((0, 0), b_el 16 (b_tx 13) (b_le4 (S.2.2 w + 1)), I_lp (I_add1 (b_ch h.2.2) (S.2.2 w + 1)) w S.1 (4 * w + 4), H_up S.2.1 w (S.2.1 w ++ [(S.2.2 w + 1, b_ch h.2.2)]), H_up S.2.2 w (S.2.2 w + 1)) (W_f S 40 (-1))
noncomputable def W_find (q : Int) (w : Nat) (h : b_E) (S : W_S) : W_R := W_K q h S ((0, 0), P_an (((S.2.1 w).filter fun z => W_p h z.2).map F_tel), S)
noncomputable def W_cnt (q : Int) (w : Nat) (h : b_E) (S : W_S) : W_R := W_K q h S ((0, 0), b_el 16 (b_tx 29) (b_le4 (((S.2.1 w).filter fun z => W_p h z.2).length : Nat)), S)
noncomputable def W_del (q : Int) (w : Nat) (h : b_E) (S : W_S) : W_R := W_K q h S ((0, 0), b_el 16 (b_tx 29) (b_le4 (((S.2.1 w).filter fun z => W_p h z.2).length : Nat)), I_lp (I_rem (Z_h (W_p h) (S.2.1 w))) w S.1 (4 * w + 4), H_up S.2.1 w (Z_k (Z_h (W_p h) (S.2.1 w))), S.2.2)
/-- the first document for which a change is faulty -/
def W_bad (p : List b_E → Bool) (g : List b_E → Int × Int) : List (Int × List b_E) → Option (Int × Int)
  | [] => none
  | z :: r => if p z.2 = true ∧ (g z.2).1 ≠ 0 then some (g z.2) else W_bad p g r
theorem W_bad_n {p : List b_E → Bool} {g : List b_E → Int × Int} : ∀ {l : List (Int × List b_E)}, (∀ z ∈ l, p z.2 = true → (g z.2).1 = 0) → W_bad p g l = none
  | [], _ => rfl
  | z :: r, h => by
    have e : W_bad p g (z :: r) = if p z.2 = true ∧ (g z.2).1 ≠ 0 then some (g z.2) else W_bad p g r := rfl
    rw [e, if_neg fun k => k.2 (h z List.mem_cons_self k.1)]
    exact W_bad_n fun y hy => h y (List.mem_cons_of_mem _ hy)
theorem W_bad_s {p : List b_E → Bool} {g : List b_E → Int × Int} : ∀ {l : List (Int × List b_E)} {i : Nat} {z : Int × List b_E}, l[i]? = some z → p z.2 = true → (g z.2).1 ≠ 0 → (∀ (j : Nat) (y : Int × List b_E), j < i → l[j]? = some y → p y.2 = true → (g y.2).1 = 0) → W_bad p g l = some (g z.2)
  | [], i, z, h, _, _, _ => absurd h (by simp)
  | y :: r, 0, z, h, h1, h2, _ => by
    have h : y = z := Option.some.inj h
    have e : W_bad p g (y :: r) = if p y.2 = true ∧ (g y.2).1 ≠ 0 then some (g y.2) else W_bad p g r := rfl
    rw [e, h, if_pos ⟨h1, h2⟩]
  | y :: r, i + 1, z, h, h1, h2, h3 => by
    have e : W_bad p g (y :: r) = if p y.2 = true ∧ (g y.2).1 ≠ 0 then some (g y.2) else W_bad p g r := rfl
    rw [e, if_neg fun k => k.2 (h3 0 y (Nat.succ_pos i) rfl k.1)]
    exact W_bad_s (i := i) h h1 h2 fun j x hj hx => h3 (j + 1) x (Nat.succ_lt_succ hj) hx
noncomputable def W_upd (q q2 : Int) (w : Nat) (h t : b_E) (S : W_S) : W_R := W_K q h S (if (Y_os [] (L_ch q2 t)).1 = 0 then (match W_bad (W_p h) (fun es => (U_R q2 (q2 + 6 + t.2.1.length) (b_ch t.2.2) es).1) (S.2.1 w) with
  | some c => W_f S (20 + c.1) c.2
  | none => @ite _ (V_Fit (W_p h) (q2 + 6 + t.2.1.length) (b_ch t.2.2) S.1 w (S.2.1 w)) (Classical.propDecidable _) ((0, 0), b_el 16 (b_tx 29) (b_le4 (((S.2.1 w).filter fun z => W_p h z.2).length : Nat)) ++ b_el 16 (b_tx 38) (b_le4 (((S.2.1 w).filter fun z => U_al (W_p h) (q2 + 6 + t.2.1.length) (b_ch t.2.2) z.2).length : Nat)), I_lp (fun k => I_inn (V_z2 (W_p h) (q2 + 6 + t.2.1.length) (b_ch t.2.2) (S.2.1 w)) (I_rem (V_z1 (W_p h) (q2 + 6 + t.2.1.length) (b_ch t.2.2) (S.2.1 w)) k)) w S.1 (4 * w + 4), H_up S.2.1 w (V_ds (W_p h) (q2 + 6 + t.2.1.length) (b_ch t.2.2) (S.2.1 w)), S.2.2) (W_f S 40 (-1))) else W_f S (20 + (Y_os [] (L_ch q2 t)).1) (Y_os [] (L_ch q2 t)).2)
/-- the first for which it holds -/
def W_fr (f : Nat → Bool) : Nat → Option Nat
  | 0 => none
  | n + 1 => match W_fr f n with
    | some k => some k
    | none => if f n = true then some n else none
theorem W_fr_n {f : Nat → Bool} : ∀ {n : Nat}, (∀ k, k < n → f k = false) → W_fr f n = none
  | 0, _ => rfl
  | n + 1, h => by
    have e : W_fr f (n + 1) = match W_fr f n with
      | some k => some k
      | none => if f n = true then some n else none := rfl
    rw [e, W_fr_n fun k hk => h k (Nat.lt_succ_of_lt hk)]
    show (if f n = true then some n else none) = none
    rw [h n (Nat.lt_succ_self n), if_neg (by decide)]
theorem W_fr_s {f : Nat → Bool} {k : Nat} (hk : f k = true) (hb : ∀ j, j < k → f j = false) : ∀ {n : Nat}, k < n → W_fr f n = some k
  | 0, h => absurd h (Nat.not_lt_zero k)
  | n + 1, h => by
    have e : W_fr f (n + 1) = match W_fr f n with
      | some k => some k
      | none => if f n = true then some n else none := rfl
    rw [e]
    by_cases g : k < n
    · rw [W_fr_s hk hb g]
    · have e2 : n = k := by omega
      rw [e2, W_fr_n hb]
      show (if f k = true then some k else none) = some k
      rw [if_pos hk]
noncomputable def W_ix (w : Nat) (ea : b_E) (ra : List b_E) (ed : b_E) (rd : List b_E) (S : W_S) : W_R := match W_fr (fun k => (S.1 (4 * w + k)).isNone) 4 with
  | none => W_f S 40 (-1)
  | some k => if (((S.2.1 w).map Prod.snd).map (I_num (I_mkV ea ra ed rd))).sum ≤ 1000 then ((0, 0), b_el 16 (b_tx 5) (b_le4 k), I_up S.1 (4 * w + k) (some (I_mkV ea ra ed rd, I_in (I_mkV ea ra ed rd) (I_mk (I_mkV ea ra ed rd) (Z_t (S.2.1 w))) N_nil, I_mn (I_key1 (I_mkV ea ra ed rd)) 0 (Z_t (S.2.1 w)), I_mn (I_key2 (I_mkV ea ra ed rd)) 0 (Z_t (S.2.1 w)))), S.2.1, S.2.2) else W_f S 40 (-1)
noncomputable def W_idx (w : Nat) (h t : b_E) (S : W_S) : W_R := match b_ch h.2.2, b_ch t.2.2 with
  | ea :: ra, ed :: rd => W_ix w ea ra ed rd S
  | _, _ => W_f S 40 (-1)
/-- the index asked for: 8 for none -/
noncomputable def W_at (w : Nat) (h : b_E) : Nat := if 0 ≤ (v_num h.1 h.2.2).toInt ∧ (v_num h.1 h.2.2).toInt ≤ 3 then 4 * w + (v_num h.1 h.2.2).toInt.toNat else 8
noncomputable def W_drp (w : Nat) (h : b_E) (S : W_S) : W_R := if W_at w h = 8 then W_f S 41 (-1) else match S.1 (W_at w h) with
  | none => W_f S 41 (-1)
  | some _ => ((0, 0), b_el 8 (b_tx 39) [1], I_up S.1 (W_at w h) none, S.2.1, S.2.2)
noncomputable def W_shp (w : Nat) (h : b_E) (S : W_S) : W_R := if W_at w h = 8 then W_f S 41 (-1) else match S.1 (W_at w h) with
  | none => W_f S 41 (-1)
  | some (_, T, m1, m2) => ((0, 0), F_shp T m1 m2 65 66 67 68 69 70, S)
noncomputable def W_ppl (q : Int) (w : Nat) (h : b_E) (S : W_S) : W_R := if (T_pl 16 ((S.2.1 (1 - w)).map Prod.snd) (L_ch q h) ((S.2.1 w).map Prod.snd)).1.1 = 0 then ((0, 0), P_an (T_pl 16 ((S.2.1 (1 - w)).map Prod.snd) (L_ch q h) ((S.2.1 w).map Prod.snd)).2, S) else W_f S (T_pl 16 ((S.2.1 (1 - w)).map Prod.snd) (L_ch q h) ((S.2.1 w).map Prod.snd)).1.1 (T_pl 16 ((S.2.1 (1 - w)).map Prod.snd) (L_ch q h) ((S.2.1 w).map Prod.snd)).1.2
noncomputable def W_exp (q : Int) (w : Nat) (h : b_E) (S : W_S) : W_R := W_K q h S ((0, 0), F_exp w (D_chs (D_fx S.1 (L_ch q h)) w 4) (D_lkn S.1 (L_ch q h) (D_chs (D_fx S.1 (L_ch q h)) w 4).1 ((S.2.1 w).map Prod.snd)) 5 62 63 64, S)
/-- what a request does; h its head at q, t the third element at q2 -/
noncomputable def W_do (q q2 : Int) (w : Nat) (h t : b_E) (S : W_S) : W_R := if Q_op h.2.1 = 1 then W_ins w h S else if Q_op h.2.1 = 2 then W_find q w h S else if Q_op h.2.1 = 3 then W_cnt q w h S else if Q_op h.2.1 = 4 then W_upd q q2 w h t S else if Q_op h.2.1 = 5 then W_del q w h S else if Q_op h.2.1 = 6 then W_idx w h t S else if Q_op h.2.1 = 7 then W_drp w h S else if Q_op h.2.1 = 8 then W_ppl q w h S else if Q_op h.2.1 = 9 then W_exp q w h S else W_shp w h S
