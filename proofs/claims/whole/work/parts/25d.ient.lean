/-! INDEX: the entries of a document, class -/
/-- the different keys of a document at a path, in the order of the index -/
noncomputable def I_key (w : Int) (es : List b_E) (st : List (List Int)) : List I_K := (I_ks (I_kc w) ((I_csv (O_lv es st)).map I_kv)).reverse
/-- an index: its ways and paths -/
def I_V : Type := Int × Int × List (List Int) × Option (List (List Int))
noncomputable def I_key1 (V : I_V) (es : List b_E) : List I_K := I_key V.1 es V.2.2.1
noncomputable def I_key2 (V : I_V) (es : List b_E) : List I_K := match V.2.2.2 with
  | none => [(10, [])]
  | some st => I_key V.2.1 es st
def I_lng (l : List (Option b_E)) : Bool := l.any fun y => decide (64 < (I_kv y).2.length)
/-- a key is too long -/
noncomputable def I_long (V : I_V) (es : List b_E) : Bool := I_lng (I_csv (O_lv es V.2.2.1)) || match V.2.2.2 with
  | none => false
  | some st => I_lng (I_csv (O_lv es st))
/-- how many entries a document has; more than fit when a key is too long -/
noncomputable def I_num (V : I_V) (es : List b_E) : Nat := if I_long V es = true then 1001 else (I_key1 V es).length * (I_key2 V es).length
noncomputable def I_ens (V : I_V) (es : List b_E) (no : Int) : List I_E := (I_key1 V es).flatMap fun a => (I_key2 V es).map fun b => (a, b, no)
theorem I_ens_len (V : I_V) (es : List b_E) (no : Int) : (I_ens V es no).length = (I_key1 V es).length * (I_key2 V es).length := by
  unfold I_ens
  induction I_key1 V es with
  | nil =>
    rw [List.flatMap_nil]
    show 0 = 0 * _
    rw [Nat.zero_mul]
  | cons a l ih => rw [List.flatMap_cons, List.length_append, List.length_map, ih, List.length_cons, Nat.add_mul, Nat.one_mul, Nat.add_comm]
theorem I_nm_v (es : List b_E) (nm : List Int) (st : List (List Int)) : (I_csv (L_v 16 (3, nm, b_doc es) st)).map I_kv = (I_csv (O_lv es st)).map I_kv := by
  rcases st with _ | ⟨s, r⟩
  · rfl
  · rfl
theorem I_pl_key (w : Int) (es : List b_E) (nm : List Int) (dp : Int) (st : List (List Int)) : (I_pl w (I_cs (L_go 16 dp (3, nm, b_doc es) st))).map I_zk = I_key w es st := by
  unfold I_pl I_key
  rw [List.map_reverse]
  congr 1
  have h1 : (I_cs (L_go 16 dp (3, nm, b_doc es) st)).map I_ko = (I_csv (O_lv es st)).map I_kv := by
    have h2 : (I_cs (L_go 16 dp (3, nm, b_doc es) st)).map I_ko = ((I_cs (L_go 16 dp (3, nm, b_doc es) st)).map L_nop).map I_kv := by
      rw [List.map_map]
      exact List.map_congr_left fun y _ => I_ko_v y
    rw [h2, I_cs_v, L_go_v]
    exact I_nm_v es nm st
  rw [← h1, ← I_ks_map (c := I_oc w) (f := I_ko) (fun _ _ => rfl), List.map_map]
  exact List.map_congr_left fun y _ => I_zk_no y
theorem I_lng_map (l : List (Option b_E)) : I_lng l = (l.map I_kv).any fun k => decide (64 < k.2.length) := by
  unfold I_lng
  rw [List.any_map]
  rfl
theorem I_tl_lng (tl : Int) (es : List b_E) (nm : List Int) (dp : Int) (st : List (List Int)) : I_tl tl (I_cs (L_go 16 dp (3, nm, b_doc es) st)) = if I_lng (I_csv (O_lv es st)) = true then 1 else tl := by
  have h3 : (I_cs (L_go 16 dp (3, nm, b_doc es) st)).any (fun y => decide (64 < (I_ko y).2.length)) = I_lng (I_csv (O_lv es st)) := by
    rw [I_lng_map, ← I_nm_v es nm st, ← L_go_v 16 dp, ← I_cs_v, List.map_map, List.any_map]
    congr 1
    funext y
    show _ = decide (64 < (I_kv (L_nop y)).2.length)
    rw [I_ko_v]
  unfold I_tl
  rw [h3]
/-- the objects of an index -/
def I_ob (x r b p1 p2 t k1 k2 : Nat) (M : g_M) : Prop := g_O M x 3 ∧ g_r M x 0 = some r ∧ g_r M x 1 = some b ∧ g_r M x 2 = some p1 ∧ g_r M x 3 = some p2 ∧ g_r M x 4 = some t ∧ g_r M x 5 = some k1 ∧ g_r M x 6 = some k2 ∧ g_A M k1 1 700 ∧ g_A M k2 1 700 ∧ k1 ≠ k2 ∧ g_O M t 10
def I_S3 (x k1 k2 : Nat) (q : Nat) : Prop := q = x ∨ q = k1 ∨ q = k2
/-- the paths of an index stand -/
def I_pt (V : I_V) (x p1 f1 t1 a1 p2 f2 t2 a2 : Nat) (M : g_M) : Prop := (∃ n, p_W M p1 f1 t1 a1 n 0 V.2.2.1) ∧ V.2.2.1.length ≤ 8 ∧ (g_i M x 10 = 0 ∨ g_i M x 10 = 1) ∧ (V.2.2.2 = none ↔ g_i M x 10 = 0) ∧ (∀ st, V.2.2.2 = some st → (∃ n, p_W M p2 f2 t2 a2 n 0 st) ∧ st.length ≤ 8) ∧ I_w V.1 ∧ I_w V.2.1
/-- keys stand in a row -/
def I_kr (k : Nat) (b : Nat) (n : Int) (l : List I_K) (K : List (Int × b_E)) (M : g_M) : Prop := b_at (g_i M k) 0 (K.map Prod.fst) ∧ (∀ z ∈ K, I_zs (g_i M b) n z) ∧ K.map I_zk = l
theorem N_a_gv : ∀ (D : Nat) {o : Int} {e : b_E}, b_gv D e.1 e.2.2 → ∀ y ∈ N_a D o e, b_gv D y.2.1 y.2.2.2 := by
  intro D
  induction D with
  | zero =>
    intro o e h y hy
    rw [List.mem_singleton.mp hy]
    exact h
  | succ D ih =>
    intro o e h y hy
    rcases List.mem_cons.mp hy with hy | hy
    · subst hy
      exact h
    · by_cases hk : e.1 = 3 ∨ e.1 = 4
      · rw [if_pos hk] at hy
        obtain ⟨x, hx, hy⟩ := List.mem_flatMap.mp hy
        obtain ⟨D1, es, e1, e2, -, -, e5, -, e7⟩ := b_gv_doc h hk
        obtain rfl : D = D1 := by omega
        have hx2 : x.2 ∈ es := by
          have h9 : (L_ch o e).map Prod.snd = es := (L_at_snd _ _).trans e7
          rw [← h9]
          exact List.mem_map.mpr ⟨x, hx, rfl⟩
        exact b_gv_le (ih (e5 x.2 hx2).2 y hy) (Nat.le_succ D)
      · rw [if_neg hk] at hy
        exact absurd hy (by simp)
section ENTRIES
variable {d x r b p1 f1 t1 a1 p2 f2 t2 a2 t k1 k2 : Nat} {c e n : Int} {L : List Int} {M : g_M}
theorem I_ob.fr {S : Nat → Prop} {M1 : g_M} (h : I_ob x r b p1 p2 t k1 k2 M) (f : k_F S r M M1) (hr : g_r M1 x = g_r M x) : I_ob x r b p1 p2 t k1 k2 M1 := by
  obtain ⟨o1, o2, o3, o4, o5, o6, o7, o8, o9, o10, o11, o12⟩ := h
  exact ⟨o1.up f.1, by rw [hr]; exact o2, by rw [hr]; exact o3, by rw [hr]; exact o4, by rw [hr]; exact o5, by rw [hr]; exact o6, by rw [hr]; exact o7, by rw [hr]; exact o8, o9.up f.1, o10.up f.1, o11, o12.up f.1⟩
theorem I_pl_zs {nm : List Int} {w dp : Int} {es : List b_E} {st : List (List Int)} {B : Int → Int} (hd : b_st B n dp 16 3 nm (b_doc es)) (hl : (b_doc es).length ≤ 2000) (hno : b_at B 0 [10, 0]) : ∀ z ∈ I_pl w (I_cs (L_go 16 dp (3, nm, b_doc es) st)), I_zs B n z := by
  intro z hz
  obtain ⟨y, hy, rfl⟩ := I_pl_mem hz
  have hstd : ∀ y, some y ∈ L_go 16 dp (3, nm, b_doc es) st → b_st B n y.1 16 y.2.1 y.2.2.1 y.2.2.2 ∧ y.2.2.2.length ≤ (b_doc es).length := fun y hy => L_go_st 16 (e := (3, nm, b_doc es)) hd y hy
  have hnone : I_zs B n (J_no 0 none) := ⟨b_st_no hno (by decide) (by have := hd.2.2.2.1; have := hd.2.2.2.2; have := b_el_len 3 nm (b_doc es); omega) 16, by decide⟩
  unfold I_cs at hy
  split at hy
  · rw [List.mem_singleton.mp hy]
    exact hnone
  · obtain ⟨u, hu, hy⟩ := List.mem_flatMap.mp hy
    rcases u with _ | u
    · rw [List.mem_singleton.mp hy]
      exact hnone
    · change y ∈ (if u.2.1 = 4 then (if L_ch u.1 u.2 = [] then [none] else (L_ch u.1 u.2).map some) else [some u] : List (Option (Int × b_E))) at hy
      split at hy
      · rename_i h4
        split at hy
        · rw [List.mem_singleton.mp hy]
          exact hnone
        · obtain ⟨s1, s2⟩ := hstd u hu
          obtain ⟨D1, eD, hkids, hkl⟩ := s1.kids (Or.inr h4)
          obtain ⟨z, hzm, rfl⟩ := List.mem_map.mp hy
          have g1 := (L_at_st hkids z hzm).1
          have g2 := L_at_vb hzm
          exact ⟨g1.le (by omega), by show z.2.2.2.length ≤ _; omega⟩
      · rw [List.mem_singleton.mp hy]
        obtain ⟨g1, g2⟩ := hstd u hu
        exact ⟨g1, by show u.2.2.2.length ≤ _; omega⟩
theorem I_few2 {nm : List Int} (hnm : nm.length ≤ 50) {w : Int} (hw : I_w w) {dp : Int} {es : List b_E} {st : List (List Int)} {B : Int → Int} (hd : b_st B n dp 16 3 nm (b_doc es)) (hl : (b_doc es).length ≤ 2000) (hno : b_at B 0 [10, 0]) : (I_pl w (I_cs (L_go 16 dp (3, nm, b_doc es) st))).length ≤ 698 := by
  have hdl : (b_el 3 nm (b_doc es)).length ≤ 2052 := by
    rw [b_el_len]
    omega
  rw [I_pl_len]
  refine I_few hw (D := 16) (o := dp) (e := (3, nm, b_doc es)) (st := st) hd.2.2.1 (fun y hy => ?_) (by show (b_el 3 nm (b_doc es)).length ≤ 2090; omega) (I_ks_un (I_oc_T hw) _).2.2 fun y h => I_ks_mem _ y h
  have h1 := N_a_gv 16 (e := (3, nm, b_doc es)) hd.2.2.1 y (I_cs_a hd.2.2.1 y hy)
  exact ⟨16, h1⟩
theorem c_entriesOf {Q : Int → g_M → Prop} {nm : List Int} (hnm : nm.length ≤ 50) {V : I_V} {dp : Int} {es : List b_E} (ho : I_ob x r b p1 p2 t k1 k2 M) (hp : I_pt V x p1 f1 t1 a1 p2 f2 t2 a2 M) (hA : g_A M b 0 n) (hn : n ≤ 1000000000) (hw1 : g_i M t 12 = V.1) (hw2 : g_i M t 13 = V.2.1) (hP : k_P M r b c e L) (hd : b_st (g_i M b) n dp 16 3 nm (b_doc es)) (hl : (b_doc es).length ≤ 2000) (hno : b_at (g_i M b) 0 [10, 0]) (hL : L.length ≤ 1000) (hq : ∀ M1 K1 K2, k_F (I_S3 x k1 k2) r M M1 → k_P M1 r b c e L → (∀ k : Int, k ≠ 7 → k ≠ 8 → k ≠ 13 → g_i M1 x k = g_i M x k) → g_r M1 x = g_r M x → g_i M1 x 7 = K1.length → g_i M1 x 8 = K2.length → K1.length ≤ 700 → K2.length ≤ 700 → I_kr k1 b n (I_key1 V es) K1 M1 → I_kr k2 b n (I_key2 V es) K2 M1 → Q (I_num V es) M1) : g_Call (d + 61) 69 [.ref x, g_n dp] M (g_qI Q) := by
  obtain ⟨o1, o2, o3, o4, o5, o6, o7, o8, o9, o10, o11, o12⟩ := id ho
  obtain ⟨⟨m1, q1⟩, q2, q3, q4, q5, q6, q7⟩ := hp
  have hxr : r ≠ x := g_neOO hP.1 o1 (by decide)
  have hbx : b ≠ x := fun g => g_neOA o1 hA g.symm
  have hbk1 : b ≠ k1 := fun g => by
    subst g
    exact absurd (hA.fn o9).1 (by decide)
  have hbk2 : b ≠ k2 := fun g => by
    subst g
    exact absurd (hA.fn o10).1 (by decide)
  have hxk1 : x ≠ k1 := g_neOA o1 o9
  have hxk2 : x ≠ k2 := g_neOA o1 o10
  have hrk1 : r ≠ k1 := g_neOA hP.1 o9
  have hrk2 : r ≠ k2 := g_neOA hP.1 o10
  have htx : t ≠ x := g_neOO o12 o1 (by decide)
  have htk1 : t ≠ k1 := g_neOA o12 o9
  have htk2 : t ≠ k2 := g_neOA o12 o10
  have hdpR := hd.R hn
  have hS3 : ∀ {M M1 : g_M} (k v : Int) , M1 = g_wi M x k v → k_F (I_S3 x k1 k2) r M M1 := fun {M M1} k v h => by
    rw [h]
    exact k_F.of (g_fr.wi k v (Or.inl rfl)) fun z => by
      rcases z with z | z | z
      · exact hxr z
      · exact hrk1 z
      · exact hrk2 z
  have hPx : ∀ {M M1 : g_M} (k v : Int), g_O M x 3 → k_P M r b c e L → M1 = g_wi M x k v → k_P M1 r b c e L := fun {M M1} k v hx hP h => by
    rw [h]
    refine hP.of (g_fr.wi (S := fun q => q = x) k v rfl) hxr fun q m h1 _ z => ?_
    subst z
    exact g_neOA hx h1 rfl
  -- paths stay
  have hpx : ∀ {M M1 : g_M} {S : Nat → Prop} {o f t a : Nat} {n2 : Int} {st : List (List Int)}, (∀ q, S q → I_S3 x k1 k2 q) → g_O M x 3 → g_A M k1 1 700 → g_A M k2 1 700 → k_P M r b c e L → k_F S r M M1 → p_W M o f t a n2 0 st → p_W M1 o f t a n2 0 st := by
    intro M M1 S o f t a n2 st hS g1 g2 g3 g4 g5 g6
    obtain ⟨⟨s1, s2, s3, s4, s5, s6⟩, w2, w3, -⟩ := id g6
    refine g6.kS g4 g5 (fun z => ?_) (fun z => ?_) (fun z => ?_) (fun z => ?_)
    · rcases hS _ z with z | z | z
      · exact g_neOO s1 g1 (by decide) z
      · exact g_neOA s1 g2 z
      · exact g_neOA s1 g3 z
    · rcases hS _ z with z | z | z
      · exact g_neOA g1 s4 z.symm
      · rw [z] at s4
        exact absurd (s4.fn g2).2 (by decide)
      · rw [z] at s4
        exact absurd (s4.fn g3).2 (by decide)
    · rcases hS _ z with z | z | z
      · exact g_neOA g1 s5 z.symm
      · rw [z] at s5
        exact absurd (s5.fn g2).2 (by decide)
      · rw [z] at s5
        exact absurd (s5.fn g3).2 (by decide)
    · rcases hS _ z with z | z | z
      · exact g_neOA g1 w3 z.symm
      · rw [z] at w3
        exact absurd (w3.fn g2).1 (by decide)
      · rw [z] at w3
        exact absurd (w3.fn g3).1 (by decide)
  have hsub1 : ∀ q, I_S x k1 q → I_S3 x k1 k2 q := fun q z => by
    rcases z with z | z
    · exact Or.inl z
    · exact Or.inr (Or.inl z)
  have hsub2 : ∀ q, I_S x k2 q → I_S3 x k1 k2 q := fun q z => by
    rcases z with z | z
    · exact Or.inl z
    · exact Or.inr (Or.inr z)
  refine m_X3_entriesOf hdpR fun _ => ⟨o1, fun M2 e2 _ => ?_⟩
  have f2' := hS3 13 0 e2
  have hP2 := hPx 13 0 o1 hP e2
  have hb2 : g_i M2 b = g_i M b := (f2'.A hP hA (fun g => absurd g (by decide)) (fun z => by rcases z with z | z | z; exact hbx z; exact hbk1 z; exact hbk2 z)).1
  have hr2 : ∀ q, g_r M2 q = g_r M q := fun q => funext fun k => by rw [e2, g_r_wi]
  have hi2 : ∀ q k, q ≠ x → g_i M2 q k = g_i M q k := fun q k hq => by rw [e2, g_i_wi, if_neg (fun z => hq z.1)]
  have hx2 : ∀ k : Int, k ≠ 13 → g_i M2 x k = g_i M x k := fun k hk => by rw [e2, g_i_wi, if_neg (fun z => hk z.2)]
  refine ⟨p1, by rw [hr2]; exact o4, k1, by rw [hr2]; exact o7, t, by rw [hr2]; exact o6, o12.up f2'.1, ?_⟩
  rw [hi2 t 12 htx, hw1]
  obtain ⟨U1, hU1⟩ : ∃ U1, U1 = I_pl V.1 (I_cs (L_go 16 dp (3, nm, b_doc es) V.2.2.1)) := ⟨_, rfl⟩
  have hU1k : U1.map I_zk = I_key1 V es := by rw [hU1]; exact I_pl_key _ _ _ _ _
  have hU1z : ∀ z ∈ U1, I_zs (g_i M b) n z := by rw [hU1]; exact I_pl_zs hd hl hno
  have hU1l : U1.length ≤ 698 := by rw [hU1]; exact I_few2 hnm q6 hd hl hno
  refine c_keysOf hnm (d := d) (n := n) (tl := 0) (L := L) (o1.up f2'.1) (by rw [hr2]; exact o2) (by rw [hr2]; exact o3) (hA.up f2'.1) hn (o9.up f2'.1) q6 (Or.inl rfl) (by rw [e2, g_i_wi, if_pos ⟨rfl, rfl⟩]) hP2 (hpx (S := I_S3 x k1 k2) (fun _ z => z) o1 o9 o10 hP f2' q1) q2 (by rw [hb2]; exact hd) hl (by rw [hb2]; exact hno) hL fun M13 f13 hP13 hx13 hr13 ht13 ha13 => ?_
  intro _ _ _
  rw [← hU1] at ha13 ⊢
  rw [I_tl_lng] at ht13
  have hb13 : g_i M13 b = g_i M2 b := (f13.A hP2 (hA.up f2'.1) (fun g => absurd g (by decide)) (fun z => by rcases z with z | z; exact hbx z; exact hbk1 z)).1
  have ht13i : g_i M13 t = g_i M2 t := (f13.O hP2 (o12.up f2'.1) (by decide) (fun z => by rcases z with z | z; exact htx z; exact htk1 z)).1
  have ff13 := f2'.tr (f13.up hsub1)
  intro M18 e18 _ M22 e22 _
  have f18 := hS3 7 U1.length e18
  have f22 := hS3 8 1 e22
  have ff22 := (ff13.tr f18).tr f22
  have hP18 := hPx 7 _ (o1.up ff13.1) hP13 e18
  have hP22 := hPx 8 _ (o1.up (ff13.tr f18).1) hP18 e22
  have hr22 : g_r M22 x = g_r M x := by
    rw [← hr2 x, ← hr13]
    funext k
    rw [e22, g_r_wi, e18, g_r_wi]
  have hi22 : ∀ q k, q ≠ x → g_i M22 q k = g_i M13 q k := fun q k hq => by rw [e22, g_i_wi, if_neg (fun z => hq z.1), e18, g_i_wi, if_neg (fun z => hq z.1)]
  refine ⟨k2, by rw [hr22]; exact o8, 700, o10.up ff22.1, ⟨by decide, by decide⟩, fun M31 e31 _ => ?_⟩
  have f31 : k_F (I_S3 x k1 k2) r M22 M31 := by
    rw [e31]
    exact k_F.of (g_fr.wi 0 0 (Or.inr (Or.inr rfl))) fun z => by
      rcases z with z | z | z
      · exact hxr z
      · exact hrk1 z
      · exact hrk2 z
  have ff31 := ff22.tr f31
  have hP31 : k_P M31 r b c e L := by
    rw [e31]
    refine hP22.of (g_fr.wi (S := fun q => q = k2) 0 0 rfl) hrk2 fun q m h1 h2 z => ?_
    subst z
    have := (h1.fn (o10.up ff22.1)).2
    subst this
    exact absurd h2 (by unfold k_n; omega)
  have hr31 : g_r M31 x = g_r M x := by
    rw [← hr22]
    funext k
    rw [e31, g_r_wi]
  have hx31 : ∀ k, g_i M31 x k = g_i M22 x k := fun k => by rw [e31, g_i_wi, if_neg (fun z => hxk2 z.1)]
  have h31_7 : g_i M31 x 7 = U1.length := by rw [hx31, e22, g_i_wi, if_neg (fun z => absurd z.2 (by decide)), e18, g_i_wi, if_pos ⟨rfl, rfl⟩]
  have h31_8 : g_i M31 x 8 = 1 := by rw [hx31, e22, g_i_wi, if_pos ⟨rfl, rfl⟩]
  have h31_o : ∀ k : Int, k ≠ 7 → k ≠ 8 → g_i M31 x k = g_i M13 x k := fun k h7 h8 => by rw [hx31, e22, g_i_wi, if_neg (fun z => h8 z.2), e18, g_i_wi, if_neg (fun z => h7 z.2)]
  have h31_x : ∀ k : Int, k ≠ 7 → k ≠ 8 → k ≠ 13 → g_i M31 x k = g_i M x k := fun k h7 h8 h13 => by rw [h31_o k h7 h8, hx13 k h13, hx2 k h13]
  have hb31 : g_i M31 b = g_i M b := by
    funext k
    rw [e31, g_i_wi, if_neg (fun z => hbk2 z.1), hi22 b k hbx, hb13, hb2]
  have hk31 : b_at (g_i M31 k1) 0 (U1.map Prod.fst) := b_at_keep ha13 fun k _ _ => by rw [e31, g_i_wi, if_neg (fun z => o11 z.1), hi22 k1 k hxk1.symm]
  have ht31 : g_i M31 t 13 = V.2.1 := by rw [e31, g_i_wi, if_neg (fun z => htk2 z.1), hi22 t 13 htx, ht13i, hi2 t 13 htx, hw2]
  have hr31' : I_ob x r b p1 p2 t k1 k2 M31 := ho.fr ff31 hr31
  have hU1M : ∀ {M1 : g_M}, g_i M1 b = g_i M b → b_at (g_i M1 k1) 0 (U1.map Prod.fst) → I_kr k1 b n (I_key1 V es) U1 M1 := fun h1 h2 => ⟨h2, fun z hz => by rw [h1]; exact hU1z z hz, hU1k⟩
  -- the end
  have h72 : ∀ (K2 : List (Int × b_E)) (M1 : g_M), k_F (I_S3 x k1 k2) r M M1 → k_P M1 r b c e L → (∀ k : Int, k ≠ 7 → k ≠ 8 → k ≠ 13 → g_i M1 x k = g_i M x k) → g_r M1 x = g_r M x → g_i M1 x 7 = U1.length → g_i M1 x 8 = K2.length → K2.length ≤ 700 → I_kr k1 b n (I_key1 V es) U1 M1 → I_kr k2 b n (I_key2 V es) K2 M1 → g_i M1 x 13 = (if I_long V es = true then 1 else 0) → g_Run (d + 60) 69 72 [(0, .ref x), (1, g_n dp)] [] M1 (g_qI Q) := by
    intro K2 M1 g1 g2 g3 g4 g5 g6 g7 g8 g9 g10
    have hlen1 : U1.length = (I_key1 V es).length := by rw [← hU1k, List.length_map]
    have hlen2 : K2.length = (I_key2 V es).length := by rw [← g9.2.2, List.length_map]
    have h9 := hq M1 U1 K2 g1 g2 g3 g4 g5 g6 (by omega) g7 g8 g9
    unfold I_num at h9
    refine s_X3_entriesOf_72 hdpR fun _ => ⟨o1.up g1.1, fun z => ?_, fun z => ?_⟩
    · rw [g10] at z
      have hlo : ¬ I_long V es = true := fun h => by rw [if_pos h] at z; omega
      rw [if_neg hlo] at h9
      rw [g5, g6]
      have hm : U1.length * K2.length ≤ 698 * 700 := Nat.mul_le_mul hU1l g7
      have hc : ((U1.length : Int) * K2.length) = ((U1.length * K2.length : Nat) : Int) := by rw [Int.natCast_mul]
      rw [hc]
      refine ⟨⟨by omega, by omega⟩, ?_⟩
      rw [hlen1, hlen2]
      exact h9
    · rw [g10] at z
      have hlo : I_long V es = true := by
        by_cases h : I_long V es = true
        · exact h
        · rw [if_neg h] at z
          exact absurd rfl z
      rw [if_pos hlo] at h9
      exact h9
  refine ⟨fun g => ?_, fun g => ?_⟩
  · rw [h31_x 10 (by decide) (by decide) (by decide)] at g
    have hV := q4.mpr g
    have hk2 : I_key2 V es = [(10, [])] := by
      unfold I_key2
      rw [hV]
    refine h72 [(0, 10, [], [])] M31 ff31 hP31 h31_x hr31 h31_7 h31_8 (by decide) (hU1M hb31 hk31) ⟨?_, fun z hz => ?_, hk2.symm⟩ ?_
    · refine b_cons.mpr ⟨?_, b_nil _ _⟩
      rw [e31, g_i_wi, if_pos ⟨rfl, rfl⟩]
    · rw [List.mem_singleton.mp hz, hb31]
      exact ⟨b_st_no hno (by decide) (by have := hd.2.2.2.1; have := hd.2.2.2.2; have := b_el_len 3 nm (b_doc es); omega) 16, by decide⟩
    · rw [h31_o 13 (by decide) (by decide), ht13]
      unfold I_long
      rw [hV, Bool.or_false]
  · have g' := g
    rw [h31_x 10 (by decide) (by decide) (by decide)] at g'
    obtain ⟨st2, hV⟩ : ∃ st2, V.2.2.2 = some st2 := by
      rcases hVc : V.2.2.2 with _ | st2
      · exact absurd (q4.mp hVc) g'
      · exact ⟨st2, rfl⟩
    obtain ⟨⟨m2, q8⟩, q9⟩ := q5 st2 hV
    have hk2 : I_key2 V es = I_key V.2.1 es st2 := by
      unfold I_key2
      rw [hV]
    obtain ⟨U2, hU2⟩ : ∃ U2, U2 = I_pl V.2.1 (I_cs (L_go 16 dp (3, nm, b_doc es) st2)) := ⟨_, rfl⟩
    have hU2k : U2.map I_zk = I_key2 V es := by rw [hU2, hk2]; exact I_pl_key _ _ _ _ _
    have hU2z : ∀ z ∈ U2, I_zs (g_i M b) n z := by rw [hU2]; exact I_pl_zs hd hl hno
    have hU2l : U2.length ≤ 698 := by rw [hU2]; exact I_few2 hnm q7 hd hl hno
    refine ⟨p2, by rw [hr31]; exact o5, k2, by rw [hr31]; exact o8, t, by rw [hr31]; exact o6, o12.up ff31.1, ?_⟩
    rw [ht31]
    have ht0 : (if I_lng (I_csv (O_lv es V.2.2.1)) = true then (1 : Int) else 0) = 0 ∨ (if I_lng (I_csv (O_lv es V.2.2.1)) = true then (1 : Int) else 0) = 1 := by
      split
      · exact Or.inr rfl
      · exact Or.inl rfl
    refine c_keysOf hnm (d := d) (n := n) (L := L) (tl := if I_lng (I_csv (O_lv es V.2.2.1)) = true then 1 else 0) (o1.up ff31.1) (by rw [hr31]; exact o2) (by rw [hr31]; exact o3) (hA.up ff31.1) hn (o10.up ff31.1) q7 ht0 (by rw [h31_o 13 (by decide) (by decide), ht13]) hP31 (hpx (S := I_S3 x k1 k2) (fun _ z => z) o1 o9 o10 hP ff31 q8) q9 (by rw [hb31]; exact hd) hl (by rw [hb31]; exact hno) hL fun M42 f42 hP42 hx42 hr42 ht42 ha42 => ?_
    intro _ _ _
    rw [← hU2] at ha42 ⊢
    rw [I_tl_lng] at ht42
    intro M47 e47 _
    have hb42 : g_i M42 b = g_i M31 b := (f42.A hP31 (hA.up ff31.1) (fun g => absurd g (by decide)) (fun z => by rcases z with z | z; exact hbx z; exact hbk2 z)).1
    have hk42 : g_i M42 k1 = g_i M31 k1 := (f42.A hP31 (o9.up ff31.1) (fun _ g => by unfold k_n at g; omega) (fun z => by rcases z with z | z; exact hxk1 z.symm; exact o11 z)).1
    have ff42 := ff31.tr (f42.up hsub2)
    have f47 := hS3 8 U2.length e47
    have hP47 := hPx 8 _ (o1.up ff42.1) hP42 e47
    have hi47 : ∀ q k, q ≠ x → g_i M47 q k = g_i M42 q k := fun q k hq => by rw [e47, g_i_wi, if_neg (fun z => hq z.1)]
    have hx47 : ∀ k : Int, k ≠ 8 → g_i M47 x k = g_i M42 x k := fun k hk => by rw [e47, g_i_wi, if_neg (fun z => hk z.2)]
    have hb47 : g_i M47 b = g_i M b := by
      funext k
      rw [hi47 b k hbx, hb42, hb31]
    refine h72 U2 M47 (ff42.tr f47) hP47 (fun k h7 h8 h13 => by rw [hx47 k h8, hx42 k h13, h31_x k h7 h8 h13]) ?_ ?_ ?_ (by omega) (hU1M hb47 ?_) ⟨?_, fun z hz => by rw [hb47]; exact hU2z z hz, hU2k⟩ ?_
    · rw [← hr31, ← hr42]
      funext k
      rw [e47, g_r_wi]
    · rw [hx47 7 (by decide), hx42 7 (by decide)]
      exact h31_7
    · rw [e47, g_i_wi, if_pos ⟨rfl, rfl⟩]
    · exact b_at_keep hk31 fun k _ _ => by rw [hi47 k1 k hxk1.symm, hk42]
    · exact b_at_keep ha42 fun k _ _ => by rw [hi47 k2 k hxk2.symm]
    · rw [hx47 13 (by decide), ht42]
      unfold I_long
      rw [hV]
      show (if _ then _ else _) = if (_ || I_lng (I_csv (O_lv es st2))) = true then (1 : Int) else 0
      cases I_lng (I_csv (O_lv es V.2.2.1)) <;> cases I_lng (I_csv (O_lv es st2)) <;> rfl
end ENTRIES
