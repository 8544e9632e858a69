/-! INDEXES: the entries of all documents of a shelf -/
section IALL
variable {E : Type} {c : E → E → Int}
/-- all entries of a tree are in order -/
theorem N_sorted (hc : v_T c) : ∀ {h : Nat} {l : List (N_i E h)}, N_ok c h l → (N_ins h l).Pairwise fun a b => c a b < 0 := by
  intro h
  induction h with
  | zero =>
    intro l hk
    have e : N_ins 0 l = N_es l := List.flatMap_singleton' (N_es l)
    rw [e]
    exact (N_ok_0 c).mp hk
  | succ h ih =>
    intro l hk
    obtain ⟨k1, k2⟩ := (N_ok_s c).mp hk
    refine List.pairwise_flatMap.mpr ⟨fun x hx => ih (k2 x hx), k1.imp fun {x y} hxy a ha b hb => ?_⟩
    exact N_lt_le hc (hxy.1 a ha) (hxy.2 b hb)
theorem N_good.pw (hc : v_T c) {T : N_T E} (h : N_good c T) : (N_all T).Pairwise fun a b => c a b ≠ 0 := (N_sorted hc h.1).imp fun {a b} z => by omega
/-- of entries that differ the same one is the one -/
theorem N_same (hc : v_T c) {l : List E} (hp : l.Pairwise fun a b => c a b ≠ 0) {a b : E} (ha : a ∈ l) (hb : b ∈ l) (h : c a b = 0) : a = b := by
  induction l with
  | nil => exact absurd ha (by simp)
  | cons x l ih =>
    obtain ⟨h1, h2⟩ := List.pairwise_cons.mp hp
    rcases List.mem_cons.mp ha with g | g
    · rcases List.mem_cons.mp hb with g2 | g2
      · rw [g, g2]
      · exact absurd h (by rw [g]; exact h1 b g2)
    · rcases List.mem_cons.mp hb with g2 | g2
      · have := hc.s b a
        exact absurd (show c b a = 0 by omega) (by rw [g2]; exact h1 a g)
      · exact ih h2 g g2
end IALL
theorem I_c_0 {w1 w2 : Int} {x y : I_E} : I_c w1 w2 x y = 0 ↔ I_kc w1 x.1 y.1 = 0 ∧ I_kc w2 x.2.1 y.2.1 = 0 ∧ v_tcmp x.2.2 y.2.2 = 0 := by
  unfold I_c
  by_cases g : I_kc w1 x.1 y.1 = 0
  · rw [if_pos g]
    by_cases g2 : I_kc w2 x.2.1 y.2.1 = 0
    · rw [if_pos g2]
      exact ⟨fun z => ⟨g, g2, z⟩, fun z => z.2.2⟩
    · rw [if_neg g2]
      exact ⟨fun z => absurd z g2, fun z => absurd z.2.1 g2⟩
  · rw [if_neg g]
    exact ⟨fun z => absurd z g, fun z => absurd z.1 g⟩
/-- an index's ways and paths are good -/
def I_vok (V : I_V) : Prop := I_w V.1 ∧ I_w V.2.1 ∧ V.2.2.1 ≠ [] ∧ ∀ st, V.2.2.2 = some st → st ≠ []
theorem I_key_pw {w : Int} (hw : I_w w) (es : List b_E) (st : List (List Int)) : (I_key w es st).Pairwise fun a b => I_kc w a b ≠ 0 := by
  unfold I_key
  have h := (I_ks_un (I_kc_T hw) ((I_csv (O_lv es st)).map I_kv)).2.2
  refine List.pairwise_reverse.mpr (h.imp fun {a b} z => ?_)
  have := (I_kc_T hw).s a b
  omega
theorem I_key2_pw {V : I_V} (hv : I_vok V) (es : List b_E) : (I_key2 V es).Pairwise fun a b => I_kc V.2.1 a b ≠ 0 := by
  unfold I_key2
  split
  · exact List.pairwise_singleton _ _
  · exact I_key_pw hv.2.1 es _
theorem I_ens_no {V : I_V} {es : List b_E} {no : Int} {e : I_E} (h : e ∈ I_ens V es no) : e.2.2 = no ∧ e.1 ∈ I_key1 V es ∧ e.2.1 ∈ I_key2 V es := by
  obtain ⟨a, ha, h⟩ := List.mem_flatMap.mp h
  obtain ⟨b, hb, rfl⟩ := List.mem_map.mp h
  exact ⟨rfl, ha, hb⟩
theorem I_ens_pw {V : I_V} (hv : I_vok V) (es : List b_E) (no : Int) : (I_ens V es no).Pairwise fun a b => I_c V.1 V.2.1 a b ≠ 0 := by
  unfold I_ens
  refine List.pairwise_flatMap.mpr ⟨fun a _ => List.pairwise_map.mpr ((I_key2_pw hv es).imp fun {x y} z g => z (I_c_0.mp g).2.1), (I_key_pw hv.1 es _).imp fun {x y} z a ha b hb g => ?_⟩
  obtain ⟨a2, -, rfl⟩ := List.mem_map.mp ha
  obtain ⟨b2, -, rfl⟩ := List.mem_map.mp hb
  exact z (I_c_0.mp g).1
/-- the entries of all documents -/
noncomputable def I_all (V : I_V) (ds : List (Int × List b_E)) : List I_E := ds.flatMap fun z => I_ens V z.2 z.1
theorem I_all_app (V : I_V) (A B : List (Int × List b_E)) : I_all V (A ++ B) = I_all V A ++ I_all V B := List.flatMap_append
theorem v_tcmp_0 {a b : Int} (h : v_tcmp a b = 0) : a = b := by
  unfold v_tcmp at h
  split at h
  · exact absurd h (by decide)
  · split at h
    · assumption
    · exact absurd h (by decide)
theorem I_no_ne {w1 w2 : Int} {a b : I_E} (h : a.2.2 ≠ b.2.2) : I_c w1 w2 a b ≠ 0 := fun z => h (v_tcmp_0 (I_c_0.mp z).2.2)
theorem I_all_pw {V : I_V} (hv : I_vok V) {ds : List (Int × List b_E)} (hn : (ds.map Prod.fst).Nodup) : (I_all V ds).Pairwise fun a b => I_c V.1 V.2.1 a b ≠ 0 := by
  unfold I_all
  refine List.pairwise_flatMap.mpr ⟨fun z _ => I_ens_pw hv z.2 z.1, (List.pairwise_map.mp hn).imp fun {x y} z a ha b hb => I_no_ne ?_⟩
  rw [(I_ens_no ha).1, (I_ens_no hb).1]
  exact z
theorem I_all_mem {V : I_V} {ds : List (Int × List b_E)} {e : I_E} (h : e ∈ I_all V ds) : ∃ z ∈ ds, e ∈ I_ens V z.2 z.1 := List.mem_flatMap.mp h
/-- keys that are not too long are good -/
theorem I_lng_mem {l : List (Option b_E)} (h : I_lng l = false) {k : I_K} (hk : k ∈ l.map I_kv) : k.2.length ≤ 64 := by
  obtain ⟨y, hy, rfl⟩ := List.mem_map.mp hk
  unfold I_lng at h
  have := List.any_eq_false.mp h y hy
  have h2 : ¬ 64 < (I_kv y).2.length := fun z => this (decide_eq_true z)
  omega
theorem I_key_gd {w : Int} (hw : I_w w) {es : List b_E} {st : List (List Int)} (hst : st ≠ []) (hg : X_gd 15 es) (hl : (b_doc es).length ≤ 2000) (hlg : I_lng (I_csv (O_lv es st)) = false) : ∀ k ∈ I_key w es st, I_kg k := by
  intro k hk
  obtain ⟨F, hF⟩ : ∃ F : Int → Int, F = fun q => (b_doc es).getD q.toNat 0 := ⟨_, rfl⟩
  have hct : E_ct F 0 15 es := by
    refine ⟨fun i v hi => ?_, Int.le_refl 0, by omega, hg⟩
    rw [hF]
    show (b_doc es).getD ((0 : Int) + i).toNat 0 = v
    rw [show ((0 : Int) + (i : Int)).toNat = i by omega, List.getD_eq_getElem?_getD, hi]
    rfl
  obtain ⟨s, r, rfl⟩ := List.exists_cons_of_ne_nil hst
  refine ⟨?_, ?_⟩
  · have h1 := I_ar_key (c := 0) (es := es) (s := s) (r := r) hw hg
    rw [← h1] at hk
    obtain ⟨u, hu, rfl⟩ := List.mem_map.mp hk
    have h2 := I_u_ky hct u (I_ar_mem hu)
    rcases u with _ | z
    · exact b_gv_no 16
    · exact (h2 z rfl).2.2.1
  · unfold I_key at hk
    exact I_lng_mem hlg (I_ks_mem _ k (List.mem_reverse.mp hk))
theorem I_ens_eg {V : I_V} (hv : I_vok V) {es : List b_E} {no : Int} (hg : X_gd 15 es) (hl : (b_doc es).length ≤ 2000) (hlg : I_long V es = false) (hno : g_InR no) : ∀ e ∈ I_ens V es no, I_eg e := by
  intro e he
  obtain ⟨h1, h2, h3⟩ := I_ens_no he
  unfold I_long at hlg
  obtain ⟨l1, l2⟩ := Bool.or_eq_false_iff.mp hlg
  refine ⟨I_key_gd hv.1 hv.2.2.1 hg hl l1 _ h2, ?_, by rw [h1]; exact hno⟩
  unfold I_key2 at h3
  cases hs : V.2.2.2 with
  | none =>
    rw [hs] at h3
    rw [List.mem_singleton.mp h3]
    exact ⟨b_gv_no 16, Nat.zero_le _⟩
  | some st =>
    rw [hs] at h3 l2
    exact I_key_gd hv.2.1 (hv.2.2.2 st hs) hg hl l2 _ h3
/-- a tree holds just the entries of all documents -/
def I_ok (V : I_V) (ds : List (Int × List b_E)) (T : N_T I_E) : Prop := I_vok V ∧ N_good (I_c V.1 V.2.1) T ∧ (N_all T).Perm (I_all V ds) ∧ (∀ z ∈ ds, I_long V z.2 = false) ∧ (I_all V ds).length ≤ 1000
theorem I_in_perm {V : I_V} (hv : I_vok V) : ∀ {E : List I_E} {T : N_T I_E}, N_good (I_c V.1 V.2.1) T → I_can V T E → N_good (I_c V.1 V.2.1) (I_in V E T) ∧ (N_all (I_in V E T)).Perm (N_all T ++ E) := by
  intro E
  induction E with
  | nil =>
    intro T hT _
    refine ⟨hT, ?_⟩
    rw [List.append_nil]
    exact List.Perm.refl _
  | cons e E ih =>
    intro T hT hc
    obtain ⟨g1, g2⟩ := N_enter_ok (I_c_T hv.1 hv.2.1) hT (fun a ha => hc.2.1 e List.mem_cons_self a ha)
    obtain ⟨h1, h2⟩ := ih g1 (hc.step hv.1 hv.2.1 hT)
    refine ⟨h1, h2.trans ((g2.append_right E).trans ?_)⟩
    exact List.perm_middle.symm
theorem I_out_perm {V : I_V} (hv : I_vok V) : ∀ {E : List I_E} {T : N_T I_E}, N_good (I_c V.1 V.2.1) T → (∀ e ∈ E, e ∈ N_all T) → E.Pairwise (fun a b => I_c V.1 V.2.1 a b ≠ 0) → N_good (I_c V.1 V.2.1) (I_out V E T) ∧ (N_all T).Perm (E ++ N_all (I_out V E T)) := by
  intro E
  induction E with
  | nil => exact fun hT _ _ => ⟨hT, List.Perm.refl _⟩
  | cons e E ih =>
    intro T hT hm hp
    have hc := I_c_T hv.1 hv.2.1
    have he := hm e List.mem_cons_self
    obtain ⟨g1, a, g2, g3⟩ := N_leave_ok hc hT ⟨e, he, v_T.rf hc e⟩
    have hae : a = e := N_same hc (hT.pw hc) (g3.mem_iff.mpr List.mem_cons_self) he g2
    subst hae
    obtain ⟨p1, p2⟩ := List.pairwise_cons.mp hp
    obtain ⟨h1, h2⟩ := ih g1 (fun b hb => by
      rcases List.mem_cons.mp (g3.mem_iff.mp (hm b (List.mem_cons_of_mem _ hb))) with g | g
      · exact absurd (by rw [g]; exact v_T.rf hc a) (p1 b hb)
      · exact g) p2
    exact ⟨h1, g3.trans (h2.cons a)⟩
