/-! STAGES: $group, the reference: values; whether two documents have one key -/
def G_eo (B : Int → Int) (lo hi p : Int) (w : b_E) : Prop := ∃ nm, b_st B 2706210 p 30 w.1 nm w.2.2 ∧ (p + (b_el w.1 nm w.2.2).length ≤ lo ∨ lo + 60000 ≤ p) ∧ p + (b_el w.1 nm w.2.2).length ≤ hi
def G_et (B : Int → Int) (lo hi p : Int) (o : Option b_E) : Prop := (o = none ∧ p = -1) ∨ ∃ w, o = some w ∧ G_eo B lo hi p w
theorem G_eo.kp {B B1 : Int → Int} {lo hi p : Int} {w : b_E} (h : G_eo B lo hi p w) (hB : ∀ k : Int, k < hi → ¬ (lo ≤ k ∧ k < lo + 60000) → B1 k = B k) : G_eo B1 lo hi p w := by
  obtain ⟨nm, h1, h2, h3⟩ := h
  exact ⟨nm, ⟨b_at_keep h1.1 fun k k1 k2 => hB k (by omega) (by omega), h1.2⟩, h2, h3⟩
theorem G_et.kp {B B1 : Int → Int} {lo hi p : Int} {o : Option b_E} (h : G_et B lo hi p o) (hB : ∀ k : Int, k < hi → ¬ (lo ≤ k ∧ k < lo + 60000) → B1 k = B k) : G_et B1 lo hi p o := by
  rcases h with h | ⟨w, h1, h2⟩
  · exact Or.inl h
  · exact Or.inr ⟨w, h1, h2.kp hB⟩
theorem G_et.R {B : Int → Int} {lo hi p : Int} {o : Option b_E} (h : G_et B lo hi p o) : g_InR p := by
  rcases h with ⟨-, z⟩ | ⟨w, -, nm, z, -⟩
  · rw [z]
    exact ⟨by decide, by decide⟩
  · exact z.R (by decide)
def G_no (p : Int) : Int := if p = -1 then 2706200 else p
/-- with nothing in place of none -/
def G_ev (B : Int → Int) (lo p : Int) (w : b_E) : Prop := ∃ nm, b_st B 2706210 p 30 w.1 nm w.2.2 ∧ (p + (b_el w.1 nm w.2.2).length ≤ lo ∨ lo + 60000 ≤ p)
theorem G_et.no {B : Int → Int} {lo hi p : Int} {o : Option b_E} (h : G_et B lo hi p o) (hno : b_at B 2706200 [10, 0]) (hlo : lo ≤ 862000) : G_ev B lo (G_no p) (J_v o) := by
  rcases h with ⟨z1, z2⟩ | ⟨w, z1, nm, z2, z3, -⟩
  · rw [z1, z2]
    exact ⟨[], b_st_no hno (by decide) (by decide) 30, Or.inr (by show lo + 60000 ≤ 2706200; omega)⟩
  · have := z2.2.2.2.1
    have hp : G_no p = p := if_neg (by omega)
    rw [z1, hp]
    exact ⟨nm, z2, z3⟩
section EVALG
variable {m b : Nat} {M M1 : g_M} {lo : Int}
theorem e_orN {d : Nat} {Q : Int → g_M → Prop} {p : Int} (hR : g_InR p) (h : Q (G_no p) M) : g_Call (d + 1) 329 [g_n p] M (g_qI Q) := by
  unfold G_no at h
  refine m_X12_orNothing hR fun _ => ⟨fun g => by rwa [if_pos g] at h, fun g => by rwa [if_neg g] at h⟩
theorem e_isSame3 {d : Nat} {Q : Int → g_M → Prop} {p q : Int} {x v : b_E} {nx nv : List Int} (hR : e_R M m b) (hx : b_st (g_i M b) 2706210 p 30 x.1 nx x.2.2) (hv : b_st (g_i M b) 2706210 q 30 v.1 nv v.2.2) (h : Q (if F_eq x v = true then 1 else 0) M) : g_Call (d + 66) 271 [.ref m, g_n p, g_n q] M (g_qI Q) := by
  refine m_X12_isSame (hx.R (by decide)) (hv.R (by decide)) fun _ => ⟨hR.1, e_compare hR 30 (F := 60) (d := d) hx hv (by decide) fun r hr _ _ _ => ⟨fun g => ?_, fun g => ?_⟩⟩
  · have : F_eq x v = true := decide_eq_true (hr.zero.mp g)
    rwa [this] at h
  · have : F_eq x v = false := decide_eq_false fun z => g (hr.zero.mpr z)
    rwa [this] at h
theorem e_valE {n dd De : Nat} {Q : Int → g_M → Prop} {pe dc ls : Int} {e : b_E} {es : List b_E} (hdd : 26 ≤ dd) (hR : e_R M m b) (hlo : 802000 ≤ lo) (hlo2 : lo ≤ 862000) (he : b_st (g_i M b) 2100 pe De e.1 e.2.1 e.2.2) (hef : S_ef e = false) (hDe : De ≤ 30) (hd : b_at (g_i M b) dc (b_doc es)) (hd1 : 2000 ≤ dc) (hd2 : dc + (b_doc es).length ≤ 922000) (hd3 : dc + (b_doc es).length ≤ lo ∨ lo + 60000 ≤ dc) (hn : 16 ≤ n) (hl : (b_doc es).length ≤ 2000) (hg : X_gd 15 es) (h26 : g_i M m 26 = ls) (hls : 2606200 ≤ ls) (hls2 : ls ≤ 2690000) (hq : ∀ M1 v l1, e_fr (E_VF m b ls) M M1 → g_i M1 m 26 = l1 → ls ≤ l1 → l1 ≤ ls + 2002 → G_et (g_i M1 b) lo l1 v (V_of n e es) → Q v M1) : g_Call dd 327 [.ref m, g_n pe, g_n dc] M (g_qI Q) := by
  have hmb : m ≠ b := g_neOA hR.1 hR.2.2
  have hdl := b_doc_len es
  have he4 := he.2.2.2.1
  have he5 := he.2.2.2.2
  refine e_valueAt (n := n) (F := g_i M b) (lo := ls) (D := 15) (De := De) (by omega) hR (fun _ _ => rfl) ⟨he.1, he.2.1, he.2.2.1, he4, by omega⟩ hef ⟨hd, by omega, hd2, hg⟩ (by omega) (by decide) hDe (by omega) (hg.le (by decide)) h26 hls (by omega) fun M1 v l1 f h26' hl1 hl2 hret => ?_
  have hb : ∀ k, k < ls → g_i M1 b k = g_i M b k := fun k hk => f.2.1 b k fun z => by
    rcases z with ⟨z, -⟩ | ⟨-, z⟩
    · exact hmb z.symm
    · omega
  refine hq M1 v l1 f h26' hl1 (by omega) ?_
  rcases hret with ⟨z1, z2, -⟩ | ⟨y, z1, ⟨z2, nm, z3, z4⟩ | ⟨z2, z3, z4, z5⟩⟩
  · exact Or.inl ⟨z1, z2⟩
  · have z5 := z3.2.2.2.2
    refine Or.inr ⟨y, z1, nm, z3.upW fun k hk => hb k (by omega), ?_, by omega⟩
    rcases z4 with ⟨z6, z7, z8⟩ | ⟨z6, z7⟩
    · rw [z6, z7, z8]
      exact Or.inl (by omega)
    · omega
  · have hg30 : b_gv 30 y.1 y.2.2 ∧ y.2.2.length ≤ 2100 := by
      rcases V_of_good (hg.le (by decide)) (by omega) z1 with ⟨k1, k2⟩ | ⟨-, k2, k3⟩
      · rw [k1]
        rw [b_el_len] at he5
        exact ⟨b_gv_le he.2.2.1 hDe, by omega⟩
      · exact ⟨k2, by omega⟩
    have hel := b_el_len 4 [] y.2.2
    rw [List.length_nil] at hel
    refine Or.inr ⟨y, z1, [], ⟨by rw [z2, z3]; exact z5, fun c hc => absurd hc (by simp), hg30.1, by omega, by rw [z3]; omega⟩, Or.inr (by omega), by rw [z3]; omega⟩
theorem e_freshE {n dd De : Nat} {Q : Int → g_M → Prop} {pe dc : Int} {e : b_E} {es : List b_E} (hdd : 27 ≤ dd) (hR : e_R M m b) (hlo : 802000 ≤ lo) (hlo2 : lo ≤ 862000) (he : b_st (g_i M b) 2100 pe De e.1 e.2.1 e.2.2) (hef : S_ef e = false) (hDe : De ≤ 30) (hd : b_at (g_i M b) dc (b_doc es)) (hd1 : 2000 ≤ dc) (hd2 : dc + (b_doc es).length ≤ 922000) (hd3 : dc + (b_doc es).length ≤ lo ∨ lo + 60000 ≤ dc) (hn : 16 ≤ n) (hl : (b_doc es).length ≤ 2000) (hg : X_gd 15 es) (hq : ∀ M1 v l1, e_fr (E_VF m b 2606200) M M1 → g_i M1 m 26 = l1 → 2606200 ≤ l1 → l1 ≤ 2608202 → G_et (g_i M1 b) lo l1 v (V_of n e es) → Q v M1) : g_Call dd 328 [.ref m, g_n pe, g_n dc] M (g_qI Q) := by
  obtain ⟨d, rfl⟩ : ∃ d, dd = d + 1 := ⟨dd - 1, by omega⟩
  have hmb : m ≠ b := g_neOA hR.1 hR.2.2
  have heM : b_st (g_i M b) 2706210 pe De e.1 e.2.1 e.2.2 := ⟨he.1, he.2.1, he.2.2.1, he.2.2.2.1, by have := he.2.2.2.2; omega⟩
  refine m_X12_fresh (heM.R (by decide)) ⟨by omega, by omega⟩ fun _ => ⟨hR.1, fun M2 e2 _ => ?_⟩
  have f2 : e_fr (E_VF m b 2606200) M M2 := by rw [e2]; exact e_fr.wi _ (Or.inl ⟨rfl, by decide, by decide⟩)
  have hb2 : g_i M2 b = g_i M b := by rw [e2]; exact funext fun k => by rw [g_i_wi, if_neg fun z => hmb z.1.symm]
  refine e_valE (n := n) (ls := 2606200) (by omega) (f2.R hR) hlo hlo2 (by rw [hb2]; exact he) hef hDe (by rw [hb2]; exact hd) hd1 hd2 hd3 hn hl hg (by rw [e2, g_i_wi, if_pos ⟨rfl, rfl⟩]) (by decide) (by decide) fun M3 v l1 f3 h26 hl1 hl2 hv => ?_
  intro _ _ _
  exact hq M3 v l1 (f2.tr f3) h26 hl1 (by omega) hv
/-- a belt's document -/
def G_ed (B : Int → Int) (lo dc : Int) (es : List b_E) : Prop := b_at B dc (b_doc es) ∧ 2000 ≤ dc ∧ dc + (b_doc es).length ≤ 922000 ∧ (dc + (b_doc es).length ≤ lo ∨ lo + 60000 ≤ dc) ∧ (b_doc es).length ≤ 2000 ∧ X_gd 15 es
theorem G_ed.kp {B B1 : Int → Int} {dc : Int} {es : List b_E} (h : G_ed B lo dc es) (hB : ∀ k : Int, k < 922000 → ¬ (lo ≤ k ∧ k < lo + 60000) → B1 k = B k) : G_ed B1 lo dc es := by
  obtain ⟨h1, h2, h3, h4, h5⟩ := h
  exact ⟨b_at_keep h1 fun k k1 k2 => hB k (by omega) (by omega), h2, h3, h4, h5⟩
theorem e_sameKey {d n De : Nat} {Q : Int → g_M → Prop} {pe d1 d2 : Int} {e : b_E} {es ez : List b_E} (hR : e_R M m b) (hlo : 802000 ≤ lo) (hlo2 : lo ≤ 862000) (hno : b_at (g_i M b) 2706200 [10, 0]) (he : b_st (g_i M b) 2100 pe De e.1 e.2.1 e.2.2) (hef : S_ef e = false) (hDe : De ≤ 30) (hn : 16 ≤ n) (hd1 : G_ed (g_i M b) lo d1 es) (hd2 : G_ed (g_i M b) lo d2 ez) (hq : ∀ M1, e_fr (E_VF m b 2606200) M M1 → Q (if G_sm n e es ez = true then 1 else 0) M1) : g_Call (d + 67) 347 [.ref m, g_n pe, g_n d1, g_n d2] M (g_qI Q) := by
  have hmb : m ≠ b := g_neOA hR.1 hR.2.2
  have heM : b_st (g_i M b) 2706210 pe De e.1 e.2.1 e.2.2 := ⟨he.1, he.2.1, he.2.2.1, he.2.2.2.1, by have := he.2.2.2.2; omega⟩
  obtain ⟨x1, x2, x3, x4, x5, x6⟩ := id hd1
  obtain ⟨y1, y2, y3, y4, y5, y6⟩ := id hd2
  have hbk : ∀ {Ma Mb : g_M} {ls : Int}, e_fr (E_VF m b ls) Ma Mb → ∀ k, k < ls ∨ 2706200 ≤ k → g_i Mb b k = g_i Ma b k := fun f k hk => f.2.1 b k fun z => by
    rcases z with ⟨z, -⟩ | ⟨-, z⟩
    · exact hmb z.symm
    · omega
  refine m_X12_haveSameKey (heM.R (by decide)) ⟨by omega, by omega⟩ ⟨by omega, by omega⟩ fun _ => ⟨hR.1, e_freshE (n := n) (by omega) hR hlo hlo2 he hef hDe x1 x2 x3 x4 hn x5 x6 fun M1 v l1 f1 h26 hl1 hl2 hv => ?_⟩
  intro _ _ hvR
  refine e_orN (d := d + 65) hvR ?_
  intro _ _ _
  have he1 : b_st (g_i M1 b) 2100 pe De e.1 e.2.1 e.2.2 := ⟨b_at_keep he.1 fun k k1 k2 => hbk f1 k (by have := he.2.2.2.2; omega), he.2⟩
  have y1' := (hd2.kp (B1 := g_i M1 b) fun k k1 _ => hbk f1 k (by omega)).1
  refine e_valE (n := n) (ls := l1) (by omega) (f1.R hR) hlo hlo2 he1 hef hDe y1' y2 y3 y4 hn y5 y6 h26 hl1 (by omega) fun M2 v2 l2 f2 h262 hl12 hl22 hv2 => ?_
  intro _ _ hv2R
  refine e_orN (d := d + 65) hv2R ?_
  intro _ _ _
  have f12 : e_fr (E_VF m b 2606200) M M2 := f1.tr (f2.up fun y k z => by
    rcases z with z | ⟨z, z2, z3⟩
    · exact Or.inl z
    · exact Or.inr ⟨z, by omega, z3⟩)
  have hno2 : b_at (g_i M2 b) 2706200 [10, 0] := b_at_keep hno fun k k1 _ => hbk f12 k (Or.inr k1)
  have hv' := hv.kp (B1 := g_i M2 b) fun k k1 _ => hbk f2 k (Or.inl k1)
  obtain ⟨nm1, q1, -⟩ := hv'.no hno2 hlo2
  obtain ⟨nm2, q2, -⟩ := hv2.no hno2 hlo2
  refine e_isSame3 (d := d) (f12.R hR) q1 q2 ?_
  intro _ _ _
  refine ⟨by split; exact Or.inr rfl; exact Or.inl rfl, hq M2 f12⟩
end EVALG
