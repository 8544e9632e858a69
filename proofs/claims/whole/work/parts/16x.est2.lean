/-! STAGES: $project and $unwind from their names on, the reference -/
section ESTAGE2
variable {m b ma be : Nat} {M : g_M} {Q : Int → g_M → Prop} {g : Int} {ds : List (List b_E)}
theorem e_stProject {d n De : Nat} {pe : Int} {e : b_E} (hT : E_T m b ma be M) (hg : g_i M m 24 = g) (hg01 : g = 0 ∨ g = 1) (hbt : E_belt m b be g ds M) (he : b_st (g_i M b) 2100 pe De e.1 e.2.1 e.2.2) (hnm : e.2.1 = b_tx 41) (hk : e.1 = 3) (hpf : S_pfL (b_ch e.2.2) = 0) (hDe : De ≤ 30) (hn : 16 ≤ n) (hf : E_fin m b ma be M g Q (ds.map (S_pj n (b_ch e.2.2)))) : g_Call (d + 71) 339 [.ref m, g_n pe] M (g_qI Q) := by
  have he5 := he.2.2.2.2
  have heM : b_st (g_i M b) 2706210 pe De e.1 e.2.1 e.2.2 := ⟨he.1, he.2.1, he.2.2.1, he.2.2.2.1, by omega⟩
  refine e_stMake (d := d + 66) hT.1 heM (Or.inl hnm) fun Q2 hq2 => ?_
  refine e_beginE (d := d + 68) hT hg hg01 hbt fun M1 f h24 hbt1 W F hb => ?_
  refine hq2 M1 (f.R hT.1) (by rw [hb]; exact heM) ?_
  exact e_project (d := d) (n := n) (hT.fr f) h24 hg01 hbt1 (by rw [hb]; exact he) hnm hk hpf hDe hn W F (hf.tr f)
theorem e_stUnwind {d De : Nat} {pe : Int} {e : b_E} (hT : E_T m b ma be M) (hg : g_i M m 24 = g) (hg01 : g = 0 ∨ g = 1) (hbt : E_belt m b be g ds M) (he : b_st (g_i M b) 2100 pe De e.1 e.2.1 e.2.2) (hnm : e.2.1 = b_tx 42) (hdol : S_dol e = true) (hpl : p_plain (S_pt e)) (hf : E_fin m b ma be M g Q (ds.flatMap (U_doc (p_sp (S_pt e))))) : g_Call (d + 71) 339 [.ref m, g_n pe] M (g_qI Q) := by
  have he5 := he.2.2.2.2
  have heM : b_st (g_i M b) 2706210 pe De e.1 e.2.1 e.2.2 := ⟨he.1, he.2.1, he.2.2.1, he.2.2.2.1, by omega⟩
  refine e_stMake (d := d + 66) hT.1 heM (Or.inr (Or.inl hnm)) fun Q2 hq2 => ?_
  refine e_beginE (d := d + 68) hT hg hg01 hbt fun M1 f h24 hbt1 W F hb => ?_
  refine hq2 M1 (f.R hT.1) (by rw [hb]; exact heM) ?_
  exact e_unwind (d := d) (hT.fr f) h24 hg01 hbt1 (by rw [hb]; exact he) hnm hdol hpl W F (hf.tr f)
end ESTAGE2
