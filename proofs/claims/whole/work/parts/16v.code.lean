/-! STAGES: which stage it is -/
noncomputable def S_cd (nm : List Int) : Int := if nm = b_tx 41 then 1 else if nm = b_tx 42 then 2 else if nm = b_tx 43 then 3 else if nm = b_tx 44 then 4 else if nm = b_tx 45 then 5 else if nm = b_tx 46 then 6 else if nm = b_tx 47 then 7 else 0
section STAGEOF
variable {so b : Nat} {M : g_M} {Q : Int → g_M → Prop}
theorem c_stageOf {d De : Nat} {pe : Int} {e : b_E} (hA : g_A M b 0 246408) (hs : b_st (g_i M b) 246408 pe De e.1 e.2.1 e.2.2) (hq : Q (S_cd e.2.1) M) : g_Call (d + 4) 138 [.ref b, g_n pe] M (g_qI Q) := by
  have hpeR := hs.R (by decide)
  have hs5 := hs.2.2.2.2
  rw [b_el_len] at hs5
  have hnm : ∀ {j : Nat} {Q1 : Int → g_M → Prop}, j < q_nS → (e.2.1 = b_tx j → Q1 1 M) → (e.2.1 ≠ b_tx j → Q1 0 M) → g_Call (d + 3) 115 [.ref b, g_n pe, .ref (4 * j + 1)] M (g_qI Q1) := fun {j} {Q1} hj h1 h0 => by
    refine c_named (d := d) hj hA (by decide) hs.1 hs.2.1 hs.2.2.2.1 (by omega) ?_
    by_cases g : e.2.1 = b_tx j
    · rw [if_pos g]
      exact h1 g
    · rw [if_neg g]
      exact h0 g
  unfold S_cd at hq
  refine m_X9_stageOf hpeR fun _ => hnm (by decide) (fun g => ?_) fun g => ?_
  · rw [if_pos g] at hq
    exact fun _ _ _ => ⟨fun z => absurd z (by decide), fun _ => hq⟩
  rw [if_neg g] at hq
  refine fun _ _ _ => ⟨fun _ => hnm (by decide) (fun g => ?_) fun g => ?_, fun z => absurd rfl z⟩
  · rw [if_pos g] at hq
    exact fun _ _ _ => ⟨fun z => absurd z (by decide), fun _ => hq⟩
  rw [if_neg g] at hq
  refine fun _ _ _ => ⟨fun _ => hnm (by decide) (fun g => ?_) fun g => ?_, fun z => absurd rfl z⟩
  · rw [if_pos g] at hq
    exact fun _ _ _ => ⟨fun z => absurd z (by decide), fun _ => hq⟩
  rw [if_neg g] at hq
  refine fun _ _ _ => ⟨fun _ => hnm (by decide) (fun g => ?_) fun g => ?_, fun z => absurd rfl z⟩
  · rw [if_pos g] at hq
    exact fun _ _ _ => ⟨fun z => absurd z (by decide), fun _ => hq⟩
  rw [if_neg g] at hq
  refine fun _ _ _ => ⟨fun _ => hnm (by decide) (fun g => ?_) fun g => ?_, fun z => absurd rfl z⟩
  · rw [if_pos g] at hq
    exact fun _ _ _ => ⟨fun z => absurd z (by decide), fun _ => hq⟩
  rw [if_neg g] at hq
  refine fun _ _ _ => ⟨fun _ => hnm (by decide) (fun g => ?_) fun g => ?_, fun z => absurd rfl z⟩
  · rw [if_pos g] at hq
    exact fun _ _ _ => ⟨fun z => absurd z (by decide), fun _ => hq⟩
  rw [if_neg g] at hq
  refine fun _ _ _ => ⟨fun _ => hnm (by decide) (fun g => ?_) fun g => ?_, fun z => absurd rfl z⟩
  · rw [if_pos g] at hq
    exact fun _ _ _ => ⟨fun z => absurd z (by decide), fun _ => hq⟩
  rw [if_neg g] at hq
  exact fun _ _ _ => ⟨fun _ => hq, fun z => absurd rfl z⟩
end STAGEOF
