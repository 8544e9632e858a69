/-! THE REFERENCE'S CONSTRUCTOR, before it drops its trees -/
def zp_EL : q_H := [
  .inr (12, [.ref 450, .ref 452, .int 0, .int 0, .int 0, .int 0, .int 0, .int 0, .int 0, .ref 454, .int 0, .int 0, .ref 456, .int 0, .int 0, .int 0, .int 0, .int 0, .ref 458, .int 0, .ref 460, .int 0, .ref 462, .int 0, .int 0, .int 0, .int 0, .int 0, .int 0, .int 0, .ref 464, .ref 466, .int 0, .int 0, .ref 468, .ref 470, .ref 472, .ref 474, .ref 476, .ref 478, .int 0, .int 0, .int 0, .int 0, .int 0, .ref 480, .ref 482, .int (-1), .ref 484, .ref 486, .ref 488, .ref 490, .ref 492, .ref 494, .ref 496, .int 0, .int 0, .ref 498, .ref 500, .ref 502, .ref 504, .int 0, .ref 506, .ref 508, .int 0, .int 0, .int 0, .int 0, .ref 510, .ref 512, .ref 514, .ref 516, .ref 518, .ref 520, .ref 522, .ref 524, .ref 526, .int 0]),
  .inl (0, 2706210, .inl [(2706200, 10)]),
  .inl (1, 2000, .inl []),
  .inl (1, 80000, .inl []),
  .inl (1, 12, .inl []),
  .inl (1, 200, .inl []),
  .inl (1, 200, .inl []),
  .inl (1, 200, .inl []),
  .inl (1, 200, .inl []),
  .inl (1, 200, .inl []),
  .inl (1, 800, .inl []),
  .inl (2, 8, .inl []),
  .inl (1, 8, .inl []),
  .inl (1, 16, .inl []),
  .inl (2, 16, .inl []),
  .inl (2, 16, .inl []),
  .inl (2, 12000, .inl []),
  .inl (1, 12000, .inl []),
  .inl (2, 4800, .inl []),
  .inl (2, 4800, .inl []),
  .inl (1, 4800, .inl []),
  .inl (1, 48000, .inl []),
  .inl (1, 48000, .inl []),
  .inl (1, 8, .inl []),
  .inl (1, 8, .inl []),
  .inl (1, 6000, .inl []),
  .inl (1, 6000, .inl []),
  .inl (2, 6000, .inl []),
  .inl (2, 6000, .inl []),
  .inl (1, 200, .inl []),
  .inl (2, 200, .inl []),
  .inl (1, 2, .inl []),
  .inl (1, 2, .inl []),
  .inl (1, 2, .inl [(1, 1), (0, 1)]),
  .inl (1, 400, .inl []),
  .inl (1, 400, .inl []),
  .inl (2, 400, .inl []),
  .inl (2, 200, .inl []),
  .inl (2, 200, .inl []),
  .inl (1, 8, .inl [])]
/-- a run, step by step, without calls -/
def q_pref (o nL : Nat) (ini : Bool) (cc : ByteArray) (ret : Option FieldType) : Nat → Nat → q_L → List Value → q_H → Nat → Nat → Option (Nat × q_L × List Value × q_H × Nat × Nat)
  | 0, pc, lv, st, E, c, s => some (pc, lv, st, E, c, s)
  | m + 1, pc1, lv, st, E, c1, s1 => q_nf pc1 fun pc => q_nf c1 fun c0 => q_nf s1 fun s0 => match decode cc pc with
    | .error _ => none
    | .ok (ins, len) => match q_rets ret ins len st with
      | some _ => none
      | none => match (q_kind ins).bind (fun ki => q_cal o ki.2) with
        | some _ => none
        | none => match q_step o nL ini ins len pc lv st E with
          | some (pc1, lv1, st1, E1, dc, ds) => q_pref o nL ini cc ret m pc1 lv1 st1 E1 (c0 + dc) (s0 + ds)
          | none => none
theorem q_cl_0 {call : Nat → List Value → q_H → Option q_X} {o len : Nat} {ins : Instr} {st : List Value} {E : q_H} (h : (q_kind ins).bind (fun ki => q_cal o ki.2) = none) : q_cl call o ins len st E = none := by
  unfold q_cl
  cases hk : q_kind ins with
  | none => rfl
  | some ki =>
    rw [hk] at h
    have h : q_cal o ki.2 = none := h
    show (q_cal o ki.2).bind _ = none
    rw [h]
    rfl
theorem q_pref_run {call : Nat → List Value → q_H → Option q_X} {o nL : Nat} {ini : Bool} {cc : ByteArray} {ret : Option FieldType} {n : Nat} {pc2 : Nat} {lv2 : q_L} {st2 : List Value} {E2 : q_H} {c2 s2 : Nat} : ∀ (m pc : Nat) (lv : q_L) (st : List Value) (E : q_H) (c s : Nat), q_pref o nL ini cc ret m pc lv st E c s = some (pc2, lv2, st2, E2, c2, s2) → q_run call o nL ini cc ret (m + n) pc lv st E c s = q_run call o nL ini cc ret n pc2 lv2 st2 E2 c2 s2 := by
  intro m
  induction m with
  | zero =>
    intro pc lv st E c s h
    cases h
    rw [Nat.zero_add]
  | succ m ih =>
    intro pc lv st E c s h
    unfold q_pref at h
    simp only [q_nf_eq] at h
    rw [Nat.succ_add]
    conv => lhs; unfold q_run
    simp only [q_nf_eq]
    split at h
    · cases h
    · rename_i ins len hd
      rw [hd]
      split at h
      · cases h
      · rename_i hr
        split at h
        · cases h
        · rename_i hc
          split at h
          · rename_i hs
            simp only [hr, q_cl_0 hc, hs]
            exact ih _ _ _ _ _ _ h
          · cases h
