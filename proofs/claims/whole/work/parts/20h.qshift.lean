/-! REQUESTS: their form does not depend on where they stand -/
def Q_sf (s x : Int) : Int := if x = -1 then -1 else x + s
theorem Q_sf_m (s : Int) : Q_sf s (-1) = -1 := if_pos rfl
theorem Q_sf_q {s q : Int} (h : 0 ≤ q) : Q_sf s q = q + s := if_neg (by omega)
theorem Q_sf_0 {s q x : Int} (hs : 0 ≤ s) (hq : 0 ≤ q) (h : x = -1 ∨ q ≤ x) : Q_sf s x = -1 ↔ x = -1 := by
  constructor
  · intro z
    rcases h with h | h
    · exact h
    · rw [Q_sf_q (by omega)] at z
      omega
  · rintro rfl
    exact Q_sf_m s
section QSH
variable {s : Int}
theorem Q_fk_S (k : Int) : ∀ (r : List b_E) (q : Int), 0 ≤ q → Q_fk k (q + s) r = Q_sf s (Q_fk k q r)
  | [], q, _ => (Q_sf_m s).symm
  | e :: r, q, h => by
    unfold Q_fk
    by_cases g : e.1 = k
    · rw [if_pos g, if_pos g, show q + s + ((b_el e.1 e.2.1 e.2.2).length : Int) = q + (b_el e.1 e.2.1 e.2.2).length + s by omega]
      exact Q_fk_S k r _ (by omega)
    · rw [if_neg g, if_neg g]
      exact (Q_sf_q h).symm
theorem Q_nx_S {q : Int} (h : 0 ≤ q) : ∀ r : List b_E, Q_nx (q + s) r = Q_sf s (Q_nx q r)
  | [] => (Q_sf_m s).symm
  | _ :: _ => (Q_sf_q h).symm
theorem Q_pb_S {q : Int} (h : 0 ≤ q) (a : b_E) : ∀ r : List b_E, Q_pb (q + s) a r = Q_sf s (Q_pb q a r)
  | [] => (Q_sf_m s).symm
  | c :: r => by
    rw [Q_pb_c, Q_pb_c]
    split
    · rw [show q + s + ((b_el c.1 c.2.1 c.2.2).length : Int) = q + (b_el c.1 c.2.1 c.2.2).length + s by omega]
      exact Q_nx_S (by omega) r
    · exact (Q_sf_q h).symm
theorem Q_pa_S {q : Int} (h : 0 ≤ q) (e : b_E) : Q_pa (q + s) e = Q_sf s (Q_pa q e) := by
  unfold Q_pa
  by_cases g : e.1 = 4
  · rw [if_pos g, if_pos g]
    cases b_ch e.2.2 with
    | nil => exact (Q_sf_q h).symm
    | cons a r =>
      show (if Q_tx a = true then Q_pb (q + s + 6 + e.2.1.length + (b_el a.1 a.2.1 a.2.2).length) a r else q + s + 6 + e.2.1.length) = Q_sf s (if Q_tx a = true then Q_pb (q + 6 + e.2.1.length + (b_el a.1 a.2.1 a.2.2).length) a r else q + 6 + e.2.1.length)
      split
      · rw [show q + s + 6 + (e.2.1.length : Int) + ((b_el a.1 a.2.1 a.2.2).length : Int) = q + 6 + e.2.1.length + (b_el a.1 a.2.1 a.2.2).length + s by omega]
        exact Q_pb_S (by omega) a r
      · rw [Q_sf_q (by omega)]
        omega
  · rw [if_neg g, if_neg g]
    exact (Q_sf_q h).symm
theorem Q_hd_S {q : Int} (h : 0 ≤ q) (e : b_E) : Q_hd (q + s) e = Q_sf s (Q_hd q e) := by
  unfold Q_hd
  split
  · split
    · exact (Q_sf_m s).symm
    · exact (Q_sf_q h).symm
  split
  · unfold Q_pl
    split
    · rw [show q + s + 6 + (e.2.1.length : Int) = q + 6 + e.2.1.length + s by omega]
      exact Q_fk_S 3 _ _ (by omega)
    · exact (Q_sf_q h).symm
  split
  · exact Q_pa_S h e
  split
  · exact (Q_sf_m s).symm
  · exact (Q_sf_q h).symm
theorem Q_dn_S {q : Int} (h : 0 ≤ q) (e t : b_E) : Q_dn (q + s) e t = Q_sf s (Q_dn q e t) := by
  unfold Q_dn
  split
  · rw [show q + s + 6 + (t.2.1.length : Int) = q + 6 + t.2.1.length + s by omega]
    exact Q_fk_S 8 _ _ (by omega)
  · exact (Q_sf_q h).symm
theorem Q_r3_S {q : Int} (hs : 0 ≤ s) (h : 0 ≤ q) (e : b_E) (r : List b_E) : Q_r3 e (q + s) r = Q_sf s (Q_r3 e q r) := by
  unfold Q_r3
  split
  · cases r with
    | nil => exact (Q_sf_q h).symm
    | cons t r =>
      show (if t.1 = 3 ∧ t.2.1 = b_tx 11 then Q_nx (q + s + (b_el t.1 t.2.1 t.2.2).length) r else q + s) = Q_sf s (if t.1 = 3 ∧ t.2.1 = b_tx 11 then Q_nx (q + (b_el t.1 t.2.1 t.2.2).length) r else q)
      split
      · rw [show q + s + ((b_el t.1 t.2.1 t.2.2).length : Int) = q + (b_el t.1 t.2.1 t.2.2).length + s by omega]
        exact Q_nx_S (by omega) r
      · exact (Q_sf_q h).symm
  split
  · cases r with
    | nil => exact (Q_sf_q h).symm
    | cons t r =>
      show (if Q_dn (q + s) e t = -1 then Q_nx (q + s + (b_el t.1 t.2.1 t.2.2).length) r else Q_dn (q + s) e t) = Q_sf s (if Q_dn q e t = -1 then Q_nx (q + (b_el t.1 t.2.1 t.2.2).length) r else Q_dn q e t)
      rw [Q_dn_S h]
      by_cases g : Q_dn q e t = -1
      · rw [if_pos g, if_pos ((Q_sf_0 hs h (Q_dn_R q e t)).mpr g), show q + s + ((b_el t.1 t.2.1 t.2.2).length : Int) = q + (b_el t.1 t.2.1 t.2.2).length + s by omega]
        exact Q_nx_S (by omega) r
      · rw [if_neg g, if_neg fun z => g ((Q_sf_0 hs h (Q_dn_R q e t)).mp z)]
  · exact Q_nx_S h r
theorem Q_r2_p {q : Int} {e t : b_E} {r : List b_E} (g : Q_sh t) : Q_r2 e q (t :: r) = Q_r3 e (q + (b_el t.1 t.2.1 t.2.2).length) r := if_pos g
theorem Q_r2_n {q : Int} {e t : b_E} {r : List b_E} (g : ¬ Q_sh t) : Q_r2 e q (t :: r) = q := if_neg g
theorem Q_r2_S {q : Int} (hs : 0 ≤ s) (h : 0 ≤ q) (e : b_E) : ∀ r : List b_E, Q_r2 e (q + s) r = Q_sf s (Q_r2 e q r)
  | [] => (Q_sf_q h).symm
  | t :: r => by
    by_cases g : Q_sh t
    · rw [Q_r2_p g, Q_r2_p g, show q + s + ((b_el t.1 t.2.1 t.2.2).length : Int) = q + (b_el t.1 t.2.1 t.2.2).length + s by omega]
      exact Q_r3_S hs (by omega) e r
    · rw [Q_r2_n g, Q_r2_n g]
      exact (Q_sf_q h).symm
/-- the same fault, s further on -/
theorem Q_rq_S {q : Int} (hs : 0 ≤ s) (h : 0 ≤ q) : ∀ r : List b_E, Q_rq (q + s) r = Q_sf s (Q_rq q r)
  | [] => (Q_sf_q h).symm
  | e :: r => by
    rw [Q_rq_c, Q_rq_c]
    split
    · exact (Q_sf_q h).symm
    rw [Q_hd_S h]
    by_cases g : Q_hd q e = -1
    · rw [if_pos g, if_pos ((Q_sf_0 hs h (Q_hd_R q e)).mpr g), show q + s + ((b_el e.1 e.2.1 e.2.2).length : Int) = q + (b_el e.1 e.2.1 e.2.2).length + s by omega]
      exact Q_r2_S hs (by omega) e r
    · rw [if_neg g, if_neg fun z => g ((Q_sf_0 hs h (Q_hd_R q e)).mp z)]
end QSH
