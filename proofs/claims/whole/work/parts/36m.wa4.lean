/-! PURE: the answer, told from the request's own places; the state stays sound -/
/-- what a request does, its elements told from 4 on (so the reference counts) -/
noncomputable def W_as4 (F : Int → Int) (n : Int) (S : W_S) : W_R := if (r_doc F 16 0 n false).1 = 0 then (if Q_rq 4 (W_es F n) = -1 then (match W_es F n with
  | h :: s :: r => W_do 4 (4 + (b_el h.1 h.2.1 h.2.2).length + (b_el s.1 s.2.1 s.2.2).length) (W_w s) h (r.head?.getD (0, [], [])) S
  | _ => W_f S 9 4) else W_f S 9 (Q_rq 4 (W_es F n))) else W_f S (r_doc F 16 0 n false).1 (r_doc F 16 0 n false).2.1
theorem W_an_f {c p : Int} {x : List Int} (h : c ≠ 0) : W_an c p x = A_flt c p := if_neg h
theorem W_ask_4 {F : Int → Int} {n : Int} {S : W_S} : W_ask F n S = (W_an (W_as4 F n S).1.1 (W_as4 F n S).1.2 (W_as4 F n S).2.1, (W_as4 F n S).2.2) := by
  have hs := Q_rq_S (s := 4) (q := 4) (by decide) (by decide) (W_es F n)
  have hs : Q_rq 8 (W_es F n) = Q_sf 4 (Q_rq 4 (W_es F n)) := hs
  have hlo := Q_rq_lo 4 (W_es F n)
  unfold W_ask W_as4
  by_cases g : (r_doc F 16 0 n false).1 = 0
  · rw [if_pos g, if_pos g]
    by_cases k : Q_rq 4 (W_es F n) = -1
    · rw [if_pos k, if_pos (by rw [hs, k]; rfl)]
      have h1 : ∀ es, es = W_es F n → Q_rq 4 es = -1 → (match es with
        | h :: s :: r => (W_ans (W_do 8 (8 + (b_el h.1 h.2.1 h.2.2).length + (b_el s.1 s.2.1 s.2.2).length) (W_w s) h (r.head?.getD (0, [], [])) S), (W_do 8 (8 + (b_el h.1 h.2.1 h.2.2).length + (b_el s.1 s.2.1 s.2.2).length) (W_w s) h (r.head?.getD (0, [], [])) S).2.2)
        | _ => ([], S)) = (W_an (match es with
        | h :: s :: r => W_do 4 (4 + (b_el h.1 h.2.1 h.2.2).length + (b_el s.1 s.2.1 s.2.2).length) (W_w s) h (r.head?.getD (0, [], [])) S
        | _ => W_f S 9 4 : W_R).1.1 (match es with
        | h :: s :: r => W_do 4 (4 + (b_el h.1 h.2.1 h.2.2).length + (b_el s.1 s.2.1 s.2.2).length) (W_w s) h (r.head?.getD (0, [], [])) S
        | _ => W_f S 9 4 : W_R).1.2 (match es with
        | h :: s :: r => W_do 4 (4 + (b_el h.1 h.2.1 h.2.2).length + (b_el s.1 s.2.1 s.2.2).length) (W_w s) h (r.head?.getD (0, [], [])) S
        | _ => W_f S 9 4 : W_R).2.1, (match es with
        | h :: s :: r => W_do 4 (4 + (b_el h.1 h.2.1 h.2.2).length + (b_el s.1 s.2.1 s.2.2).length) (W_w s) h (r.head?.getD (0, [], [])) S
        | _ => W_f S 9 4 : W_R).2.2) := fun es _ hq => by
        match es, hq with
        | [], hq => exact absurd (show (4 : Int) = -1 from hq) (by decide)
        | [h], hq =>
          exfalso
          rw [Q_rq_c] at hq
          by_cases g1 : Q_op h.2.1 = 0
          · rw [if_pos g1] at hq
            exact absurd hq (by decide)
          · rw [if_neg g1] at hq
            by_cases g2 : Q_hd 4 h = -1
            · rw [if_pos g2] at hq
              have hq : (4 : Int) + ((b_el h.1 h.2.1 h.2.2).length : Int) = -1 := hq
              omega
            · rw [if_neg g2] at hq
              exact g2 hq
        | h :: s :: r, hq =>
          have h9 := W_do_S (q := 4) (q2 := 4 + (b_el h.1 h.2.1 h.2.2).length + (b_el s.1 s.2.1 s.2.2).length) (w := W_w s) (h := h) (t := r.head?.getD (0, [], [])) (S := S) (by decide) (by omega)
          rw [show (4 : Int) + 4 = 8 from rfl, show (4 : Int) + ((b_el h.1 h.2.1 h.2.2).length : Int) + ((b_el s.1 s.2.1 s.2.2).length : Int) + 4 = 8 + (b_el h.1 h.2.1 h.2.2).length + (b_el s.1 s.2.1 s.2.2).length by omega] at h9
          show (W_ans _, _) = (W_an _ _ _, _)
          rw [h9.ans, h9.1]
      exact h1 _ rfl k
    · have h8 : Q_sf 4 (Q_rq 4 (W_es F n)) = Q_rq 4 (W_es F n) + 4 := Q_sf_q (by have := hlo.resolve_left k; omega)
      rw [if_neg k, if_neg (by rw [hs, h8]; have := hlo.resolve_left k; omega), hs, h8]
      show (A_flt 9 (Q_rq 4 (W_es F n) + 4 - 4), S) = (W_an 9 (Q_rq 4 (W_es F n)) [], S)
      rw [W_an_f (by decide), show Q_rq 4 (W_es F n) + 4 - 4 = Q_rq 4 (W_es F n) by omega]
  · rw [if_neg g, if_neg g]
    show _ = (W_an (r_doc F 16 0 n false).1 (r_doc F 16 0 n false).2.1 [], S)
    rw [W_an_f g]
