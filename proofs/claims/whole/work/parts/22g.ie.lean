/-! INDEXES: entries and their order -/
/-- a key: a value's kind and bytes -/
abbrev I_K : Type := Int × List Int
/-- an entry: its two keys and its document's number -/
abbrev I_E : Type := I_K × I_K × Int
def I_w (w : Int) : Prop := w = 1 ∨ w = -1
theorem v_T.w {α : Type} {c : α → α → Int} (h : v_T c) {w : Int} (hw : I_w w) : v_T (fun x y => w * c x y) := by
  rcases hw with g | g
  · have e : (fun x y => w * c x y) = c := by
      subst g
      funext x y
      exact Int.one_mul _
    rw [e]
    exact h
  · have e : (fun x y => w * c x y) = fun x y => - c x y := by
      subst g
      funext x y
      omega
    rw [e]
    refine ⟨fun x y => ?_, fun x y => ?_, fun x y z => ?_⟩
    · show - c x y = -1 ∨ - c x y = 0 ∨ - c x y = 1
      have := h.r x y
      omega
    · show - c y x = - - c x y
      have := h.s x y
      omega
    · show - c x y ≤ 0 → - c y z ≤ 0 → - c x z ≤ 0
      intro h1 h2
      have a1 := h.s x y
      have a2 := h.s y z
      have a3 := h.s x z
      have a4 := h.t z y x (by omega) (by omega)
      omega
/-- how two keys compare, as the index goes -/
noncomputable def I_kc (w : Int) (x y : I_K) : Int := w * v_vc 61 x y
theorem I_kc_T {w : Int} (hw : I_w w) : v_T (I_kc w) := (v_vc_T 61).w hw
noncomputable def I_c (w1 w2 : Int) (x y : I_E) : Int := if I_kc w1 x.1 y.1 = 0 then (if I_kc w2 x.2.1 y.2.1 = 0 then v_tcmp x.2.2 y.2.2 else I_kc w2 x.2.1 y.2.1) else I_kc w1 x.1 y.1
theorem I_c_T {w1 w2 : Int} (h1 : I_w w1) (h2 : I_w w2) : v_T (I_c w1 w2) := ((I_kc_T h1).pb fun x : I_E => x.1).th (((I_kc_T h2).pb fun x : I_E => x.2.1).th (v_tcmp_T.pb fun x : I_E => x.2.2))
/-- a key is good, and not too long -/
def I_kg (k : I_K) : Prop := b_gv 16 k.1 k.2 ∧ k.2.length ≤ 64
def I_eg (e : I_E) : Prop := I_kg e.1 ∧ I_kg e.2.1 ∧ g_InR e.2.2
