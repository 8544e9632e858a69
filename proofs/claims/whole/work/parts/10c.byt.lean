/-! BYTES: what stands in a row of bytes -/
def b_at (B : Int → Int) (p : Int) (x : List Int) : Prop := ∀ (i : Nat) (v : Int), x[i]? = some v → B (p + i) = v
theorem b_nil (B : Int → Int) (p : Int) : b_at B p [] := fun i v h => by simp at h
theorem b_cons {B : Int → Int} {p v : Int} {x : List Int} : b_at B p (v :: x) ↔ B p = v ∧ b_at B (p + 1) x := by
  constructor
  · intro h
    refine ⟨by simpa using h 0 v rfl, fun i w hw => ?_⟩
    have h2 := h (i + 1) w (by simpa using hw)
    rwa [show p + ((i + 1 : Nat) : Int) = p + 1 + (i : Int) by omega] at h2
  · rintro ⟨h1, h2⟩ i w hw
    cases i with
    | zero =>
      simp only [List.getElem?_cons_zero, Option.some.injEq] at hw
      subst hw
      simpa using h1
    | succ i =>
      have h3 := h2 i w (by simpa using hw)
      rwa [show p + 1 + (i : Int) = p + ((i + 1 : Nat) : Int) by omega] at h3
theorem b_app {B : Int → Int} {x y : List Int} : ∀ {p : Int}, b_at B p (x ++ y) ↔ b_at B p x ∧ b_at B (p + x.length) y := by
  induction x with
  | nil =>
    intro p
    simp only [List.nil_append, List.length_nil]
    rw [show p + ((0 : Nat) : Int) = p by omega]
    exact ⟨fun h => ⟨b_nil B p, h⟩, fun h => h.2⟩
  | cons v x ih =>
    intro p
    rw [List.cons_append, b_cons, b_cons, ih, List.length_cons, show p + ((x.length + 1 : Nat) : Int) = p + 1 + (x.length : Int) by omega, and_assoc]
theorem b_get {B : Int → Int} {p q : Int} {x : List Int} (h : b_at B p x) (h1 : p ≤ q) (h2 : q < p + x.length) : ∃ v, v ∈ x ∧ B q = v := by
  have h3 : (q - p).toNat < x.length := by omega
  refine ⟨x[(q - p).toNat], List.getElem_mem h3, ?_⟩
  have h4 := h (q - p).toNat _ (List.getElem?_eq_getElem h3)
  rwa [show p + (((q - p).toNat : Nat) : Int) = q by omega] at h4
/-! numbers of four bytes -/
theorem nx_or (a b : Nat) : Int32.ofNat a ||| Int32.ofNat b = Int32.ofNat (a ||| b) := by
  apply Int32.toBitVec_inj.1
  apply BitVec.eq_of_toNat_eq
  simp [Nat.or_mod_two_pow]
theorem g_or_add {a b : Int} (s : Nat) (ha : 0 ≤ a) (ha2 : a < 2 ^ s) (hb : 0 ≤ b) (hab : a + b * 2 ^ s ≤ 2147483647) : g_or a (b * 2 ^ s) = a + b * 2 ^ s := by
  obtain ⟨x, rfl⟩ : ∃ x : Nat, a = x := ⟨a.toNat, by omega⟩
  obtain ⟨y, rfl⟩ : ∃ y : Nat, b = y := ⟨b.toNat, by omega⟩
  have h1 : x < 2 ^ s := by
    have h9 : ((x : Int) < ((2 ^ s : Nat) : Int)) := by push_cast; exact ha2
    omega
  have h2 : ((y : Int) * 2 ^ s) = ((2 ^ s * y : Nat) : Int) := by push_cast; exact Int.mul_comm _ _
  rw [h2] at hab ⊢
  unfold g_or
  rw [Int32.ofInt_eq_ofNat, Int32.ofInt_eq_ofNat, nx_or, Nat.or_comm, ← Nat.two_pow_add_eq_or_of_lt h1, Int32.toInt_ofNat_of_lt (by omega)]
  omega
theorem g_and255 {x : Int} (h : -128 ≤ x) (h2 : x ≤ 127) : g_and x 255 = x % 256 := by
  have h3 : ∀ k : Fin 256, g_and ((k.val : Int) - 128) 255 = ((k.val : Int) - 128) % 256 := by decide +kernel
  have h4 : g_and ((((x + 128).toNat : Nat) : Int) - 128) 255 = ((((x + 128).toNat : Nat) : Int) - 128) % 256 := h3 ⟨(x + 128).toNat, by omega⟩
  rwa [show (((x + 128).toNat : Nat) : Int) - 128 = x by omega] at h4
theorem g_shl8 {x : Int} (h : 0 ≤ x) (h2 : x < 256) : g_shl x 8 = x * 2 ^ 8 := by
  have h3 : ∀ k : Fin 256, g_shl (k.val : Int) 8 = (k.val : Int) * 2 ^ 8 := by decide +kernel
  have h4 : g_shl ((x.toNat : Nat) : Int) 8 = ((x.toNat : Nat) : Int) * 2 ^ 8 := h3 ⟨x.toNat, by omega⟩
  rwa [show ((x.toNat : Nat) : Int) = x by omega] at h4
theorem g_shl16 {x : Int} (h : 0 ≤ x) (h2 : x < 256) : g_shl x 16 = x * 2 ^ 16 := by
  have h3 : ∀ k : Fin 256, g_shl (k.val : Int) 16 = (k.val : Int) * 2 ^ 16 := by decide +kernel
  have h4 : g_shl ((x.toNat : Nat) : Int) 16 = ((x.toNat : Nat) : Int) * 2 ^ 16 := h3 ⟨x.toNat, by omega⟩
  rwa [show ((x.toNat : Nat) : Int) = x by omega] at h4
theorem g_shl24 {x : Int} (h : -128 ≤ x) (h2 : x ≤ 127) : g_shl (g_and x 255) 24 = g_shl x 24 := by
  have h3 : ∀ k : Fin 256, g_shl (g_and ((k.val : Int) - 128) 255) 24 = g_shl ((k.val : Int) - 128) 24 := by decide +kernel
  have h4 : g_shl (g_and ((((x + 128).toNat : Nat) : Int) - 128) 255) 24 = g_shl ((((x + 128).toNat : Nat) : Int) - 128) 24 := h3 ⟨(x + 128).toNat, by omega⟩
  rwa [show (((x + 128).toNat : Nat) : Int) - 128 = x by omega] at h4
/-- four bytes as a number, as the class reads them -/
def b_w4 (B : Int → Int) (p : Int) : Int := g_or (g_or (g_or (g_and (B p) 255) (g_shl (g_and (B (p + 1)) 255) 8)) (g_shl (g_and (B (p + 2)) 255) 16)) (g_shl (B (p + 3)) 24)
theorem b_w4_R (B : Int → Int) (p : Int) : g_InR (b_w4 B p) := g_InR_toInt _
theorem b_w4_eq {B C : Int → Int} {p q : Int} (h0 : B p = C q) (h1 : B (p + 1) = C (q + 1)) (h2 : B (p + 2) = C (q + 2)) (h3 : B (p + 3) = C (q + 3)) : b_w4 B p = b_w4 C q := by
  unfold b_w4
  rw [h0, h1, h2, h3]
/-- a size's four bytes -/
def b_le4 (n : Int) : List Int := [g_w8 n, g_w8 (n / 256), g_w8 (n / 65536), g_w8 (n / 16777216)]
theorem g_w8_mod (x : Int) : g_w8 x % 256 = x % 256 := by
  unfold g_w8
  rw [Int.bmod_def]
  split <;> omega
theorem b_w4_le4 {B : Int → Int} {p n : Int} (h0 : 0 ≤ n) (h1 : n < 16777216) (h : b_at B p (b_le4 n)) : b_w4 B p = n := by
  unfold b_le4 at h
  obtain ⟨e0, h⟩ := b_cons.mp h
  obtain ⟨e1, h⟩ := b_cons.mp h
  obtain ⟨e2, h⟩ := b_cons.mp h
  obtain ⟨e3, -⟩ := b_cons.mp h
  rw [show p + 1 + 1 = p + 2 by omega] at e2
  rw [show p + 1 + 1 + 1 = p + 3 by omega] at e3
  unfold b_w4
  have k0 := g_w8_R n
  have k1 := g_w8_R (n / 256)
  have k2 := g_w8_R (n / 65536)
  rw [e0, e1, e2, e3, g_and255 k0.1 k0.2, g_and255 k1.1 k1.2, g_and255 k2.1 k2.2, g_w8_mod, g_w8_mod, g_w8_mod]
  rw [show n / 16777216 = 0 by omega, show g_shl (g_w8 0) 24 = 0 * 2 ^ 24 by decide +kernel]
  rw [g_shl8 (by omega) (by omega), g_shl16 (by omega) (by omega)]
  rw [g_or_add 8 (by omega) (by omega) (by omega) (by omega)]
  rw [g_or_add 16 (by omega) (by omega) (by omega) (by omega)]
  rw [g_or_add 24 (by omega) (by omega) (by omega) (by omega)]
  omega
/-- the name of the element at p ends at z -/
def b_nm (B : Int → Int) (n p z : Int) : Prop := 0 ≤ p ∧ p < z ∧ z < n ∧ B z = 0 ∧ ∀ q, p < q → q < z → B q ≠ 0
theorem b_nm_fn {B : Int → Int} {n p z y : Int} (h : b_nm B n p z) (h2 : b_nm B n p y) : z = y := by
  obtain ⟨-, a1, a2, a3, a4⟩ := h
  obtain ⟨-, c1, c2, c3, c4⟩ := h2
  rcases Int.lt_trichotomy z y with g | g | g
  · exact absurd a3 (c4 z a1 g)
  · exact g
  · exact absurd c3 (a4 y c1 g)
/-- an element: its kind, its name, its value's bytes -/
def b_el (k : Int) (nm vb : List Int) : List Int := k :: (nm ++ 0 :: vb)
def b_nz (nm : List Int) : Prop := ∀ c ∈ nm, c ≠ 0
theorem b_el_len (k : Int) (nm vb : List Int) : (b_el k nm vb).length = nm.length + vb.length + 2 := by
  unfold b_el
  simp
  omega
theorem b_el_at {B : Int → Int} {p k : Int} {nm vb : List Int} (h : b_at B p (b_el k nm vb)) : B p = k ∧ b_at B (p + 1) nm ∧ B (p + 1 + nm.length) = 0 ∧ b_at B (p + 2 + nm.length) vb := by
  unfold b_el at h
  obtain ⟨h1, h2⟩ := b_cons.mp h
  obtain ⟨h3, h4⟩ := b_app.mp h2
  obtain ⟨h5, h6⟩ := b_cons.mp h4
  refine ⟨h1, h3, h5, ?_⟩
  rwa [show p + 1 + (nm.length : Int) + 1 = p + 2 + nm.length by omega] at h6
theorem b_el_nm {B : Int → Int} {n p k : Int} {nm vb : List Int} (h : b_at B p (b_el k nm vb)) (hz : b_nz nm) (h0 : 0 ≤ p) (h1 : p + 1 + nm.length < n) : b_nm B n p (p + 1 + nm.length) := by
  obtain ⟨-, h3, h4, -⟩ := b_el_at h
  refine ⟨h0, by omega, h1, h4, fun q q1 q2 => ?_⟩
  obtain ⟨v, hv, e⟩ := b_get h3 (by omega) q2
  rw [e]
  exact hz v hv
/-! the class Room's own readers -/
section C7
variable {d a : Nat} {M : g_M} {Q : Int → g_M → Prop} {n p z : Int}
def b_kd (B : Int → Int) (n p : Int) : Int := if p < 0 then 0 else if p < n then B p else 0
theorem c_kind (hA : g_A M a 0 n) (hn : g_InR n) (hp : g_InR p) (h : Q (b_kd (g_i M a) n p) M) : g_Call (d + 1) 108 [.ref a, g_n p] M (g_qI Q) := by
  unfold b_kd at h
  refine m_X7_kind hp fun hok => ⟨fun h1 => ?_, fun h1 => ⟨n, hA, hn, fun h2 => ⟨⟨by omega, h2⟩, ?_⟩, fun h2 => ?_⟩⟩
  · rwa [if_pos h1] at h
  · rwa [if_neg h1, if_pos h2] at h
  · rwa [if_neg h1, if_neg h2] at h
theorem c_w4 (hA : g_A M a 0 n) (hn : g_InR n) (h0 : 0 ≤ p) (h1 : p + 4 ≤ n) (h : Q (b_w4 (g_i M a) p) M) : g_Call (d + 1) 109 [.ref a, g_n p] M (g_qI Q) := by
  have hn2 := hn.2
  refine m_X7_whole4 ⟨by omega, by omega⟩ fun hok => ⟨fun h2 => absurd h2 (by omega), fun _ => ⟨⟨by omega, by omega⟩, n, hA, hn, fun h2 => absurd h2 (by omega), fun _ => ?_⟩⟩
  refine ⟨⟨by omega, by omega⟩, ⟨by omega, by omega⟩, ⟨by omega, by omega⟩, ⟨by omega, by omega⟩, ⟨by omega, by omega⟩, ⟨by omega, by omega⟩, ⟨by omega, by omega⟩, h⟩
theorem c_va (hA : g_A M a 0 n) (hn : g_InR n) (hz : b_nm (g_i M a) n p z) (h : Q (z + 1) M) : g_Call (d + 1) 110 [.ref a, g_n p] M (g_qI Q) := by
  obtain ⟨h0, h1, h2, h3, h4⟩ := hz
  have hn2 := hn.2
  have hl : ∀ (k : Nat) (v : Int), p ≤ v → v + 1 + k = z → g_Run d 110 11 [(0, .ref a), (1, g_n p), (2, g_n v)] [] M (g_qI Q) := by
    intro k
    induction k with
    | zero =>
      intro v hv e
      refine s_X7_valueAt_11 ⟨by omega, by omega⟩ ⟨by omega, by omega⟩ fun hok => ⟨n, hA, hn, ⟨by omega, by omega⟩, fun _ => ⟨⟨by omega, by omega⟩, ⟨by omega, by omega⟩, fun _ => ⟨⟨by omega, by omega⟩, ?_⟩, fun q => absurd ?_ q⟩, fun q => absurd ?_ q⟩
      · rwa [show v + 2 = z + 1 by omega]
      · rwa [show v + 1 = z by omega]
      · omega
    | succ k ih =>
      intro v hv e
      refine s_X7_valueAt_11 ⟨by omega, by omega⟩ ⟨by omega, by omega⟩ fun hok => ⟨n, hA, hn, ⟨by omega, by omega⟩, fun _ => ⟨⟨by omega, by omega⟩, ⟨by omega, by omega⟩, fun q => absurd q (h4 _ (by omega) (by omega)), fun _ => ⟨⟨by omega, by omega⟩, ih (v + 1) (by omega) (by omega)⟩⟩, fun q => absurd ?_ q⟩
      omega
  refine m_X7_valueAt ⟨by omega, by omega⟩ fun hok => ⟨fun q => absurd q (by omega), fun _ => hl (z - 1 - p).toNat p (Int.le_refl _) (by omega)⟩
theorem c_first (hA : g_A M a 0 n) (hn : g_InR n) (hz : b_nm (g_i M a) n p z) (hb : n ≤ 1000000000) (h : Q (z + 5) M) : g_Call (d + 1) 112 [.ref a, g_n p] M (g_qI Q) := by
  obtain ⟨h0, h1, h2, h3, h4⟩ := hz
  have hn2 := hn.2
  have hl : ∀ (k : Nat) (v : Int), p ≤ v → v + 1 + k = z → g_Run d 112 11 [(0, .ref a), (1, g_n p), (2, g_n v)] [] M (g_qI Q) := by
    intro k
    induction k with
    | zero =>
      intro v hv e
      refine s_X7_first_11 ⟨by omega, by omega⟩ ⟨by omega, by omega⟩ fun hok => ⟨n, hA, hn, ⟨by omega, by omega⟩, fun _ => ⟨⟨by omega, by omega⟩, ⟨by omega, by omega⟩, fun _ => ⟨⟨by omega, by omega⟩, ?_⟩, fun q => absurd ?_ q⟩, fun q => absurd ?_ q⟩
      · rwa [show v + 6 = z + 5 by omega]
      · rwa [show v + 1 = z by omega]
      · omega
    | succ k ih =>
      intro v hv e
      refine s_X7_first_11 ⟨by omega, by omega⟩ ⟨by omega, by omega⟩ fun hok => ⟨n, hA, hn, ⟨by omega, by omega⟩, fun _ => ⟨⟨by omega, by omega⟩, ⟨by omega, by omega⟩, fun q => absurd q (h4 _ (by omega) (by omega)), fun _ => ⟨⟨by omega, by omega⟩, ih (v + 1) (by omega) (by omega)⟩⟩, fun q => absurd ?_ q⟩
      omega
  refine m_X7_first ⟨by omega, by omega⟩ fun hok => ⟨fun q => absurd q (by omega), fun _ => hl (z - 1 - p).toNat p (Int.le_refl _) (by omega)⟩
end C7
