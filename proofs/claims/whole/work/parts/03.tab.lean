def RL0 : String := "DocumentHouseLaw"
def RS0 : String := "java/lang/String"
def RS1 : String := "java/lang/StringLatin1"
def RS2 : String := "java/util/Arrays"
def RS3 : String := "java/lang/Integer"
def RS4 : String := "java/lang/Long"
theorem q_lwt {i : Nat} {w : Cond} (h : tables_1[i]? = some w) : w ∈ lw_tbl := List.mem_append_right _ (List.mem_of_getElem? h)
theorem q_lws {i : Nat} {y : MethodName × Nat} (h : lw_privs[i]? = some y) : Cond.selects y.1.cls y.1 y.1 ∈ lw_tbl := List.mem_append_left _ (List.mem_map.mpr ⟨y, List.mem_of_getElem? h, rfl⟩)
/-- the words that every method carries -/
def q_big : List Cond := lw_tbl.filter goodWord
theorem q_mem {w : Cond} (h : w ∈ lw_tbl) (hg : goodWord w = true) : w ∈ q_big := List.mem_filter.mpr ⟨h, hg⟩
def q_isN (w : Cond) : Bool := match w with
  | .fieldLinkNest .. => true
  | .methodLinkNest .. => true
  | _ => false
/-- the words of nest mates -/
def q_nst : List Cond := lw_tbl.filter q_isN
theorem q_memN {w : Cond} (h : w ∈ lw_tbl) (hg : q_isN w = true) : w ∈ q_nst := List.mem_filter.mpr ⟨h, hg⟩
def q_R (o : Nat) : String := match o with
  | 0 => RX0
  | 1 => RX1
  | 2 => RX2
  | 3 => RX3
  | 4 => RX4
  | 5 => RX5
  | 6 => RX6
  | 7 => RX7
  | 8 => RX8
  | 9 => RX9
  | 10 => RX10
  | 11 => RX11
  | 12 => RX12
  | 13 => RL0
  | 14 => RS0
  | 15 => RS1
  | 16 => RS2
  | 17 => RS3
  | _ => RS4
def q_TX (o : Nat) : u_T := match o with
  | 0 => TX0
  | 1 => TX1
  | 2 => TX2
  | 3 => TX3
  | 4 => TX4
  | 5 => TX5
  | 6 => TX6
  | 7 => TX7
  | 8 => TX8
  | 9 => TX9
  | 10 => TX10
  | 11 => TX11
  | _ => TX12
def q_Ty (o : Nat) : Nat → FieldType := match o with
  | 0 => tyX0
  | 1 => tyX1
  | 2 => tyX2
  | 3 => tyX3
  | 4 => tyX4
  | 5 => tyX5
  | 6 => tyX6
  | 7 => tyX7
  | 8 => tyX8
  | 9 => tyX9
  | 10 => tyX10
  | 11 => tyX11
  | _ => tyX12
def q_N (o : Nat) : Nat := match o with
  | 0 => 6
  | 1 => 9
  | 2 => 6
  | 3 => 14
  | 4 => 4
  | 5 => 5
  | 6 => 3
  | 7 => 3
  | 8 => 10
  | 9 => 20
  | 10 => 19
  | 11 => 19
  | 12 => 78
  | _ => 0
theorem q_vw : ∀ ci, ci < 13 → vwCl[ci]? = some (q_R ci, q_TX ci, q_N ci)
  | 0, _ => rfl
  | 1, _ => rfl
  | 2, _ => rfl
  | 3, _ => rfl
  | 4, _ => rfl
  | 5, _ => rfl
  | 6, _ => rfl
  | 7, _ => rfl
  | 8, _ => rfl
  | 9, _ => rfl
  | 10, _ => rfl
  | 11, _ => rfl
  | 12, _ => rfl
  | n + 13, h => absurd h (by omega)
theorem q_ty_ok : ∀ ci, ci < 13 → ∀ k, k < q_N ci → parseFieldDescriptor (q_TX ci k).2.2.1 = some (q_Ty ci k)
  | 0, _ => tyX0_ok
  | 1, _ => tyX1_ok
  | 2, _ => tyX2_ok
  | 3, _ => tyX3_ok
  | 4, _ => tyX4_ok
  | 5, _ => tyX5_ok
  | 6, _ => tyX6_ok
  | 7, _ => tyX7_ok
  | 8, _ => tyX8_ok
  | 9, _ => tyX9_ok
  | 10, _ => tyX10_ok
  | 11, _ => tyX11_ok
  | 12, _ => tyX12_ok
  | n + 13, h => absurd h (by omega)
theorem q_nm_ok : ∀ ci, ci < 13 → ∀ a, a < q_N ci → ∀ b, b < q_N ci → a ≠ b → (q_TX ci a).2.1 ≠ (q_TX ci b).2.1
  | 0, _ => nmX0
  | 1, _ => nmX1
  | 2, _ => nmX2
  | 3, _ => nmX3
  | 4, _ => nmX4
  | 5, _ => nmX5
  | 6, _ => nmX6
  | 7, _ => nmX7
  | 8, _ => nmX8
  | 9, _ => nmX9
  | 10, _ => nmX10
  | 11, _ => nmX11
  | 12, _ => nmX12
  | n + 13, h => absurd h (by omega)
theorem q_chk {L : List (Nat × Cond)} (h : L.all (fun q => decide (tables_1[q.1]? = some q.2)) = true) : ∀ q ∈ L, q.2 ∈ lw_tbl := fun q hq => q_lwt (of_decide_eq_true (List.all_eq_true.mp h q hq))
set_option maxRecDepth 100000 in
theorem q_lay0 : ∀ w ∈ u_ws RX0 TX0 6, w ∈ lw_tbl := by
  have h := q_chk (L := ([296, 298, 300, 302, 304, 306] : List Nat).zip (u_ws RX0 TX0 6)) (by decide +kernel)
  intro w hw
  obtain ⟨j, hj, rfl⟩ := List.mem_map.mp hw
  have hj2 := List.mem_range.mp hj
  refine h (([296, 298, 300, 302, 304, 306] : List Nat)[j]'(by exact hj2), u_lay RX0 TX0 j) ?_
  rw [List.mem_iff_getElem]
  exact ⟨j, by simpa [u_ws] using hj2, by simp [u_ws, List.getElem_zip]⟩
set_option maxRecDepth 100000 in
theorem q_lay1 : ∀ w ∈ u_ws RX1 TX1 9, w ∈ lw_tbl := by
  have h := q_chk (L := ([185, 187, 189, 191, 193, 195, 197, 199, 201] : List Nat).zip (u_ws RX1 TX1 9)) (by decide +kernel)
  intro w hw
  obtain ⟨j, hj, rfl⟩ := List.mem_map.mp hw
  have hj2 := List.mem_range.mp hj
  refine h (([185, 187, 189, 191, 193, 195, 197, 199, 201] : List Nat)[j]'(by exact hj2), u_lay RX1 TX1 j) ?_
  rw [List.mem_iff_getElem]
  exact ⟨j, by simpa [u_ws] using hj2, by simp [u_ws, List.getElem_zip]⟩
set_option maxRecDepth 100000 in
theorem q_lay2 : ∀ w ∈ u_ws RX2 TX2 6, w ∈ lw_tbl := by
  have h := q_chk (L := ([149, 151, 153, 155, 157, 159] : List Nat).zip (u_ws RX2 TX2 6)) (by decide +kernel)
  intro w hw
  obtain ⟨j, hj, rfl⟩ := List.mem_map.mp hw
  have hj2 := List.mem_range.mp hj
  refine h (([149, 151, 153, 155, 157, 159] : List Nat)[j]'(by exact hj2), u_lay RX2 TX2 j) ?_
  rw [List.mem_iff_getElem]
  exact ⟨j, by simpa [u_ws] using hj2, by simp [u_ws, List.getElem_zip]⟩
set_option maxRecDepth 100000 in
theorem q_lay3 : ∀ w ∈ u_ws RX3 TX3 14, w ∈ lw_tbl := by
  have h := q_chk (L := ([427, 429, 431, 433, 435, 437, 439, 441, 443, 445, 447, 449, 451, 453] : List Nat).zip (u_ws RX3 TX3 14)) (by decide +kernel)
  intro w hw
  obtain ⟨j, hj, rfl⟩ := List.mem_map.mp hw
  have hj2 := List.mem_range.mp hj
  refine h (([427, 429, 431, 433, 435, 437, 439, 441, 443, 445, 447, 449, 451, 453] : List Nat)[j]'(by exact hj2), u_lay RX3 TX3 j) ?_
  rw [List.mem_iff_getElem]
  exact ⟨j, by simpa [u_ws] using hj2, by simp [u_ws, List.getElem_zip]⟩
set_option maxRecDepth 100000 in
theorem q_lay4 : ∀ w ∈ u_ws RX4 TX4 4, w ∈ lw_tbl := by
  have h := q_chk (L := ([76, 78, 80, 82] : List Nat).zip (u_ws RX4 TX4 4)) (by decide +kernel)
  intro w hw
  obtain ⟨j, hj, rfl⟩ := List.mem_map.mp hw
  have hj2 := List.mem_range.mp hj
  refine h (([76, 78, 80, 82] : List Nat)[j]'(by exact hj2), u_lay RX4 TX4 j) ?_
  rw [List.mem_iff_getElem]
  exact ⟨j, by simpa [u_ws] using hj2, by simp [u_ws, List.getElem_zip]⟩
set_option maxRecDepth 100000 in
theorem q_lay5 : ∀ w ∈ u_ws RX5 TX5 5, w ∈ lw_tbl := by
  have h := q_chk (L := ([130, 132, 134, 136, 138] : List Nat).zip (u_ws RX5 TX5 5)) (by decide +kernel)
  intro w hw
  obtain ⟨j, hj, rfl⟩ := List.mem_map.mp hw
  have hj2 := List.mem_range.mp hj
  refine h (([130, 132, 134, 136, 138] : List Nat)[j]'(by exact hj2), u_lay RX5 TX5 j) ?_
  rw [List.mem_iff_getElem]
  exact ⟨j, by simpa [u_ws] using hj2, by simp [u_ws, List.getElem_zip]⟩
set_option maxRecDepth 100000 in
theorem q_lay6 : ∀ w ∈ u_ws RX6 TX6 3, w ∈ lw_tbl := by
  have h := q_chk (L := ([96, 98, 100] : List Nat).zip (u_ws RX6 TX6 3)) (by decide +kernel)
  intro w hw
  obtain ⟨j, hj, rfl⟩ := List.mem_map.mp hw
  have hj2 := List.mem_range.mp hj
  refine h (([96, 98, 100] : List Nat)[j]'(by exact hj2), u_lay RX6 TX6 j) ?_
  rw [List.mem_iff_getElem]
  exact ⟨j, by simpa [u_ws] using hj2, by simp [u_ws, List.getElem_zip]⟩
set_option maxRecDepth 100000 in
theorem q_lay7 : ∀ w ∈ u_ws RX7 TX7 3, w ∈ lw_tbl := by
  have h := q_chk (L := ([52, 54, 56] : List Nat).zip (u_ws RX7 TX7 3)) (by decide +kernel)
  intro w hw
  obtain ⟨j, hj, rfl⟩ := List.mem_map.mp hw
  have hj2 := List.mem_range.mp hj
  refine h (([52, 54, 56] : List Nat)[j]'(by exact hj2), u_lay RX7 TX7 j) ?_
  rw [List.mem_iff_getElem]
  exact ⟨j, by simpa [u_ws] using hj2, by simp [u_ws, List.getElem_zip]⟩
set_option maxRecDepth 100000 in
theorem q_lay8 : ∀ w ∈ u_ws RX8 TX8 10, w ∈ lw_tbl := by
  have h := q_chk (L := ([479, 481, 483, 485, 487, 489, 491, 493, 495, 497] : List Nat).zip (u_ws RX8 TX8 10)) (by decide +kernel)
  intro w hw
  obtain ⟨j, hj, rfl⟩ := List.mem_map.mp hw
  have hj2 := List.mem_range.mp hj
  refine h (([479, 481, 483, 485, 487, 489, 491, 493, 495, 497] : List Nat)[j]'(by exact hj2), u_lay RX8 TX8 j) ?_
  rw [List.mem_iff_getElem]
  exact ⟨j, by simpa [u_ws] using hj2, by simp [u_ws, List.getElem_zip]⟩
set_option maxRecDepth 100000 in
theorem q_lay9 : ∀ w ∈ u_ws RX9 TX9 20, w ∈ lw_tbl := by
  have h := q_chk (L := ([240, 242, 244, 246, 248, 250, 252, 254, 256, 258, 260, 262, 264, 266, 268, 270, 272, 274, 276, 278] : List Nat).zip (u_ws RX9 TX9 20)) (by decide +kernel)
  intro w hw
  obtain ⟨j, hj, rfl⟩ := List.mem_map.mp hw
  have hj2 := List.mem_range.mp hj
  refine h (([240, 242, 244, 246, 248, 250, 252, 254, 256, 258, 260, 262, 264, 266, 268, 270, 272, 274, 276, 278] : List Nat)[j]'(by exact hj2), u_lay RX9 TX9 j) ?_
  rw [List.mem_iff_getElem]
  exact ⟨j, by simpa [u_ws] using hj2, by simp [u_ws, List.getElem_zip]⟩
set_option maxRecDepth 100000 in
theorem q_lay10 : ∀ w ∈ u_ws RX10 TX10 19, w ∈ lw_tbl := by
  have h := q_chk (L := ([361, 363, 365, 367, 369, 371, 373, 375, 377, 379, 381, 383, 385, 387, 389, 391, 393, 395, 397] : List Nat).zip (u_ws RX10 TX10 19)) (by decide +kernel)
  intro w hw
  obtain ⟨j, hj, rfl⟩ := List.mem_map.mp hw
  have hj2 := List.mem_range.mp hj
  refine h (([361, 363, 365, 367, 369, 371, 373, 375, 377, 379, 381, 383, 385, 387, 389, 391, 393, 395, 397] : List Nat)[j]'(by exact hj2), u_lay RX10 TX10 j) ?_
  rw [List.mem_iff_getElem]
  exact ⟨j, by simpa [u_ws] using hj2, by simp [u_ws, List.getElem_zip]⟩
set_option maxRecDepth 100000 in
theorem q_lay11 : ∀ w ∈ u_ws RX11 TX11 19, w ∈ lw_tbl := by
  have h := q_chk (L := ([520, 522, 524, 526, 528, 530, 532, 534, 536, 538, 540, 542, 544, 546, 548, 550, 552, 554, 556] : List Nat).zip (u_ws RX11 TX11 19)) (by decide +kernel)
  intro w hw
  obtain ⟨j, hj, rfl⟩ := List.mem_map.mp hw
  have hj2 := List.mem_range.mp hj
  refine h (([520, 522, 524, 526, 528, 530, 532, 534, 536, 538, 540, 542, 544, 546, 548, 550, 552, 554, 556] : List Nat)[j]'(by exact hj2), u_lay RX11 TX11 j) ?_
  rw [List.mem_iff_getElem]
  exact ⟨j, by simpa [u_ws] using hj2, by simp [u_ws, List.getElem_zip]⟩
set_option maxRecDepth 100000 in
theorem q_lay12 : ∀ w ∈ u_ws RX12 TX12 78, w ∈ lw_tbl := by
  have h := q_chk (L := ([1802, 1804, 1806, 1808, 1810, 1812, 1814, 1816, 1818, 1820, 1822, 1824, 1826, 1828, 1830, 1832, 1834, 1836, 1838, 1840, 1842, 1844, 1846, 1848, 1850, 1852, 1854, 1856, 1858, 1860, 1862, 1864, 1866, 1868, 1870, 1872, 1874, 1876, 1878, 1880, 1882, 1884, 1886, 1888, 1890, 1892, 1894, 1896, 1898, 1900, 1902, 1904, 1906, 1908, 1910, 1912, 1914, 1916, 1918, 1920, 1922, 1924, 1926, 1928, 1930, 1932, 1934, 1936, 1938, 1940, 1942, 1944, 1946, 1948, 1950, 1952, 1954, 1956] : List Nat).zip (u_ws RX12 TX12 78)) (by decide +kernel)
  intro w hw
  obtain ⟨j, hj, rfl⟩ := List.mem_map.mp hw
  have hj2 := List.mem_range.mp hj
  refine h (([1802, 1804, 1806, 1808, 1810, 1812, 1814, 1816, 1818, 1820, 1822, 1824, 1826, 1828, 1830, 1832, 1834, 1836, 1838, 1840, 1842, 1844, 1846, 1848, 1850, 1852, 1854, 1856, 1858, 1860, 1862, 1864, 1866, 1868, 1870, 1872, 1874, 1876, 1878, 1880, 1882, 1884, 1886, 1888, 1890, 1892, 1894, 1896, 1898, 1900, 1902, 1904, 1906, 1908, 1910, 1912, 1914, 1916, 1918, 1920, 1922, 1924, 1926, 1928, 1930, 1932, 1934, 1936, 1938, 1940, 1942, 1944, 1946, 1948, 1950, 1952, 1954, 1956] : List Nat)[j]'(by exact hj2), u_lay RX12 TX12 j) ?_
  rw [List.mem_iff_getElem]
  exact ⟨j, by simpa [u_ws] using hj2, by simp [u_ws, List.getElem_zip]⟩
theorem q_lay_ok : ∀ ci, ci < 13 → ∀ w ∈ u_ws (q_R ci) (q_TX ci) (q_N ci), w ∈ lw_tbl
  | 0, _ => q_lay0
  | 1, _ => q_lay1
  | 2, _ => q_lay2
  | 3, _ => q_lay3
  | 4, _ => q_lay4
  | 5, _ => q_lay5
  | 6, _ => q_lay6
  | 7, _ => q_lay7
  | 8, _ => q_lay8
  | 9, _ => q_lay9
  | 10, _ => q_lay10
  | 11, _ => q_lay11
  | 12, _ => q_lay12
  | n + 13, h => absurd h (by omega)
theorem q_layG : ∀ (C : String) (T : u_T) (N : Nat), ∀ w ∈ u_ws C T N, goodWord w = true := by
  intro C T N w hw
  obtain ⟨j, -, rfl⟩ := List.mem_map.mp hw
  unfold u_lay
  split <;> rfl
theorem q_lay_big {ci : Nat} (h : ci < 13) : ∀ w ∈ u_ws (q_R ci) (q_TX ci) (q_N ci), w ∈ q_big := fun w hw => q_mem (q_lay_ok ci h w hw) (q_layG _ _ _ w hw)
theorem q_inst : ∀ ci, ci < 13 → Cond.instantiable (q_R ci) (q_N ci) ∈ lw_tbl
  | 0, _ => q_lwt (i := 282) (by decide +kernel)
  | 1, _ => q_lwt (i := 163) (by decide +kernel)
  | 2, _ => q_lwt (i := 104) (by decide +kernel)
  | 3, _ => q_lwt (i := 323) (by decide +kernel)
  | 4, _ => q_lwt (i := 62) (by decide +kernel)
  | 5, _ => q_lwt (i := 110) (by decide +kernel)
  | 6, _ => q_lwt (i := 86) (by decide +kernel)
  | 7, _ => q_lwt (i := 32) (by decide +kernel)
  | 8, _ => q_lwt (i := 313) (by decide +kernel)
  | 9, _ => q_lwt (i := 205) (by decide +kernel)
  | 10, _ => q_lwt (i := 331) (by decide +kernel)
  | 11, _ => q_lwt (i := 24) (by decide +kernel)
  | 12, _ => q_lwt (i := 1703) (by decide +kernel)
  | n + 13, h => absurd h (by omega)
theorem q_init : ∀ ci, ci < 13 → Cond.initialized (q_R ci) ∈ lw_tbl
  | 0, _ => q_lwt (i := 9) (by decide +kernel)
  | 1, _ => q_lwt (i := 7) (by decide +kernel)
  | 2, _ => q_lwt (i := 5) (by decide +kernel)
  | 3, _ => q_lwt (i := 11) (by decide +kernel)
  | 4, _ => q_lwt (i := 3) (by decide +kernel)
  | 5, _ => q_lwt (i := 6) (by decide +kernel)
  | 6, _ => q_lwt (i := 4) (by decide +kernel)
  | 7, _ => q_lwt (i := 2) (by decide +kernel)
  | 8, _ => q_lwt (i := 10) (by decide +kernel)
  | 9, _ => q_lwt (i := 8) (by decide +kernel)
  | 10, _ => q_lwt (i := 12) (by decide +kernel)
  | 11, _ => q_lwt (i := 1) (by decide +kernel)
  | 12, _ => q_lwt (i := 13) (by decide +kernel)
  | n + 13, h => absurd h (by omega)
def q_fldT (o : Nat) : List (Nat × Nat × Nat × Nat × Nat) := match o with
  | 0 => [(15, 7, 0, 1, 42), (86, 7, 2, 1, 49), (9, 0, 0, 0, 288), (21, 0, 1, 0, 289), (26, 0, 2, 0, 290), (29, 0, 3, 0, 291), (33, 0, 4, 0, 292), (37, 0, 5, 0, 294), (58, 3, 5, 1, 410), (68, 3, 6, 1, 412), (61, 3, 7, 1, 413), (71, 3, 8, 1, 415), (49, 8, 2, 1, 460), (44, 8, 6, 1, 472)]
  | 1 => [(150, 5, 0, 1, 116), (151, 5, 1, 1, 119), (154, 5, 2, 1, 122), (143, 5, 3, 1, 125), (9, 1, 0, 0, 173), (18, 1, 1, 0, 174), (22, 1, 2, 0, 175), (32, 1, 3, 0, 176), (137, 1, 4, 0, 177), (111, 1, 5, 0, 178), (114, 1, 6, 0, 179), (54, 1, 7, 0, 181), (58, 1, 8, 0, 183)]
  | 2 => [(15, 7, 0, 1, 40), (147, 7, 2, 1, 50), (111, 5, 4, 1, 128), (9, 2, 0, 0, 141), (21, 2, 1, 0, 142), (27, 2, 2, 0, 143), (82, 2, 3, 0, 144), (86, 2, 4, 0, 145), (93, 2, 5, 0, 147)]
  | 3 => [(15, 7, 0, 1, 43), (133, 7, 2, 1, 48), (120, 10, 12, 1, 349), (73, 10, 13, 1, 351), (114, 10, 15, 1, 354), (9, 3, 0, 0, 401), (21, 3, 1, 0, 402), (27, 3, 2, 0, 403), (31, 3, 3, 0, 405), (37, 3, 4, 0, 407), (41, 3, 5, 0, 409), (45, 3, 6, 0, 411), (127, 3, 7, 0, 414), (130, 3, 8, 0, 416), (83, 3, 9, 0, 417), (69, 3, 10, 0, 420), (77, 3, 11, 0, 422), (80, 3, 12, 0, 424), (117, 3, 13, 0, 426), (157, 8, 2, 1, 461), (160, 8, 3, 1, 464), (152, 8, 6, 1, 473)]
  | 4 => [(9, 4, 0, 0, 67), (15, 4, 1, 0, 69), (19, 4, 2, 0, 72), (31, 4, 3, 0, 73)]
  | 5 => [(51, 7, 0, 1, 45), (18, 5, 0, 0, 115), (9, 5, 1, 0, 118), (15, 5, 2, 0, 121), (22, 5, 3, 0, 124), (26, 5, 4, 0, 127)]
  | 6 => [(9, 6, 0, 0, 91), (19, 6, 1, 0, 92), (23, 6, 2, 0, 94)]
  | 7 => [(10, 7, 0, 0, 39), (16, 7, 1, 0, 46), (20, 7, 2, 0, 47)]
  | 8 => [(9, 7, 0, 1, 38), (84, 3, 9, 1, 418), (15, 8, 0, 0, 456), (20, 8, 1, 0, 457), (27, 8, 2, 0, 458), (31, 8, 3, 0, 463), (46, 8, 4, 0, 466), (40, 8, 5, 0, 468), (60, 8, 6, 0, 471), (75, 8, 7, 0, 475), (78, 8, 8, 0, 477), (24, 8, 9, 0, 478)]
  | 9 => [(15, 7, 0, 1, 41), (374, 7, 2, 1, 51), (195, 4, 1, 1, 71), (197, 4, 3, 1, 75), (230, 5, 0, 1, 117), (231, 5, 1, 1, 120), (234, 5, 2, 1, 123), (223, 5, 3, 1, 126), (361, 5, 4, 1, 129), (9, 9, 0, 0, 218), (21, 9, 1, 0, 219), (27, 9, 2, 0, 220), (31, 9, 3, 0, 221), (40, 9, 4, 0, 222), (45, 9, 5, 0, 223), (48, 9, 6, 0, 224), (52, 9, 7, 0, 226), (55, 9, 8, 0, 227), (58, 9, 9, 0, 228), (61, 9, 10, 0, 229), (66, 9, 11, 0, 230), (69, 9, 12, 0, 231), (94, 9, 13, 0, 232), (84, 9, 14, 0, 233), (168, 9, 15, 0, 235), (171, 9, 16, 0, 236), (98, 9, 17, 0, 237), (174, 9, 18, 0, 238), (178, 9, 19, 0, 239), (85, 8, 2, 1, 459), (72, 8, 6, 1, 470)]
  | 10 => [(11, 10, 0, 0, 336), (15, 10, 1, 0, 337), (19, 10, 2, 0, 338), (60, 10, 3, 0, 339), (22, 10, 4, 0, 340), (25, 10, 5, 0, 341), (28, 10, 6, 0, 342), (31, 10, 7, 0, 343), (35, 10, 8, 0, 344), (63, 10, 9, 0, 345), (38, 10, 10, 0, 346), (41, 10, 11, 0, 347), (44, 10, 12, 0, 348), (48, 10, 13, 0, 350), (70, 10, 14, 0, 352), (51, 10, 15, 0, 353), (54, 10, 16, 0, 356), (57, 10, 17, 0, 358), (77, 10, 18, 0, 360)]
  | 11 => [(12, 7, 0, 1, 44), (188, 4, 0, 1, 68), (178, 4, 1, 1, 70), (171, 4, 3, 1, 74), (122, 6, 1, 1, 93), (123, 6, 2, 1, 95), (310, 2, 4, 1, 146), (311, 2, 5, 1, 148), (354, 1, 6, 1, 180), (343, 1, 7, 1, 182), (344, 1, 8, 1, 184), (435, 9, 6, 1, 225), (434, 9, 14, 1, 234), (453, 0, 4, 1, 293), (456, 0, 5, 1, 295), (396, 10, 15, 1, 355), (406, 10, 16, 1, 357), (410, 10, 17, 1, 359), (438, 3, 2, 1, 404), (447, 3, 3, 1, 406), (390, 3, 4, 1, 408), (375, 3, 9, 1, 419), (444, 3, 10, 1, 421), (413, 3, 11, 1, 423), (418, 3, 12, 1, 425), (204, 8, 2, 1, 462), (201, 8, 3, 1, 465), (289, 8, 4, 1, 467), (345, 8, 5, 1, 469), (189, 8, 6, 1, 474), (191, 8, 7, 1, 476), (16, 11, 0, 0, 501), (24, 11, 1, 0, 502), (33, 11, 2, 0, 503), (42, 11, 3, 0, 504), (49, 11, 4, 0, 505), (56, 11, 5, 0, 506), (63, 11, 6, 0, 507), (70, 11, 7, 0, 508), (74, 11, 8, 0, 509), (83, 11, 9, 0, 510), (87, 11, 10, 0, 511), (91, 11, 11, 0, 512), (99, 11, 12, 0, 513), (135, 11, 13, 0, 514), (213, 11, 14, 0, 515), (233, 11, 15, 0, 516), (95, 11, 16, 0, 517), (107, 11, 17, 0, 518), (187, 11, 18, 0, 519)]
  | 12 => [(10, 12, 0, 0, 1724), (14, 12, 1, 0, 1725), (1013, 12, 2, 0, 1726), (1027, 12, 3, 0, 1727), (194, 12, 4, 0, 1728), (197, 12, 5, 0, 1729), (200, 12, 6, 0, 1730), (224, 12, 7, 0, 1731), (227, 12, 8, 0, 1732), (19, 12, 9, 0, 1733), (297, 12, 10, 0, 1734), (342, 12, 11, 0, 1735), (22, 12, 12, 0, 1736), (452, 12, 13, 0, 1737), (462, 12, 14, 0, 1738), (471, 12, 15, 0, 1739), (474, 12, 16, 0, 1740), (520, 12, 17, 0, 1741), (25, 12, 18, 0, 1742), (622, 12, 19, 0, 1743), (28, 12, 20, 0, 1744), (671, 12, 21, 0, 1745), (31, 12, 22, 0, 1746), (610, 12, 23, 0, 1747), (616, 12, 24, 0, 1748), (613, 12, 25, 0, 1749), (548, 12, 26, 0, 1750), (533, 12, 27, 0, 1751), (536, 12, 28, 0, 1752), (539, 12, 29, 0, 1753), (34, 12, 30, 0, 1754), (37, 12, 31, 0, 1755), (677, 12, 32, 0, 1756), (683, 12, 33, 0, 1757), (40, 12, 34, 0, 1758), (43, 12, 35, 0, 1759), (47, 12, 36, 0, 1760), (50, 12, 37, 0, 1761), (53, 12, 38, 0, 1762), (56, 12, 39, 0, 1763), (712, 12, 40, 0, 1764), (730, 12, 41, 0, 1765), (724, 12, 42, 0, 1766), (727, 12, 43, 0, 1767), (733, 12, 44, 0, 1768), (59, 12, 45, 0, 1769), (62, 12, 46, 0, 1770), (65, 12, 47, 0, 1771), (69, 12, 48, 0, 1772), (72, 12, 49, 0, 1773), (75, 12, 50, 0, 1774), (79, 12, 51, 0, 1775), (82, 12, 52, 0, 1776), (85, 12, 53, 0, 1777), (88, 12, 54, 0, 1778), (775, 12, 55, 0, 1779), (778, 12, 56, 0, 1780), (91, 12, 57, 0, 1781), (94, 12, 58, 0, 1782), (97, 12, 59, 0, 1783), (100, 12, 60, 0, 1784), (812, 12, 61, 0, 1785), (103, 12, 62, 0, 1786), (106, 12, 63, 0, 1787), (841, 12, 64, 0, 1788), (847, 12, 65, 0, 1789), (850, 12, 66, 0, 1790), (856, 12, 67, 0, 1791), (109, 12, 68, 0, 1792), (112, 12, 69, 0, 1793), (115, 12, 70, 0, 1794), (118, 12, 71, 0, 1795), (121, 12, 72, 0, 1796), (124, 12, 73, 0, 1797), (127, 12, 74, 0, 1798), (130, 12, 75, 0, 1799), (133, 12, 76, 0, 1800), (917, 12, 77, 0, 1801)]
  | _ => []
def q_fldW (o : Nat) (q : Nat × Nat × Nat × Nat × Nat) : Cond := if q.2.2.2.1 = 0 then .fieldLink (q_R o) q.1 (q_TX q.2.1 q.2.2.1).1 (q_TX q.2.1 q.2.2.1).2.1 (q_TX q.2.1 q.2.2.1).2.2.1 else .fieldLinkNest (q_R o) q.1 (q_TX q.2.1 q.2.2.1).1 (q_TX q.2.1 q.2.2.1).2.1 (q_TX q.2.1 q.2.2.1).2.2.1 "DocumentHouse"
set_option maxRecDepth 100000 in
theorem q_fldC_0 : (q_fldT 0).all (fun q => decide (tables_1[q.2.2.2.2]? = some (q_fldW 0 q)) && decide (q.2.1 < 13) && decide (q.2.2.1 < q_N q.2.1) && decide ((q_TX q.2.1 q.2.2.1).1 = q_R q.2.1)) = true := by decide +kernel
set_option maxRecDepth 100000 in
theorem q_fldC_1 : (q_fldT 1).all (fun q => decide (tables_1[q.2.2.2.2]? = some (q_fldW 1 q)) && decide (q.2.1 < 13) && decide (q.2.2.1 < q_N q.2.1) && decide ((q_TX q.2.1 q.2.2.1).1 = q_R q.2.1)) = true := by decide +kernel
set_option maxRecDepth 100000 in
theorem q_fldC_2 : (q_fldT 2).all (fun q => decide (tables_1[q.2.2.2.2]? = some (q_fldW 2 q)) && decide (q.2.1 < 13) && decide (q.2.2.1 < q_N q.2.1) && decide ((q_TX q.2.1 q.2.2.1).1 = q_R q.2.1)) = true := by decide +kernel
set_option maxRecDepth 100000 in
theorem q_fldC_3 : (q_fldT 3).all (fun q => decide (tables_1[q.2.2.2.2]? = some (q_fldW 3 q)) && decide (q.2.1 < 13) && decide (q.2.2.1 < q_N q.2.1) && decide ((q_TX q.2.1 q.2.2.1).1 = q_R q.2.1)) = true := by decide +kernel
set_option maxRecDepth 100000 in
theorem q_fldC_4 : (q_fldT 4).all (fun q => decide (tables_1[q.2.2.2.2]? = some (q_fldW 4 q)) && decide (q.2.1 < 13) && decide (q.2.2.1 < q_N q.2.1) && decide ((q_TX q.2.1 q.2.2.1).1 = q_R q.2.1)) = true := by decide +kernel
set_option maxRecDepth 100000 in
theorem q_fldC_5 : (q_fldT 5).all (fun q => decide (tables_1[q.2.2.2.2]? = some (q_fldW 5 q)) && decide (q.2.1 < 13) && decide (q.2.2.1 < q_N q.2.1) && decide ((q_TX q.2.1 q.2.2.1).1 = q_R q.2.1)) = true := by decide +kernel
set_option maxRecDepth 100000 in
theorem q_fldC_6 : (q_fldT 6).all (fun q => decide (tables_1[q.2.2.2.2]? = some (q_fldW 6 q)) && decide (q.2.1 < 13) && decide (q.2.2.1 < q_N q.2.1) && decide ((q_TX q.2.1 q.2.2.1).1 = q_R q.2.1)) = true := by decide +kernel
set_option maxRecDepth 100000 in
theorem q_fldC_7 : (q_fldT 7).all (fun q => decide (tables_1[q.2.2.2.2]? = some (q_fldW 7 q)) && decide (q.2.1 < 13) && decide (q.2.2.1 < q_N q.2.1) && decide ((q_TX q.2.1 q.2.2.1).1 = q_R q.2.1)) = true := by decide +kernel
set_option maxRecDepth 100000 in
theorem q_fldC_8 : (q_fldT 8).all (fun q => decide (tables_1[q.2.2.2.2]? = some (q_fldW 8 q)) && decide (q.2.1 < 13) && decide (q.2.2.1 < q_N q.2.1) && decide ((q_TX q.2.1 q.2.2.1).1 = q_R q.2.1)) = true := by decide +kernel
set_option maxRecDepth 100000 in
theorem q_fldC_9 : (q_fldT 9).all (fun q => decide (tables_1[q.2.2.2.2]? = some (q_fldW 9 q)) && decide (q.2.1 < 13) && decide (q.2.2.1 < q_N q.2.1) && decide ((q_TX q.2.1 q.2.2.1).1 = q_R q.2.1)) = true := by decide +kernel
set_option maxRecDepth 100000 in
theorem q_fldC_10 : (q_fldT 10).all (fun q => decide (tables_1[q.2.2.2.2]? = some (q_fldW 10 q)) && decide (q.2.1 < 13) && decide (q.2.2.1 < q_N q.2.1) && decide ((q_TX q.2.1 q.2.2.1).1 = q_R q.2.1)) = true := by decide +kernel
set_option maxRecDepth 100000 in
theorem q_fldC_11 : (q_fldT 11).all (fun q => decide (tables_1[q.2.2.2.2]? = some (q_fldW 11 q)) && decide (q.2.1 < 13) && decide (q.2.2.1 < q_N q.2.1) && decide ((q_TX q.2.1 q.2.2.1).1 = q_R q.2.1)) = true := by decide +kernel
set_option maxRecDepth 100000 in
theorem q_fldC_12 : (q_fldT 12).all (fun q => decide (tables_1[q.2.2.2.2]? = some (q_fldW 12 q)) && decide (q.2.1 < 13) && decide (q.2.2.1 < q_N q.2.1) && decide ((q_TX q.2.1 q.2.2.1).1 = q_R q.2.1)) = true := by decide +kernel
set_option maxRecDepth 100000 in
theorem q_fldC_13 : (q_fldT 13).all (fun q => decide (tables_1[q.2.2.2.2]? = some (q_fldW 13 q)) && decide (q.2.1 < 13) && decide (q.2.2.1 < q_N q.2.1) && decide ((q_TX q.2.1 q.2.2.1).1 = q_R q.2.1)) = true := by decide +kernel
set_option maxRecDepth 100000 in
theorem q_fldC_14 : (q_fldT 14).all (fun q => decide (tables_1[q.2.2.2.2]? = some (q_fldW 14 q)) && decide (q.2.1 < 13) && decide (q.2.2.1 < q_N q.2.1) && decide ((q_TX q.2.1 q.2.2.1).1 = q_R q.2.1)) = true := by decide +kernel
set_option maxRecDepth 100000 in
theorem q_fldC_15 : (q_fldT 15).all (fun q => decide (tables_1[q.2.2.2.2]? = some (q_fldW 15 q)) && decide (q.2.1 < 13) && decide (q.2.2.1 < q_N q.2.1) && decide ((q_TX q.2.1 q.2.2.1).1 = q_R q.2.1)) = true := by decide +kernel
set_option maxRecDepth 100000 in
theorem q_fldC_16 : (q_fldT 16).all (fun q => decide (tables_1[q.2.2.2.2]? = some (q_fldW 16 q)) && decide (q.2.1 < 13) && decide (q.2.2.1 < q_N q.2.1) && decide ((q_TX q.2.1 q.2.2.1).1 = q_R q.2.1)) = true := by decide +kernel
set_option maxRecDepth 100000 in
theorem q_fldC_17 : (q_fldT 17).all (fun q => decide (tables_1[q.2.2.2.2]? = some (q_fldW 17 q)) && decide (q.2.1 < 13) && decide (q.2.2.1 < q_N q.2.1) && decide ((q_TX q.2.1 q.2.2.1).1 = q_R q.2.1)) = true := by decide +kernel
set_option maxRecDepth 100000 in
theorem q_fldC_18 : (q_fldT 18).all (fun q => decide (tables_1[q.2.2.2.2]? = some (q_fldW 18 q)) && decide (q.2.1 < 13) && decide (q.2.2.1 < q_N q.2.1) && decide ((q_TX q.2.1 q.2.2.1).1 = q_R q.2.1)) = true := by decide +kernel
theorem q_fldC : ∀ o, ∀ q ∈ q_fldT o, (decide (tables_1[q.2.2.2.2]? = some (q_fldW o q)) && decide (q.2.1 < 13) && decide (q.2.2.1 < q_N q.2.1) && decide ((q_TX q.2.1 q.2.2.1).1 = q_R q.2.1)) = true
  | 0 => List.all_eq_true.mp q_fldC_0
  | 1 => List.all_eq_true.mp q_fldC_1
  | 2 => List.all_eq_true.mp q_fldC_2
  | 3 => List.all_eq_true.mp q_fldC_3
  | 4 => List.all_eq_true.mp q_fldC_4
  | 5 => List.all_eq_true.mp q_fldC_5
  | 6 => List.all_eq_true.mp q_fldC_6
  | 7 => List.all_eq_true.mp q_fldC_7
  | 8 => List.all_eq_true.mp q_fldC_8
  | 9 => List.all_eq_true.mp q_fldC_9
  | 10 => List.all_eq_true.mp q_fldC_10
  | 11 => List.all_eq_true.mp q_fldC_11
  | 12 => List.all_eq_true.mp q_fldC_12
  | 13 => List.all_eq_true.mp q_fldC_13
  | 14 => List.all_eq_true.mp q_fldC_14
  | 15 => List.all_eq_true.mp q_fldC_15
  | 16 => List.all_eq_true.mp q_fldC_16
  | 17 => List.all_eq_true.mp q_fldC_17
  | 18 => List.all_eq_true.mp q_fldC_18
  | n + 19 => fun q h => absurd h (by simp [q_fldT])
def q_fld (o i : Nat) : Option (Nat × Nat × Nat) := ((q_fldT o).find? (fun q => q.1 == i)).map (fun q => (q.2.1, q.2.2.1, q.2.2.2.1))
def q_cstT (o : Nat) : List (Nat × Nat × Nat) := match o with
  | 1 => [(28, 163608, 171), (104, 82800, 1162), (132, 246408, 1181), (216, 100000, 1189), (124, 163610, 1239)]
  | 2 => [(199, 100000, 1052)]
  | 3 => [(147, 100000, 859)]
  | 4 => [(62, 100000, 1093)]
  | 5 => [(68, 100000, 842)]
  | 7 => [(9, 246408, 37), (49, 100000, 616)]
  | 8 => [(36, 82808, 319)]
  | 9 => [(36, 82808, 213), (44, 163608, 215), (162, 40400, 1409), (167, 246408, 1411), (241, 100000, 1428), (200, 40000, 1441)]
  | 11 => [(82, 42408, 500), (270, 100000, 736), (288, 40000, 801), (348, 82808, 1156), (349, 123208, 1157), (353, 163608, 1245)]
  | 12 => [(9, 2706210, 1708), (18, 80000, 1709), (78, 48000, 1710), (136, 2706200, 1711), (230, 65536, 2007), (231, 1114111, 2008), (232, 55296, 2009), (233, 57343, 2010), (915, 2598000, 2172), (916, 2606000, 2173), (711, 982000, 2245), (296, 1000000000, 2286), (739, 1014000, 2323), (619, 802000, 2556), (620, 60000, 2557), (450, 2606200, 2570), (621, 40000, 2636), (451, 922000, 2773), (523, 952000, 2774), (455, 2666200, 2799)]
  | _ => []
set_option maxRecDepth 100000 in
theorem q_cstC_0 : (q_cstT 0).all (fun q => decide (tables_1[q.2.2]? = some (.constant (q_R 0) q.1 (Int32.ofNat q.2.1)))) = true := by decide +kernel
set_option maxRecDepth 100000 in
theorem q_cstC_1 : (q_cstT 1).all (fun q => decide (tables_1[q.2.2]? = some (.constant (q_R 1) q.1 (Int32.ofNat q.2.1)))) = true := by decide +kernel
set_option maxRecDepth 100000 in
theorem q_cstC_2 : (q_cstT 2).all (fun q => decide (tables_1[q.2.2]? = some (.constant (q_R 2) q.1 (Int32.ofNat q.2.1)))) = true := by decide +kernel
set_option maxRecDepth 100000 in
theorem q_cstC_3 : (q_cstT 3).all (fun q => decide (tables_1[q.2.2]? = some (.constant (q_R 3) q.1 (Int32.ofNat q.2.1)))) = true := by decide +kernel
set_option maxRecDepth 100000 in
theorem q_cstC_4 : (q_cstT 4).all (fun q => decide (tables_1[q.2.2]? = some (.constant (q_R 4) q.1 (Int32.ofNat q.2.1)))) = true := by decide +kernel
set_option maxRecDepth 100000 in
theorem q_cstC_5 : (q_cstT 5).all (fun q => decide (tables_1[q.2.2]? = some (.constant (q_R 5) q.1 (Int32.ofNat q.2.1)))) = true := by decide +kernel
set_option maxRecDepth 100000 in
theorem q_cstC_6 : (q_cstT 6).all (fun q => decide (tables_1[q.2.2]? = some (.constant (q_R 6) q.1 (Int32.ofNat q.2.1)))) = true := by decide +kernel
set_option maxRecDepth 100000 in
theorem q_cstC_7 : (q_cstT 7).all (fun q => decide (tables_1[q.2.2]? = some (.constant (q_R 7) q.1 (Int32.ofNat q.2.1)))) = true := by decide +kernel
set_option maxRecDepth 100000 in
theorem q_cstC_8 : (q_cstT 8).all (fun q => decide (tables_1[q.2.2]? = some (.constant (q_R 8) q.1 (Int32.ofNat q.2.1)))) = true := by decide +kernel
set_option maxRecDepth 100000 in
theorem q_cstC_9 : (q_cstT 9).all (fun q => decide (tables_1[q.2.2]? = some (.constant (q_R 9) q.1 (Int32.ofNat q.2.1)))) = true := by decide +kernel
set_option maxRecDepth 100000 in
theorem q_cstC_10 : (q_cstT 10).all (fun q => decide (tables_1[q.2.2]? = some (.constant (q_R 10) q.1 (Int32.ofNat q.2.1)))) = true := by decide +kernel
set_option maxRecDepth 100000 in
theorem q_cstC_11 : (q_cstT 11).all (fun q => decide (tables_1[q.2.2]? = some (.constant (q_R 11) q.1 (Int32.ofNat q.2.1)))) = true := by decide +kernel
set_option maxRecDepth 100000 in
theorem q_cstC_12 : (q_cstT 12).all (fun q => decide (tables_1[q.2.2]? = some (.constant (q_R 12) q.1 (Int32.ofNat q.2.1)))) = true := by decide +kernel
set_option maxRecDepth 100000 in
theorem q_cstC_13 : (q_cstT 13).all (fun q => decide (tables_1[q.2.2]? = some (.constant (q_R 13) q.1 (Int32.ofNat q.2.1)))) = true := by decide +kernel
set_option maxRecDepth 100000 in
theorem q_cstC_14 : (q_cstT 14).all (fun q => decide (tables_1[q.2.2]? = some (.constant (q_R 14) q.1 (Int32.ofNat q.2.1)))) = true := by decide +kernel
set_option maxRecDepth 100000 in
theorem q_cstC_15 : (q_cstT 15).all (fun q => decide (tables_1[q.2.2]? = some (.constant (q_R 15) q.1 (Int32.ofNat q.2.1)))) = true := by decide +kernel
set_option maxRecDepth 100000 in
theorem q_cstC_16 : (q_cstT 16).all (fun q => decide (tables_1[q.2.2]? = some (.constant (q_R 16) q.1 (Int32.ofNat q.2.1)))) = true := by decide +kernel
set_option maxRecDepth 100000 in
theorem q_cstC_17 : (q_cstT 17).all (fun q => decide (tables_1[q.2.2]? = some (.constant (q_R 17) q.1 (Int32.ofNat q.2.1)))) = true := by decide +kernel
set_option maxRecDepth 100000 in
theorem q_cstC_18 : (q_cstT 18).all (fun q => decide (tables_1[q.2.2]? = some (.constant (q_R 18) q.1 (Int32.ofNat q.2.1)))) = true := by decide +kernel
theorem q_cstC : ∀ o, ∀ q ∈ q_cstT o, (decide (tables_1[q.2.2]? = some (.constant (q_R o) q.1 (Int32.ofNat q.2.1)))) = true
  | 0 => List.all_eq_true.mp q_cstC_0
  | 1 => List.all_eq_true.mp q_cstC_1
  | 2 => List.all_eq_true.mp q_cstC_2
  | 3 => List.all_eq_true.mp q_cstC_3
  | 4 => List.all_eq_true.mp q_cstC_4
  | 5 => List.all_eq_true.mp q_cstC_5
  | 6 => List.all_eq_true.mp q_cstC_6
  | 7 => List.all_eq_true.mp q_cstC_7
  | 8 => List.all_eq_true.mp q_cstC_8
  | 9 => List.all_eq_true.mp q_cstC_9
  | 10 => List.all_eq_true.mp q_cstC_10
  | 11 => List.all_eq_true.mp q_cstC_11
  | 12 => List.all_eq_true.mp q_cstC_12
  | 13 => List.all_eq_true.mp q_cstC_13
  | 14 => List.all_eq_true.mp q_cstC_14
  | 15 => List.all_eq_true.mp q_cstC_15
  | 16 => List.all_eq_true.mp q_cstC_16
  | 17 => List.all_eq_true.mp q_cstC_17
  | 18 => List.all_eq_true.mp q_cstC_18
  | n + 19 => fun q h => absurd h (by simp [q_cstT])
def q_ldcw (o i : Nat) : Option Int32 := ((q_cstT o).find? (fun q => q.1 == i)).map (fun q => Int32.ofNat q.2.1)
def q_newT (o : Nat) : List (Nat × Nat × Nat) := match o with
  | 1 => [(15, 5, 168), (26, 4, 170)]
  | 2 => [(24, 5, 109)]
  | 3 => [(24, 5, 328), (34, 10, 330)]
  | 8 => [(34, 4, 318), (44, 3, 321)]
  | 9 => [(24, 5, 210), (34, 4, 212)]
  | 11 => [(9, 7, 31), (19, 4, 61), (28, 6, 85), (37, 2, 103), (46, 1, 162), (53, 9, 204), (60, 0, 281), (67, 5, 309), (77, 8, 311)]
  | 13 => [(7, 11, 23), (10, 12, 1702)]
  | _ => []
set_option maxRecDepth 100000 in
theorem q_newC_0 : (q_newT 0).all (fun q => decide (tables_1[q.2.2]? = some (.classLink (q_R 0) q.1 (q_R q.2.1))) && decide (q.2.1 < 13)) = true := by decide +kernel
set_option maxRecDepth 100000 in
theorem q_newC_1 : (q_newT 1).all (fun q => decide (tables_1[q.2.2]? = some (.classLink (q_R 1) q.1 (q_R q.2.1))) && decide (q.2.1 < 13)) = true := by decide +kernel
set_option maxRecDepth 100000 in
theorem q_newC_2 : (q_newT 2).all (fun q => decide (tables_1[q.2.2]? = some (.classLink (q_R 2) q.1 (q_R q.2.1))) && decide (q.2.1 < 13)) = true := by decide +kernel
set_option maxRecDepth 100000 in
theorem q_newC_3 : (q_newT 3).all (fun q => decide (tables_1[q.2.2]? = some (.classLink (q_R 3) q.1 (q_R q.2.1))) && decide (q.2.1 < 13)) = true := by decide +kernel
set_option maxRecDepth 100000 in
theorem q_newC_4 : (q_newT 4).all (fun q => decide (tables_1[q.2.2]? = some (.classLink (q_R 4) q.1 (q_R q.2.1))) && decide (q.2.1 < 13)) = true := by decide +kernel
set_option maxRecDepth 100000 in
theorem q_newC_5 : (q_newT 5).all (fun q => decide (tables_1[q.2.2]? = some (.classLink (q_R 5) q.1 (q_R q.2.1))) && decide (q.2.1 < 13)) = true := by decide +kernel
set_option maxRecDepth 100000 in
theorem q_newC_6 : (q_newT 6).all (fun q => decide (tables_1[q.2.2]? = some (.classLink (q_R 6) q.1 (q_R q.2.1))) && decide (q.2.1 < 13)) = true := by decide +kernel
set_option maxRecDepth 100000 in
theorem q_newC_7 : (q_newT 7).all (fun q => decide (tables_1[q.2.2]? = some (.classLink (q_R 7) q.1 (q_R q.2.1))) && decide (q.2.1 < 13)) = true := by decide +kernel
set_option maxRecDepth 100000 in
theorem q_newC_8 : (q_newT 8).all (fun q => decide (tables_1[q.2.2]? = some (.classLink (q_R 8) q.1 (q_R q.2.1))) && decide (q.2.1 < 13)) = true := by decide +kernel
set_option maxRecDepth 100000 in
theorem q_newC_9 : (q_newT 9).all (fun q => decide (tables_1[q.2.2]? = some (.classLink (q_R 9) q.1 (q_R q.2.1))) && decide (q.2.1 < 13)) = true := by decide +kernel
set_option maxRecDepth 100000 in
theorem q_newC_10 : (q_newT 10).all (fun q => decide (tables_1[q.2.2]? = some (.classLink (q_R 10) q.1 (q_R q.2.1))) && decide (q.2.1 < 13)) = true := by decide +kernel
set_option maxRecDepth 100000 in
theorem q_newC_11 : (q_newT 11).all (fun q => decide (tables_1[q.2.2]? = some (.classLink (q_R 11) q.1 (q_R q.2.1))) && decide (q.2.1 < 13)) = true := by decide +kernel
set_option maxRecDepth 100000 in
theorem q_newC_12 : (q_newT 12).all (fun q => decide (tables_1[q.2.2]? = some (.classLink (q_R 12) q.1 (q_R q.2.1))) && decide (q.2.1 < 13)) = true := by decide +kernel
set_option maxRecDepth 100000 in
theorem q_newC_13 : (q_newT 13).all (fun q => decide (tables_1[q.2.2]? = some (.classLink (q_R 13) q.1 (q_R q.2.1))) && decide (q.2.1 < 13)) = true := by decide +kernel
set_option maxRecDepth 100000 in
theorem q_newC_14 : (q_newT 14).all (fun q => decide (tables_1[q.2.2]? = some (.classLink (q_R 14) q.1 (q_R q.2.1))) && decide (q.2.1 < 13)) = true := by decide +kernel
set_option maxRecDepth 100000 in
theorem q_newC_15 : (q_newT 15).all (fun q => decide (tables_1[q.2.2]? = some (.classLink (q_R 15) q.1 (q_R q.2.1))) && decide (q.2.1 < 13)) = true := by decide +kernel
set_option maxRecDepth 100000 in
theorem q_newC_16 : (q_newT 16).all (fun q => decide (tables_1[q.2.2]? = some (.classLink (q_R 16) q.1 (q_R q.2.1))) && decide (q.2.1 < 13)) = true := by decide +kernel
set_option maxRecDepth 100000 in
theorem q_newC_17 : (q_newT 17).all (fun q => decide (tables_1[q.2.2]? = some (.classLink (q_R 17) q.1 (q_R q.2.1))) && decide (q.2.1 < 13)) = true := by decide +kernel
set_option maxRecDepth 100000 in
theorem q_newC_18 : (q_newT 18).all (fun q => decide (tables_1[q.2.2]? = some (.classLink (q_R 18) q.1 (q_R q.2.1))) && decide (q.2.1 < 13)) = true := by decide +kernel
theorem q_newC : ∀ o, ∀ q ∈ q_newT o, (decide (tables_1[q.2.2]? = some (.classLink (q_R o) q.1 (q_R q.2.1))) && decide (q.2.1 < 13)) = true
  | 0 => List.all_eq_true.mp q_newC_0
  | 1 => List.all_eq_true.mp q_newC_1
  | 2 => List.all_eq_true.mp q_newC_2
  | 3 => List.all_eq_true.mp q_newC_3
  | 4 => List.all_eq_true.mp q_newC_4
  | 5 => List.all_eq_true.mp q_newC_5
  | 6 => List.all_eq_true.mp q_newC_6
  | 7 => List.all_eq_true.mp q_newC_7
  | 8 => List.all_eq_true.mp q_newC_8
  | 9 => List.all_eq_true.mp q_newC_9
  | 10 => List.all_eq_true.mp q_newC_10
  | 11 => List.all_eq_true.mp q_newC_11
  | 12 => List.all_eq_true.mp q_newC_12
  | 13 => List.all_eq_true.mp q_newC_13
  | 14 => List.all_eq_true.mp q_newC_14
  | 15 => List.all_eq_true.mp q_newC_15
  | 16 => List.all_eq_true.mp q_newC_16
  | 17 => List.all_eq_true.mp q_newC_17
  | 18 => List.all_eq_true.mp q_newC_18
  | n + 19 => fun q h => absurd h (by simp [q_newT])
def q_new (o i : Nat) : Option (Nat × Nat) := ((q_newT o).find? (fun q => q.1 == i)).map (fun q => (q.2.1, q_N q.2.1))
def q_anew (o i : Nat) : Option Nat := ((q_newT o).find? (fun q => q.1 == i)).bind (fun q => if q.2.1 = 3 then some 3 else if q.2.1 = 8 then some 4 else none)
def q_matT (o : Nat) : List (Nat × Nat × Nat) := match o with
  | 0 => [(172, 1, 1623)]
  | 1 => [(94, 1, 1153)]
  | 3 => [(92, 1, 850), (98, 0, 1319)]
  | 4 => [(22, 0, 575), (28, 1, 578)]
  | 7 => [(95, 1, 630), (104, 0, 1244)]
  | 8 => [(63, 1, 866)]
  | 9 => [(78, 1, 1348), (335, 0, 1495)]
  | 10 => [(101, 1, 883)]
  | 16 => [(304, 1, 832)]
  | _ => []
def q_matN (k : Nat) : MethodName := if k = 0 then Lib.Math.max.name else Lib.Math.min.name
set_option maxRecDepth 100000 in
theorem q_matC_0 : (q_matT 0).all (fun q => decide (tables_1[q.2.2]? = some (.methodLink (q_R 0) q.1 (q_matN q.2.1))) && decide (q.2.1 < 2)) = true := by decide +kernel
set_option maxRecDepth 100000 in
theorem q_matC_1 : (q_matT 1).all (fun q => decide (tables_1[q.2.2]? = some (.methodLink (q_R 1) q.1 (q_matN q.2.1))) && decide (q.2.1 < 2)) = true := by decide +kernel
set_option maxRecDepth 100000 in
theorem q_matC_2 : (q_matT 2).all (fun q => decide (tables_1[q.2.2]? = some (.methodLink (q_R 2) q.1 (q_matN q.2.1))) && decide (q.2.1 < 2)) = true := by decide +kernel
set_option maxRecDepth 100000 in
theorem q_matC_3 : (q_matT 3).all (fun q => decide (tables_1[q.2.2]? = some (.methodLink (q_R 3) q.1 (q_matN q.2.1))) && decide (q.2.1 < 2)) = true := by decide +kernel
set_option maxRecDepth 100000 in
theorem q_matC_4 : (q_matT 4).all (fun q => decide (tables_1[q.2.2]? = some (.methodLink (q_R 4) q.1 (q_matN q.2.1))) && decide (q.2.1 < 2)) = true := by decide +kernel
set_option maxRecDepth 100000 in
theorem q_matC_5 : (q_matT 5).all (fun q => decide (tables_1[q.2.2]? = some (.methodLink (q_R 5) q.1 (q_matN q.2.1))) && decide (q.2.1 < 2)) = true := by decide +kernel
set_option maxRecDepth 100000 in
theorem q_matC_6 : (q_matT 6).all (fun q => decide (tables_1[q.2.2]? = some (.methodLink (q_R 6) q.1 (q_matN q.2.1))) && decide (q.2.1 < 2)) = true := by decide +kernel
set_option maxRecDepth 100000 in
theorem q_matC_7 : (q_matT 7).all (fun q => decide (tables_1[q.2.2]? = some (.methodLink (q_R 7) q.1 (q_matN q.2.1))) && decide (q.2.1 < 2)) = true := by decide +kernel
set_option maxRecDepth 100000 in
theorem q_matC_8 : (q_matT 8).all (fun q => decide (tables_1[q.2.2]? = some (.methodLink (q_R 8) q.1 (q_matN q.2.1))) && decide (q.2.1 < 2)) = true := by decide +kernel
set_option maxRecDepth 100000 in
theorem q_matC_9 : (q_matT 9).all (fun q => decide (tables_1[q.2.2]? = some (.methodLink (q_R 9) q.1 (q_matN q.2.1))) && decide (q.2.1 < 2)) = true := by decide +kernel
set_option maxRecDepth 100000 in
theorem q_matC_10 : (q_matT 10).all (fun q => decide (tables_1[q.2.2]? = some (.methodLink (q_R 10) q.1 (q_matN q.2.1))) && decide (q.2.1 < 2)) = true := by decide +kernel
set_option maxRecDepth 100000 in
theorem q_matC_11 : (q_matT 11).all (fun q => decide (tables_1[q.2.2]? = some (.methodLink (q_R 11) q.1 (q_matN q.2.1))) && decide (q.2.1 < 2)) = true := by decide +kernel
set_option maxRecDepth 100000 in
theorem q_matC_12 : (q_matT 12).all (fun q => decide (tables_1[q.2.2]? = some (.methodLink (q_R 12) q.1 (q_matN q.2.1))) && decide (q.2.1 < 2)) = true := by decide +kernel
set_option maxRecDepth 100000 in
theorem q_matC_13 : (q_matT 13).all (fun q => decide (tables_1[q.2.2]? = some (.methodLink (q_R 13) q.1 (q_matN q.2.1))) && decide (q.2.1 < 2)) = true := by decide +kernel
set_option maxRecDepth 100000 in
theorem q_matC_14 : (q_matT 14).all (fun q => decide (tables_1[q.2.2]? = some (.methodLink (q_R 14) q.1 (q_matN q.2.1))) && decide (q.2.1 < 2)) = true := by decide +kernel
set_option maxRecDepth 100000 in
theorem q_matC_15 : (q_matT 15).all (fun q => decide (tables_1[q.2.2]? = some (.methodLink (q_R 15) q.1 (q_matN q.2.1))) && decide (q.2.1 < 2)) = true := by decide +kernel
set_option maxRecDepth 100000 in
theorem q_matC_16 : (q_matT 16).all (fun q => decide (tables_1[q.2.2]? = some (.methodLink (q_R 16) q.1 (q_matN q.2.1))) && decide (q.2.1 < 2)) = true := by decide +kernel
set_option maxRecDepth 100000 in
theorem q_matC_17 : (q_matT 17).all (fun q => decide (tables_1[q.2.2]? = some (.methodLink (q_R 17) q.1 (q_matN q.2.1))) && decide (q.2.1 < 2)) = true := by decide +kernel
set_option maxRecDepth 100000 in
theorem q_matC_18 : (q_matT 18).all (fun q => decide (tables_1[q.2.2]? = some (.methodLink (q_R 18) q.1 (q_matN q.2.1))) && decide (q.2.1 < 2)) = true := by decide +kernel
theorem q_matC : ∀ o, ∀ q ∈ q_matT o, (decide (tables_1[q.2.2]? = some (.methodLink (q_R o) q.1 (q_matN q.2.1))) && decide (q.2.1 < 2)) = true
  | 0 => List.all_eq_true.mp q_matC_0
  | 1 => List.all_eq_true.mp q_matC_1
  | 2 => List.all_eq_true.mp q_matC_2
  | 3 => List.all_eq_true.mp q_matC_3
  | 4 => List.all_eq_true.mp q_matC_4
  | 5 => List.all_eq_true.mp q_matC_5
  | 6 => List.all_eq_true.mp q_matC_6
  | 7 => List.all_eq_true.mp q_matC_7
  | 8 => List.all_eq_true.mp q_matC_8
  | 9 => List.all_eq_true.mp q_matC_9
  | 10 => List.all_eq_true.mp q_matC_10
  | 11 => List.all_eq_true.mp q_matC_11
  | 12 => List.all_eq_true.mp q_matC_12
  | 13 => List.all_eq_true.mp q_matC_13
  | 14 => List.all_eq_true.mp q_matC_14
  | 15 => List.all_eq_true.mp q_matC_15
  | 16 => List.all_eq_true.mp q_matC_16
  | 17 => List.all_eq_true.mp q_matC_17
  | 18 => List.all_eq_true.mp q_matC_18
  | n + 19 => fun q h => absurd h (by simp [q_matT])
def q_math (o i : Nat) : Option Nat := ((q_matT o).find? (fun q => q.1 == i)).map (fun q => q.2.1)
def q_oiT (o : Nat) : List (Nat × Nat) := match o with
  | 0 => [(3, 286)]
  | 1 => [(3, 167)]
  | 2 => [(3, 108)]
  | 3 => [(3, 327)]
  | 4 => [(3, 66)]
  | 5 => [(3, 114)]
  | 6 => [(3, 90)]
  | 7 => [(3, 36)]
  | 8 => [(3, 317)]
  | 9 => [(3, 209)]
  | 10 => [(5, 335)]
  | 11 => [(3, 28)]
  | 12 => [(1, 1707)]
  | _ => []
set_option maxRecDepth 100000 in
theorem q_oiC_0 : (q_oiT 0).all (fun q => decide (tables_1[q.2]? = some (.methodLink (q_R 0) q.1 Lib.objectInit))) = true := by decide +kernel
set_option maxRecDepth 100000 in
theorem q_oiC_1 : (q_oiT 1).all (fun q => decide (tables_1[q.2]? = some (.methodLink (q_R 1) q.1 Lib.objectInit))) = true := by decide +kernel
set_option maxRecDepth 100000 in
theorem q_oiC_2 : (q_oiT 2).all (fun q => decide (tables_1[q.2]? = some (.methodLink (q_R 2) q.1 Lib.objectInit))) = true := by decide +kernel
set_option maxRecDepth 100000 in
theorem q_oiC_3 : (q_oiT 3).all (fun q => decide (tables_1[q.2]? = some (.methodLink (q_R 3) q.1 Lib.objectInit))) = true := by decide +kernel
set_option maxRecDepth 100000 in
theorem q_oiC_4 : (q_oiT 4).all (fun q => decide (tables_1[q.2]? = some (.methodLink (q_R 4) q.1 Lib.objectInit))) = true := by decide +kernel
set_option maxRecDepth 100000 in
theorem q_oiC_5 : (q_oiT 5).all (fun q => decide (tables_1[q.2]? = some (.methodLink (q_R 5) q.1 Lib.objectInit))) = true := by decide +kernel
set_option maxRecDepth 100000 in
theorem q_oiC_6 : (q_oiT 6).all (fun q => decide (tables_1[q.2]? = some (.methodLink (q_R 6) q.1 Lib.objectInit))) = true := by decide +kernel
set_option maxRecDepth 100000 in
theorem q_oiC_7 : (q_oiT 7).all (fun q => decide (tables_1[q.2]? = some (.methodLink (q_R 7) q.1 Lib.objectInit))) = true := by decide +kernel
set_option maxRecDepth 100000 in
theorem q_oiC_8 : (q_oiT 8).all (fun q => decide (tables_1[q.2]? = some (.methodLink (q_R 8) q.1 Lib.objectInit))) = true := by decide +kernel
set_option maxRecDepth 100000 in
theorem q_oiC_9 : (q_oiT 9).all (fun q => decide (tables_1[q.2]? = some (.methodLink (q_R 9) q.1 Lib.objectInit))) = true := by decide +kernel
set_option maxRecDepth 100000 in
theorem q_oiC_10 : (q_oiT 10).all (fun q => decide (tables_1[q.2]? = some (.methodLink (q_R 10) q.1 Lib.objectInit))) = true := by decide +kernel
set_option maxRecDepth 100000 in
theorem q_oiC_11 : (q_oiT 11).all (fun q => decide (tables_1[q.2]? = some (.methodLink (q_R 11) q.1 Lib.objectInit))) = true := by decide +kernel
set_option maxRecDepth 100000 in
theorem q_oiC_12 : (q_oiT 12).all (fun q => decide (tables_1[q.2]? = some (.methodLink (q_R 12) q.1 Lib.objectInit))) = true := by decide +kernel
set_option maxRecDepth 100000 in
theorem q_oiC_13 : (q_oiT 13).all (fun q => decide (tables_1[q.2]? = some (.methodLink (q_R 13) q.1 Lib.objectInit))) = true := by decide +kernel
set_option maxRecDepth 100000 in
theorem q_oiC_14 : (q_oiT 14).all (fun q => decide (tables_1[q.2]? = some (.methodLink (q_R 14) q.1 Lib.objectInit))) = true := by decide +kernel
set_option maxRecDepth 100000 in
theorem q_oiC_15 : (q_oiT 15).all (fun q => decide (tables_1[q.2]? = some (.methodLink (q_R 15) q.1 Lib.objectInit))) = true := by decide +kernel
set_option maxRecDepth 100000 in
theorem q_oiC_16 : (q_oiT 16).all (fun q => decide (tables_1[q.2]? = some (.methodLink (q_R 16) q.1 Lib.objectInit))) = true := by decide +kernel
set_option maxRecDepth 100000 in
theorem q_oiC_17 : (q_oiT 17).all (fun q => decide (tables_1[q.2]? = some (.methodLink (q_R 17) q.1 Lib.objectInit))) = true := by decide +kernel
set_option maxRecDepth 100000 in
theorem q_oiC_18 : (q_oiT 18).all (fun q => decide (tables_1[q.2]? = some (.methodLink (q_R 18) q.1 Lib.objectInit))) = true := by decide +kernel
theorem q_oiC : ∀ o, ∀ q ∈ q_oiT o, (decide (tables_1[q.2]? = some (.methodLink (q_R o) q.1 Lib.objectInit))) = true
  | 0 => List.all_eq_true.mp q_oiC_0
  | 1 => List.all_eq_true.mp q_oiC_1
  | 2 => List.all_eq_true.mp q_oiC_2
  | 3 => List.all_eq_true.mp q_oiC_3
  | 4 => List.all_eq_true.mp q_oiC_4
  | 5 => List.all_eq_true.mp q_oiC_5
  | 6 => List.all_eq_true.mp q_oiC_6
  | 7 => List.all_eq_true.mp q_oiC_7
  | 8 => List.all_eq_true.mp q_oiC_8
  | 9 => List.all_eq_true.mp q_oiC_9
  | 10 => List.all_eq_true.mp q_oiC_10
  | 11 => List.all_eq_true.mp q_oiC_11
  | 12 => List.all_eq_true.mp q_oiC_12
  | 13 => List.all_eq_true.mp q_oiC_13
  | 14 => List.all_eq_true.mp q_oiC_14
  | 15 => List.all_eq_true.mp q_oiC_15
  | 16 => List.all_eq_true.mp q_oiC_16
  | 17 => List.all_eq_true.mp q_oiC_17
  | 18 => List.all_eq_true.mp q_oiC_18
  | n + 19 => fun q h => absurd h (by simp [q_oiT])
def q_oini (o i : Nat) : Bool := ((q_oiT o).find? (fun q => q.1 == i)).isSome
def q_acT (o : Nat) : List (Nat × Nat) := match o with
  | 0 => [(162, 1629)]
  | 1 => [(105, 1163)]
  | 3 => [(101, 852)]
  | 4 => [(39, 1105)]
  | 8 => [(69, 867)]
  | 9 => [(88, 1349)]
  | 10 => [(107, 884)]
  | 16 => [(150, 833)]
  | _ => []
set_option maxRecDepth 100000 in
theorem q_acC_0 : (q_acT 0).all (fun q => decide (tables_1[q.2]? = some (.methodLink (q_R 0) q.1 arraycopyName))) = true := by decide +kernel
set_option maxRecDepth 100000 in
theorem q_acC_1 : (q_acT 1).all (fun q => decide (tables_1[q.2]? = some (.methodLink (q_R 1) q.1 arraycopyName))) = true := by decide +kernel
set_option maxRecDepth 100000 in
theorem q_acC_2 : (q_acT 2).all (fun q => decide (tables_1[q.2]? = some (.methodLink (q_R 2) q.1 arraycopyName))) = true := by decide +kernel
set_option maxRecDepth 100000 in
theorem q_acC_3 : (q_acT 3).all (fun q => decide (tables_1[q.2]? = some (.methodLink (q_R 3) q.1 arraycopyName))) = true := by decide +kernel
set_option maxRecDepth 100000 in
theorem q_acC_4 : (q_acT 4).all (fun q => decide (tables_1[q.2]? = some (.methodLink (q_R 4) q.1 arraycopyName))) = true := by decide +kernel
set_option maxRecDepth 100000 in
theorem q_acC_5 : (q_acT 5).all (fun q => decide (tables_1[q.2]? = some (.methodLink (q_R 5) q.1 arraycopyName))) = true := by decide +kernel
set_option maxRecDepth 100000 in
theorem q_acC_6 : (q_acT 6).all (fun q => decide (tables_1[q.2]? = some (.methodLink (q_R 6) q.1 arraycopyName))) = true := by decide +kernel
set_option maxRecDepth 100000 in
theorem q_acC_7 : (q_acT 7).all (fun q => decide (tables_1[q.2]? = some (.methodLink (q_R 7) q.1 arraycopyName))) = true := by decide +kernel
set_option maxRecDepth 100000 in
theorem q_acC_8 : (q_acT 8).all (fun q => decide (tables_1[q.2]? = some (.methodLink (q_R 8) q.1 arraycopyName))) = true := by decide +kernel
set_option maxRecDepth 100000 in
theorem q_acC_9 : (q_acT 9).all (fun q => decide (tables_1[q.2]? = some (.methodLink (q_R 9) q.1 arraycopyName))) = true := by decide +kernel
set_option maxRecDepth 100000 in
theorem q_acC_10 : (q_acT 10).all (fun q => decide (tables_1[q.2]? = some (.methodLink (q_R 10) q.1 arraycopyName))) = true := by decide +kernel
set_option maxRecDepth 100000 in
theorem q_acC_11 : (q_acT 11).all (fun q => decide (tables_1[q.2]? = some (.methodLink (q_R 11) q.1 arraycopyName))) = true := by decide +kernel
set_option maxRecDepth 100000 in
theorem q_acC_12 : (q_acT 12).all (fun q => decide (tables_1[q.2]? = some (.methodLink (q_R 12) q.1 arraycopyName))) = true := by decide +kernel
set_option maxRecDepth 100000 in
theorem q_acC_13 : (q_acT 13).all (fun q => decide (tables_1[q.2]? = some (.methodLink (q_R 13) q.1 arraycopyName))) = true := by decide +kernel
set_option maxRecDepth 100000 in
theorem q_acC_14 : (q_acT 14).all (fun q => decide (tables_1[q.2]? = some (.methodLink (q_R 14) q.1 arraycopyName))) = true := by decide +kernel
set_option maxRecDepth 100000 in
theorem q_acC_15 : (q_acT 15).all (fun q => decide (tables_1[q.2]? = some (.methodLink (q_R 15) q.1 arraycopyName))) = true := by decide +kernel
set_option maxRecDepth 100000 in
theorem q_acC_16 : (q_acT 16).all (fun q => decide (tables_1[q.2]? = some (.methodLink (q_R 16) q.1 arraycopyName))) = true := by decide +kernel
set_option maxRecDepth 100000 in
theorem q_acC_17 : (q_acT 17).all (fun q => decide (tables_1[q.2]? = some (.methodLink (q_R 17) q.1 arraycopyName))) = true := by decide +kernel
set_option maxRecDepth 100000 in
theorem q_acC_18 : (q_acT 18).all (fun q => decide (tables_1[q.2]? = some (.methodLink (q_R 18) q.1 arraycopyName))) = true := by decide +kernel
theorem q_acC : ∀ o, ∀ q ∈ q_acT o, (decide (tables_1[q.2]? = some (.methodLink (q_R o) q.1 arraycopyName))) = true
  | 0 => List.all_eq_true.mp q_acC_0
  | 1 => List.all_eq_true.mp q_acC_1
  | 2 => List.all_eq_true.mp q_acC_2
  | 3 => List.all_eq_true.mp q_acC_3
  | 4 => List.all_eq_true.mp q_acC_4
  | 5 => List.all_eq_true.mp q_acC_5
  | 6 => List.all_eq_true.mp q_acC_6
  | 7 => List.all_eq_true.mp q_acC_7
  | 8 => List.all_eq_true.mp q_acC_8
  | 9 => List.all_eq_true.mp q_acC_9
  | 10 => List.all_eq_true.mp q_acC_10
  | 11 => List.all_eq_true.mp q_acC_11
  | 12 => List.all_eq_true.mp q_acC_12
  | 13 => List.all_eq_true.mp q_acC_13
  | 14 => List.all_eq_true.mp q_acC_14
  | 15 => List.all_eq_true.mp q_acC_15
  | 16 => List.all_eq_true.mp q_acC_16
  | 17 => List.all_eq_true.mp q_acC_17
  | 18 => List.all_eq_true.mp q_acC_18
  | n + 19 => fun q h => absurd h (by simp [q_acT])
def q_acp (o i : Nat) : Bool := ((q_acT o).find? (fun q => q.1 == i)).isSome
def q_mlT (o : Nat) : List (Nat × Nat) := match o with
  | 9 => [(387, 1535)]
  | _ => []
set_option maxRecDepth 100000 in
theorem q_mlC_0 : (q_mlT 0).all (fun q => decide (tables_1[q.2]? = some (.methodLink (q_R 0) q.1 Lib.MathLoose.min_long.x))) = true := by decide +kernel
set_option maxRecDepth 100000 in
theorem q_mlC_1 : (q_mlT 1).all (fun q => decide (tables_1[q.2]? = some (.methodLink (q_R 1) q.1 Lib.MathLoose.min_long.x))) = true := by decide +kernel
set_option maxRecDepth 100000 in
theorem q_mlC_2 : (q_mlT 2).all (fun q => decide (tables_1[q.2]? = some (.methodLink (q_R 2) q.1 Lib.MathLoose.min_long.x))) = true := by decide +kernel
set_option maxRecDepth 100000 in
theorem q_mlC_3 : (q_mlT 3).all (fun q => decide (tables_1[q.2]? = some (.methodLink (q_R 3) q.1 Lib.MathLoose.min_long.x))) = true := by decide +kernel
set_option maxRecDepth 100000 in
theorem q_mlC_4 : (q_mlT 4).all (fun q => decide (tables_1[q.2]? = some (.methodLink (q_R 4) q.1 Lib.MathLoose.min_long.x))) = true := by decide +kernel
set_option maxRecDepth 100000 in
theorem q_mlC_5 : (q_mlT 5).all (fun q => decide (tables_1[q.2]? = some (.methodLink (q_R 5) q.1 Lib.MathLoose.min_long.x))) = true := by decide +kernel
set_option maxRecDepth 100000 in
theorem q_mlC_6 : (q_mlT 6).all (fun q => decide (tables_1[q.2]? = some (.methodLink (q_R 6) q.1 Lib.MathLoose.min_long.x))) = true := by decide +kernel
set_option maxRecDepth 100000 in
theorem q_mlC_7 : (q_mlT 7).all (fun q => decide (tables_1[q.2]? = some (.methodLink (q_R 7) q.1 Lib.MathLoose.min_long.x))) = true := by decide +kernel
set_option maxRecDepth 100000 in
theorem q_mlC_8 : (q_mlT 8).all (fun q => decide (tables_1[q.2]? = some (.methodLink (q_R 8) q.1 Lib.MathLoose.min_long.x))) = true := by decide +kernel
set_option maxRecDepth 100000 in
theorem q_mlC_9 : (q_mlT 9).all (fun q => decide (tables_1[q.2]? = some (.methodLink (q_R 9) q.1 Lib.MathLoose.min_long.x))) = true := by decide +kernel
set_option maxRecDepth 100000 in
theorem q_mlC_10 : (q_mlT 10).all (fun q => decide (tables_1[q.2]? = some (.methodLink (q_R 10) q.1 Lib.MathLoose.min_long.x))) = true := by decide +kernel
set_option maxRecDepth 100000 in
theorem q_mlC_11 : (q_mlT 11).all (fun q => decide (tables_1[q.2]? = some (.methodLink (q_R 11) q.1 Lib.MathLoose.min_long.x))) = true := by decide +kernel
set_option maxRecDepth 100000 in
theorem q_mlC_12 : (q_mlT 12).all (fun q => decide (tables_1[q.2]? = some (.methodLink (q_R 12) q.1 Lib.MathLoose.min_long.x))) = true := by decide +kernel
set_option maxRecDepth 100000 in
theorem q_mlC_13 : (q_mlT 13).all (fun q => decide (tables_1[q.2]? = some (.methodLink (q_R 13) q.1 Lib.MathLoose.min_long.x))) = true := by decide +kernel
set_option maxRecDepth 100000 in
theorem q_mlC_14 : (q_mlT 14).all (fun q => decide (tables_1[q.2]? = some (.methodLink (q_R 14) q.1 Lib.MathLoose.min_long.x))) = true := by decide +kernel
set_option maxRecDepth 100000 in
theorem q_mlC_15 : (q_mlT 15).all (fun q => decide (tables_1[q.2]? = some (.methodLink (q_R 15) q.1 Lib.MathLoose.min_long.x))) = true := by decide +kernel
set_option maxRecDepth 100000 in
theorem q_mlC_16 : (q_mlT 16).all (fun q => decide (tables_1[q.2]? = some (.methodLink (q_R 16) q.1 Lib.MathLoose.min_long.x))) = true := by decide +kernel
set_option maxRecDepth 100000 in
theorem q_mlC_17 : (q_mlT 17).all (fun q => decide (tables_1[q.2]? = some (.methodLink (q_R 17) q.1 Lib.MathLoose.min_long.x))) = true := by decide +kernel
set_option maxRecDepth 100000 in
theorem q_mlC_18 : (q_mlT 18).all (fun q => decide (tables_1[q.2]? = some (.methodLink (q_R 18) q.1 Lib.MathLoose.min_long.x))) = true := by decide +kernel
theorem q_mlC : ∀ o, ∀ q ∈ q_mlT o, (decide (tables_1[q.2]? = some (.methodLink (q_R o) q.1 Lib.MathLoose.min_long.x))) = true
  | 0 => List.all_eq_true.mp q_mlC_0
  | 1 => List.all_eq_true.mp q_mlC_1
  | 2 => List.all_eq_true.mp q_mlC_2
  | 3 => List.all_eq_true.mp q_mlC_3
  | 4 => List.all_eq_true.mp q_mlC_4
  | 5 => List.all_eq_true.mp q_mlC_5
  | 6 => List.all_eq_true.mp q_mlC_6
  | 7 => List.all_eq_true.mp q_mlC_7
  | 8 => List.all_eq_true.mp q_mlC_8
  | 9 => List.all_eq_true.mp q_mlC_9
  | 10 => List.all_eq_true.mp q_mlC_10
  | 11 => List.all_eq_true.mp q_mlC_11
  | 12 => List.all_eq_true.mp q_mlC_12
  | 13 => List.all_eq_true.mp q_mlC_13
  | 14 => List.all_eq_true.mp q_mlC_14
  | 15 => List.all_eq_true.mp q_mlC_15
  | 16 => List.all_eq_true.mp q_mlC_16
  | 17 => List.all_eq_true.mp q_mlC_17
  | 18 => List.all_eq_true.mp q_mlC_18
  | n + 19 => fun q h => absurd h (by simp [q_mlT])
def q_mnl (o i : Nat) : Bool := ((q_mlT o).find? (fun q => q.1 == i)).isSome
def q_c2T (o : Nat) : List (Nat × Int64 × Nat) := match o with
  | 6 => [(36, (4294967295), 604), (38, (5), 605)]
  | 7 => [(73, (4294967295), 760)]
  | 9 => [(351, (-9223372036854775808), 1489), (356, (-1), 1509)]
  | 11 => [(378, (4), 1334)]
  | 12 => [(148, (4294967295), 1983), (241, (5), 1984), (268, (4), 2047), (974, (3), 2167), (603, (-1), 2525), (504, (-2147483648), 2602), (506, (2147483647), 2603)]
  | _ => []
set_option maxRecDepth 100000 in
theorem q_c2C_0 : (q_c2T 0).all (fun q => decide (tables_1[q.2.2]? = some (.constantLong (q_R 0) q.1 q.2.1))) = true := by decide +kernel
set_option maxRecDepth 100000 in
theorem q_c2C_1 : (q_c2T 1).all (fun q => decide (tables_1[q.2.2]? = some (.constantLong (q_R 1) q.1 q.2.1))) = true := by decide +kernel
set_option maxRecDepth 100000 in
theorem q_c2C_2 : (q_c2T 2).all (fun q => decide (tables_1[q.2.2]? = some (.constantLong (q_R 2) q.1 q.2.1))) = true := by decide +kernel
set_option maxRecDepth 100000 in
theorem q_c2C_3 : (q_c2T 3).all (fun q => decide (tables_1[q.2.2]? = some (.constantLong (q_R 3) q.1 q.2.1))) = true := by decide +kernel
set_option maxRecDepth 100000 in
theorem q_c2C_4 : (q_c2T 4).all (fun q => decide (tables_1[q.2.2]? = some (.constantLong (q_R 4) q.1 q.2.1))) = true := by decide +kernel
set_option maxRecDepth 100000 in
theorem q_c2C_5 : (q_c2T 5).all (fun q => decide (tables_1[q.2.2]? = some (.constantLong (q_R 5) q.1 q.2.1))) = true := by decide +kernel
set_option maxRecDepth 100000 in
theorem q_c2C_6 : (q_c2T 6).all (fun q => decide (tables_1[q.2.2]? = some (.constantLong (q_R 6) q.1 q.2.1))) = true := by decide +kernel
set_option maxRecDepth 100000 in
theorem q_c2C_7 : (q_c2T 7).all (fun q => decide (tables_1[q.2.2]? = some (.constantLong (q_R 7) q.1 q.2.1))) = true := by decide +kernel
set_option maxRecDepth 100000 in
theorem q_c2C_8 : (q_c2T 8).all (fun q => decide (tables_1[q.2.2]? = some (.constantLong (q_R 8) q.1 q.2.1))) = true := by decide +kernel
set_option maxRecDepth 100000 in
theorem q_c2C_9 : (q_c2T 9).all (fun q => decide (tables_1[q.2.2]? = some (.constantLong (q_R 9) q.1 q.2.1))) = true := by decide +kernel
set_option maxRecDepth 100000 in
theorem q_c2C_10 : (q_c2T 10).all (fun q => decide (tables_1[q.2.2]? = some (.constantLong (q_R 10) q.1 q.2.1))) = true := by decide +kernel
set_option maxRecDepth 100000 in
theorem q_c2C_11 : (q_c2T 11).all (fun q => decide (tables_1[q.2.2]? = some (.constantLong (q_R 11) q.1 q.2.1))) = true := by decide +kernel
set_option maxRecDepth 100000 in
theorem q_c2C_12 : (q_c2T 12).all (fun q => decide (tables_1[q.2.2]? = some (.constantLong (q_R 12) q.1 q.2.1))) = true := by decide +kernel
set_option maxRecDepth 100000 in
theorem q_c2C_13 : (q_c2T 13).all (fun q => decide (tables_1[q.2.2]? = some (.constantLong (q_R 13) q.1 q.2.1))) = true := by decide +kernel
set_option maxRecDepth 100000 in
theorem q_c2C_14 : (q_c2T 14).all (fun q => decide (tables_1[q.2.2]? = some (.constantLong (q_R 14) q.1 q.2.1))) = true := by decide +kernel
set_option maxRecDepth 100000 in
theorem q_c2C_15 : (q_c2T 15).all (fun q => decide (tables_1[q.2.2]? = some (.constantLong (q_R 15) q.1 q.2.1))) = true := by decide +kernel
set_option maxRecDepth 100000 in
theorem q_c2C_16 : (q_c2T 16).all (fun q => decide (tables_1[q.2.2]? = some (.constantLong (q_R 16) q.1 q.2.1))) = true := by decide +kernel
set_option maxRecDepth 100000 in
theorem q_c2C_17 : (q_c2T 17).all (fun q => decide (tables_1[q.2.2]? = some (.constantLong (q_R 17) q.1 q.2.1))) = true := by decide +kernel
set_option maxRecDepth 100000 in
theorem q_c2C_18 : (q_c2T 18).all (fun q => decide (tables_1[q.2.2]? = some (.constantLong (q_R 18) q.1 q.2.1))) = true := by decide +kernel
theorem q_c2C : ∀ o, ∀ q ∈ q_c2T o, (decide (tables_1[q.2.2]? = some (.constantLong (q_R o) q.1 q.2.1))) = true
  | 0 => List.all_eq_true.mp q_c2C_0
  | 1 => List.all_eq_true.mp q_c2C_1
  | 2 => List.all_eq_true.mp q_c2C_2
  | 3 => List.all_eq_true.mp q_c2C_3
  | 4 => List.all_eq_true.mp q_c2C_4
  | 5 => List.all_eq_true.mp q_c2C_5
  | 6 => List.all_eq_true.mp q_c2C_6
  | 7 => List.all_eq_true.mp q_c2C_7
  | 8 => List.all_eq_true.mp q_c2C_8
  | 9 => List.all_eq_true.mp q_c2C_9
  | 10 => List.all_eq_true.mp q_c2C_10
  | 11 => List.all_eq_true.mp q_c2C_11
  | 12 => List.all_eq_true.mp q_c2C_12
  | 13 => List.all_eq_true.mp q_c2C_13
  | 14 => List.all_eq_true.mp q_c2C_14
  | 15 => List.all_eq_true.mp q_c2C_15
  | 16 => List.all_eq_true.mp q_c2C_16
  | 17 => List.all_eq_true.mp q_c2C_17
  | 18 => List.all_eq_true.mp q_c2C_18
  | n + 19 => fun q h => absurd h (by simp [q_c2T])
def q_ldc2 (o i : Nat) : Option Int64 := ((q_c2T o).find? (fun q => q.1 == i)).map (fun q => q.2.1)
theorem q_mat1 : ∀ k, k < 2 → Cond.static (q_matN k) ∈ lw_tbl ∧ Cond.initialized "java/lang/Math" ∈ lw_tbl ∧ ((k = 0 → Cond.code Lib.Math.max.name Lib.Math.max.code 2 (some .int) ∈ lw_tbl) ∧ (k = 1 → Cond.code Lib.Math.min.name Lib.Math.min.code 2 (some .int) ∈ lw_tbl))
  | 0, _ => ⟨q_lwt (i := 576) (by decide +kernel), q_lwt (i := 14) (by decide +kernel), fun _ => q_lwt (i := 577) (by decide +kernel), fun h => absurd h (by decide)⟩
  | 1, _ => ⟨q_lwt (i := 579) (by decide +kernel), q_lwt (i := 14) (by decide +kernel), fun h => absurd h (by decide), fun _ => q_lwt (i := 580) (by decide +kernel)⟩
  | n + 2, h => absurd h (by omega)
theorem q_oi1 : Cond.instanceMethod Lib.objectInit ∈ lw_tbl ∧ Cond.code Lib.objectInit ⟨#[0xb1]⟩ 1 none ∈ lw_tbl := ⟨q_lwt (i := 29) (by decide +kernel), q_lwt (i := 30) (by decide +kernel)⟩
theorem q_ac1 : Cond.native arraycopyName ∈ lw_tbl ∧ Cond.static arraycopyName ∈ lw_tbl ∧ Cond.initialized "java/lang/System" ∈ lw_tbl := ⟨q_lwt (i := 835) (by decide +kernel), q_lwt (i := 834) (by decide +kernel), q_lwt (i := 22) (by decide +kernel)⟩
theorem q_ml1 : Cond.static Lib.MathLoose.min_long.x ∈ lw_tbl ∧ Cond.initialized "java/lang/Math" ∈ lw_tbl ∧ Cond.code Lib.MathLoose.min_long.x Lib.MathLoose.min_long.code 4 (some .long) ∈ lw_tbl := ⟨q_lwt (i := 1536) (by decide +kernel), q_lwt (i := 14) (by decide +kernel), q_lwt (i := 1537) (by decide +kernel)⟩
theorem q_acB : Cond.arrayClass .byte ∈ lw_tbl := q_lwt (i := 59) (by decide +kernel)
theorem q_acI : Cond.arrayClass .int ∈ lw_tbl := q_lwt (i := 60) (by decide +kernel)
theorem q_acZ : Cond.arrayClass .boolean ∈ lw_tbl := q_lwt (i := 400) (by decide +kernel)
def q_strs : List (String × Nat × String × Nat) := [("DocumentHouse", 245, "insert", 0), ("DocumentHouse", 249, "find", 2), ("DocumentHouse", 250, "count", 4), ("DocumentHouse", 251, "update", 6), ("DocumentHouse", 252, "delete", 8), ("DocumentHouse", 253, "index", 10), ("DocumentHouse", 255, "drop", 12), ("DocumentHouse", 256, "pipeline", 14), ("DocumentHouse", 257, "explain", 16), ("DocumentHouse", 258, "shape", 18), ("DocumentHouse", 263, "shelf", 20), ("DocumentHouse", 279, "change", 22), ("DocumentHouse", 280, "down", 24), ("DocumentHouse", 305, "number", 26), ("DocumentHouse$Filter", 63, "$and", 28), ("DocumentHouse$Filter", 65, "$or", 30), ("DocumentHouse$Filter", 67, "$nor", 32), ("DocumentHouse$Filter", 35, "$eq", 34), ("DocumentHouse$Filter", 41, "$ne", 36), ("DocumentHouse$Filter", 43, "$in", 38), ("DocumentHouse$Filter", 45, "$nin", 40), ("DocumentHouse$Filter", 47, "$lt", 42), ("DocumentHouse$Filter", 49, "$lte", 44), ("DocumentHouse$Filter", 51, "$gt", 46), ("DocumentHouse$Filter", 53, "$gte", 48), ("DocumentHouse$Filter", 55, "$exists", 50), ("DocumentHouse$Filter", 57, "$size", 52), ("DocumentHouse$Filter", 59, "$elem", 54), ("DocumentHouse$Filter", 61, "$not", 56), ("DocumentHouse", 319, "many", 58), ("DocumentHouse", 321, "found", 60), ("DocumentHouse", 329, "is", 62), ("DocumentHouse$Change", 36, "$set", 64), ("DocumentHouse$Change", 44, "$unset", 66), ("DocumentHouse$Change", 46, "$inc", 68), ("DocumentHouse$Change", 48, "$push", 70), ("DocumentHouse$Change", 50, "$pull", 72), ("DocumentHouse$Change", 52, "$addToSet", 74), ("DocumentHouse", 368, "changed", 76), ("DocumentHouse", 384, "dropped", 78), ("DocumentHouse$Stages", 108, "$match", 80), ("DocumentHouse$Stages", 123, "$project", 82), ("DocumentHouse$Stages", 125, "$unwind", 84), ("DocumentHouse$Stages", 127, "$group", 86), ("DocumentHouse$Stages", 129, "$sort", 88), ("DocumentHouse$Stages", 131, "$skip", 90), ("DocumentHouse$Stages", 133, "$limit", 92), ("DocumentHouse$Stages", 135, "$lookup", 94), ("DocumentHouse$Stages", 305, "by", 96), ("DocumentHouse$Stages", 289, "$count", 98), ("DocumentHouse$Stages", 291, "$sum", 100), ("DocumentHouse$Stages", 293, "$min", 102), ("DocumentHouse$Stages", 295, "$max", 104), ("DocumentHouse$Stages", 297, "$first", 106), ("DocumentHouse$Stages", 299, "$last", 108), ("DocumentHouse$Stages", 301, "$push", 110), ("DocumentHouse$Stages", 303, "$addToSet", 112), ("DocumentHouse$Stages", 390, "here", 114), ("DocumentHouse$Stages", 392, "there", 116), ("DocumentHouse$Stages", 394, "as", 118), ("DocumentHouse$Bounds", 130, "$and", 120), ("DocumentHouse$Bounds", 100, "$elem", 122), ("DocumentHouse", 463, "rank", 124), ("DocumentHouse", 464, "ranges", 126), ("DocumentHouse", 465, "looked", 128), ("DocumentHouse", 394, "entries", 130), ("DocumentHouse", 400, "levels", 132), ("DocumentHouse", 404, "leaves", 134), ("DocumentHouse", 408, "nodes", 136), ("DocumentHouse", 412, "first", 138), ("DocumentHouse", 416, "second", 140), ("DocumentHouse", 181, "fault", 142), ("DocumentHouse", 186, "place", 144), ("DocumentHouseModel", 873, "insert", 146), ("DocumentHouseModel", 875, "find", 148), ("DocumentHouseModel", 876, "count", 150), ("DocumentHouseModel", 877, "update", 152), ("DocumentHouseModel", 879, "delete", 154), ("DocumentHouseModel", 881, "explain", 156), ("DocumentHouseModel", 889, "drop", 158), ("DocumentHouseModel", 891, "shape", 160), ("DocumentHouseModel", 893, "pipeline", 162), ("DocumentHouseModel", 895, "index", 164), ("DocumentHouseModel", 871, "shelf", 166), ("DocumentHouseModel", 903, "change", 168), ("DocumentHouseModel", 908, "down", 170), ("DocumentHouseModel", 976, "dropped", 172), ("DocumentHouseModel", 982, "entries", 174), ("DocumentHouseModel", 984, "levels", 176), ("DocumentHouseModel", 988, "leaves", 178), ("DocumentHouseModel", 992, "nodes", 180), ("DocumentHouseModel", 993, "first", 182), ("DocumentHouseModel", 994, "second", 184), ("DocumentHouseModel", 1005, "$match", 186), ("DocumentHouseModel", 323, "$and", 188), ("DocumentHouseModel", 329, "$or", 190), ("DocumentHouseModel", 331, "$nor", 192), ("DocumentHouseModel", 363, "$eq", 194), ("DocumentHouseModel", 365, "$ne", 196), ("DocumentHouseModel", 367, "$in", 198), ("DocumentHouseModel", 369, "$nin", 200), ("DocumentHouseModel", 371, "$lt", 202), ("DocumentHouseModel", 373, "$lte", 204), ("DocumentHouseModel", 375, "$gt", 206), ("DocumentHouseModel", 377, "$gte", 208), ("DocumentHouseModel", 379, "$exists", 210), ("DocumentHouseModel", 381, "$size", 212), ("DocumentHouseModel", 383, "$elem", 214), ("DocumentHouseModel", 385, "$not", 216), ("DocumentHouseModel", 554, "$project", 218), ("DocumentHouseModel", 559, "$unwind", 220), ("DocumentHouseModel", 564, "$group", 222), ("DocumentHouseModel", 598, "by", 224), ("DocumentHouseModel", 586, "$sum", 226), ("DocumentHouseModel", 588, "$min", 228), ("DocumentHouseModel", 590, "$max", 230), ("DocumentHouseModel", 592, "$first", 232), ("DocumentHouseModel", 594, "$last", 234), ("DocumentHouseModel", 435, "$push", 236), ("DocumentHouseModel", 439, "$addToSet", 238), ("DocumentHouseModel", 596, "$count", 240), ("DocumentHouseModel", 569, "$sort", 242), ("DocumentHouseModel", 574, "$skip", 244), ("DocumentHouseModel", 576, "$limit", 246), ("DocumentHouseModel", 578, "$lookup", 248), ("DocumentHouseModel", 605, "here", 250), ("DocumentHouseModel", 607, "there", 252), ("DocumentHouseModel", 608, "as", 254), ("DocumentHouseModel", 943, "many", 256), ("DocumentHouseModel", 958, "found", 258), ("DocumentHouseModel", 959, "number", 260), ("DocumentHouseModel", 1001, "rank", 262), ("DocumentHouseModel", 1002, "ranges", 264), ("DocumentHouseModel", 1003, "looked", 266), ("DocumentHouseModel", 429, "$set", 268), ("DocumentHouseModel", 431, "$unset", 270), ("DocumentHouseModel", 433, "$inc", 272), ("DocumentHouseModel", 437, "$pull", 274), ("DocumentHouseModel", 973, "changed", 276), ("DocumentHouseModel", 960, "is", 278), ("DocumentHouseModel", 1025, "fault", 280), ("DocumentHouseModel", 1026, "place", 282)]
def q_strT (o : Nat) : List (Nat × Nat) := match o with
  | 0 => [(130, 60), (100, 61)]
  | 1 => [(36, 32), (44, 33), (46, 34), (48, 35), (50, 36), (52, 37)]
  | 2 => [(63, 14), (65, 15), (67, 16), (35, 17), (41, 18), (43, 19), (45, 20), (47, 21), (49, 22), (51, 23), (53, 24), (55, 25), (57, 26), (59, 27), (61, 28)]
  | 9 => [(108, 40), (123, 41), (125, 42), (127, 43), (129, 44), (131, 45), (133, 46), (135, 47), (305, 48), (289, 49), (291, 50), (293, 51), (295, 52), (297, 53), (299, 54), (301, 55), (303, 56), (390, 57), (392, 58), (394, 59)]
  | 11 => [(245, 0), (249, 1), (250, 2), (251, 3), (252, 4), (253, 5), (255, 6), (256, 7), (257, 8), (258, 9), (263, 10), (279, 11), (280, 12), (305, 13), (319, 29), (321, 30), (329, 31), (368, 38), (384, 39), (463, 62), (464, 63), (465, 64), (394, 65), (400, 66), (404, 67), (408, 68), (412, 69), (416, 70), (181, 71), (186, 72)]
  | 12 => [(873, 73), (875, 74), (876, 75), (877, 76), (879, 77), (881, 78), (889, 79), (891, 80), (893, 81), (895, 82), (871, 83), (903, 84), (908, 85), (976, 86), (982, 87), (984, 88), (988, 89), (992, 90), (993, 91), (994, 92), (1005, 93), (323, 94), (329, 95), (331, 96), (363, 97), (365, 98), (367, 99), (369, 100), (371, 101), (373, 102), (375, 103), (377, 104), (379, 105), (381, 106), (383, 107), (385, 108), (554, 109), (559, 110), (564, 111), (598, 112), (586, 113), (588, 114), (590, 115), (592, 116), (594, 117), (435, 118), (439, 119), (596, 120), (569, 121), (574, 122), (576, 123), (578, 124), (605, 125), (607, 126), (608, 127), (943, 128), (958, 129), (959, 130), (1001, 131), (1002, 132), (1003, 133), (429, 134), (431, 135), (433, 136), (437, 137), (973, 138), (960, 139), (1025, 140), (1026, 141)]
  | _ => []
def q_strX (j : Nat) : String := match j with
  | 0 => "insert"
  | 1 => "find"
  | 2 => "count"
  | 3 => "update"
  | 4 => "delete"
  | 5 => "index"
  | 6 => "drop"
  | 7 => "pipeline"
  | 8 => "explain"
  | 9 => "shape"
  | 10 => "shelf"
  | 11 => "change"
  | 12 => "down"
  | 13 => "number"
  | 14 => "$and"
  | 15 => "$or"
  | 16 => "$nor"
  | 17 => "$eq"
  | 18 => "$ne"
  | 19 => "$in"
  | 20 => "$nin"
  | 21 => "$lt"
  | 22 => "$lte"
  | 23 => "$gt"
  | 24 => "$gte"
  | 25 => "$exists"
  | 26 => "$size"
  | 27 => "$elem"
  | 28 => "$not"
  | 29 => "many"
  | 30 => "found"
  | 31 => "is"
  | 32 => "$set"
  | 33 => "$unset"
  | 34 => "$inc"
  | 35 => "$push"
  | 36 => "$pull"
  | 37 => "$addToSet"
  | 38 => "changed"
  | 39 => "dropped"
  | 40 => "$match"
  | 41 => "$project"
  | 42 => "$unwind"
  | 43 => "$group"
  | 44 => "$sort"
  | 45 => "$skip"
  | 46 => "$limit"
  | 47 => "$lookup"
  | 48 => "by"
  | 49 => "$count"
  | 50 => "$sum"
  | 51 => "$min"
  | 52 => "$max"
  | 53 => "$first"
  | 54 => "$last"
  | 55 => "$push"
  | 56 => "$addToSet"
  | 57 => "here"
  | 58 => "there"
  | 59 => "as"
  | 60 => "$and"
  | 61 => "$elem"
  | 62 => "rank"
  | 63 => "ranges"
  | 64 => "looked"
  | 65 => "entries"
  | 66 => "levels"
  | 67 => "leaves"
  | 68 => "nodes"
  | 69 => "first"
  | 70 => "second"
  | 71 => "fault"
  | 72 => "place"
  | 73 => "insert"
  | 74 => "find"
  | 75 => "count"
  | 76 => "update"
  | 77 => "delete"
  | 78 => "explain"
  | 79 => "drop"
  | 80 => "shape"
  | 81 => "pipeline"
  | 82 => "index"
  | 83 => "shelf"
  | 84 => "change"
  | 85 => "down"
  | 86 => "dropped"
  | 87 => "entries"
  | 88 => "levels"
  | 89 => "leaves"
  | 90 => "nodes"
  | 91 => "first"
  | 92 => "second"
  | 93 => "$match"
  | 94 => "$and"
  | 95 => "$or"
  | 96 => "$nor"
  | 97 => "$eq"
  | 98 => "$ne"
  | 99 => "$in"
  | 100 => "$nin"
  | 101 => "$lt"
  | 102 => "$lte"
  | 103 => "$gt"
  | 104 => "$gte"
  | 105 => "$exists"
  | 106 => "$size"
  | 107 => "$elem"
  | 108 => "$not"
  | 109 => "$project"
  | 110 => "$unwind"
  | 111 => "$group"
  | 112 => "by"
  | 113 => "$sum"
  | 114 => "$min"
  | 115 => "$max"
  | 116 => "$first"
  | 117 => "$last"
  | 118 => "$push"
  | 119 => "$addToSet"
  | 120 => "$count"
  | 121 => "$sort"
  | 122 => "$skip"
  | 123 => "$limit"
  | 124 => "$lookup"
  | 125 => "here"
  | 126 => "there"
  | 127 => "as"
  | 128 => "many"
  | 129 => "found"
  | 130 => "number"
  | 131 => "rank"
  | 132 => "ranges"
  | 133 => "looked"
  | 134 => "$set"
  | 135 => "$unset"
  | 136 => "$inc"
  | 137 => "$pull"
  | 138 => "changed"
  | 139 => "is"
  | 140 => "fault"
  | 141 => "place"
  | _ => ""
set_option maxRecDepth 100000 in
theorem q_strC_0 : (q_strT 0).all (fun q => decide ((q_R 0, q.1, q_strX q.2, 2 * q.2) ∈ q_strs)) = true := by decide +kernel
set_option maxRecDepth 100000 in
theorem q_strC_1 : (q_strT 1).all (fun q => decide ((q_R 1, q.1, q_strX q.2, 2 * q.2) ∈ q_strs)) = true := by decide +kernel
set_option maxRecDepth 100000 in
theorem q_strC_2 : (q_strT 2).all (fun q => decide ((q_R 2, q.1, q_strX q.2, 2 * q.2) ∈ q_strs)) = true := by decide +kernel
set_option maxRecDepth 100000 in
theorem q_strC_3 : (q_strT 3).all (fun q => decide ((q_R 3, q.1, q_strX q.2, 2 * q.2) ∈ q_strs)) = true := by decide +kernel
set_option maxRecDepth 100000 in
theorem q_strC_4 : (q_strT 4).all (fun q => decide ((q_R 4, q.1, q_strX q.2, 2 * q.2) ∈ q_strs)) = true := by decide +kernel
set_option maxRecDepth 100000 in
theorem q_strC_5 : (q_strT 5).all (fun q => decide ((q_R 5, q.1, q_strX q.2, 2 * q.2) ∈ q_strs)) = true := by decide +kernel
set_option maxRecDepth 100000 in
theorem q_strC_6 : (q_strT 6).all (fun q => decide ((q_R 6, q.1, q_strX q.2, 2 * q.2) ∈ q_strs)) = true := by decide +kernel
set_option maxRecDepth 100000 in
theorem q_strC_7 : (q_strT 7).all (fun q => decide ((q_R 7, q.1, q_strX q.2, 2 * q.2) ∈ q_strs)) = true := by decide +kernel
set_option maxRecDepth 100000 in
theorem q_strC_8 : (q_strT 8).all (fun q => decide ((q_R 8, q.1, q_strX q.2, 2 * q.2) ∈ q_strs)) = true := by decide +kernel
set_option maxRecDepth 100000 in
theorem q_strC_9 : (q_strT 9).all (fun q => decide ((q_R 9, q.1, q_strX q.2, 2 * q.2) ∈ q_strs)) = true := by decide +kernel
set_option maxRecDepth 100000 in
theorem q_strC_10 : (q_strT 10).all (fun q => decide ((q_R 10, q.1, q_strX q.2, 2 * q.2) ∈ q_strs)) = true := by decide +kernel
set_option maxRecDepth 100000 in
theorem q_strC_11 : (q_strT 11).all (fun q => decide ((q_R 11, q.1, q_strX q.2, 2 * q.2) ∈ q_strs)) = true := by decide +kernel
set_option maxRecDepth 100000 in
theorem q_strC_12 : (q_strT 12).all (fun q => decide ((q_R 12, q.1, q_strX q.2, 2 * q.2) ∈ q_strs)) = true := by decide +kernel
set_option maxRecDepth 100000 in
theorem q_strC_13 : (q_strT 13).all (fun q => decide ((q_R 13, q.1, q_strX q.2, 2 * q.2) ∈ q_strs)) = true := by decide +kernel
set_option maxRecDepth 100000 in
theorem q_strC_14 : (q_strT 14).all (fun q => decide ((q_R 14, q.1, q_strX q.2, 2 * q.2) ∈ q_strs)) = true := by decide +kernel
set_option maxRecDepth 100000 in
theorem q_strC_15 : (q_strT 15).all (fun q => decide ((q_R 15, q.1, q_strX q.2, 2 * q.2) ∈ q_strs)) = true := by decide +kernel
set_option maxRecDepth 100000 in
theorem q_strC_16 : (q_strT 16).all (fun q => decide ((q_R 16, q.1, q_strX q.2, 2 * q.2) ∈ q_strs)) = true := by decide +kernel
set_option maxRecDepth 100000 in
theorem q_strC_17 : (q_strT 17).all (fun q => decide ((q_R 17, q.1, q_strX q.2, 2 * q.2) ∈ q_strs)) = true := by decide +kernel
set_option maxRecDepth 100000 in
theorem q_strC_18 : (q_strT 18).all (fun q => decide ((q_R 18, q.1, q_strX q.2, 2 * q.2) ∈ q_strs)) = true := by decide +kernel
theorem q_strC : ∀ o, ∀ q ∈ q_strT o, (decide ((q_R o, q.1, q_strX q.2, 2 * q.2) ∈ q_strs)) = true
  | 0 => List.all_eq_true.mp q_strC_0
  | 1 => List.all_eq_true.mp q_strC_1
  | 2 => List.all_eq_true.mp q_strC_2
  | 3 => List.all_eq_true.mp q_strC_3
  | 4 => List.all_eq_true.mp q_strC_4
  | 5 => List.all_eq_true.mp q_strC_5
  | 6 => List.all_eq_true.mp q_strC_6
  | 7 => List.all_eq_true.mp q_strC_7
  | 8 => List.all_eq_true.mp q_strC_8
  | 9 => List.all_eq_true.mp q_strC_9
  | 10 => List.all_eq_true.mp q_strC_10
  | 11 => List.all_eq_true.mp q_strC_11
  | 12 => List.all_eq_true.mp q_strC_12
  | 13 => List.all_eq_true.mp q_strC_13
  | 14 => List.all_eq_true.mp q_strC_14
  | 15 => List.all_eq_true.mp q_strC_15
  | 16 => List.all_eq_true.mp q_strC_16
  | 17 => List.all_eq_true.mp q_strC_17
  | 18 => List.all_eq_true.mp q_strC_18
  | n + 19 => fun q h => absurd h (by simp [q_strT])
def q_nS : Nat := 142
/-- the signs of the texts -/
def q_sb (j : Nat) : List Int32 := (q_strX j).toList.map (fun c => Int32.ofNat c.toNat)
