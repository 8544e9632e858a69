def q_y (y : Nat) : MethodName := match y with
  | 0 => yX0_init
  | 1 => yX1_init
  | 2 => yX2_init
  | 3 => yX3_init
  | 4 => yX4_init
  | 5 => yX5_init
  | 6 => yX6_init
  | 7 => yX7_init
  | 8 => yX8_init
  | 9 => yX9_init
  | 10 => yX10_init
  | 11 => yX11_init
  | 12 => yX12_init
  | 13 => yX12_dropTree
  | 14 => yX12_newNode
  | 15 => yX12_setSize
  | 16 => yX11_feed
  | 17 => yX11_putOnTape
  | 18 => yX11_ask
  | 19 => yX11_tellFault
  | 20 => yX11_fail
  | 21 => yX11_answer
  | 22 => yX11_state
  | 23 => yX11_number
  | 24 => yX11_size
  | 25 => yX11_byteAt
  | 26 => yX11_standsOn
  | 27 => yX8_indexCount
  | 28 => yX4_start
  | 29 => yX4_open
  | 30 => yX4_put4
  | 31 => yX4_put
  | 32 => yX4_close
  | 33 => yX4_patch
  | 34 => yX4_named
  | 35 => yX4_head
  | 36 => yX6_reads
  | 37 => yX6_document
  | 38 => yX6_fails
  | 39 => yX7_whole4
  | 40 => yX12_feed
  | 41 => yX12_ask
  | 42 => yX12_readAll
  | 43 => yX12_fails
  | 44 => yX12_beginAnswer
  | 45 => yX12_write
  | 46 => yX12_open
  | 47 => yX12_putInt
  | 48 => yX12_put
  | 49 => yX12_putNumber
  | 50 => yX12_putWord
  | 51 => yX12_endAnswer
  | 52 => yX12_close
  | 53 => yX12_setInt4
  | 54 => yX12_int4
  | 55 => yX12_at
  | 56 => yX12_answer
  | 57 => yX12_state
  | 58 => yX12_isThereOne
  | 59 => yX12_number_
  | 60 => yX12_size
  | 61 => yX12_byteAt
  | 62 => yJ0_length_8abf5
  | 63 => yJ0_charAt_5068e
  | 64 => yJ0_coder_7d493
  | 65 => yJ0_isLatin1_aae02
  | 66 => yJ1_charAt_3b067
  | _ => Lib.objectInit
def q_code (y : Nat) : ByteArray := match y with
  | 0 => prog_2_method_1_code
  | 1 => prog_3_method_1_code
  | 2 => prog_4_method_1_code
  | 3 => prog_5_method_1_code
  | 4 => prog_6_method_1_code
  | 5 => prog_7_method_1_code
  | 6 => prog_8_method_1_code
  | 7 => prog_9_method_1_code
  | 8 => prog_10_method_1_code
  | 9 => prog_11_method_1_code
  | 10 => prog_12_method_1_code
  | 11 => prog_1_method_1_code
  | 12 => prog_14_method_1_code
  | 13 => prog_14_method_147_code
  | 14 => prog_14_method_146_code
  | 15 => prog_14_method_144_code
  | 16 => prog_1_method_2_code
  | 17 => prog_1_method_3_code
  | 18 => prog_1_method_4_code
  | 19 => prog_1_method_5_code
  | 20 => prog_1_method_6_code
  | 21 => prog_1_method_8_code
  | 22 => prog_1_method_9_code
  | 23 => prog_1_method_10_code
  | 24 => prog_1_method_11_code
  | 25 => prog_1_method_12_code
  | 26 => prog_1_method_13_code
  | 27 => prog_10_method_5_code
  | 28 => prog_6_method_2_code
  | 29 => prog_6_method_12_code
  | 30 => prog_6_method_4_code
  | 31 => prog_6_method_3_code
  | 32 => prog_6_method_13_code
  | 33 => prog_6_method_6_code
  | 34 => prog_6_method_14_code
  | 35 => prog_6_method_8_code
  | 36 => prog_8_method_2_code
  | 37 => prog_8_method_4_code
  | 38 => prog_8_method_3_code
  | 39 => prog_9_method_7_code
  | 40 => prog_14_method_201_code
  | 41 => prog_14_method_202_code
  | 42 => prog_14_method_36_code
  | 43 => prog_14_method_33_code
  | 44 => prog_14_method_190_code
  | 45 => prog_14_method_21_code
  | 46 => prog_14_method_27_code
  | 47 => prog_14_method_23_code
  | 48 => prog_14_method_22_code
  | 49 => prog_14_method_31_code
  | 50 => prog_14_method_25_code
  | 51 => prog_14_method_191_code
  | 52 => prog_14_method_28_code
  | 53 => prog_14_method_5_code
  | 54 => prog_14_method_3_code
  | 55 => prog_14_method_2_code
  | 56 => prog_14_method_203_code
  | 57 => prog_14_method_204_code
  | 58 => prog_14_method_205_code
  | 59 => prog_14_method_206_code
  | 60 => prog_14_method_207_code
  | 61 => prog_14_method_208_code
  | 62 => prog_19_method_54_code
  | 63 => prog_19_method_56_code
  | 64 => prog_19_method_152_code
  | 65 => prog_19_method_154_code
  | 66 => prog_20_method_2_code
  | _ => ⟨#[]⟩
def q_maxL (y : Nat) : Nat := match y with
  | 0 => 2
  | 1 => 2
  | 2 => 2
  | 3 => 2
  | 4 => 4
  | 5 => 1
  | 6 => 2
  | 7 => 1
  | 8 => 4
  | 9 => 2
  | 10 => 1
  | 11 => 2
  | 12 => 2
  | 13 => 3
  | 14 => 4
  | 15 => 4
  | 16 => 6
  | 17 => 3
  | 18 => 3
  | 19 => 1
  | 20 => 3
  | 21 => 2
  | 22 => 2
  | 23 => 3
  | 24 => 3
  | 25 => 5
  | 26 => 3
  | 27 => 3
  | 28 => 3
  | 29 => 2
  | 30 => 3
  | 31 => 2
  | 32 => 2
  | 33 => 3
  | 34 => 3
  | 35 => 4
  | 36 => 2
  | 37 => 11
  | 38 => 3
  | 39 => 2
  | 40 => 8
  | 41 => 3
  | 42 => 4
  | 43 => 3
  | 44 => 1
  | 45 => 3
  | 46 => 2
  | 47 => 3
  | 48 => 2
  | 49 => 3
  | 50 => 3
  | 51 => 1
  | 52 => 2
  | 53 => 4
  | 54 => 2
  | 55 => 2
  | 56 => 2
  | 57 => 4
  | 58 => 3
  | 59 => 3
  | 60 => 3
  | 61 => 4
  | 62 => 1
  | 63 => 2
  | 64 => 1
  | 65 => 1
  | 66 => 2
  | _ => 0
def q_ret (y : Nat) : Option FieldType := match y with
  | 0 => none
  | 1 => none
  | 2 => none
  | 3 => none
  | 4 => none
  | 5 => none
  | 6 => none
  | 7 => none
  | 8 => none
  | 9 => none
  | 10 => none
  | 11 => none
  | 12 => none
  | 13 => none
  | 14 => some .int
  | 15 => none
  | 16 => some .int
  | 17 => none
  | 18 => some .int
  | 19 => none
  | 20 => none
  | 21 => some .int
  | 22 => some .int
  | 23 => some .int
  | 24 => some .int
  | 25 => some .int
  | 26 => some .boolean
  | 27 => some .int
  | 28 => none
  | 29 => some .int
  | 30 => none
  | 31 => none
  | 32 => none
  | 33 => none
  | 34 => none
  | 35 => none
  | 36 => some .boolean
  | 37 => some .int
  | 38 => some .int
  | 39 => some .int
  | 40 => some .int
  | 41 => some .int
  | 42 => some .boolean
  | 43 => some .boolean
  | 44 => none
  | 45 => none
  | 46 => some .int
  | 47 => none
  | 48 => none
  | 49 => none
  | 50 => none
  | 51 => some .boolean
  | 52 => none
  | 53 => none
  | 54 => some .int
  | 55 => some .int
  | 56 => some .int
  | 57 => some .int
  | 58 => some .boolean
  | 59 => some .int
  | 60 => some .int
  | 61 => some .int
  | 62 => some .int
  | 63 => some .char
  | 64 => some .byte
  | 65 => some .boolean
  | 66 => some .char
  | _ => none
def q_own (y : Nat) : Nat := match y with
  | 0 => 0
  | 1 => 1
  | 2 => 2
  | 3 => 3
  | 4 => 4
  | 5 => 5
  | 6 => 6
  | 7 => 7
  | 8 => 8
  | 9 => 9
  | 10 => 10
  | 11 => 11
  | 12 => 12
  | 13 => 12
  | 14 => 12
  | 15 => 12
  | 16 => 11
  | 17 => 11
  | 18 => 11
  | 19 => 11
  | 20 => 11
  | 21 => 11
  | 22 => 11
  | 23 => 11
  | 24 => 11
  | 25 => 11
  | 26 => 11
  | 27 => 8
  | 28 => 4
  | 29 => 4
  | 30 => 4
  | 31 => 4
  | 32 => 4
  | 33 => 4
  | 34 => 4
  | 35 => 4
  | 36 => 6
  | 37 => 6
  | 38 => 6
  | 39 => 7
  | 40 => 12
  | 41 => 12
  | 42 => 12
  | 43 => 12
  | 44 => 12
  | 45 => 12
  | 46 => 12
  | 47 => 12
  | 48 => 12
  | 49 => 12
  | 50 => 12
  | 51 => 12
  | 52 => 12
  | 53 => 12
  | 54 => 12
  | 55 => 12
  | 56 => 12
  | 57 => 12
  | 58 => 12
  | 59 => 12
  | 60 => 12
  | 61 => 12
  | 62 => 14
  | 63 => 14
  | 64 => 14
  | 65 => 14
  | 66 => 15
  | _ => 13
def q_stat (y : Nat) : Bool := match y with
  | 0 => false
  | 1 => false
  | 2 => false
  | 3 => false
  | 4 => false
  | 5 => false
  | 6 => false
  | 7 => false
  | 8 => false
  | 9 => false
  | 10 => false
  | 11 => false
  | 12 => false
  | 13 => false
  | 14 => false
  | 15 => false
  | 16 => false
  | 17 => false
  | 18 => false
  | 19 => false
  | 20 => false
  | 21 => false
  | 22 => false
  | 23 => false
  | 24 => false
  | 25 => false
  | 26 => false
  | 27 => false
  | 28 => false
  | 29 => false
  | 30 => false
  | 31 => false
  | 32 => false
  | 33 => false
  | 34 => false
  | 35 => false
  | 36 => false
  | 37 => false
  | 38 => false
  | 39 => true
  | 40 => false
  | 41 => false
  | 42 => false
  | 43 => false
  | 44 => false
  | 45 => false
  | 46 => false
  | 47 => false
  | 48 => false
  | 49 => false
  | 50 => false
  | 51 => false
  | 52 => false
  | 53 => false
  | 54 => false
  | 55 => false
  | 56 => false
  | 57 => false
  | 58 => false
  | 59 => false
  | 60 => false
  | 61 => false
  | 62 => false
  | 63 => false
  | 64 => false
  | 65 => false
  | 66 => true
  | _ => false
def q_ini (y : Nat) : Bool := match y with
  | 0 => true
  | 1 => true
  | 2 => true
  | 3 => true
  | 4 => true
  | 5 => true
  | 6 => true
  | 7 => true
  | 8 => true
  | 9 => true
  | 10 => true
  | 11 => true
  | 12 => true
  | 13 => false
  | 14 => false
  | 15 => false
  | 16 => false
  | 17 => false
  | 18 => false
  | 19 => false
  | 20 => false
  | 21 => false
  | 22 => false
  | 23 => false
  | 24 => false
  | 25 => false
  | 26 => false
  | 27 => false
  | 28 => false
  | 29 => false
  | 30 => false
  | 31 => false
  | 32 => false
  | 33 => false
  | 34 => false
  | 35 => false
  | 36 => false
  | 37 => false
  | 38 => false
  | 39 => false
  | 40 => false
  | 41 => false
  | 42 => false
  | 43 => false
  | 44 => false
  | 45 => false
  | 46 => false
  | 47 => false
  | 48 => false
  | 49 => false
  | 50 => false
  | 51 => false
  | 52 => false
  | 53 => false
  | 54 => false
  | 55 => false
  | 56 => false
  | 57 => false
  | 58 => false
  | 59 => false
  | 60 => false
  | 61 => false
  | 62 => false
  | 63 => false
  | 64 => false
  | 65 => false
  | 66 => false
  | _ => false
def q_na (y : Nat) : Nat := match y with
  | 0 => 1
  | 1 => 1
  | 2 => 1
  | 3 => 1
  | 4 => 3
  | 5 => 0
  | 6 => 1
  | 7 => 0
  | 8 => 2
  | 9 => 1
  | 10 => 0
  | 11 => 0
  | 12 => 0
  | 13 => 1
  | 14 => 2
  | 15 => 3
  | 16 => 5
  | 17 => 1
  | 18 => 1
  | 19 => 0
  | 20 => 2
  | 21 => 1
  | 22 => 1
  | 23 => 2
  | 24 => 2
  | 25 => 3
  | 26 => 2
  | 27 => 0
  | 28 => 2
  | 29 => 0
  | 30 => 1
  | 31 => 1
  | 32 => 1
  | 33 => 2
  | 34 => 2
  | 35 => 2
  | 36 => 1
  | 37 => 4
  | 38 => 2
  | 39 => 2
  | 40 => 5
  | 41 => 1
  | 42 => 1
  | 43 => 2
  | 44 => 0
  | 45 => 2
  | 46 => 0
  | 47 => 1
  | 48 => 1
  | 49 => 2
  | 50 => 1
  | 51 => 0
  | 52 => 1
  | 53 => 2
  | 54 => 1
  | 55 => 1
  | 56 => 1
  | 57 => 1
  | 58 => 2
  | 59 => 2
  | 60 => 2
  | 61 => 3
  | 62 => 0
  | 63 => 1
  | 64 => 0
  | 65 => 0
  | 66 => 2
  | _ => 0
/-- what is known of a method -/
def q_mOK (y : Nat) : Prop := plainName (q_y y).cls = true ∧ Cond.code (q_y y) (q_code y) (q_maxL y) (q_ret y) ∈ lw_tbl ∧ (q_y y).cls = q_R (q_own y) ∧ Cond.initialized (q_y y).cls ∈ lw_tbl ∧ (q_stat y = true → Cond.static (q_y y) ∈ lw_tbl) ∧ (q_stat y = false → Cond.instanceMethod (q_y y) ∈ lw_tbl) ∧ (q_stat y = false → q_ini y = false → Cond.selects (q_y y).cls (q_y y) (q_y y) ∈ lw_tbl) ∧ (q_ini y = true → (q_y y).name = "<init>") ∧ ((q_y y).cls ≠ "java/lang/invoke/MethodHandle" ∧ (q_y y).cls ≠ "java/lang/invoke/VarHandle" ∧ (parseMethodDescriptor (q_y y).desc).map (fun d => d.parameters.length) = some (q_na y)) ∧ q_maxL y ≤ 21
theorem q_m0 : q_mOK 0 := ⟨by decide +kernel, q_lwt (i := 285) (by decide +kernel), by decide +kernel, q_lwt (i := 9) (by decide +kernel), fun h => absurd h (by decide), fun _ => q_lwt (i := 284) (by decide +kernel), fun _ h => absurd h (by decide), fun _ => rfl, ⟨by decide +kernel, by decide +kernel, by decide +kernel⟩, by decide⟩
theorem q_m1 : q_mOK 1 := ⟨by decide +kernel, q_lwt (i := 166) (by decide +kernel), by decide +kernel, q_lwt (i := 7) (by decide +kernel), fun h => absurd h (by decide), fun _ => q_lwt (i := 165) (by decide +kernel), fun _ h => absurd h (by decide), fun _ => rfl, ⟨by decide +kernel, by decide +kernel, by decide +kernel⟩, by decide⟩
theorem q_m2 : q_mOK 2 := ⟨by decide +kernel, q_lwt (i := 107) (by decide +kernel), by decide +kernel, q_lwt (i := 5) (by decide +kernel), fun h => absurd h (by decide), fun _ => q_lwt (i := 106) (by decide +kernel), fun _ h => absurd h (by decide), fun _ => rfl, ⟨by decide +kernel, by decide +kernel, by decide +kernel⟩, by decide⟩
theorem q_m3 : q_mOK 3 := ⟨by decide +kernel, q_lwt (i := 326) (by decide +kernel), by decide +kernel, q_lwt (i := 11) (by decide +kernel), fun h => absurd h (by decide), fun _ => q_lwt (i := 325) (by decide +kernel), fun _ h => absurd h (by decide), fun _ => rfl, ⟨by decide +kernel, by decide +kernel, by decide +kernel⟩, by decide⟩
theorem q_m4 : q_mOK 4 := ⟨by decide +kernel, q_lwt (i := 65) (by decide +kernel), by decide +kernel, q_lwt (i := 3) (by decide +kernel), fun h => absurd h (by decide), fun _ => q_lwt (i := 64) (by decide +kernel), fun _ h => absurd h (by decide), fun _ => rfl, ⟨by decide +kernel, by decide +kernel, by decide +kernel⟩, by decide⟩
theorem q_m5 : q_mOK 5 := ⟨by decide +kernel, q_lwt (i := 113) (by decide +kernel), by decide +kernel, q_lwt (i := 6) (by decide +kernel), fun h => absurd h (by decide), fun _ => q_lwt (i := 112) (by decide +kernel), fun _ h => absurd h (by decide), fun _ => rfl, ⟨by decide +kernel, by decide +kernel, by decide +kernel⟩, by decide⟩
theorem q_m6 : q_mOK 6 := ⟨by decide +kernel, q_lwt (i := 89) (by decide +kernel), by decide +kernel, q_lwt (i := 4) (by decide +kernel), fun h => absurd h (by decide), fun _ => q_lwt (i := 88) (by decide +kernel), fun _ h => absurd h (by decide), fun _ => rfl, ⟨by decide +kernel, by decide +kernel, by decide +kernel⟩, by decide⟩
theorem q_m7 : q_mOK 7 := ⟨by decide +kernel, q_lwt (i := 35) (by decide +kernel), by decide +kernel, q_lwt (i := 2) (by decide +kernel), fun h => absurd h (by decide), fun _ => q_lwt (i := 34) (by decide +kernel), fun _ h => absurd h (by decide), fun _ => rfl, ⟨by decide +kernel, by decide +kernel, by decide +kernel⟩, by decide⟩
theorem q_m8 : q_mOK 8 := ⟨by decide +kernel, q_lwt (i := 316) (by decide +kernel), by decide +kernel, q_lwt (i := 10) (by decide +kernel), fun h => absurd h (by decide), fun _ => q_lwt (i := 315) (by decide +kernel), fun _ h => absurd h (by decide), fun _ => rfl, ⟨by decide +kernel, by decide +kernel, by decide +kernel⟩, by decide⟩
theorem q_m9 : q_mOK 9 := ⟨by decide +kernel, q_lwt (i := 208) (by decide +kernel), by decide +kernel, q_lwt (i := 8) (by decide +kernel), fun h => absurd h (by decide), fun _ => q_lwt (i := 207) (by decide +kernel), fun _ h => absurd h (by decide), fun _ => rfl, ⟨by decide +kernel, by decide +kernel, by decide +kernel⟩, by decide⟩
theorem q_m10 : q_mOK 10 := ⟨by decide +kernel, q_lwt (i := 334) (by decide +kernel), by decide +kernel, q_lwt (i := 12) (by decide +kernel), fun h => absurd h (by decide), fun _ => q_lwt (i := 333) (by decide +kernel), fun _ h => absurd h (by decide), fun _ => rfl, ⟨by decide +kernel, by decide +kernel, by decide +kernel⟩, by decide⟩
theorem q_m11 : q_mOK 11 := ⟨by decide +kernel, q_lwt (i := 27) (by decide +kernel), by decide +kernel, q_lwt (i := 1) (by decide +kernel), fun h => absurd h (by decide), fun _ => q_lwt (i := 26) (by decide +kernel), fun _ h => absurd h (by decide), fun _ => rfl, ⟨by decide +kernel, by decide +kernel, by decide +kernel⟩, by decide⟩
theorem q_m12 : q_mOK 12 := ⟨by decide +kernel, q_lwt (i := 1706) (by decide +kernel), by decide +kernel, q_lwt (i := 13) (by decide +kernel), fun h => absurd h (by decide), fun _ => q_lwt (i := 1705) (by decide +kernel), fun _ h => absurd h (by decide), fun _ => rfl, ⟨by decide +kernel, by decide +kernel, by decide +kernel⟩, by decide⟩
theorem q_m13 : q_mOK 13 := ⟨by decide +kernel, q_lwt (i := 1715) (by decide +kernel), by decide +kernel, q_lwt (i := 13) (by decide +kernel), fun h => absurd h (by decide), fun _ => q_lwt (i := 1714) (by decide +kernel), fun _ _ => q_lws (i := 178) (y := (yX12_dropTree, q_N 12)) (by decide +kernel), fun h => absurd h (by decide), ⟨by decide +kernel, by decide +kernel, by decide +kernel⟩, by decide⟩
theorem q_m14 : q_mOK 14 := ⟨by decide +kernel, q_lwt (i := 1719) (by decide +kernel), by decide +kernel, q_lwt (i := 13) (by decide +kernel), fun h => absurd h (by decide), fun _ => q_lwt (i := 1718) (by decide +kernel), fun _ _ => q_lws (i := 179) (y := (yX12_newNode, q_N 12)) (by decide +kernel), fun h => absurd h (by decide), ⟨by decide +kernel, by decide +kernel, by decide +kernel⟩, by decide⟩
theorem q_m15 : q_mOK 15 := ⟨by decide +kernel, q_lwt (i := 1723) (by decide +kernel), by decide +kernel, q_lwt (i := 13) (by decide +kernel), fun h => absurd h (by decide), fun _ => q_lwt (i := 1722) (by decide +kernel), fun _ _ => q_lws (i := 180) (y := (yX12_setSize, q_N 12)) (by decide +kernel), fun h => absurd h (by decide), ⟨by decide +kernel, by decide +kernel, by decide +kernel⟩, by decide⟩
theorem q_m16 : q_mOK 16 := ⟨by decide +kernel, q_lwt (i := 562) (by decide +kernel), by decide +kernel, q_lwt (i := 1) (by decide +kernel), fun h => absurd h (by decide), fun _ => q_lwt (i := 560) (by decide +kernel), fun _ _ => q_lwt (i := 561) (by decide +kernel), fun h => absurd h (by decide), ⟨by decide +kernel, by decide +kernel, by decide +kernel⟩, by decide⟩
theorem q_m17 : q_mOK 17 := ⟨by decide +kernel, q_lwt (i := 566) (by decide +kernel), by decide +kernel, q_lwt (i := 1) (by decide +kernel), fun h => absurd h (by decide), fun _ => q_lwt (i := 565) (by decide +kernel), fun _ _ => q_lws (i := 0) (y := (yX11_putOnTape, q_N 11)) (by decide +kernel), fun h => absurd h (by decide), ⟨by decide +kernel, by decide +kernel, by decide +kernel⟩, by decide⟩
theorem q_m18 : q_mOK 18 := ⟨by decide +kernel, q_lwt (i := 570) (by decide +kernel), by decide +kernel, q_lwt (i := 1) (by decide +kernel), fun h => absurd h (by decide), fun _ => q_lwt (i := 568) (by decide +kernel), fun _ _ => q_lwt (i := 569) (by decide +kernel), fun h => absurd h (by decide), ⟨by decide +kernel, by decide +kernel, by decide +kernel⟩, by decide⟩
theorem q_m19 : q_mOK 19 := ⟨by decide +kernel, q_lwt (i := 1671) (by decide +kernel), by decide +kernel, q_lwt (i := 1) (by decide +kernel), fun h => absurd h (by decide), fun _ => q_lwt (i := 1670) (by decide +kernel), fun _ _ => q_lws (i := 175) (y := (yX11_tellFault, q_N 11)) (by decide +kernel), fun h => absurd h (by decide), ⟨by decide +kernel, by decide +kernel, by decide +kernel⟩, by decide⟩
theorem q_m20 : q_mOK 20 := ⟨by decide +kernel, q_lwt (i := 648) (by decide +kernel), by decide +kernel, q_lwt (i := 1) (by decide +kernel), fun h => absurd h (by decide), fun _ => q_lwt (i := 647) (by decide +kernel), fun _ _ => q_lws (i := 11) (y := (yX11_fail, q_N 11)) (by decide +kernel), fun h => absurd h (by decide), ⟨by decide +kernel, by decide +kernel, by decide +kernel⟩, by decide⟩
theorem q_m21 : q_mOK 21 := ⟨by decide +kernel, q_lwt (i := 1677) (by decide +kernel), by decide +kernel, q_lwt (i := 1) (by decide +kernel), fun h => absurd h (by decide), fun _ => q_lwt (i := 1675) (by decide +kernel), fun _ _ => q_lwt (i := 1676) (by decide +kernel), fun h => absurd h (by decide), ⟨by decide +kernel, by decide +kernel, by decide +kernel⟩, by decide⟩
theorem q_m22 : q_mOK 22 := ⟨by decide +kernel, q_lwt (i := 1681) (by decide +kernel), by decide +kernel, q_lwt (i := 1) (by decide +kernel), fun h => absurd h (by decide), fun _ => q_lwt (i := 1679) (by decide +kernel), fun _ _ => q_lwt (i := 1680) (by decide +kernel), fun h => absurd h (by decide), ⟨by decide +kernel, by decide +kernel, by decide +kernel⟩, by decide⟩
theorem q_m23 : q_mOK 23 := ⟨by decide +kernel, q_lwt (i := 1689) (by decide +kernel), by decide +kernel, q_lwt (i := 1) (by decide +kernel), fun h => absurd h (by decide), fun _ => q_lwt (i := 1687) (by decide +kernel), fun _ _ => q_lwt (i := 1688) (by decide +kernel), fun h => absurd h (by decide), ⟨by decide +kernel, by decide +kernel, by decide +kernel⟩, by decide⟩
theorem q_m24 : q_mOK 24 := ⟨by decide +kernel, q_lwt (i := 1697) (by decide +kernel), by decide +kernel, q_lwt (i := 1) (by decide +kernel), fun h => absurd h (by decide), fun _ => q_lwt (i := 1695) (by decide +kernel), fun _ _ => q_lwt (i := 1696) (by decide +kernel), fun h => absurd h (by decide), ⟨by decide +kernel, by decide +kernel, by decide +kernel⟩, by decide⟩
theorem q_m25 : q_mOK 25 := ⟨by decide +kernel, q_lwt (i := 1701) (by decide +kernel), by decide +kernel, q_lwt (i := 1) (by decide +kernel), fun h => absurd h (by decide), fun _ => q_lwt (i := 1699) (by decide +kernel), fun _ _ => q_lwt (i := 1700) (by decide +kernel), fun h => absurd h (by decide), ⟨by decide +kernel, by decide +kernel, by decide +kernel⟩, by decide⟩
theorem q_m26 : q_mOK 26 := ⟨by decide +kernel, q_lwt (i := 1693) (by decide +kernel), by decide +kernel, q_lwt (i := 1) (by decide +kernel), fun h => absurd h (by decide), fun _ => q_lwt (i := 1692) (by decide +kernel), fun _ _ => q_lws (i := 177) (y := (yX11_standsOn, q_N 11)) (by decide +kernel), fun h => absurd h (by decide), ⟨by decide +kernel, by decide +kernel, by decide +kernel⟩, by decide⟩
theorem q_m27 : q_mOK 27 := ⟨by decide +kernel, q_lwt (i := 1685) (by decide +kernel), by decide +kernel, q_lwt (i := 10) (by decide +kernel), fun h => absurd h (by decide), fun _ => q_lwt (i := 1684) (by decide +kernel), fun _ _ => q_lws (i := 176) (y := (yX8_indexCount, q_N 8)) (by decide +kernel), fun h => absurd h (by decide), ⟨by decide +kernel, by decide +kernel, by decide +kernel⟩, by decide⟩
theorem q_m28 : q_mOK 28 := ⟨by decide +kernel, q_lwt (i := 574) (by decide +kernel), by decide +kernel, q_lwt (i := 3) (by decide +kernel), fun h => absurd h (by decide), fun _ => q_lwt (i := 573) (by decide +kernel), fun _ _ => q_lws (i := 1) (y := (yX4_start, q_N 4)) (by decide +kernel), fun h => absurd h (by decide), ⟨by decide +kernel, by decide +kernel, by decide +kernel⟩, by decide⟩
theorem q_m29 : q_mOK 29 := ⟨by decide +kernel, q_lwt (i := 584) (by decide +kernel), by decide +kernel, q_lwt (i := 3) (by decide +kernel), fun h => absurd h (by decide), fun _ => q_lwt (i := 583) (by decide +kernel), fun _ _ => q_lws (i := 2) (y := (yX4_open, q_N 4)) (by decide +kernel), fun h => absurd h (by decide), ⟨by decide +kernel, by decide +kernel, by decide +kernel⟩, by decide⟩
theorem q_m30 : q_mOK 30 := ⟨by decide +kernel, q_lwt (i := 588) (by decide +kernel), by decide +kernel, q_lwt (i := 3) (by decide +kernel), fun h => absurd h (by decide), fun _ => q_lwt (i := 587) (by decide +kernel), fun _ _ => q_lws (i := 3) (y := (yX4_put4, q_N 4)) (by decide +kernel), fun h => absurd h (by decide), ⟨by decide +kernel, by decide +kernel, by decide +kernel⟩, by decide⟩
theorem q_m31 : q_mOK 31 := ⟨by decide +kernel, q_lwt (i := 936) (by decide +kernel), by decide +kernel, q_lwt (i := 3) (by decide +kernel), fun h => absurd h (by decide), fun _ => q_lwt (i := 935) (by decide +kernel), fun _ _ => q_lws (i := 44) (y := (yX4_put, q_N 4)) (by decide +kernel), fun h => absurd h (by decide), ⟨by decide +kernel, by decide +kernel, by decide +kernel⟩, by decide⟩
theorem q_m32 : q_mOK 32 := ⟨by decide +kernel, q_lwt (i := 1109) (by decide +kernel), by decide +kernel, q_lwt (i := 3) (by decide +kernel), fun h => absurd h (by decide), fun _ => q_lwt (i := 1108) (by decide +kernel), fun _ _ => q_lws (i := 73) (y := (yX4_close, q_N 4)) (by decide +kernel), fun h => absurd h (by decide), ⟨by decide +kernel, by decide +kernel, by decide +kernel⟩, by decide⟩
theorem q_m33 : q_mOK 33 := ⟨by decide +kernel, q_lwt (i := 1113) (by decide +kernel), by decide +kernel, q_lwt (i := 3) (by decide +kernel), fun h => absurd h (by decide), fun _ => q_lwt (i := 1112) (by decide +kernel), fun _ _ => q_lws (i := 74) (y := (yX4_patch, q_N 4)) (by decide +kernel), fun h => absurd h (by decide), ⟨by decide +kernel, by decide +kernel, by decide +kernel⟩, by decide⟩
theorem q_m34 : q_mOK 34 := ⟨by decide +kernel, q_lwt (i := 928) (by decide +kernel), by decide +kernel, q_lwt (i := 3) (by decide +kernel), fun h => absurd h (by decide), fun _ => q_lwt (i := 927) (by decide +kernel), fun _ _ => q_lws (i := 42) (y := (yX4_named, q_N 4)) (by decide +kernel), fun h => absurd h (by decide), ⟨by decide +kernel, by decide +kernel, by decide +kernel⟩, by decide⟩
theorem q_m35 : q_mOK 35 := ⟨by decide +kernel, q_lwt (i := 932) (by decide +kernel), by decide +kernel, q_lwt (i := 3) (by decide +kernel), fun h => absurd h (by decide), fun _ => q_lwt (i := 931) (by decide +kernel), fun _ _ => q_lws (i := 43) (y := (yX4_head, q_N 4)) (by decide +kernel), fun h => absurd h (by decide), ⟨by decide +kernel, by decide +kernel, by decide +kernel⟩, by decide⟩
theorem q_m36 : q_mOK 36 := ⟨by decide +kernel, q_lwt (i := 592) (by decide +kernel), by decide +kernel, q_lwt (i := 4) (by decide +kernel), fun h => absurd h (by decide), fun _ => q_lwt (i := 591) (by decide +kernel), fun _ _ => q_lws (i := 4) (y := (yX6_reads, q_N 6)) (by decide +kernel), fun h => absurd h (by decide), ⟨by decide +kernel, by decide +kernel, by decide +kernel⟩, by decide⟩
theorem q_m37 : q_mOK 37 := ⟨by decide +kernel, q_lwt (i := 596) (by decide +kernel), by decide +kernel, q_lwt (i := 4) (by decide +kernel), fun h => absurd h (by decide), fun _ => q_lwt (i := 595) (by decide +kernel), fun _ _ => q_lws (i := 5) (y := (yX6_document, q_N 6)) (by decide +kernel), fun h => absurd h (by decide), ⟨by decide +kernel, by decide +kernel, by decide +kernel⟩, by decide⟩
theorem q_m38 : q_mOK 38 := ⟨by decide +kernel, q_lwt (i := 600) (by decide +kernel), by decide +kernel, q_lwt (i := 4) (by decide +kernel), fun h => absurd h (by decide), fun _ => q_lwt (i := 599) (by decide +kernel), fun _ _ => q_lws (i := 6) (y := (yX6_fails, q_N 6)) (by decide +kernel), fun h => absurd h (by decide), ⟨by decide +kernel, by decide +kernel, by decide +kernel⟩, by decide⟩
theorem q_m39 : q_mOK 39 := ⟨by decide +kernel, q_lwt (i := 603) (by decide +kernel), by decide +kernel, q_lwt (i := 2) (by decide +kernel), fun _ => q_lwt (i := 602) (by decide +kernel), fun h => absurd h (by decide), fun h => absurd h (by decide), fun h => absurd h (by decide), ⟨by decide +kernel, by decide +kernel, by decide +kernel⟩, by decide⟩
theorem q_m40 : q_mOK 40 := ⟨by decide +kernel, q_lwt (i := 1962) (by decide +kernel), by decide +kernel, q_lwt (i := 13) (by decide +kernel), fun h => absurd h (by decide), fun _ => q_lwt (i := 1960) (by decide +kernel), fun _ _ => q_lwt (i := 1961) (by decide +kernel), fun h => absurd h (by decide), ⟨by decide +kernel, by decide +kernel, by decide +kernel⟩, by decide⟩
theorem q_m41 : q_mOK 41 := ⟨by decide +kernel, q_lwt (i := 1966) (by decide +kernel), by decide +kernel, q_lwt (i := 13) (by decide +kernel), fun h => absurd h (by decide), fun _ => q_lwt (i := 1964) (by decide +kernel), fun _ _ => q_lwt (i := 1965) (by decide +kernel), fun h => absurd h (by decide), ⟨by decide +kernel, by decide +kernel, by decide +kernel⟩, by decide⟩
theorem q_m42 : q_mOK 42 := ⟨by decide +kernel, q_lwt (i := 1970) (by decide +kernel), by decide +kernel, q_lwt (i := 13) (by decide +kernel), fun h => absurd h (by decide), fun _ => q_lwt (i := 1969) (by decide +kernel), fun _ _ => q_lws (i := 181) (y := (yX12_readAll, q_N 12)) (by decide +kernel), fun h => absurd h (by decide), ⟨by decide +kernel, by decide +kernel, by decide +kernel⟩, by decide⟩
theorem q_m43 : q_mOK 43 := ⟨by decide +kernel, q_lwt (i := 1974) (by decide +kernel), by decide +kernel, q_lwt (i := 13) (by decide +kernel), fun h => absurd h (by decide), fun _ => q_lwt (i := 1973) (by decide +kernel), fun _ _ => q_lws (i := 182) (y := (yX12_fails, q_N 12)) (by decide +kernel), fun h => absurd h (by decide), ⟨by decide +kernel, by decide +kernel, by decide +kernel⟩, by decide⟩
theorem q_m44 : q_mOK 44 := ⟨by decide +kernel, q_lwt (i := 2171) (by decide +kernel), by decide +kernel, q_lwt (i := 13) (by decide +kernel), fun h => absurd h (by decide), fun _ => q_lwt (i := 2170) (by decide +kernel), fun _ _ => q_lws (i := 224) (y := (yX12_beginAnswer, q_N 12)) (by decide +kernel), fun h => absurd h (by decide), ⟨by decide +kernel, by decide +kernel, by decide +kernel⟩, by decide⟩
theorem q_m45 : q_mOK 45 := ⟨by decide +kernel, q_lwt (i := 2177) (by decide +kernel), by decide +kernel, q_lwt (i := 13) (by decide +kernel), fun h => absurd h (by decide), fun _ => q_lwt (i := 2176) (by decide +kernel), fun _ _ => q_lws (i := 225) (y := (yX12_write, q_N 12)) (by decide +kernel), fun h => absurd h (by decide), ⟨by decide +kernel, by decide +kernel, by decide +kernel⟩, by decide⟩
theorem q_m46 : q_mOK 46 := ⟨by decide +kernel, q_lwt (i := 2181) (by decide +kernel), by decide +kernel, q_lwt (i := 13) (by decide +kernel), fun h => absurd h (by decide), fun _ => q_lwt (i := 2180) (by decide +kernel), fun _ _ => q_lws (i := 226) (y := (yX12_open, q_N 12)) (by decide +kernel), fun h => absurd h (by decide), ⟨by decide +kernel, by decide +kernel, by decide +kernel⟩, by decide⟩
theorem q_m47 : q_mOK 47 := ⟨by decide +kernel, q_lwt (i := 2185) (by decide +kernel), by decide +kernel, q_lwt (i := 13) (by decide +kernel), fun h => absurd h (by decide), fun _ => q_lwt (i := 2184) (by decide +kernel), fun _ _ => q_lws (i := 227) (y := (yX12_putInt, q_N 12)) (by decide +kernel), fun h => absurd h (by decide), ⟨by decide +kernel, by decide +kernel, by decide +kernel⟩, by decide⟩
theorem q_m48 : q_mOK 48 := ⟨by decide +kernel, q_lwt (i := 2189) (by decide +kernel), by decide +kernel, q_lwt (i := 13) (by decide +kernel), fun h => absurd h (by decide), fun _ => q_lwt (i := 2188) (by decide +kernel), fun _ _ => q_lws (i := 228) (y := (yX12_put, q_N 12)) (by decide +kernel), fun h => absurd h (by decide), ⟨by decide +kernel, by decide +kernel, by decide +kernel⟩, by decide⟩
theorem q_m49 : q_mOK 49 := ⟨by decide +kernel, q_lwt (i := 2203) (by decide +kernel), by decide +kernel, q_lwt (i := 13) (by decide +kernel), fun h => absurd h (by decide), fun _ => q_lwt (i := 2202) (by decide +kernel), fun _ _ => q_lws (i := 231) (y := (yX12_putNumber, q_N 12)) (by decide +kernel), fun h => absurd h (by decide), ⟨by decide +kernel, by decide +kernel, by decide +kernel⟩, by decide⟩
theorem q_m50 : q_mOK 50 := ⟨by decide +kernel, q_lwt (i := 2198) (by decide +kernel), by decide +kernel, q_lwt (i := 13) (by decide +kernel), fun h => absurd h (by decide), fun _ => q_lwt (i := 2197) (by decide +kernel), fun _ _ => q_lws (i := 230) (y := (yX12_putWord, q_N 12)) (by decide +kernel), fun h => absurd h (by decide), ⟨by decide +kernel, by decide +kernel, by decide +kernel⟩, by decide⟩
theorem q_m51 : q_mOK 51 := ⟨by decide +kernel, q_lwt (i := 2228) (by decide +kernel), by decide +kernel, q_lwt (i := 13) (by decide +kernel), fun h => absurd h (by decide), fun _ => q_lwt (i := 2227) (by decide +kernel), fun _ _ => q_lws (i := 236) (y := (yX12_endAnswer, q_N 12)) (by decide +kernel), fun h => absurd h (by decide), ⟨by decide +kernel, by decide +kernel, by decide +kernel⟩, by decide⟩
theorem q_m52 : q_mOK 52 := ⟨by decide +kernel, q_lwt (i := 2232) (by decide +kernel), by decide +kernel, q_lwt (i := 13) (by decide +kernel), fun h => absurd h (by decide), fun _ => q_lwt (i := 2231) (by decide +kernel), fun _ _ => q_lws (i := 237) (y := (yX12_close, q_N 12)) (by decide +kernel), fun h => absurd h (by decide), ⟨by decide +kernel, by decide +kernel, by decide +kernel⟩, by decide⟩
theorem q_m53 : q_mOK 53 := ⟨by decide +kernel, q_lwt (i := 2236) (by decide +kernel), by decide +kernel, q_lwt (i := 13) (by decide +kernel), fun h => absurd h (by decide), fun _ => q_lwt (i := 2235) (by decide +kernel), fun _ _ => q_lws (i := 238) (y := (yX12_setInt4, q_N 12)) (by decide +kernel), fun h => absurd h (by decide), ⟨by decide +kernel, by decide +kernel, by decide +kernel⟩, by decide⟩
theorem q_m54 : q_mOK 54 := ⟨by decide +kernel, q_lwt (i := 1978) (by decide +kernel), by decide +kernel, q_lwt (i := 13) (by decide +kernel), fun h => absurd h (by decide), fun _ => q_lwt (i := 1977) (by decide +kernel), fun _ _ => q_lws (i := 183) (y := (yX12_int4, q_N 12)) (by decide +kernel), fun h => absurd h (by decide), ⟨by decide +kernel, by decide +kernel, by decide +kernel⟩, by decide⟩
theorem q_m55 : q_mOK 55 := ⟨by decide +kernel, q_lwt (i := 1982) (by decide +kernel), by decide +kernel, q_lwt (i := 13) (by decide +kernel), fun h => absurd h (by decide), fun _ => q_lwt (i := 1981) (by decide +kernel), fun _ _ => q_lws (i := 184) (y := (yX12_at, q_N 12)) (by decide +kernel), fun h => absurd h (by decide), ⟨by decide +kernel, by decide +kernel, by decide +kernel⟩, by decide⟩
theorem q_m56 : q_mOK 56 := ⟨by decide +kernel, q_lwt (i := 2843) (by decide +kernel), by decide +kernel, q_lwt (i := 13) (by decide +kernel), fun h => absurd h (by decide), fun _ => q_lwt (i := 2841) (by decide +kernel), fun _ _ => q_lwt (i := 2842) (by decide +kernel), fun h => absurd h (by decide), ⟨by decide +kernel, by decide +kernel, by decide +kernel⟩, by decide⟩
theorem q_m57 : q_mOK 57 := ⟨by decide +kernel, q_lwt (i := 2847) (by decide +kernel), by decide +kernel, q_lwt (i := 13) (by decide +kernel), fun h => absurd h (by decide), fun _ => q_lwt (i := 2845) (by decide +kernel), fun _ _ => q_lwt (i := 2846) (by decide +kernel), fun h => absurd h (by decide), ⟨by decide +kernel, by decide +kernel, by decide +kernel⟩, by decide⟩
theorem q_m58 : q_mOK 58 := ⟨by decide +kernel, q_lwt (i := 2855) (by decide +kernel), by decide +kernel, q_lwt (i := 13) (by decide +kernel), fun h => absurd h (by decide), fun _ => q_lwt (i := 2854) (by decide +kernel), fun _ _ => q_lws (i := 372) (y := (yX12_isThereOne, q_N 12)) (by decide +kernel), fun h => absurd h (by decide), ⟨by decide +kernel, by decide +kernel, by decide +kernel⟩, by decide⟩
theorem q_m59 : q_mOK 59 := ⟨by decide +kernel, q_lwt (i := 2851) (by decide +kernel), by decide +kernel, q_lwt (i := 13) (by decide +kernel), fun h => absurd h (by decide), fun _ => q_lwt (i := 2849) (by decide +kernel), fun _ _ => q_lwt (i := 2850) (by decide +kernel), fun h => absurd h (by decide), ⟨by decide +kernel, by decide +kernel, by decide +kernel⟩, by decide⟩
theorem q_m60 : q_mOK 60 := ⟨by decide +kernel, q_lwt (i := 2859) (by decide +kernel), by decide +kernel, q_lwt (i := 13) (by decide +kernel), fun h => absurd h (by decide), fun _ => q_lwt (i := 2857) (by decide +kernel), fun _ _ => q_lwt (i := 2858) (by decide +kernel), fun h => absurd h (by decide), ⟨by decide +kernel, by decide +kernel, by decide +kernel⟩, by decide⟩
theorem q_m61 : q_mOK 61 := ⟨by decide +kernel, q_lwt (i := 2863) (by decide +kernel), by decide +kernel, q_lwt (i := 13) (by decide +kernel), fun h => absurd h (by decide), fun _ => q_lwt (i := 2861) (by decide +kernel), fun _ _ => q_lwt (i := 2862) (by decide +kernel), fun h => absurd h (by decide), ⟨by decide +kernel, by decide +kernel, by decide +kernel⟩, by decide⟩
theorem q_m62 : q_mOK 62 := ⟨by decide +kernel, q_lwt (i := 670) (by decide +kernel), by decide +kernel, q_lwt (i := 16) (by decide +kernel), fun h => absurd h (by decide), fun _ => q_lwt (i := 668) (by decide +kernel), fun _ _ => q_lwt (i := 669) (by decide +kernel), fun h => absurd h (by decide), ⟨by decide +kernel, by decide +kernel, by decide +kernel⟩, by decide⟩
theorem q_m63 : q_mOK 63 := ⟨by decide +kernel, q_lwt (i := 680) (by decide +kernel), by decide +kernel, q_lwt (i := 16) (by decide +kernel), fun h => absurd h (by decide), fun _ => q_lwt (i := 678) (by decide +kernel), fun _ _ => q_lwt (i := 679) (by decide +kernel), fun h => absurd h (by decide), ⟨by decide +kernel, by decide +kernel, by decide +kernel⟩, by decide⟩
theorem q_m64 : q_mOK 64 := ⟨by decide +kernel, q_lwt (i := 674) (by decide +kernel), by decide +kernel, q_lwt (i := 16) (by decide +kernel), fun h => absurd h (by decide), fun _ => q_lwt (i := 672) (by decide +kernel), fun _ _ => q_lwt (i := 673) (by decide +kernel), fun h => absurd h (by decide), ⟨by decide +kernel, by decide +kernel, by decide +kernel⟩, by decide⟩
theorem q_m65 : q_mOK 65 := ⟨by decide +kernel, q_lwt (i := 684) (by decide +kernel), by decide +kernel, q_lwt (i := 16) (by decide +kernel), fun h => absurd h (by decide), fun _ => q_lwt (i := 682) (by decide +kernel), fun _ _ => q_lwt (i := 683) (by decide +kernel), fun h => absurd h (by decide), ⟨by decide +kernel, by decide +kernel, by decide +kernel⟩, by decide⟩
theorem q_m66 : q_mOK 66 := ⟨by decide +kernel, q_lwt (i := 687) (by decide +kernel), by decide +kernel, q_lwt (i := 17) (by decide +kernel), fun _ => q_lwt (i := 686) (by decide +kernel), fun h => absurd h (by decide), fun h => absurd h (by decide), fun h => absurd h (by decide), ⟨by decide +kernel, by decide +kernel, by decide +kernel⟩, by decide⟩
theorem q_m_ok : ∀ y, y < 67 → q_mOK y
  | 0, _ => q_m0
  | 1, _ => q_m1
  | 2, _ => q_m2
  | 3, _ => q_m3
  | 4, _ => q_m4
  | 5, _ => q_m5
  | 6, _ => q_m6
  | 7, _ => q_m7
  | 8, _ => q_m8
  | 9, _ => q_m9
  | 10, _ => q_m10
  | 11, _ => q_m11
  | 12, _ => q_m12
  | 13, _ => q_m13
  | 14, _ => q_m14
  | 15, _ => q_m15
  | 16, _ => q_m16
  | 17, _ => q_m17
  | 18, _ => q_m18
  | 19, _ => q_m19
  | 20, _ => q_m20
  | 21, _ => q_m21
  | 22, _ => q_m22
  | 23, _ => q_m23
  | 24, _ => q_m24
  | 25, _ => q_m25
  | 26, _ => q_m26
  | 27, _ => q_m27
  | 28, _ => q_m28
  | 29, _ => q_m29
  | 30, _ => q_m30
  | 31, _ => q_m31
  | 32, _ => q_m32
  | 33, _ => q_m33
  | 34, _ => q_m34
  | 35, _ => q_m35
  | 36, _ => q_m36
  | 37, _ => q_m37
  | 38, _ => q_m38
  | 39, _ => q_m39
  | 40, _ => q_m40
  | 41, _ => q_m41
  | 42, _ => q_m42
  | 43, _ => q_m43
  | 44, _ => q_m44
  | 45, _ => q_m45
  | 46, _ => q_m46
  | 47, _ => q_m47
  | 48, _ => q_m48
  | 49, _ => q_m49
  | 50, _ => q_m50
  | 51, _ => q_m51
  | 52, _ => q_m52
  | 53, _ => q_m53
  | 54, _ => q_m54
  | 55, _ => q_m55
  | 56, _ => q_m56
  | 57, _ => q_m57
  | 58, _ => q_m58
  | 59, _ => q_m59
  | 60, _ => q_m60
  | 61, _ => q_m61
  | 62, _ => q_m62
  | 63, _ => q_m63
  | 64, _ => q_m64
  | 65, _ => q_m65
  | 66, _ => q_m66
  | n + 67, h => absurd h (by omega)
def q_calT (o : Nat) : List (Nat × Nat × Nat × Nat) := match o with
  | 1 => [(17, 5, 1, 169), (29, 4, 1, 172), (133, 28, 1, 1182), (125, 39, 1, 1183), (140, 33, 1, 1184), (197, 29, 1, 1213), (207, 32, 1, 1215), (191, 30, 1, 1229), (194, 31, 1, 1238)]
  | 2 => [(26, 5, 1, 111)]
  | 3 => [(26, 5, 1, 329), (36, 10, 1, 332), (89, 39, 1, 1318)]
  | 4 => [(35, 30, 0, 585), (76, 35, 0, 929), (45, 31, 0, 933), (48, 62, 0, 937), (54, 63, 0, 938), (72, 33, 0, 1110)]
  | 5 => [(40, 39, 1, 747)]
  | 6 => [(15, 37, 0, 593), (26, 38, 0, 597), (30, 39, 1, 601)]
  | 7 => [(60, 62, 0, 667), (66, 63, 0, 677), (70, 39, 0, 759)]
  | 8 => [(37, 4, 1, 320), (50, 3, 1, 324), (57, 39, 1, 865)]
  | 9 => [(26, 5, 1, 211), (37, 4, 1, 214), (212, 39, 1, 1403), (163, 28, 1, 1410), (181, 31, 1, 1416), (185, 29, 1, 1417), (189, 32, 1, 1431), (286, 33, 1, 1456), (316, 35, 1, 1478)]
  | 11 => [(11, 7, 1, 33), (21, 4, 1, 63), (30, 6, 1, 87), (39, 2, 1, 105), (48, 1, 1, 164), (55, 9, 1, 206), (62, 0, 1, 283), (69, 5, 1, 310), (79, 8, 1, 314), (103, 17, 0, 563), (110, 28, 1, 571), (114, 29, 1, 581), (118, 36, 1, 589), (126, 20, 0, 645), (182, 34, 1, 925), (323, 35, 1, 1088), (168, 32, 1, 1106), (206, 39, 1, 1247), (175, 19, 0, 1668), (194, 27, 1, 1682), (197, 26, 0, 1690)]
  | 12 => [(137, 13, 0, 1712), (752, 14, 0, 1716), (749, 15, 0, 1720), (1016, 42, 0, 1967), (237, 43, 0, 1971), (145, 54, 0, 1975), (141, 55, 0, 1979), (150, 62, 0, 2077), (156, 63, 0, 2078), (940, 44, 0, 2168), (456, 45, 0, 2174), (508, 46, 0, 2178), (207, 47, 0, 2182), (204, 48, 0, 2186), (220, 50, 0, 2195), (944, 49, 0, 2200), (954, 51, 0, 2225), (514, 52, 0, 2229), (210, 53, 0, 2233), (1030, 58, 0, 2852)]
  | 13 => [(9, 11, 0, 25), (13, 16, 0, 559), (18, 18, 0, 567), (23, 21, 0, 1674), (27, 22, 0, 1678), (31, 23, 0, 1686), (36, 24, 0, 1694), (40, 25, 0, 1698), (12, 12, 0, 1704), (17, 40, 0, 1959), (22, 41, 0, 1963), (26, 56, 0, 2840), (30, 57, 0, 2844), (35, 59, 0, 2848), (39, 60, 0, 2856), (44, 61, 0, 2860)]
  | 14 => [(335, 64, 0, 671), (492, 65, 0, 681), (495, 66, 0, 685)]
  | _ => []
def q_calW (o : Nat) (q : Nat × Nat × Nat × Nat) : Cond := if q.2.2.1 = 0 then .methodLink (q_R o) q.1 (q_y q.2.1) else .methodLinkNest (q_R o) q.1 (q_y q.2.1) "DocumentHouse"
set_option maxRecDepth 100000 in
theorem q_calC_0 : (q_calT 0).all (fun q => decide (tables_1[q.2.2.2]? = some (q_calW 0 q)) && decide (q.2.1 < 67)) = true := by decide +kernel
set_option maxRecDepth 100000 in
theorem q_calC_1 : (q_calT 1).all (fun q => decide (tables_1[q.2.2.2]? = some (q_calW 1 q)) && decide (q.2.1 < 67)) = true := by decide +kernel
set_option maxRecDepth 100000 in
theorem q_calC_2 : (q_calT 2).all (fun q => decide (tables_1[q.2.2.2]? = some (q_calW 2 q)) && decide (q.2.1 < 67)) = true := by decide +kernel
set_option maxRecDepth 100000 in
theorem q_calC_3 : (q_calT 3).all (fun q => decide (tables_1[q.2.2.2]? = some (q_calW 3 q)) && decide (q.2.1 < 67)) = true := by decide +kernel
set_option maxRecDepth 100000 in
theorem q_calC_4 : (q_calT 4).all (fun q => decide (tables_1[q.2.2.2]? = some (q_calW 4 q)) && decide (q.2.1 < 67)) = true := by decide +kernel
set_option maxRecDepth 100000 in
theorem q_calC_5 : (q_calT 5).all (fun q => decide (tables_1[q.2.2.2]? = some (q_calW 5 q)) && decide (q.2.1 < 67)) = true := by decide +kernel
set_option maxRecDepth 100000 in
theorem q_calC_6 : (q_calT 6).all (fun q => decide (tables_1[q.2.2.2]? = some (q_calW 6 q)) && decide (q.2.1 < 67)) = true := by decide +kernel
set_option maxRecDepth 100000 in
theorem q_calC_7 : (q_calT 7).all (fun q => decide (tables_1[q.2.2.2]? = some (q_calW 7 q)) && decide (q.2.1 < 67)) = true := by decide +kernel
set_option maxRecDepth 100000 in
theorem q_calC_8 : (q_calT 8).all (fun q => decide (tables_1[q.2.2.2]? = some (q_calW 8 q)) && decide (q.2.1 < 67)) = true := by decide +kernel
set_option maxRecDepth 100000 in
theorem q_calC_9 : (q_calT 9).all (fun q => decide (tables_1[q.2.2.2]? = some (q_calW 9 q)) && decide (q.2.1 < 67)) = true := by decide +kernel
set_option maxRecDepth 100000 in
theorem q_calC_10 : (q_calT 10).all (fun q => decide (tables_1[q.2.2.2]? = some (q_calW 10 q)) && decide (q.2.1 < 67)) = true := by decide +kernel
set_option maxRecDepth 100000 in
theorem q_calC_11 : (q_calT 11).all (fun q => decide (tables_1[q.2.2.2]? = some (q_calW 11 q)) && decide (q.2.1 < 67)) = true := by decide +kernel
set_option maxRecDepth 100000 in
theorem q_calC_12 : (q_calT 12).all (fun q => decide (tables_1[q.2.2.2]? = some (q_calW 12 q)) && decide (q.2.1 < 67)) = true := by decide +kernel
set_option maxRecDepth 100000 in
theorem q_calC_13 : (q_calT 13).all (fun q => decide (tables_1[q.2.2.2]? = some (q_calW 13 q)) && decide (q.2.1 < 67)) = true := by decide +kernel
set_option maxRecDepth 100000 in
theorem q_calC_14 : (q_calT 14).all (fun q => decide (tables_1[q.2.2.2]? = some (q_calW 14 q)) && decide (q.2.1 < 67)) = true := by decide +kernel
set_option maxRecDepth 100000 in
theorem q_calC_15 : (q_calT 15).all (fun q => decide (tables_1[q.2.2.2]? = some (q_calW 15 q)) && decide (q.2.1 < 67)) = true := by decide +kernel
theorem q_calC : ∀ o, ∀ q ∈ q_calT o, (decide (tables_1[q.2.2.2]? = some (q_calW o q)) && decide (q.2.1 < 67)) = true
  | 0 => List.all_eq_true.mp q_calC_0
  | 1 => List.all_eq_true.mp q_calC_1
  | 2 => List.all_eq_true.mp q_calC_2
  | 3 => List.all_eq_true.mp q_calC_3
  | 4 => List.all_eq_true.mp q_calC_4
  | 5 => List.all_eq_true.mp q_calC_5
  | 6 => List.all_eq_true.mp q_calC_6
  | 7 => List.all_eq_true.mp q_calC_7
  | 8 => List.all_eq_true.mp q_calC_8
  | 9 => List.all_eq_true.mp q_calC_9
  | 10 => List.all_eq_true.mp q_calC_10
  | 11 => List.all_eq_true.mp q_calC_11
  | 12 => List.all_eq_true.mp q_calC_12
  | 13 => List.all_eq_true.mp q_calC_13
  | 14 => List.all_eq_true.mp q_calC_14
  | 15 => List.all_eq_true.mp q_calC_15
  | n + 16 => fun q h => absurd h (by simp [q_calT])
def q_cal (o i : Nat) : Option (Nat × Nat) := ((q_calT o).find? (fun q => q.1 == i)).map (fun q => (q.2.1, q.2.2.1))
theorem q_cal_s {o i : Nat} {q : Nat × Nat} (h : q_cal o i = some q) : q_mOK q.1 ∧ ((q.2 = 0 ∧ Cond.methodLink (q_R o) i (q_y q.1) ∈ lw_tbl) ∨ (¬ q.2 = 0 ∧ Cond.methodLinkNest (q_R o) i (q_y q.1) "DocumentHouse" ∈ lw_tbl)) := by
  unfold q_cal at h
  cases hf : (q_calT o).find? (fun q => q.1 == i) with
  | none => rw [hf] at h; cases h
  | some x =>
    rw [hf] at h
    cases h
    have h1 : x.1 = i := eq_of_beq (List.find?_some (p := fun q : Nat × Nat × Nat × Nat => q.1 == i) hf)
    have h2 := q_calC o x (List.mem_of_find?_eq_some hf)
    simp only [Bool.and_eq_true, decide_eq_true_eq] at h2
    obtain ⟨g1, g2⟩ := h2
    have g5 := q_lwt g1
    refine ⟨q_m_ok _ g2, ?_⟩
    unfold q_calW at g5
    by_cases hz : x.2.2.1 = 0
    · rw [if_pos hz, h1] at g5
      exact Or.inl ⟨hz, g5⟩
    · rw [if_neg hz, h1] at g5
      exact Or.inr ⟨hz, g5⟩
