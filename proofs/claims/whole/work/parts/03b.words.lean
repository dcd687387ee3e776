abbrev oM (rM : Nat → Nat) (u0 : Int32) (u1 : Int32) (u2 : Int32) (u9 : Int32) (u12 : Int32) (u13 : Int32) (u15 : Int32) (u16 : Int32) (u19 : Int64) (u20 : Int32) (u21 : Int32) (u22 : Int32) (u28 : Int64) : List Value := [.int u0, .int u1, .int u2, .ref (rM 3), .ref (rM 4), .ref (rM 5), .ref (rM 6), .ref (rM 7), .ref (rM 8), .int u9, .ref (rM 10), .ref (rM 11), .int u12, .int u13, .ref (rM 14), .int u15, .int u16, .ref (rM 17), .ref (rM 18), .long u19, .int u20, .int u21, .int u22, .ref (rM 23), .ref (rM 24), .ref (rM 25), .ref (rM 26), .ref (rM 27), .long u28]
theorem mm_st_min : Cond.static Lib.Math.min.name ∈ Gw := gw_2 (List.mem_of_getElem? (i := 65) rfl) rfl
theorem mm_co_min : Cond.code Lib.Math.min.name Lib.Math.min.code 2 (some .int) ∈ Gw := gw_2 (List.mem_of_getElem? (i := 66) rfl) rfl
theorem mm_st_max : Cond.static Lib.Math.max.name ∈ Gw := gw_2 (List.mem_of_getElem? (i := 62) rfl) rfl
theorem mm_co_max : Cond.code Lib.Math.max.name Lib.Math.max.code 2 (some .int) ∈ Gw := gw_2 (List.mem_of_getElem? (i := 63) rfl) rfl
theorem mm_in : Cond.initialized "java/lang/Math" ∈ Gw := gw_1 (List.mem_of_getElem? (i := 12) rfl) rfl
