section
set_option maxHeartbeats 4000000 in
theorem sx_of {args : Array Value} {s : State} (hts : ∀ w ∈ lw_tbl, w.before args s = true) (hgv : (Jvm.Cond.and given_1 narrow_1).before args s = true) : ∃ qs : Nat × Nat, SX qs (AA s) s s.heap := by
  have hn := flat_of_before _ hgv
  have hA : ∀ a : Nat, a < s.heap.size → ¬ AA s a := fun a h1 h2 => absurd h2 (Nat.not_le.mpr h1)
  have hZ := va_Zof (A := AA s) (hts (.laysStatic "java/lang/String" "COMPACT_STRINGS" "Z") (by decide +kernel)) (hts (.initialized "java/lang/String") (by decide +kernel)) (va_eqt (hn (.eq (.static "java/lang/String" "COMPACT_STRINGS" "Z") (.int 1)) (by decide +kernel))) hA
  obtain ⟨aK, aV, ⟨h1, _⟩, h2⟩ := vk_Sof (args := args) (s := s) (N := 1) (tm := fun _ => .string RX7 35) (len := [5]) (byt := [[98, 116, 115, 101, 99]]) (A := AA s) (by decide)
    (fun i hi => hn (.exactly (.string RX7 35) "java/lang/String") (by decide +kernel))
    (fun i hi => hn (.eq (.field (.string RX7 35) "java/lang/String" "coder" "B") (.int 0)) (by decide +kernel))
    (fun i hi => hn (.arrayOf (.field (.string RX7 35) "java/lang/String" "value" "[B") .byte) (by decide +kernel))
    (fun i hi => by
      obtain rfl : i = 0 := by omega
      exact hn (.eq (.length (.field (.string RX7 35) "java/lang/String" "value" "[B")) (.int 5)) (by decide +kernel))
    (fun i hi j hj => by
      obtain rfl : i = 0 := by omega
      have hj : j < 5 := hj
      rcases (show j = 0 ∨ j = 1 ∨ j = 2 ∨ j = 3 ∨ j = 4 by omega) with rfl | rfl | rfl | rfl | rfl
      · exact hn (.eq (.elem (.field (.string RX7 35) "java/lang/String" "value" "[B") (.int 0)) (.int 98)) (by decide +kernel)
      · exact hn (.eq (.elem (.field (.string RX7 35) "java/lang/String" "value" "[B") (.int 1)) (.int 116)) (by decide +kernel)
      · exact hn (.eq (.elem (.field (.string RX7 35) "java/lang/String" "value" "[B") (.int 2)) (.int 115)) (by decide +kernel)
      · exact hn (.eq (.elem (.field (.string RX7 35) "java/lang/String" "value" "[B") (.int 3)) (.int 101)) (by decide +kernel)
      · exact hn (.eq (.elem (.field (.string RX7 35) "java/lang/String" "value" "[B") (.int 4)) (.int 99)) (by decide +kernel))
    (fun i j hi hj hij => by omega) hA
  refine ⟨(aK 0, aV 0), hZ, vk_R.of (A := args) (hts (.stringRef RX7 35 "btsec") (by decide +kernel)) (h2 0 (by decide)), (h1 0 (by decide)).1, (h1 0 (by decide)).2.1, (h1 0 (by decide)).2.2.1, ?_⟩
  exact (h1 0 (by decide)).2.2.2
end
