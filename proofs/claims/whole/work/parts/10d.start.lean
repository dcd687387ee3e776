section
theorem arr_of {args : Array Value} {s : State} {ty : FieldType} (h : (Cond.arrayClass ty).before args s = true) : ∃ cA, ArrOfT s cA ty ∧ s.vm.findClass ("[" ++ ty.toString) = some cA := by
  obtain ⟨cA, kA, comp, h1, h2, h3⟩ := Cond.arrayClass_spec h
  exact ⟨cA, fun n z => ⟨fun k h => (by cases h), kA, h2, comp, h3⟩, h1⟩
theorem arr_ofq {s : State} {C : String} (h : va_AO C s) : ∃ cA, ArrOfT s cA (.object C) ∧ va_RA s cA (.object C) := by
  obtain ⟨comp, c, k, h1, h2, h3, h4, h5⟩ := Cond.arrayOver_spec h
  exact ⟨c, fun n z => ⟨fun k h => (by cases h), k, h3, comp, h4⟩, k, comp, h3, h4, h1, h5⟩
theorem nx_of {args : Array Value} {s : State} (hts : ∀ w ∈ lw_tbl, w.before args s = true) (hgv : (Jvm.Cond.and given_1 narrow_1).before args s = true) : NX s := by
  have hn := flat_of_before _ hgv
  refine ⟨?_, ?_, ?_, ?_⟩
  · intro q hq
    exact va_Nw.of rfl (hts _ ((show ∀ q ∈ nx_c, Cond.castable q.1 q.2 ∈ lw_tbl by decide +kernel) q hq))
  · intro q hq
    exact va_Nc.of (hn _ ((show ∀ q ∈ nx_n, Cond.not (.castable q.1 q.2) ∈ _ by decide +kernel) q hq))
  · intro q hq
    exact va_Nw.of rfl (hts _ ((show ∀ q ∈ nx_l, Cond.methodLinkNest q.1 q.2.1 q.2.2.1 q.2.2.2 ∈ lw_tbl by decide +kernel) q hq))
  · exact va_AO.of (A := args) (hts (.arrayOver (.object RX0)) (by decide +kernel))
set_option maxHeartbeats 4000000 in
theorem kk_of {args : Array Value} {s : State} (hts : ∀ w ∈ lw_tbl, w.before args s = true) (hgv : (Jvm.Cond.and given_1 narrow_1).before args s = true) : ∃ g : GG, KK g s := by
  have hN := nx_of hts hgv
  obtain ⟨c0, i0, h0⟩ := u_known (C := RX0) (T := TX0) (N := 5) (n := 5) hts (fun w hw => (gw_good (fb_X0.1 w hw)).1) (hts _ (gw_good ist_X0).1)
  obtain ⟨c1, i1, h1⟩ := u_known (C := RX10) (T := TX10) (N := 5) (n := 5) hts (fun w hw => (gw_good (fb_X10.1 w hw)).1) (hts _ (gw_good ist_X10).1)
  obtain ⟨c2, i2, h2⟩ := u_known (C := RX9) (T := TX9) (N := 5) (n := 5) hts (fun w hw => (gw_good (fb_X9.1 w hw)).1) (hts _ (gw_good ist_X9).1)
  obtain ⟨c3, i3, h3⟩ := u_known (C := RX3) (T := TX3) (N := 5) (n := 5) hts (fun w hw => (gw_good (fb_X3.1 w hw)).1) (hts _ (gw_good ist_X3).1)
  obtain ⟨c4, i4, h4⟩ := u_known (C := RX1) (T := TX1) (N := 5) (n := 5) hts (fun w hw => (gw_good (fb_X1.1 w hw)).1) (hts _ (gw_good ist_X1).1)
  obtain ⟨c5, i5, h5⟩ := u_known (C := RX7) (T := TX7) (N := 2) (n := 2) hts (fun w hw => (gw_good (fb_X7.1 w hw)).1) (hts _ (gw_good ist_X7).1)
  obtain ⟨c6, i6, h6⟩ := u_known (C := RX4) (T := TX4) (N := 3) (n := 3) hts (fun w hw => (gw_good (fb_X4.1 w hw)).1) (hts _ (gw_good ist_X4).1)
  obtain ⟨c7, i7, h7⟩ := u_known (C := RX2) (T := TX2) (N := 6) (n := 6) hts (fun w hw => (gw_good (fb_X2.1 w hw)).1) (hts _ (gw_good ist_X2).1)
  obtain ⟨c8, i8, h8⟩ := u_known (C := RX5) (T := TX5) (N := 3) (n := 3) hts (fun w hw => (gw_good (fb_X5.1 w hw)).1) (hts _ (gw_good ist_X5).1)
  obtain ⟨c9, i9, h9⟩ := u_known (C := RX6) (T := TX6) (N := 5) (n := 5) hts (fun w hw => (gw_good (fb_X6.1 w hw)).1) (hts _ (gw_good ist_X6).1)
  obtain ⟨c10, i10, h10⟩ := u_known (C := RX8) (T := TX8) (N := 8) (n := 8) hts (fun w hw => (gw_good (fb_X8.1 w hw)).1) (hts _ (gw_good ist_X8).1)
  obtain ⟨c11, i11, h11⟩ := u_known (C := RX11) (T := TX11) (N := 8) (n := 8) hts (fun w hw => (gw_good (fb_X11.1 w hw)).1) (hts _ (gw_good ist_X11).1)
  obtain ⟨c12, i12, h12⟩ := u_known (C := RX12) (T := TX12) (N := 29) (n := 29) hts (fun w hw => (gw_good (fb_X12.1 w hw)).1) (hts _ (gw_good ist_X12).1)
  obtain ⟨cI, a1, a2⟩ := arr_of (hts _ (gw_good w_ai).1)
  obtain ⟨cB, b1, b2⟩ := arr_of (hts _ (gw_good w_ab).1)
  obtain ⟨cO, d1, d2⟩ := arr_ofq hN.2.2.2
  refine ⟨((fun k => [c0, c1, c2, c3, c4, c5, c6, c7, c8, c9, c10, c11, c12].getD k c0, fun k => [i0, i1, i2, i3, i4, i5, i6, i7, i8, i9, i10, i11, i12].getD k i0), cI, cB, cO), ⟨fun k q hq => ?_, fun k q hq => ?_⟩, hN⟩
  · match k, hq with
    | 0, hq => cases hq; exact h0
    | 1, hq => cases hq; exact h1
    | 2, hq => cases hq; exact h2
    | 3, hq => cases hq; exact h3
    | 4, hq => cases hq; exact h4
    | 5, hq => cases hq; exact h5
    | 6, hq => cases hq; exact h6
    | 7, hq => cases hq; exact h7
    | 8, hq => cases hq; exact h8
    | 9, hq => cases hq; exact h9
    | 10, hq => cases hq; exact h10
    | 11, hq => cases hq; exact h11
    | 12, hq => cases hq; exact h12
    | k + 13, hq => simp [vcl] at hq
  · match k, hq with
    | 0, hq => cases hq; exact ⟨a1, a2⟩
    | 1, hq => cases hq; exact ⟨b1, b2⟩
    | 2, hq => cases hq; exact ⟨d1, d2⟩
    | k + 3, hq => simp at hq
end
