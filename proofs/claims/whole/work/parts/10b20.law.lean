section
variable {p : Program} {l : Launch} {e : Env} {s : State} {m : MethodId} {below : List Frame} {meth : Method} {c : Code} {b L : Nat} {xs : Nat → Int32} {g : GG} {qs : Nat × Nat} {H : Heap} {locs : List Loc} {cells slots : Nat} {Q : State → Prop} {ls : Array Slot} {a_this aM i j : Nat}
set_option maxRecDepth 100000 in
set_option maxHeartbeats 4000000 in
theorem law_20 (F : CX p s m #[Value.ref b] meth c cL_law (some .boolean) 4 RL) (hK : KK g s) (hX : va_X b L xs s s.heap) (hbl : b < s.heap.size) (hS : SX qs (AA s) s s.heap) (hLI : LI g s a_this aM j H locs) (hl : lv_has ls 4 [(3, .int (nI i)), (2, .ref aM), (1, .ref a_this), (0, .ref b)]) (hi : i + 4 ≤ L) (hL : L ≤ 256) (hij : j ≤ i) (hcc5 : cells + 5 ≤ room_1.cells ∧ slots + 25 ≤ room_1.slots) (kk : ∀ (H1 : Heap) (locs1 : List Loc), LI g s a_this aM j H1 locs1 → W p l e room_1 s m #[Value.ref b] below meth c H1 locs1 cells slots Q (F0 m 699 ls [])) : W p l e room_1 s m #[Value.ref b] below meth c H locs cells slots Q (F0 m 662 ls []) := by
  refine LI.elim hLI (fun a_this_page a_this_hall a_this_course a_this_heard a_this_image a_this_rests a_this_course_ends a_this_course_touchers a_this_course_stops a_this_course_silences a_this_hall_seats a_this_heard_bidders a_this_heard_breaths a_this_image_choices a_this_image_touchers a_this_image_winds a_this_image_heard a_this_image_heard_bidders a_this_image_heard_breaths a_this_page_codes a_this_rests_getters a_this_rests_gains a_this_rests_weights a_this_rests_choices a_this_rests_firstChoices rM sa n h r hc pl fa su wi wd ch tc ki wo so wio co tb hb hr mb mr cd pg ic it iw ib ir kc kt kw kb kr en sl st tt ms sv rc rf rg re rw g0 hN is isK kH kS iW nM rS rB rH sN hh K hw hH hE hP hI hh0 hj hr0 hK5 => ?_)
  have hx := F.1
  have hbc := F.2.1
  have hcc : cells ≤ room_1.cells ∧ slots ≤ room_1.slots := ⟨Nat.le_trans (Nat.le_add_right _ _) hcc5.1, Nat.le_trans (Nat.le_add_right _ _) hcc5.2⟩
  have h1 := cCount (fa := fa) hH (xs (i + 1)) (nI h) (nI hc) (nI pl) (nI r)
  have h2 : f_X12_count (xs (i + 1)) (nI r) (nI n) co fa (nI h) (nI hc) (nI pl) tb = some (coV n ch tc fa (nI h) (nI hc) (nI pl) (nI r) (xs (i + 1))) := by rw [f_X12_count, mCount (fa := fa) hH (xs (i + 1)) (nI h) (nI hc) (nI pl) (nI r)]; rfl
  refine lv_aload_n hx hbc dL_law_662 rfl (lv_at hl 2 rfl) ?_
  refine lv_aload_n hx hbc dL_law_663 rfl (lv_at hl 3 rfl) ?_
  refine lv_iload_n hx hbc dL_law_664 rfl (lv_at hl 0 rfl) ?_
  refine lv_iconst (v := 1) hx hbc dL_law_665 (by decide) ?_
  refine lv_iadd hx hbc dL_law_666 ?_
  refine l_sld hx hbc hX hbl hw (show nI i + 1 = nI (i + 1) from nI_add i 1) (by omega) (by omega) dL_law_667 ?_
  refine k_rV F (c_X11_count l g a_this a_this_page a_this_hall a_this_course a_this_heard a_this_image a_this_rests a_this_hall_seats a_this_heard_bidders a_this_heard_breaths a_this_page_codes sa (xs (i + 1)) (nI h) (nI r) (nI n) fa (nI hc) (nI pl) K su wi wd ch tc hK5 h1) qv_X11_count ml_L_98 (hw.1.sub [0, 6, 7, 8, 18, 26, 27, 28, 29, 30] rfl) hK (va_recv hK.1 hw.1 (ci := 11) (q0 := 0) rfl rfl) rfl hl.1 rfl (Nat.le_of_ble_eq_true rfl) dL_law_668 ⟨(Nat.le_of_ble_eq_true rfl), (Nat.le_of_ble_eq_true rfl)⟩ hcc ?_
  refine lv_aload_n hx hbc dL_law_671 rfl (lv_at hl 1 rfl) ?_
  refine lv_aload_n hx hbc dL_law_672 rfl (lv_at hl 3 rfl) ?_
  refine lv_iload_n hx hbc dL_law_673 rfl (lv_at hl 0 rfl) ?_
  refine lv_iconst (v := 1) hx hbc dL_law_674 (by decide) ?_
  refine lv_iadd hx hbc dL_law_675 ?_
  refine l_sld hx hbc hX hbl hw (show nI i + 1 = nI (i + 1) from nI_add i 1) (by omega) (by omega) dL_law_676 ?_
  refine k_rV F (c_X12_count l g aM rM (xs (i + 1)) (nI h) (nI n) fa (nI hc) (nI r) (nI pl) iW nM sN isK kH kS hh co tb h2) qv_X12_count ml_L_101 (hw.1.sub [31, 36, 37] rfl) hK (va_recv hK.1 hw.1 (ci := 12) (q0 := 31) rfl rfl) rfl hl.1 rfl (Nat.le_of_ble_eq_true rfl) dL_law_677 ⟨(Nat.le_of_ble_eq_true rfl), (Nat.le_of_ble_eq_true rfl)⟩ hcc ?_
  refine lv_icmp_eq (tgt := 699) hx hbc dL_law_680 (by decide) (fun _ => ?_) (fun hq => absurd rfl hq)
  exact kk H locs (LI.mk a_this_page a_this_hall a_this_course a_this_heard a_this_image a_this_rests a_this_course_ends a_this_course_touchers a_this_course_stops a_this_course_silences a_this_hall_seats a_this_heard_bidders a_this_heard_breaths a_this_image_choices a_this_image_touchers a_this_image_winds a_this_image_heard a_this_image_heard_bidders a_this_image_heard_breaths a_this_page_codes a_this_rests_getters a_this_rests_gains a_this_rests_weights a_this_rests_choices a_this_rests_firstChoices rM sa n h r hc pl fa su wi wd ch tc ki wo so wio co tb hb hr mb mr cd pg ic it iw ib ir kc kt kw kb kr en sl st tt ms sv rc rf rg re rw g0 hN is isK kH kS iW nM rS rB rH sN hh K hw hH hE hP hI hh0 hj hr0 hK5)
end
