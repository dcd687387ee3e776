section
variable {p : Program} {l : Launch} {e : Env} {s : State} {m : MethodId} {below : List Frame} {meth : Method} {c : Code} {b L : Nat} {xs : Nat → Int32} {g : GG} {qs : Nat × Nat} {H : Heap} {locs : List Loc} {cells slots : Nat} {Q : State → Prop} {ls : Array Slot} {a_this aM i j : Nat}
set_option maxRecDepth 100000 in
set_option maxHeartbeats 4000000 in
theorem law_5 (F : CX p s m #[Value.ref b] meth c cL_law (some .boolean) 4 RL) (hK : KK g s) (hX : va_X b L xs s s.heap) (hbl : b < s.heap.size) (hS : SX qs (AA s) s s.heap) (hLI : LI g s a_this aM j H locs) (hl : lv_has ls 4 [(3, .int (nI i)), (2, .ref aM), (1, .ref a_this), (0, .ref b)]) (hi : i + 4 ≤ L) (hL : L ≤ 256) (hij : j ≤ i) (hcc5 : cells + 5 ≤ room_1.cells ∧ slots + 25 ≤ room_1.slots) (kk : ∀ (H1 : Heap) (locs1 : List Loc), LI g s a_this aM j H1 locs1 → W p l e room_1 s m #[Value.ref b] below meth c H1 locs1 cells slots Q (F0 m 699 ls [])) : W p l e room_1 s m #[Value.ref b] below meth c H locs cells slots Q (F0 m 231 ls []) := by
  refine LI.elim hLI (fun a_this_page a_this_hall a_this_course a_this_heard a_this_image a_this_rests a_this_course_ends a_this_course_touchers a_this_course_stops a_this_course_silences a_this_hall_seats a_this_heard_bidders a_this_heard_breaths a_this_image_choices a_this_image_touchers a_this_image_winds a_this_image_heard a_this_image_heard_bidders a_this_image_heard_breaths a_this_page_codes a_this_rests_getters a_this_rests_gains a_this_rests_weights a_this_rests_choices a_this_rests_firstChoices rM sa n h r hc pl fa su wi wd ch tc ki wo so wio co tb hb hr mb mr cd pg ic it iw ib ir kc kt kw kb kr en sl st tt ms sv rc rf rg re rw g0 hN is isK kH kS iW nM rS rB rH sN hh K hw hH hE hP hI hh0 hj hr0 hK5 => ?_)
  have hx := F.1
  have hbc := F.2.1
  have hcc : cells ≤ room_1.cells ∧ slots ≤ room_1.slots := ⟨Nat.le_trans (Nat.le_add_right _ _) hcc5.1, Nat.le_trans (Nat.le_add_right _ _) hcc5.2⟩
  obtain ⟨r1, h1, h2⟩ := q_as hH (xs (i + 1)) (xs (i + 2))
  refine lv_aload_n hx hbc dL_law_231 rfl (lv_at hl 2 rfl) ?_
  refine lv_aload_n hx hbc dL_law_232 rfl (lv_at hl 3 rfl) ?_
  refine lv_iload_n hx hbc dL_law_233 rfl (lv_at hl 0 rfl) ?_
  refine lv_iconst (v := 1) hx hbc dL_law_234 (by decide) ?_
  refine lv_iadd hx hbc dL_law_235 ?_
  refine l_sld hx hbc hX hbl hw (show nI i + 1 = nI (i + 1) from nI_add i 1) (by omega) (by omega) dL_law_236 ?_
  refine lv_aload_n hx hbc dL_law_237 rfl (lv_at hl 3 rfl) ?_
  refine lv_iload_n hx hbc dL_law_238 rfl (lv_at hl 0 rfl) ?_
  refine lv_iconst (v := 2) hx hbc dL_law_239 (by decide) ?_
  refine lv_iadd hx hbc dL_law_240 ?_
  refine l_sld hx hbc hX hbl hw (show nI i + 2 = nI (i + 2) from nI_add i 2) (by omega) (by omega) dL_law_241 ?_
  refine k_rV F (c_X11_as l g a_this a_this_page a_this_hall a_this_course a_this_heard a_this_image a_this_rests a_this_hall_seats sa (xs (i + 1)) (xs (i + 2)) (nI h) (nI r) (nI n) fa K su wi wd ch tc hK5 h1) qv_X11_as ml_L_36 (hw.1.sub [0, 6, 7, 26, 27, 28, 29, 30] rfl) hK (va_recv hK.1 hw.1 (ci := 11) (q0 := 0) rfl rfl) rfl hl.1 rfl (Nat.le_of_ble_eq_true rfl) dL_law_242 ⟨(Nat.le_of_ble_eq_true rfl), (Nat.le_of_ble_eq_true rfl)⟩ hcc ?_
  refine lv_aload_n hx hbc dL_law_245 rfl (lv_at hl 1 rfl) ?_
  refine lv_aload_n hx hbc dL_law_246 rfl (lv_at hl 3 rfl) ?_
  refine lv_iload_n hx hbc dL_law_247 rfl (lv_at hl 0 rfl) ?_
  refine lv_iconst (v := 1) hx hbc dL_law_248 (by decide) ?_
  refine lv_iadd hx hbc dL_law_249 ?_
  refine l_sld hx hbc hX hbl hw (show nI i + 1 = nI (i + 1) from nI_add i 1) (by omega) (by omega) dL_law_250 ?_
  refine lv_aload_n hx hbc dL_law_251 rfl (lv_at hl 3 rfl) ?_
  refine lv_iload_n hx hbc dL_law_252 rfl (lv_at hl 0 rfl) ?_
  refine lv_iconst (v := 2) hx hbc dL_law_253 (by decide) ?_
  refine lv_iadd hx hbc dL_law_254 ?_
  refine l_sld hx hbc hX hbl hw (show nI i + 2 = nI (i + 2) from nI_add i 2) (by omega) (by omega) dL_law_255 ?_
  refine k_rV F (c_X12_as l g aM rM (xs (i + 1)) (xs (i + 2)) (nI h) (nI n) fa (nI hc) (nI r) (nI pl) iW nM sN isK kH kS hh ki h2) qv_X12_as ml_L_39 (hw.1.sub [31, 32] rfl) hK (va_recv hK.1 hw.1 (ci := 12) (q0 := 31) rfl rfl) rfl hl.1 rfl (Nat.le_of_ble_eq_true rfl) dL_law_256 ⟨(Nat.le_of_ble_eq_true rfl), (Nat.le_of_ble_eq_true rfl)⟩ hcc ?_
  refine lv_icmp_eq (tgt := 699) hx hbc dL_law_259 (by decide) (fun _ => ?_) (fun hq => absurd rfl hq)
  exact kk H locs (LI.mk a_this_page a_this_hall a_this_course a_this_heard a_this_image a_this_rests a_this_course_ends a_this_course_touchers a_this_course_stops a_this_course_silences a_this_hall_seats a_this_heard_bidders a_this_heard_breaths a_this_image_choices a_this_image_touchers a_this_image_winds a_this_image_heard a_this_image_heard_bidders a_this_image_heard_breaths a_this_page_codes a_this_rests_getters a_this_rests_gains a_this_rests_weights a_this_rests_choices a_this_rests_firstChoices rM sa n h r hc pl fa su wi wd ch tc ki wo so wio co tb hb hr mb mr cd pg ic it iw ib ir kc kt kw kb kr en sl st tt ms sv rc rf rg re rw g0 hN is isK kH kS iW nM rS rB rH sN hh K hw hH hE hP hI hh0 hj hr0 hK5)
end
