section
def R_law : String := "SecondSilenceLaw"
def lw_P (b : Addr) (xs : List Int32) (args : Array Value) (s : State) : Prop := args = #[.ref b] ∧ s.IntsAt b xs ∧ xs.length ≤ 256 ∧ (Jvm.Cond.and given_1 narrow_1).before args s = true
def lw_Q (_ : Array Value) (s : State) (o : Outcome) (t : State) : Prop := o = .returned (some (.int 1)) ∧ Framed s o t [] 600000 7302250
def lw_Z (below : List Frame) (a : Array Value) (s : State) : State → Prop := fun t => ∃ o, t.status = .running ∧ Ended t below o ∧ lw_Q a s o t
/-- the law's own end, with 1 on the stack, nothing written that was there before, its room as the claim has it -/
theorem lw_ret {p : Program} {l : Launch} {e : Env} {s : State} {m : MethodId} {below : List Frame} {meth : Method} {c : Code} {b : Nat} (hx : p.tables.exec = Jvm.exec) (hb : c.code = code) (hr : meth.sig.returnType = ret) (hlocks : meth.locks = false) {pc : Nat} {H : Heap} {ls : Array Slot} (hdg : decode code pc = .ok (.ireturn, 1)) : W p l e room_1 s m #[Value.ref b] below meth c H [] 600000 7302250 (lw_Z below #[Value.ref b] s) (F0 m pc ls [.int 1]) := by
  intro T hT X
  obtain ⟨fs, hret, hrun, hended, hW, hframe⟩ := X.leave (v := some (.int 1)) (hlocks := hlocks) (fun h => by rw [hr] at h; cases h)
  have hmeth' : T.vm.method? m = some meth := X.method'
  refine ⟨T.setFrames fs, ?_, .returned (some (.int 1)), hrun, hended, rfl, ⟨_, rfl⟩, hW, hframe⟩
  jvm_step X.here [X.here.top, hx, hb, hdg, hmeth', hr, ret, narrow_b1]
  (try refine ⟨rfl, ?_⟩); (try refine ⟨rfl, ?_⟩)
  first | (intro acts; rw [hret _ acts rfl rfl rfl]) | rw [hret _ _ rfl rfl rfl]
  exact Steps.refl _
/-- what holds at the law's entry: the machine, the code, the tables' words (any of lw_tbl by 'hts w (by decide +kernel)'), the script of L ints xs at the cell b, what the Statement gives of the start (any of its parts by flat_of_before) -/
def lw_At (p : Program) (s : State) (m : MethodId) (meth : Method) (c : Code) (b L : Nat) (xs : Nat → Int32) : Prop :=
  p.tables.exec = Jvm.exec ∧ c.code = code ∧ meth.sig.returnType = ret ∧ c.maxLocals = 4 ∧ s.vm.findClass R_law = some m.cls ∧ (∀ w ∈ lw_tbl, w.before #[Value.ref b] s = true) ∧ va_X b L xs s s.heap ∧ b < s.heap.size ∧ meth.locks = false ∧ (Jvm.Cond.and given_1 narrow_1).before #[Value.ref b] s = true
end
section
theorem LI.up {g : GG} {s : State} {a_this aM j : Nat} {H : Heap} {locs : List Loc} (h : LI g s a_this aM j H locs) : LI g s a_this aM (j + 1) H locs :=
  LI.elim h (fun a_this_page a_this_hall a_this_course a_this_heard a_this_image a_this_rests a_this_course_ends a_this_course_touchers a_this_course_stops a_this_course_silences a_this_hall_seats a_this_heard_bidders a_this_heard_breaths a_this_image_choices a_this_image_touchers a_this_image_winds a_this_image_heard a_this_image_heard_bidders a_this_image_heard_breaths a_this_page_codes a_this_rests_getters a_this_rests_gains a_this_rests_weights a_this_rests_choices a_this_rests_firstChoices rM sa n h r hc pl fa su wi wd ch tc ki wo so wio co tb hb hr mb mr cd pg ic it iw ib ir kc kt kw kb kr en sl st tt ms sv rc rf rg re rw g0 hN is isK kH kS iW nM rS rB rH sN hh K hw k0 k1 k2 k3 k4 k5 k6 k7 => LI.mk a_this_page a_this_hall a_this_course a_this_heard a_this_image a_this_rests a_this_course_ends a_this_course_touchers a_this_course_stops a_this_course_silences a_this_hall_seats a_this_heard_bidders a_this_heard_breaths a_this_image_choices a_this_image_touchers a_this_image_winds a_this_image_heard a_this_image_heard_bidders a_this_image_heard_breaths a_this_page_codes a_this_rests_getters a_this_rests_gains a_this_rests_weights a_this_rests_choices a_this_rests_firstChoices rM sa n h r hc pl fa su wi wd ch tc ki wo so wio co tb hb hr mb mr cd pg ic it iw ib ir kc kt kw kb kr en sl st tt ms sv rc rf rg re rw g0 hN is isK kH kS iW nM rS rB rH sN hh K hw k0 k1 k2 k3 k4 (by omega) k6 k7)
variable {p : Program} {l : Launch} {e : Env} {s : State} {m : MethodId} {below : List Frame} {meth : Method} {c : Code} {b L : Nat} {xs : Nat → Int32} {g : GG} {qs : Nat × Nat} {a_this aM : Nat}
set_option maxRecDepth 100000 in
set_option maxHeartbeats 4000000 in
theorem law_loop (F : CX p s m #[Value.ref b] meth c cL_law (some .boolean) 4 RL) (hK : KK g s) (hX : va_X b L xs s s.heap) (hbl : b < s.heap.size) (hS : SX qs (AA s) s s.heap) (hL : L ≤ 256) : ∀ (k j : Nat) (H : Heap) (locs : List Loc) (ls : Array Slot), L + 4 ≤ 4 * j + 4 * k → 4 * j ≤ L → LI g s a_this aM j H locs → lv_has ls 4 [(3, .int (nI (4 * j))), (2, .ref aM), (1, .ref a_this), (0, .ref b)] → W p l e room_1 s m #[Value.ref b] below meth c H locs (48 + 5 * j) (2370 + 25 * j) (lw_Z below #[Value.ref b] s) (F0 m 18 ls []) := by
  have hx := F.1
  have hbc := F.2.1
  intro k
  induction k with
  | zero => intro j H locs ls h1 h2; omega
  | succ k ih =>
    intro j H locs ls hk hjL hLI hl
    obtain ⟨ws, hw⟩ : ∃ ws, WD g (AA s) s.heap ws H locs := LI.elim hLI (fun _ _ _ _ _ _ _ _ _ _ _ _ _ _ _ _ _ _ _ _ _ _ _ _ _ _ _ _ _ _ _ _ _ _ _ _ _ _ _ _ _ _ _ _ _ _ _ _ _ _ _ _ _ _ _ _ _ _ _ _ _ _ _ _ _ _ _ _ _ _ _ _ _ _ _ _ _ _ _ _ _ _ _ _ _ hw _ _ _ _ _ _ _ _ => ⟨_, hw⟩)
    refine lv_iload_n hx hbc dL_law_18 rfl (lv_at hl 0 rfl) ?_
    refine lv_aload_n hx hbc dL_law_19 rfl (lv_at hl 3 rfl) ?_
    refine va_slen hx hbc hX hbl (Nat.not_le.mpr hbl) hw.2.2 dL_law_20 ?_
    refine lv_iconst (v := 4) hx hbc dL_law_21 (by decide) ?_
    refine lv_isub hx hbc dL_law_22 ?_
    refine lv_icmp_gt (tgt := 705) hx hbc dL_law_23 (by decide) (fun hq => ?_) (fun hq => ?_)
    · refine lv_iconst (v := 1) hx hbc dL_law_705 (by decide) ?_
      refine va_forget (fun q hq => hw.2.2.2.2 q hq) ?_
      refine W.widen (k := 600000) (n := 7302250) (by omega) (by omega) ?_
      exact lw_ret hx hbc F.2.2.1 F.2.2.2.2.2.2 dL_law_706
    · have hi : 4 * j + 4 ≤ L := by
        apply Classical.byContradiction
        intro hn
        apply hq
        show nI L - 4 < nI (4 * j)
        by_cases h4 : 4 ≤ L
        · have e4 : nI L - 4 = nI (L - 4) := pk_sub (a := L) (b := 4) h4
          rw [e4]
          exact (nI_ltI (by omega) (by omega)).mpr (by omega)
        · have e4 : nI L - nI 4 < 0 := pk_sneg (by decide) (by omega)
          exact Int32.lt_of_lt_of_le e4 (Int32.not_lt.mp (nI_pos (n := 4 * j) (by omega)))
      have back : ∀ (H1 : Heap) (locs1 : List Loc), LI g s a_this aM (j + 1) H1 locs1 → W p l e room_1 s m #[Value.ref b] below meth c H1 locs1 (48 + 5 * (j + 1)) (2370 + 25 * (j + 1)) (lw_Z below #[Value.ref b] s) (F0 m 699 ls []) := fun H1 locs1 h1 => by
        refine lv_iinc (k := 0) (v := nI (4 * (j + 1))) hx hbc dL_law_699 hl rfl (nI_add (4 * j) 4) (by decide) rfl (fun ls' hl' => ?_)
        refine lv_goto (tgt := 18) hx hbc dL_law_702 (by decide) ?_
        exact ih (j + 1) H1 locs1 ls' (by omega) (by omega) h1 hl'
      have back0 : ∀ (H1 : Heap) (locs1 : List Loc), LI g s a_this aM j H1 locs1 → W p l e room_1 s m #[Value.ref b] below meth c H1 locs1 (48 + 5 * j) (2370 + 25 * j) (lw_Z below #[Value.ref b] s) (F0 m 699 ls []) := fun H1 locs1 h1 => W.widen (k := 48 + 5 * (j + 1)) (n := 2370 + 25 * (j + 1)) (by omega) (by omega) (back H1 locs1 h1.up)
      have hcc : 48 + 5 * j + 5 ≤ room_1.cells ∧ 2370 + 25 * j + 25 ≤ room_1.slots := ⟨Nat.le_trans (m := 600000) (by omega) (Nat.le_of_ble_eq_true rfl), Nat.le_trans (m := 7302250) (by omega) (Nat.le_of_ble_eq_true rfl)⟩
      refine lv_aload_n hx hbc dL_law_26 rfl (lv_at hl 3 rfl) ?_
      refine lv_iload_n hx hbc dL_law_27 rfl (lv_at hl 0 rfl) ?_
      refine l_sld hx hbc hX hbl hw (k := 4 * j) rfl (by omega) (by omega) dL_law_28 ?_
      refine lv_bipush (v := 31) hx hbc dL_law_29 (by decide) ?_
      refine lv_iand hx hbc dL_law_31 ?_
      obtain ⟨t, ht, et⟩ := pk_andE (xs (4 * j)) (m := 31) 5 rfl
      rw [et]
      have ht : t < 32 := ht
      by_cases h22 : 22 ≤ t
      · refine lv_tableOut (tgt := 699) hx hbc dL_law_32 (Or.inr ?_) (by decide) (back0 H locs hLI)
        rw [nI_toInt (by omega)]
        omega
      · have hcs : t = 0 ∨ t = 1 ∨ t = 2 ∨ t = 3 ∨ t = 4 ∨ t = 5 ∨ t = 6 ∨ t = 7 ∨ t = 8 ∨ t = 9 ∨ t = 10 ∨ t = 11 ∨ t = 12 ∨ t = 13 ∨ t = 14 ∨ t = 15 ∨ t = 16 ∨ t = 17 ∨ t = 18 ∨ t = 19 ∨ t = 20 ∨ t = 21 := by omega
        rcases hcs with rfl | rfl | rfl | rfl | rfl | rfl | rfl | rfl | rfl | rfl | rfl | rfl | rfl | rfl | rfl | rfl | rfl | rfl | rfl | rfl | rfl | rfl
        · exact lv_tableIn (off := 104) (tgt := 136) hx hbc dL_law_32 (by decide) (by decide) (by decide) (by decide) (law_0 F hK hX hbl hS hLI hl hi hL (by omega) hcc back0)
        · exact lv_tableIn (off := 127) (tgt := 159) hx hbc dL_law_32 (by decide) (by decide) (by decide) (by decide) (law_1 F hK hX hbl hS hLI hl hi hL (by omega) hcc back0)
        · exact lv_tableIn (off := 140) (tgt := 172) hx hbc dL_law_32 (by decide) (by decide) (by decide) (by decide) (law_2 F hK hX hbl hS hLI hl hi hL (by omega) hcc back0)
        · exact lv_tableIn (off := 153) (tgt := 185) hx hbc dL_law_32 (by decide) (by decide) (by decide) (by decide) (law_3 F hK hX hbl hS hLI hl hi hL (by omega) hcc back)
        · exact lv_tableIn (off := 166) (tgt := 198) hx hbc dL_law_32 (by decide) (by decide) (by decide) (by decide) (law_4 F hK hX hbl hS hLI hl hi hL (by omega) hcc back0)
        · exact lv_tableIn (off := 199) (tgt := 231) hx hbc dL_law_32 (by decide) (by decide) (by decide) (by decide) (law_5 F hK hX hbl hS hLI hl hi hL (by omega) hcc back0)
        · exact lv_tableIn (off := 232) (tgt := 264) hx hbc dL_law_32 (by decide) (by decide) (by decide) (by decide) (law_6 F hK hX hbl hS hLI hl hi hL (by omega) hcc back0)
        · exact lv_tableIn (off := 265) (tgt := 297) hx hbc dL_law_32 (by decide) (by decide) (by decide) (by decide) (law_7 F hK hX hbl hS hLI hl hi hL (by omega) hcc back0)
        · exact lv_tableIn (off := 298) (tgt := 330) hx hbc dL_law_32 (by decide) (by decide) (by decide) (by decide) (law_8 F hK hX hbl hS hLI hl hi hL (by omega) hcc back0)
        · exact lv_tableIn (off := 357) (tgt := 389) hx hbc dL_law_32 (by decide) (by decide) (by decide) (by decide) (law_9 F hK hX hbl hS hLI hl hi hL (by omega) hcc back0)
        · exact lv_tableIn (off := 380) (tgt := 412) hx hbc dL_law_32 (by decide) (by decide) (by decide) (by decide) (law_10 F hK hX hbl hS hLI hl hi hL (by omega) hcc back0)
        · exact lv_tableIn (off := 403) (tgt := 435) hx hbc dL_law_32 (by decide) (by decide) (by decide) (by decide) (law_11 F hK hX hbl hS hLI hl hi hL (by omega) hcc back0)
        · exact lv_tableIn (off := 436) (tgt := 468) hx hbc dL_law_32 (by decide) (by decide) (by decide) (by decide) (law_12 F hK hX hbl hS hLI hl hi hL (by omega) hcc back0)
        · exact lv_tableIn (off := 469) (tgt := 501) hx hbc dL_law_32 (by decide) (by decide) (by decide) (by decide) (law_13 F hK hX hbl hS hLI hl hi hL (by omega) hcc back0)
        · exact lv_tableIn (off := 502) (tgt := 534) hx hbc dL_law_32 (by decide) (by decide) (by decide) (by decide) (law_14 F hK hX hbl hS hLI hl hi hL (by omega) hcc back0)
        · exact lv_tableIn (off := 515) (tgt := 547) hx hbc dL_law_32 (by decide) (by decide) (by decide) (by decide) (law_15 F hK hX hbl hS hLI hl hi hL (by omega) hcc back0)
        · exact lv_tableIn (off := 538) (tgt := 570) hx hbc dL_law_32 (by decide) (by decide) (by decide) (by decide) (law_16 F hK hX hbl hS hLI hl hi hL (by omega) hcc back0)
        · exact lv_tableIn (off := 561) (tgt := 593) hx hbc dL_law_32 (by decide) (by decide) (by decide) (by decide) (law_17 F hK hX hbl hS hLI hl hi hL (by omega) hcc back0)
        · exact lv_tableIn (off := 604) (tgt := 636) hx hbc dL_law_32 (by decide) (by decide) (by decide) (by decide) (law_18 F hK hX hbl hS hLI hl hi hL (by omega) hcc back0)
        · exact lv_tableIn (off := 617) (tgt := 649) hx hbc dL_law_32 (by decide) (by decide) (by decide) (by decide) (law_19 F hK hX hbl hS hLI hl hi hL (by omega) hcc back0)
        · exact lv_tableIn (off := 630) (tgt := 662) hx hbc dL_law_32 (by decide) (by decide) (by decide) (by decide) (law_20 F hK hX hbl hS hLI hl hi hL (by omega) hcc back0)
        · exact lv_tableIn (off := 653) (tgt := 685) hx hbc dL_law_32 (by decide) (by decide) (by decide) (by decide) (law_21 F hK hX hbl hS hLI hl hi hL (by omega) hcc back0)
end
