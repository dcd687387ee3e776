def f_X6_isOf (x1 : Int32) (v_hallNumber : Int32) : Option (Int32) := (if v_hallNumber = 0 then (some 0) else (if v_hallNumber = x1 then (some 1) else (some 0)))
set_option maxRecDepth 100000 in
set_option maxHeartbeats 4000000 in
theorem c_X6_isOf (l : Launch) (g : GG) (a_this : Nat) (a_this_winds : Nat) (a_this_choices : Nat) (a_this_touchers : Nat) (a_this_heard : Nat) (x1 : Int32) (v_hallNumber : Int32) {r0 : Int32} (hf : f_X6_isOf x1 v_hallNumber = some r0) : MR l g yX6_isOf cX6_isOf 2 (some .boolean) 0 0 [.ref a_this, .int x1] [ob a_this 9 [.ref a_this_winds, .ref a_this_choices, .ref a_this_touchers, .ref a_this_heard, .int v_hallNumber]] (some (.int r0)) := by
  refine MR.mk (by decide) (Nat.le_of_ble_eq_true rfl) ?_
  intro p e s m args below meth c ls Q F hK hP hl hQ
  have hx := F.1
  have hb := F.2.1
  have hml := F.2.2.2.1
  have hown := F.2.2.2.2.1
  have hts := F.2.2.2.2.2.1
  have hl : lv_has ls 2 [(0, .ref a_this), (1, .int x1)] := hl
  unfold f_X6_isOf at hf
  refine lv_aload_n hx hb dX6_isOf_0 rfl (lv_at hl 0 rfl) ?_
  refine w_get (ci := 9) F hK hP fb_X6 0 rfl rfl 4 (by decide) fl_X6_28 (fun _ h => h) rfl dX6_isOf_1 ?_
  refine lv_if_eq (tgt := 19) hx hb dX6_isOf_4 (by decide) (fun h1 => ?_) (fun h1 => ?_)
  · have hf := o_t h1 hf
    refine lv_iconst (v := 0) hx hb dX6_isOf_19 (by decide) ?_
    exact r_rz F hQ (by decide) (Option.some.inj hf) dX6_isOf_20
  · have hf := o_f h1 hf
    refine lv_aload_n hx hb dX6_isOf_7 rfl (lv_at hl 0 rfl) ?_
    refine w_get (ci := 9) F hK hP fb_X6 0 rfl rfl 4 (by decide) fl_X6_28 (fun _ h => h) rfl dX6_isOf_8 ?_
    refine lv_iload_n hx hb dX6_isOf_11 rfl (lv_at hl 1 rfl) ?_
    refine lv_icmp_ne (tgt := 19) hx hb dX6_isOf_12 (by decide) (fun h2 => ?_) (fun h2 => ?_)
    · have hf := o_f h2 hf
      refine lv_iconst (v := 0) hx hb dX6_isOf_19 (by decide) ?_
      exact r_rz F hQ (by decide) (Option.some.inj hf) dX6_isOf_20
    · have hf := o_t h2 hf
      refine lv_iconst (v := 1) hx hb dX6_isOf_15 (by decide) ?_
      refine lv_goto (tgt := 20) hx hb dX6_isOf_16 (by decide) ?_
      exact r_rz F hQ (by decide) (Option.some.inj hf) dX6_isOf_20
def f_X6_keep_3 (fuel : Nat) (x3 : Int32) (b_ch : Nat → Int32) (b_tc : Nat → Int32) (b_wd : Nat → Int32) (v_p1_size : Int32) (v_p2_bidders : Nat → Int32) (v_p2_breaths : Nat → Int32) (v_p2_size : Int32) (y4 : Int32) (w_v_choices : Nat → Int32) (w_v_hallNumber : Int32) (w_v_heard_bidders : Nat → Int32) (w_v_heard_breaths : Nat → Int32) (w_v_heard_size : Int32) (w_v_touchers : Nat → Int32) (w_v_winds : Nat → Int32) : Option (Int32 × (Nat → Int32) × Int32 × (Nat → Int32) × (Nat → Int32) × Int32 × (Nat → Int32) × (Nat → Int32)) := match fuel with
  | 0 => none
  | k + 1 => (if v_p1_size ≤ y4 then (some (y4, w_v_choices, w_v_hallNumber, w_v_heard_bidders, w_v_heard_breaths, w_v_heard_size, w_v_touchers, w_v_winds)) else (if y4 < 0 ∨ 5 ≤ Int32.toNatClampNeg y4 then none else (bnd (y4 + 1 : Int32) fun z3 => (f_X6_keep_3 k x3 b_ch b_tc b_wd v_p1_size v_p2_bidders v_p2_breaths v_p2_size z3 (upd w_v_choices (Int32.toNatClampNeg y4) (b_ch (Int32.toNatClampNeg y4))) w_v_hallNumber w_v_heard_bidders w_v_heard_breaths w_v_heard_size (upd w_v_touchers (Int32.toNatClampNeg y4) (b_tc (Int32.toNatClampNeg y4))) (upd w_v_winds (Int32.toNatClampNeg y4) (b_wd (Int32.toNatClampNeg y4)))))))
def f_X6_keep (x3 : Int32) (b_ch : Nat → Int32) (b_tc : Nat → Int32) (b_wd : Nat → Int32) (v_choices : Nat → Int32) (v_hallNumber : Int32) (v_heard_bidders : Nat → Int32) (v_heard_breaths : Nat → Int32) (v_heard_size : Int32) (v_p1_size : Int32) (v_p2_bidders : Nat → Int32) (v_p2_breaths : Nat → Int32) (v_p2_size : Int32) (v_touchers : Nat → Int32) (v_winds : Nat → Int32) : Option ((Nat → Int32) × Int32 × (Nat → Int32) × (Nat → Int32) × Int32 × (Nat → Int32) × (Nat → Int32)) := ((f_X6_keep_3 4096 x3 b_ch b_tc b_wd v_p1_size v_p2_bidders v_p2_breaths v_p2_size 0 v_choices v_hallNumber v_heard_bidders v_heard_breaths v_heard_size v_touchers v_winds).bind fun q4 => ((f_X5_copy q4.2.2.2.1 q4.2.2.2.2.1 v_p2_bidders v_p2_breaths v_p2_size q4.2.2.2.2.2.1).bind fun q5 => (some (q4.2.1, x3, q5.1, q5.2.1, q5.2.2, q4.2.2.2.2.2.2.1, q4.2.2.2.2.2.2.2))))
set_option maxRecDepth 100000 in
set_option maxHeartbeats 4000000 in
theorem c_X6_keep (l : Launch) (g : GG) (a_this : Nat) (a_p1 : Nat) (a_p2 : Nat) (a_p1_seats : Nat) (a_p2_bidders : Nat) (a_p2_breaths : Nat) (a_this_winds : Nat) (a_this_choices : Nat) (a_this_touchers : Nat) (a_this_heard : Nat) (a_this_heard_bidders : Nat) (a_this_heard_breaths : Nat) (sa : Nat → Nat) (x3 : Int32) (v_p1_size : Int32) (v_p1_fall : Int32) (v_p2_size : Int32) (v_p2_bidders : Nat → Int32) (v_p2_breaths : Nat → Int32) (v_hallNumber : Int32) (v_choices : Nat → Int32) (v_heard_size : Int32) (v_heard_bidders : Nat → Int32) (v_heard_breaths : Nat → Int32) (v_touchers : Nat → Int32) (v_winds : Nat → Int32) (b_K : Nat → Nat) (b_su : Nat → Int32) (b_wi : Nat → Int32) (b_wd : Nat → Int32) (b_ch : Nat → Int32) (b_tc : Nat → Int32) (hK5 : ∀ i, b_K i < 5) {r0 : Nat → Int32} {r1 : Int32} {r2 : Nat → Int32} {r3 : Nat → Int32} {r4 : Int32} {r5 : Nat → Int32} {r6 : Nat → Int32} (hf : f_X6_keep x3 b_ch b_tc b_wd v_choices v_hallNumber v_heard_bidders v_heard_breaths v_heard_size v_p1_size v_p2_bidders v_p2_breaths v_p2_size v_touchers v_winds = some (r0, r1, r2, r3, r4, r5, r6)) : MD l g yX6_keep cX6_keep 5 none 1 22 [.ref a_this, .ref a_p1, .ref a_p2, .int x3] ([ob a_p1 6 [.ref a_p1_seats, .int v_p1_size, .int v_p1_fall], ra g a_p1_seats 5 (fun i => some (sa i)), ob a_p2 8 [.ref a_p2_bidders, .ref a_p2_breaths, .int v_p2_size], ia g a_p2_bidders 8 v_p2_bidders, ia g a_p2_breaths 8 v_p2_breaths, ob a_this 9 [.ref a_this_winds, .ref a_this_choices, .ref a_this_touchers, .ref a_this_heard, .int v_hallNumber], ia g a_this_choices 5 v_choices, ob a_this_heard 8 [.ref a_this_heard_bidders, .ref a_this_heard_breaths, .int v_heard_size], ia g a_this_heard_bidders 8 v_heard_bidders, ia g a_this_heard_breaths 8 v_heard_breaths, ia g a_this_touchers 5 v_touchers, ia g a_this_winds 5 v_winds] ++ swl sa b_K b_su b_wi b_wd b_ch b_tc) none ([ob a_p1 6 [.ref a_p1_seats, .int v_p1_size, .int v_p1_fall], ra g a_p1_seats 5 (fun i => some (sa i)), ob a_p2 8 [.ref a_p2_bidders, .ref a_p2_breaths, .int v_p2_size], ia g a_p2_bidders 8 v_p2_bidders, ia g a_p2_breaths 8 v_p2_breaths, ob a_this 9 [.ref a_this_winds, .ref a_this_choices, .ref a_this_touchers, .ref a_this_heard, .int r1], ia g a_this_choices 5 r0, ob a_this_heard 8 [.ref a_this_heard_bidders, .ref a_this_heard_breaths, .int r4], ia g a_this_heard_bidders 8 r2, ia g a_this_heard_breaths 8 r3, ia g a_this_touchers 5 r5, ia g a_this_winds 5 r6] ++ swl sa b_K b_su b_wi b_wd b_ch b_tc) := by
  refine MC.mk (by decide) (Nat.le_of_ble_eq_true rfl) ?_
  intro p e s m args below meth c ls Q A F hnm hK hw hA hl hQ
  have hP := hw.1
  have hx := F.1
  have hb := F.2.1
  have hml := F.2.2.2.1
  have hown := F.2.2.2.2.1
  have hts := F.2.2.2.2.2.1
  have hl : lv_has ls 5 [(0, .ref a_this), (1, .ref a_p1), (2, .ref a_p2), (3, .int x3)] := hl
  have L3 : ∀ (k : Nat) (y4 : Int32) (w_v_choices : Nat → Int32) (w_v_hallNumber : Int32) (w_v_heard_bidders : Nat → Int32) (w_v_heard_breaths : Nat → Int32) (w_v_heard_size : Int32) (w_v_touchers : Nat → Int32) (w_v_winds : Nat → Int32) (q : Int32 × (Nat → Int32) × Int32 × (Nat → Int32) × (Nat → Int32) × Int32 × (Nat → Int32) × (Nat → Int32)), f_X6_keep_3 k x3 b_ch b_tc b_wd v_p1_size v_p2_bidders v_p2_breaths v_p2_size y4 w_v_choices w_v_hallNumber w_v_heard_bidders w_v_heard_breaths w_v_heard_size w_v_touchers w_v_winds = some q → ∀ (H : Heap) (locs : List Loc) (ls : Array Slot), WD g A s.heap ([ob a_p1 6 [.ref a_p1_seats, .int v_p1_size, .int v_p1_fall], ra g a_p1_seats 5 (fun i => some (sa i)), ob a_p2 8 [.ref a_p2_bidders, .ref a_p2_breaths, .int v_p2_size], ia g a_p2_bidders 8 v_p2_bidders, ia g a_p2_breaths 8 v_p2_breaths, ob a_this 9 [.ref a_this_winds, .ref a_this_choices, .ref a_this_touchers, .ref a_this_heard, .int w_v_hallNumber], ia g a_this_choices 5 w_v_choices, ob a_this_heard 8 [.ref a_this_heard_bidders, .ref a_this_heard_breaths, .int w_v_heard_size], ia g a_this_heard_bidders 8 w_v_heard_bidders, ia g a_this_heard_breaths 8 w_v_heard_breaths, ia g a_this_touchers 5 w_v_touchers, ia g a_this_winds 5 w_v_winds] ++ swl sa b_K b_su b_wi b_wd b_ch b_tc) H locs → lv_has ls 5 [(4, .int y4), (0, .ref a_this), (1, .ref a_p1), (2, .ref a_p2), (3, .int x3)] → (∀ (H : Heap) (locs : List Loc) (ls : Array Slot), WD g A s.heap ([ob a_p1 6 [.ref a_p1_seats, .int v_p1_size, .int v_p1_fall], ra g a_p1_seats 5 (fun i => some (sa i)), ob a_p2 8 [.ref a_p2_bidders, .ref a_p2_breaths, .int v_p2_size], ia g a_p2_bidders 8 v_p2_bidders, ia g a_p2_breaths 8 v_p2_breaths, ob a_this 9 [.ref a_this_winds, .ref a_this_choices, .ref a_this_touchers, .ref a_this_heard, .int q.2.2.1], ia g a_this_choices 5 q.2.1, ob a_this_heard 8 [.ref a_this_heard_bidders, .ref a_this_heard_breaths, .int q.2.2.2.2.2.1], ia g a_this_heard_bidders 8 q.2.2.2.1, ia g a_this_heard_breaths 8 q.2.2.2.2.1, ia g a_this_touchers 5 q.2.2.2.2.2.2.1, ia g a_this_winds 5 q.2.2.2.2.2.2.2] ++ swl sa b_K b_su b_wi b_wd b_ch b_tc) H locs → lv_has ls 5 [(4, .int q.1), (0, .ref a_this), (1, .ref a_p1), (2, .ref a_p2), (3, .int x3)] → W p l e (rmc 1 0 0 22) s m args below meth c H locs 0 0 Q (F0 m 69 ls [])) → W p l e (rmc 1 0 0 22) s m args below meth c H locs 0 0 Q (F0 m 3 ls []) := by
    intro k
    induction k with
    | zero => intro y4 w_v_choices w_v_hallNumber w_v_heard_bidders w_v_heard_breaths w_v_heard_size w_v_touchers w_v_winds q hf; rw [f_X6_keep_3] at hf; cases hf
    | succ k ih =>
      intro y4 w_v_choices w_v_hallNumber w_v_heard_bidders w_v_heard_breaths w_v_heard_size w_v_touchers w_v_winds q hf H locs ls hw hl kx
      rw [f_X6_keep_3] at hf
      have hP := hw.1
      refine lv_iload hx hb dX6_keep_3 (lv_at hl 0 rfl) ?_
      refine lv_aload_n hx hb dX6_keep_5 rfl (lv_at hl 2 rfl) ?_
      refine w_get (ci := 6) F hK hP fb_X4 0 rfl rfl 1 (by decide) fl_X6_32 (fun _ h => h) rfl dX6_keep_6 ?_
      refine lv_icmp_ge (tgt := 69) hx hb dX6_keep_9 (by decide) (fun h1 => ?_) (fun h1 => ?_)
      · have hf := o_t h1 hf
        cases hf
        exact kx _ _ ls hw (lv_sub hl [0, 1, 2, 3, 4] rfl)
      · have hf := o_f h1 hf
        refine lv_aload_n hx hb dX6_keep_12 rfl (lv_at hl 1 rfl) ?_
        refine w_get (ci := 9) F hK hP fb_X6 5 rfl rfl 0 (by decide) fl_X6_9 (fun _ h => h) rfl dX6_keep_13 ?_
        refine lv_iload hx hb dX6_keep_16 (lv_at hl 0 rfl) ?_
        refine lv_aload_n hx hb dX6_keep_18 rfl (lv_at hl 2 rfl) ?_
        refine w_get (ci := 6) F hK hP fb_X4 0 rfl rfl 0 (by decide) fl_X6_37 (fun _ h => h) rfl dX6_keep_19 ?_
        refine lv_iload hx hb dX6_keep_22 (lv_at hl 0 rfl) ?_
        obtain ⟨h2, hf⟩ := o_chk hf
        refine w_aald F hK hP 1 rfl h2 dX6_keep_24 ?_
        refine s_get F hK hP (in5 h2) hK5 2 rfl fl_X6_41 dX6_keep_25 ?_
        refine w_iast (ws' := ([ob a_p1 6 [.ref a_p1_seats, .int v_p1_size, .int v_p1_fall], ra g a_p1_seats 5 (fun i => some (sa i)), ob a_p2 8 [.ref a_p2_bidders, .ref a_p2_breaths, .int v_p2_size], ia g a_p2_bidders 8 v_p2_bidders, ia g a_p2_breaths 8 v_p2_breaths, ob a_this 9 [.ref a_this_winds, .ref a_this_choices, .ref a_this_touchers, .ref a_this_heard, .int w_v_hallNumber], ia g a_this_choices 5 w_v_choices, ob a_this_heard 8 [.ref a_this_heard_bidders, .ref a_this_heard_breaths, .int w_v_heard_size], ia g a_this_heard_bidders 8 w_v_heard_bidders, ia g a_this_heard_breaths 8 w_v_heard_breaths, ia g a_this_touchers 5 w_v_touchers, ia g a_this_winds 5 (upd w_v_winds (Int32.toNatClampNeg y4) (b_wd (Int32.toNatClampNeg y4)))] ++ swl sa b_K b_su b_wi b_wd b_ch b_tc)) F hK hw 11 rfl h2 rfl dX6_keep_28 (fun H locs hw => ?_)
        have hP := hw.1
        refine lv_aload_n hx hb dX6_keep_29 rfl (lv_at hl 1 rfl) ?_
        refine w_get (ci := 9) F hK hP fb_X6 5 rfl rfl 1 (by decide) fl_X6_15 (fun _ h => h) rfl dX6_keep_30 ?_
        refine lv_iload hx hb dX6_keep_33 (lv_at hl 0 rfl) ?_
        refine lv_aload_n hx hb dX6_keep_35 rfl (lv_at hl 2 rfl) ?_
        refine w_get (ci := 6) F hK hP fb_X4 0 rfl rfl 0 (by decide) fl_X6_37 (fun _ h => h) rfl dX6_keep_36 ?_
        refine lv_iload hx hb dX6_keep_39 (lv_at hl 0 rfl) ?_
        refine w_aald F hK hP 1 rfl h2 dX6_keep_41 ?_
        refine s_get F hK hP (in5 h2) hK5 3 rfl fl_X6_46 dX6_keep_42 ?_
        refine w_iast (ws' := ([ob a_p1 6 [.ref a_p1_seats, .int v_p1_size, .int v_p1_fall], ra g a_p1_seats 5 (fun i => some (sa i)), ob a_p2 8 [.ref a_p2_bidders, .ref a_p2_breaths, .int v_p2_size], ia g a_p2_bidders 8 v_p2_bidders, ia g a_p2_breaths 8 v_p2_breaths, ob a_this 9 [.ref a_this_winds, .ref a_this_choices, .ref a_this_touchers, .ref a_this_heard, .int w_v_hallNumber], ia g a_this_choices 5 (upd w_v_choices (Int32.toNatClampNeg y4) (b_ch (Int32.toNatClampNeg y4))), ob a_this_heard 8 [.ref a_this_heard_bidders, .ref a_this_heard_breaths, .int w_v_heard_size], ia g a_this_heard_bidders 8 w_v_heard_bidders, ia g a_this_heard_breaths 8 w_v_heard_breaths, ia g a_this_touchers 5 w_v_touchers, ia g a_this_winds 5 (upd w_v_winds (Int32.toNatClampNeg y4) (b_wd (Int32.toNatClampNeg y4)))] ++ swl sa b_K b_su b_wi b_wd b_ch b_tc)) F hK hw 6 rfl h2 rfl dX6_keep_45 (fun H locs hw => ?_)
        have hP := hw.1
        refine lv_aload_n hx hb dX6_keep_46 rfl (lv_at hl 1 rfl) ?_
        refine w_get (ci := 9) F hK hP fb_X6 5 rfl rfl 2 (by decide) fl_X6_18 (fun _ h => h) rfl dX6_keep_47 ?_
        refine lv_iload hx hb dX6_keep_50 (lv_at hl 0 rfl) ?_
        refine lv_aload_n hx hb dX6_keep_52 rfl (lv_at hl 2 rfl) ?_
        refine w_get (ci := 6) F hK hP fb_X4 0 rfl rfl 0 (by decide) fl_X6_37 (fun _ h => h) rfl dX6_keep_53 ?_
        refine lv_iload hx hb dX6_keep_56 (lv_at hl 0 rfl) ?_
        refine w_aald F hK hP 1 rfl h2 dX6_keep_58 ?_
        refine s_get F hK hP (in5 h2) hK5 4 rfl fl_X6_49 dX6_keep_59 ?_
        refine w_iast (ws' := ([ob a_p1 6 [.ref a_p1_seats, .int v_p1_size, .int v_p1_fall], ra g a_p1_seats 5 (fun i => some (sa i)), ob a_p2 8 [.ref a_p2_bidders, .ref a_p2_breaths, .int v_p2_size], ia g a_p2_bidders 8 v_p2_bidders, ia g a_p2_breaths 8 v_p2_breaths, ob a_this 9 [.ref a_this_winds, .ref a_this_choices, .ref a_this_touchers, .ref a_this_heard, .int w_v_hallNumber], ia g a_this_choices 5 (upd w_v_choices (Int32.toNatClampNeg y4) (b_ch (Int32.toNatClampNeg y4))), ob a_this_heard 8 [.ref a_this_heard_bidders, .ref a_this_heard_breaths, .int w_v_heard_size], ia g a_this_heard_bidders 8 w_v_heard_bidders, ia g a_this_heard_breaths 8 w_v_heard_breaths, ia g a_this_touchers 5 (upd w_v_touchers (Int32.toNatClampNeg y4) (b_tc (Int32.toNatClampNeg y4))), ia g a_this_winds 5 (upd w_v_winds (Int32.toNatClampNeg y4) (b_wd (Int32.toNatClampNeg y4)))] ++ swl sa b_K b_su b_wi b_wd b_ch b_tc)) F hK hw 10 rfl h2 rfl dX6_keep_62 (fun H locs hw => ?_)
        have hP := hw.1
        obtain ⟨z3, ez3⟩ : ∃ y : Int32, y = y4 + 1 := ⟨_, rfl⟩
        have hf := o_bnd ez3 hf
        refine lv_iinc (v := z3) (lv' := [(4, .int z3), (0, .ref a_this), (1, .ref a_p1), (2, .ref a_p2), (3, .int x3)]) hx hb dX6_keep_63 hl (k := 0) rfl (by rw [ez3]; rfl) (by decide) rfl (fun ls hl => ?_)
        refine lv_goto (tgt := 3) hx hb dX6_keep_66 (by decide) ?_
        exact ih z3 (upd w_v_choices (Int32.toNatClampNeg y4) (b_ch (Int32.toNatClampNeg y4))) w_v_hallNumber w_v_heard_bidders w_v_heard_breaths w_v_heard_size (upd w_v_touchers (Int32.toNatClampNeg y4) (b_tc (Int32.toNatClampNeg y4))) (upd w_v_winds (Int32.toNatClampNeg y4) (b_wd (Int32.toNatClampNeg y4))) _ hf _ _ ls hw (lv_sub hl [0, 1, 2, 3, 4] rfl) kx
  unfold f_X6_keep at hf
  refine lv_iconst (v := 0) hx hb dX6_keep_0 (by decide) ?_
  refine lv_istore (lv' := [(4, .int 0), (0, .ref a_this), (1, .ref a_p1), (2, .ref a_p2), (3, .int x3)]) hx hb dX6_keep_1 hl (by decide) rfl (fun ls hl => ?_)
  obtain ⟨q4, hq4, hf⟩ := o_bind hf
  refine L3 _ 0 v_choices v_hallNumber v_heard_bidders v_heard_breaths v_heard_size v_touchers v_winds _ hq4 _ _ ls hw (lv_sub hl [0, 1, 2, 3, 4] rfl) (fun H locs ls hw hl => ?_)
  have hP := hw.1
  refine lv_aload_n hx hb dX6_keep_69 rfl (lv_at hl 1 rfl) ?_
  refine w_get (ci := 9) F hK hP fb_X6 5 rfl rfl 3 (by decide) fl_X6_24 (fun _ h => h) rfl dX6_keep_70 ?_
  refine lv_aload_n hx hb dX6_keep_73 rfl (lv_at hl 3 rfl) ?_
  obtain ⟨q5, hq5, hf⟩ := o_bind hf
  refine k_dV (wr := ([ob a_p1 6 [.ref a_p1_seats, .int v_p1_size, .int v_p1_fall], ra g a_p1_seats 5 (fun i => some (sa i)), ob a_this 9 [.ref a_this_winds, .ref a_this_choices, .ref a_this_touchers, .ref a_this_heard, .int q4.2.2.1], ia g a_this_choices 5 q4.2.1, ia g a_this_touchers 5 q4.2.2.2.2.2.2.1, ia g a_this_winds 5 q4.2.2.2.2.2.2.2] ++ swl sa b_K b_su b_wi b_wd b_ch b_tc)) (ws' := ([ob a_p1 6 [.ref a_p1_seats, .int v_p1_size, .int v_p1_fall], ra g a_p1_seats 5 (fun i => some (sa i)), ob a_p2 8 [.ref a_p2_bidders, .ref a_p2_breaths, .int v_p2_size], ia g a_p2_bidders 8 v_p2_bidders, ia g a_p2_breaths 8 v_p2_breaths, ob a_this 9 [.ref a_this_winds, .ref a_this_choices, .ref a_this_touchers, .ref a_this_heard, .int q4.2.2.1], ia g a_this_choices 5 q4.2.1, ob a_this_heard 8 [.ref a_this_heard_bidders, .ref a_this_heard_breaths, .int q5.2.2], ia g a_this_heard_bidders 8 q5.1, ia g a_this_heard_breaths 8 q5.2.1, ia g a_this_touchers 5 q4.2.2.2.2.2.2.1, ia g a_this_winds 5 q4.2.2.2.2.2.2.2] ++ swl sa b_K b_su b_wi b_wd b_ch b_tc)) F (c_X5_copy l g a_this_heard a_p2 a_p2_bidders a_p2_breaths a_this_heard_bidders a_this_heard_breaths v_p2_size v_p2_bidders v_p2_breaths q4.2.2.2.2.2.1 q4.2.2.2.1 q4.2.2.2.2.1 hq5) qv_X5_copy ml_X6_51 hw hA hK [2, 3, 4, 7, 8, 9] [0, 1, 5, 6, 10, 11, 12, 13, 14, 15, 16] [0, 1, 11, 12, 13, 2, 3, 14, 15, 16, 4, 5, 6, 7, 8, 9, 10] rfl rfl rfl rfl rfl (by decide) rfl rfl rfl (va_recv hK.1 hP (ci := 8) (q0 := 7) rfl rfl) rfl hl.1 rfl (Nat.le_of_ble_eq_true rfl) dX6_keep_74 ⟨(Nat.le_of_ble_eq_true rfl), (Nat.le_of_ble_eq_true rfl)⟩ ⟨(Nat.le_of_ble_eq_true rfl), (Nat.le_of_ble_eq_true rfl)⟩ (fun H locs hw => ?_)
  have hP := hw.1
  refine W.eq (g2 := F0 m 77 ls ([])) rfl ?_
  refine lv_aload_n hx hb dX6_keep_77 rfl (lv_at hl 1 rfl) ?_
  refine lv_iload_n hx hb dX6_keep_78 rfl (lv_at hl 4 rfl) ?_
  refine w_put (ci := 9) (ws' := ([ob a_p1 6 [.ref a_p1_seats, .int v_p1_size, .int v_p1_fall], ra g a_p1_seats 5 (fun i => some (sa i)), ob a_p2 8 [.ref a_p2_bidders, .ref a_p2_breaths, .int v_p2_size], ia g a_p2_bidders 8 v_p2_bidders, ia g a_p2_breaths 8 v_p2_breaths, ob a_this 9 [.ref a_this_winds, .ref a_this_choices, .ref a_this_touchers, .ref a_this_heard, .int x3], ia g a_this_choices 5 q4.2.1, ob a_this_heard 8 [.ref a_this_heard_bidders, .ref a_this_heard_breaths, .int q5.2.2], ia g a_this_heard_bidders 8 q5.1, ia g a_this_heard_breaths 8 q5.2.1, ia g a_this_touchers 5 q4.2.2.2.2.2.2.1, ia g a_this_winds 5 q4.2.2.2.2.2.2.2] ++ swl sa b_K b_su b_wi b_wd b_ch b_tc)) F hK hw fb_X6 5 rfl rfl 4 (by decide) fl_X6_28 (fun _ h => h) rfl rfl rfl rfl (Nat.le_of_ble_eq_true rfl) rfl dX6_keep_79 (fun H locs hw => ?_)
  have hP := hw.1
  cases hf
  exact r_cv F hQ ⟨rfl, rfl⟩ hw dX6_keep_82
def f_X6_giveBack_2 (fuel : Nat) (v_choices : Nat → Int32) (v_heard_bidders : Nat → Int32) (v_heard_breaths : Nat → Int32) (v_heard_size : Int32) (v_p1_size : Int32) (v_touchers : Nat → Int32) (v_winds : Nat → Int32) (y3 : Int32) (w_b_ch : Nat → Int32) (w_b_tc : Nat → Int32) (w_b_wd : Nat → Int32) (w_v_p2_bidders : Nat → Int32) (w_v_p2_breaths : Nat → Int32) (w_v_p2_size : Int32) : Option (Int32 × (Nat → Int32) × (Nat → Int32) × (Nat → Int32) × (Nat → Int32) × (Nat → Int32) × Int32) := match fuel with
  | 0 => none
  | k + 1 => (if v_p1_size ≤ y3 then (some (y3, w_b_ch, w_b_tc, w_b_wd, w_v_p2_bidders, w_v_p2_breaths, w_v_p2_size)) else (if y3 < 0 ∨ 5 ≤ Int32.toNatClampNeg y3 then none else (bnd (v_winds (Int32.toNatClampNeg y3)) fun z3 => (bnd (v_choices (Int32.toNatClampNeg y3)) fun z4 => (bnd (v_touchers (Int32.toNatClampNeg y3)) fun z5 => (bnd (y3 + 1 : Int32) fun z6 => (f_X6_giveBack_2 k v_choices v_heard_bidders v_heard_breaths v_heard_size v_p1_size v_touchers v_winds z6 (upd w_b_ch (Int32.toNatClampNeg y3) z4) (upd w_b_tc (Int32.toNatClampNeg y3) z5) (upd w_b_wd (Int32.toNatClampNeg y3) z3) w_v_p2_bidders w_v_p2_breaths w_v_p2_size)))))))
def f_X6_giveBack (b_ch : Nat → Int32) (b_tc : Nat → Int32) (b_wd : Nat → Int32) (v_choices : Nat → Int32) (v_heard_bidders : Nat → Int32) (v_heard_breaths : Nat → Int32) (v_heard_size : Int32) (v_p1_size : Int32) (v_p2_bidders : Nat → Int32) (v_p2_breaths : Nat → Int32) (v_p2_size : Int32) (v_touchers : Nat → Int32) (v_winds : Nat → Int32) : Option ((Nat → Int32) × (Nat → Int32) × (Nat → Int32) × (Nat → Int32) × (Nat → Int32) × Int32) := ((f_X6_giveBack_2 4096 v_choices v_heard_bidders v_heard_breaths v_heard_size v_p1_size v_touchers v_winds 0 b_ch b_tc b_wd v_p2_bidders v_p2_breaths v_p2_size).bind fun q7 => ((f_X5_copy q7.2.2.2.2.1 q7.2.2.2.2.2.1 v_heard_bidders v_heard_breaths v_heard_size q7.2.2.2.2.2.2).bind fun q8 => (some (q7.2.1, q7.2.2.1, q7.2.2.2.1, q8.1, q8.2.1, q8.2.2))))
set_option maxRecDepth 100000 in
set_option maxHeartbeats 4000000 in
theorem c_X6_giveBack (l : Launch) (g : GG) (a_this : Nat) (a_p1 : Nat) (a_p2 : Nat) (a_p1_seats : Nat) (a_p2_bidders : Nat) (a_p2_breaths : Nat) (a_this_winds : Nat) (a_this_choices : Nat) (a_this_touchers : Nat) (a_this_heard : Nat) (a_this_heard_bidders : Nat) (a_this_heard_breaths : Nat) (sa : Nat → Nat) (v_p1_size : Int32) (v_p1_fall : Int32) (v_p2_size : Int32) (v_p2_bidders : Nat → Int32) (v_p2_breaths : Nat → Int32) (v_hallNumber : Int32) (v_choices : Nat → Int32) (v_heard_size : Int32) (v_heard_bidders : Nat → Int32) (v_heard_breaths : Nat → Int32) (v_touchers : Nat → Int32) (v_winds : Nat → Int32) (b_K : Nat → Nat) (b_su : Nat → Int32) (b_wi : Nat → Int32) (b_wd : Nat → Int32) (b_ch : Nat → Int32) (b_tc : Nat → Int32) (hK5 : ∀ i, b_K i < 5) {r0 : Nat → Int32} {r1 : Nat → Int32} {r2 : Nat → Int32} {r3 : Nat → Int32} {r4 : Nat → Int32} {r5 : Int32} (hf : f_X6_giveBack b_ch b_tc b_wd v_choices v_heard_bidders v_heard_breaths v_heard_size v_p1_size v_p2_bidders v_p2_breaths v_p2_size v_touchers v_winds = some (r0, r1, r2, r3, r4, r5)) : MD l g yX6_giveBack cX6_giveBack 4 none 1 22 [.ref a_this, .ref a_p1, .ref a_p2] ([ob a_p1 6 [.ref a_p1_seats, .int v_p1_size, .int v_p1_fall], ra g a_p1_seats 5 (fun i => some (sa i)), ob a_p2 8 [.ref a_p2_bidders, .ref a_p2_breaths, .int v_p2_size], ia g a_p2_bidders 8 v_p2_bidders, ia g a_p2_breaths 8 v_p2_breaths, ob a_this 9 [.ref a_this_winds, .ref a_this_choices, .ref a_this_touchers, .ref a_this_heard, .int v_hallNumber], ia g a_this_choices 5 v_choices, ob a_this_heard 8 [.ref a_this_heard_bidders, .ref a_this_heard_breaths, .int v_heard_size], ia g a_this_heard_bidders 8 v_heard_bidders, ia g a_this_heard_breaths 8 v_heard_breaths, ia g a_this_touchers 5 v_touchers, ia g a_this_winds 5 v_winds] ++ swl sa b_K b_su b_wi b_wd b_ch b_tc) none ([ob a_p1 6 [.ref a_p1_seats, .int v_p1_size, .int v_p1_fall], ra g a_p1_seats 5 (fun i => some (sa i)), ob a_p2 8 [.ref a_p2_bidders, .ref a_p2_breaths, .int r5], ia g a_p2_bidders 8 r3, ia g a_p2_breaths 8 r4, ob a_this 9 [.ref a_this_winds, .ref a_this_choices, .ref a_this_touchers, .ref a_this_heard, .int v_hallNumber], ia g a_this_choices 5 v_choices, ob a_this_heard 8 [.ref a_this_heard_bidders, .ref a_this_heard_breaths, .int v_heard_size], ia g a_this_heard_bidders 8 v_heard_bidders, ia g a_this_heard_breaths 8 v_heard_breaths, ia g a_this_touchers 5 v_touchers, ia g a_this_winds 5 v_winds] ++ swl sa b_K b_su b_wi r2 r0 r1) := by
  refine MC.mk (by decide) (Nat.le_of_ble_eq_true rfl) ?_
  intro p e s m args below meth c ls Q A F hnm hK hw hA hl hQ
  have hP := hw.1
  have hx := F.1
  have hb := F.2.1
  have hml := F.2.2.2.1
  have hown := F.2.2.2.2.1
  have hts := F.2.2.2.2.2.1
  have hl : lv_has ls 4 [(0, .ref a_this), (1, .ref a_p1), (2, .ref a_p2)] := hl
  have L2 : ∀ (k : Nat) (y3 : Int32) (w_b_ch : Nat → Int32) (w_b_tc : Nat → Int32) (w_b_wd : Nat → Int32) (w_v_p2_bidders : Nat → Int32) (w_v_p2_breaths : Nat → Int32) (w_v_p2_size : Int32) (q : Int32 × (Nat → Int32) × (Nat → Int32) × (Nat → Int32) × (Nat → Int32) × (Nat → Int32) × Int32), f_X6_giveBack_2 k v_choices v_heard_bidders v_heard_breaths v_heard_size v_p1_size v_touchers v_winds y3 w_b_ch w_b_tc w_b_wd w_v_p2_bidders w_v_p2_breaths w_v_p2_size = some q → ∀ (H : Heap) (locs : List Loc) (ls : Array Slot), WD g A s.heap ([ob a_p1 6 [.ref a_p1_seats, .int v_p1_size, .int v_p1_fall], ra g a_p1_seats 5 (fun i => some (sa i)), ob a_p2 8 [.ref a_p2_bidders, .ref a_p2_breaths, .int w_v_p2_size], ia g a_p2_bidders 8 w_v_p2_bidders, ia g a_p2_breaths 8 w_v_p2_breaths, ob a_this 9 [.ref a_this_winds, .ref a_this_choices, .ref a_this_touchers, .ref a_this_heard, .int v_hallNumber], ia g a_this_choices 5 v_choices, ob a_this_heard 8 [.ref a_this_heard_bidders, .ref a_this_heard_breaths, .int v_heard_size], ia g a_this_heard_bidders 8 v_heard_bidders, ia g a_this_heard_breaths 8 v_heard_breaths, ia g a_this_touchers 5 v_touchers, ia g a_this_winds 5 v_winds] ++ swl sa b_K b_su b_wi w_b_wd w_b_ch w_b_tc) H locs → lv_has ls 4 [(3, .int y3), (0, .ref a_this), (1, .ref a_p1), (2, .ref a_p2)] → (∀ (H : Heap) (locs : List Loc) (ls : Array Slot), WD g A s.heap ([ob a_p1 6 [.ref a_p1_seats, .int v_p1_size, .int v_p1_fall], ra g a_p1_seats 5 (fun i => some (sa i)), ob a_p2 8 [.ref a_p2_bidders, .ref a_p2_breaths, .int q.2.2.2.2.2.2], ia g a_p2_bidders 8 q.2.2.2.2.1, ia g a_p2_breaths 8 q.2.2.2.2.2.1, ob a_this 9 [.ref a_this_winds, .ref a_this_choices, .ref a_this_touchers, .ref a_this_heard, .int v_hallNumber], ia g a_this_choices 5 v_choices, ob a_this_heard 8 [.ref a_this_heard_bidders, .ref a_this_heard_breaths, .int v_heard_size], ia g a_this_heard_bidders 8 v_heard_bidders, ia g a_this_heard_breaths 8 v_heard_breaths, ia g a_this_touchers 5 v_touchers, ia g a_this_winds 5 v_winds] ++ swl sa b_K b_su b_wi q.2.2.2.1 q.2.1 q.2.2.1) H locs → lv_has ls 4 [(3, .int q.1), (0, .ref a_this), (1, .ref a_p1), (2, .ref a_p2)] → W p l e (rmc 1 0 0 22) s m args below meth c H locs 0 0 Q (F0 m 61 ls [])) → W p l e (rmc 1 0 0 22) s m args below meth c H locs 0 0 Q (F0 m 2 ls []) := by
    intro k
    induction k with
    | zero => intro y3 w_b_ch w_b_tc w_b_wd w_v_p2_bidders w_v_p2_breaths w_v_p2_size q hf; rw [f_X6_giveBack_2] at hf; cases hf
    | succ k ih =>
      intro y3 w_b_ch w_b_tc w_b_wd w_v_p2_bidders w_v_p2_breaths w_v_p2_size q hf H locs ls hw hl kx
      rw [f_X6_giveBack_2] at hf
      have hP := hw.1
      refine lv_iload_n hx hb dX6_giveBack_2 rfl (lv_at hl 0 rfl) ?_
      refine lv_aload_n hx hb dX6_giveBack_3 rfl (lv_at hl 2 rfl) ?_
      refine w_get (ci := 6) F hK hP fb_X4 0 rfl rfl 1 (by decide) fl_X6_32 (fun _ h => h) rfl dX6_giveBack_4 ?_
      refine lv_icmp_ge (tgt := 61) hx hb dX6_giveBack_7 (by decide) (fun h1 => ?_) (fun h1 => ?_)
      · have hf := o_t h1 hf
        cases hf
        exact kx _ _ ls hw (lv_sub hl [0, 1, 2, 3] rfl)
      · have hf := o_f h1 hf
        refine lv_aload_n hx hb dX6_giveBack_10 rfl (lv_at hl 2 rfl) ?_
        refine w_get (ci := 6) F hK hP fb_X4 0 rfl rfl 0 (by decide) fl_X6_37 (fun _ h => h) rfl dX6_giveBack_11 ?_
        refine lv_iload_n hx hb dX6_giveBack_14 rfl (lv_at hl 0 rfl) ?_
        obtain ⟨h2, hf⟩ := o_chk hf
        refine w_aald F hK hP 1 rfl h2 dX6_giveBack_15 ?_
        refine lv_aload_n hx hb dX6_giveBack_16 rfl (lv_at hl 1 rfl) ?_
        refine w_get (ci := 9) F hK hP fb_X6 5 rfl rfl 0 (by decide) fl_X6_9 (fun _ h => h) rfl dX6_giveBack_17 ?_
        refine lv_iload_n hx hb dX6_giveBack_20 rfl (lv_at hl 0 rfl) ?_
        refine w_iald F hK hP 11 rfl h2 dX6_giveBack_21 ?_
        refine lv_topi (fun z3 ez3 => ?_)
        have hf := o_bnd ez3 hf
        refine s_put_wind F hK hw (in5 h2) hK5 fl_X6_41 dX6_giveBack_22 (fun H locs hw => ?_)
        have hP := hw.1
        refine lv_aload_n hx hb dX6_giveBack_25 rfl (lv_at hl 2 rfl) ?_
        refine w_get (ci := 6) F hK hP fb_X4 0 rfl rfl 0 (by decide) fl_X6_37 (fun _ h => h) rfl dX6_giveBack_26 ?_
        refine lv_iload_n hx hb dX6_giveBack_29 rfl (lv_at hl 0 rfl) ?_
        refine w_aald F hK hP 1 rfl h2 dX6_giveBack_30 ?_
        refine lv_aload_n hx hb dX6_giveBack_31 rfl (lv_at hl 1 rfl) ?_
        refine w_get (ci := 9) F hK hP fb_X6 5 rfl rfl 1 (by decide) fl_X6_15 (fun _ h => h) rfl dX6_giveBack_32 ?_
        refine lv_iload_n hx hb dX6_giveBack_35 rfl (lv_at hl 0 rfl) ?_
        refine w_iald F hK hP 6 rfl h2 dX6_giveBack_36 ?_
        refine lv_topi (fun z4 ez4 => ?_)
        have hf := o_bnd ez4 hf
        refine s_put_choice F hK hw (in5 h2) hK5 fl_X6_46 dX6_giveBack_37 (fun H locs hw => ?_)
        have hP := hw.1
        refine lv_aload_n hx hb dX6_giveBack_40 rfl (lv_at hl 2 rfl) ?_
        refine w_get (ci := 6) F hK hP fb_X4 0 rfl rfl 0 (by decide) fl_X6_37 (fun _ h => h) rfl dX6_giveBack_41 ?_
        refine lv_iload_n hx hb dX6_giveBack_44 rfl (lv_at hl 0 rfl) ?_
        refine w_aald F hK hP 1 rfl h2 dX6_giveBack_45 ?_
        refine lv_aload_n hx hb dX6_giveBack_46 rfl (lv_at hl 1 rfl) ?_
        refine w_get (ci := 9) F hK hP fb_X6 5 rfl rfl 2 (by decide) fl_X6_18 (fun _ h => h) rfl dX6_giveBack_47 ?_
        refine lv_iload_n hx hb dX6_giveBack_50 rfl (lv_at hl 0 rfl) ?_
        refine w_iald F hK hP 10 rfl h2 dX6_giveBack_51 ?_
        refine lv_topi (fun z5 ez5 => ?_)
        have hf := o_bnd ez5 hf
        refine s_put_touchers F hK hw (in5 h2) hK5 fl_X6_49 dX6_giveBack_52 (fun H locs hw => ?_)
        have hP := hw.1
        obtain ⟨z6, ez6⟩ : ∃ y : Int32, y = y3 + 1 := ⟨_, rfl⟩
        have hf := o_bnd ez6 hf
        refine lv_iinc (v := z6) (lv' := [(3, .int z6), (0, .ref a_this), (1, .ref a_p1), (2, .ref a_p2)]) hx hb dX6_giveBack_55 hl (k := 0) rfl (by rw [ez6]; rfl) (by decide) rfl (fun ls hl => ?_)
        refine lv_goto (tgt := 2) hx hb dX6_giveBack_58 (by decide) ?_
        exact ih z6 (upd w_b_ch (Int32.toNatClampNeg y3) z4) (upd w_b_tc (Int32.toNatClampNeg y3) z5) (upd w_b_wd (Int32.toNatClampNeg y3) z3) w_v_p2_bidders w_v_p2_breaths w_v_p2_size _ hf _ _ ls hw (lv_sub hl [0, 1, 2, 3] rfl) kx
  unfold f_X6_giveBack at hf
  refine lv_iconst (v := 0) hx hb dX6_giveBack_0 (by decide) ?_
  refine lv_istore_n (lv' := [(3, .int 0), (0, .ref a_this), (1, .ref a_p1), (2, .ref a_p2)]) hx hb dX6_giveBack_1 rfl hl (by decide) rfl (fun ls hl => ?_)
  obtain ⟨q7, hq7, hf⟩ := o_bind hf
  refine L2 _ 0 b_ch b_tc b_wd v_p2_bidders v_p2_breaths v_p2_size _ hq7 _ _ ls hw (lv_sub hl [0, 1, 2, 3] rfl) (fun H locs ls hw hl => ?_)
  have hP := hw.1
  refine lv_aload_n hx hb dX6_giveBack_61 rfl (lv_at hl 3 rfl) ?_
  refine lv_aload_n hx hb dX6_giveBack_62 rfl (lv_at hl 1 rfl) ?_
  refine w_get (ci := 9) F hK hP fb_X6 5 rfl rfl 3 (by decide) fl_X6_24 (fun _ h => h) rfl dX6_giveBack_63 ?_
  obtain ⟨q8, hq8, hf⟩ := o_bind hf
  refine k_dV (wr := ([ob a_p1 6 [.ref a_p1_seats, .int v_p1_size, .int v_p1_fall], ra g a_p1_seats 5 (fun i => some (sa i)), ob a_this 9 [.ref a_this_winds, .ref a_this_choices, .ref a_this_touchers, .ref a_this_heard, .int v_hallNumber], ia g a_this_choices 5 v_choices, ia g a_this_touchers 5 v_touchers, ia g a_this_winds 5 v_winds] ++ swl sa b_K b_su b_wi q7.2.2.2.1 q7.2.1 q7.2.2.1)) (ws' := ([ob a_p1 6 [.ref a_p1_seats, .int v_p1_size, .int v_p1_fall], ra g a_p1_seats 5 (fun i => some (sa i)), ob a_p2 8 [.ref a_p2_bidders, .ref a_p2_breaths, .int q8.2.2], ia g a_p2_bidders 8 q8.1, ia g a_p2_breaths 8 q8.2.1, ob a_this 9 [.ref a_this_winds, .ref a_this_choices, .ref a_this_touchers, .ref a_this_heard, .int v_hallNumber], ia g a_this_choices 5 v_choices, ob a_this_heard 8 [.ref a_this_heard_bidders, .ref a_this_heard_breaths, .int v_heard_size], ia g a_this_heard_bidders 8 v_heard_bidders, ia g a_this_heard_breaths 8 v_heard_breaths, ia g a_this_touchers 5 v_touchers, ia g a_this_winds 5 v_winds] ++ swl sa b_K b_su b_wi q7.2.2.2.1 q7.2.1 q7.2.2.1)) F (c_X5_copy l g a_p2 a_this_heard a_this_heard_bidders a_this_heard_breaths a_p2_bidders a_p2_breaths v_heard_size v_heard_bidders v_heard_breaths q7.2.2.2.2.2.2 q7.2.2.2.2.1 q7.2.2.2.2.2.1 hq8) qv_X5_copy ml_X6_51 hw hA hK [7, 8, 9, 2, 3, 4] [0, 1, 5, 6, 10, 11, 12, 13, 14, 15, 16] [0, 1, 14, 15, 16, 2, 3, 11, 12, 13, 4, 5, 6, 7, 8, 9, 10] rfl rfl rfl rfl rfl (by decide) rfl rfl rfl (va_recv hK.1 hP (ci := 8) (q0 := 2) rfl rfl) rfl hl.1 rfl (Nat.le_of_ble_eq_true rfl) dX6_giveBack_66 ⟨(Nat.le_of_ble_eq_true rfl), (Nat.le_of_ble_eq_true rfl)⟩ ⟨(Nat.le_of_ble_eq_true rfl), (Nat.le_of_ble_eq_true rfl)⟩ (fun H locs hw => ?_)
  have hP := hw.1
  refine W.eq (g2 := F0 m 69 ls ([])) rfl ?_
  cases hf
  exact r_cv F hQ ⟨rfl, rfl⟩ hw dX6_giveBack_69
def f_X7_isFull (v_length : Int32) : Option (Int32) := (if v_length < 28 then (some 0) else (some 1))
set_option maxRecDepth 100000 in
set_option maxHeartbeats 4000000 in
theorem c_X7_isFull (l : Launch) (g : GG) (a_this : Nat) (a_this_codes : Nat) (v_length : Int32) {r0 : Int32} (hf : f_X7_isFull v_length = some r0) : MR l g yX7_isFull cX7_isFull 1 (some .boolean) 0 0 [.ref a_this] [ob a_this 5 [.ref a_this_codes, .int v_length]] (some (.int r0)) := by
  refine MR.mk (by decide) (Nat.le_of_ble_eq_true rfl) ?_
  intro p e s m args below meth c ls Q F hK hP hl hQ
  have hx := F.1
  have hb := F.2.1
  have hml := F.2.2.2.1
  have hown := F.2.2.2.2.1
  have hts := F.2.2.2.2.2.1
  have hl : lv_has ls 1 [(0, .ref a_this)] := hl
  unfold f_X7_isFull at hf
  refine lv_aload_n hx hb dX7_isFull_0 rfl (lv_at hl 0 rfl) ?_
  refine w_get (ci := 5) F hK hP fb_X7 0 rfl rfl 1 (by decide) fl_X7_15 (fun _ h => h) rfl dX7_isFull_1 ?_
  refine lv_bipush (v := 28) hx hb dX7_isFull_4 (by decide) ?_
  refine lv_icmp_lt (tgt := 13) hx hb dX7_isFull_6 (by decide) (fun h1 => ?_) (fun h1 => ?_)
  · have hf := o_t h1 hf
    refine lv_iconst (v := 0) hx hb dX7_isFull_13 (by decide) ?_
    exact r_rz F hQ (by decide) (Option.some.inj hf) dX7_isFull_14
  · have hf := o_f h1 hf
    refine lv_iconst (v := 1) hx hb dX7_isFull_9 (by decide) ?_
    refine lv_goto (tgt := 14) hx hb dX7_isFull_10 (by decide) ?_
    exact r_rz F hQ (by decide) (Option.some.inj hf) dX7_isFull_14
def f_X7_write (x1 : Int32) (v_codes : Nat → Int32) (v_length : Int32) : Option ((Nat → Int32) × Int32) := (if 28 ≤ v_length then (some (v_codes, v_length)) else (if v_length < 0 ∨ 28 ≤ Int32.toNatClampNeg v_length then none else (bnd (v_length + 1) fun z3 => (some ((upd v_codes (Int32.toNatClampNeg v_length) x1), z3)))))
set_option maxRecDepth 100000 in
set_option maxHeartbeats 4000000 in
theorem c_X7_write (l : Launch) (g : GG) (a_this : Nat) (a_this_codes : Nat) (x1 : Int32) (v_length : Int32) (v_codes : Nat → Int32) {r0 : Nat → Int32} {r1 : Int32} (hf : f_X7_write x1 v_codes v_length = some (r0, r1)) : MD l g yX7_write cX7_write 2 none 0 0 [.ref a_this, .int x1] [ob a_this 5 [.ref a_this_codes, .int v_length], ia g a_this_codes 28 v_codes] none [ob a_this 5 [.ref a_this_codes, .int r1], ia g a_this_codes 28 r0] := by
  refine MC.mk (by decide) (Nat.le_of_ble_eq_true rfl) ?_
  intro p e s m args below meth c ls Q A F hnm hK hw hA hl hQ
  have hP := hw.1
  have hx := F.1
  have hb := F.2.1
  have hml := F.2.2.2.1
  have hown := F.2.2.2.2.1
  have hts := F.2.2.2.2.2.1
  have hl : lv_has ls 2 [(0, .ref a_this), (1, .int x1)] := hl
  unfold f_X7_write at hf
  refine lv_aload_n hx hb dX7_write_0 rfl (lv_at hl 0 rfl) ?_
  refine w_get (ci := 5) F hK hP fb_X7 0 rfl rfl 1 (by decide) fl_X7_15 (fun _ h => h) rfl dX7_write_1 ?_
  refine lv_bipush (v := 28) hx hb dX7_write_4 (by decide) ?_
  refine lv_icmp_ge (tgt := 29) hx hb dX7_write_6 (by decide) (fun h1 => ?_) (fun h1 => ?_)
  · have hf := o_t h1 hf
    cases hf
    exact r_cv F hQ ⟨rfl, rfl⟩ hw dX7_write_29
  · have hf := o_f h1 hf
    refine lv_aload_n hx hb dX7_write_9 rfl (lv_at hl 0 rfl) ?_
    refine w_get (ci := 5) F hK hP fb_X7 0 rfl rfl 0 (by decide) fl_X7_11 (fun _ h => h) rfl dX7_write_10 ?_
    refine lv_aload_n hx hb dX7_write_13 rfl (lv_at hl 0 rfl) ?_
    refine w_get (ci := 5) F hK hP fb_X7 0 rfl rfl 1 (by decide) fl_X7_15 (fun _ h => h) rfl dX7_write_14 ?_
    refine lv_iload_n hx hb dX7_write_17 rfl (lv_at hl 1 rfl) ?_
    obtain ⟨h2, hf⟩ := o_chk hf
    refine w_iast (ws' := [ob a_this 5 [.ref a_this_codes, .int v_length], ia g a_this_codes 28 (upd v_codes (Int32.toNatClampNeg v_length) x1)]) F hK hw 1 rfl h2 rfl dX7_write_18 (fun H locs hw => ?_)
    have hP := hw.1
    refine lv_aload_n hx hb dX7_write_19 rfl (lv_at hl 0 rfl) ?_
    refine lv_dup hx hb dX7_write_20 rfl ?_
    refine w_get (ci := 5) F hK hP fb_X7 0 rfl rfl 1 (by decide) fl_X7_15 (fun _ h => h) rfl dX7_write_21 ?_
    refine lv_iconst (v := 1) hx hb dX7_write_24 (by decide) ?_
    refine lv_iadd hx hb dX7_write_25 ?_
    refine lv_topi (fun z3 ez3 => ?_)
    have hf := o_bnd ez3 hf
    refine w_put (ci := 5) (ws' := [ob a_this 5 [.ref a_this_codes, .int z3], ia g a_this_codes 28 (upd v_codes (Int32.toNatClampNeg v_length) x1)]) F hK hw fb_X7 0 rfl rfl 1 (by decide) fl_X7_15 (fun _ h => h) rfl rfl rfl rfl (Nat.le_of_ble_eq_true rfl) rfl dX7_write_26 (fun H locs hw => ?_)
    have hP := hw.1
    cases hf
    exact r_cv F hQ ⟨rfl, rfl⟩ hw dX7_write_29
def f_X7_fitsBehindBidder (x0 : Int32) (x1 : Int32) : Option (Int32) := (if x0 = 44 then (if x1 < 5 then (some 1) else (if x0 = 59 then (if x1 < 2 then (some 0) else (some 1)) else (some 0))) else (if x0 = 59 then (if x1 < 2 then (some 0) else (some 1)) else (some 0)))
set_option maxRecDepth 100000 in
set_option maxHeartbeats 4000000 in
theorem c_X7_fitsBehindBidder (l : Launch) (g : GG) (x0 : Int32) (x1 : Int32) {r0 : Int32} (hf : f_X7_fitsBehindBidder x0 x1 = some r0) : MR l g yX7_fitsBehindBidder cX7_fitsBehindBidder 2 (some .boolean) 0 0 [.int x0, .int x1] [] (some (.int r0)) := by
  refine MR.mk (by decide) (Nat.le_of_ble_eq_true rfl) ?_
  intro p e s m args below meth c ls Q F hK hP hl hQ
  have hx := F.1
  have hb := F.2.1
  have hml := F.2.2.2.1
  have hown := F.2.2.2.2.1
  have hts := F.2.2.2.2.2.1
  have hl : lv_has ls 2 [(0, .int x0), (1, .int x1)] := hl
  unfold f_X7_fitsBehindBidder at hf
  refine lv_iload_n hx hb dX7_fitsBehindBidder_0 rfl (lv_at hl 0 rfl) ?_
  refine lv_bipush (v := 44) hx hb dX7_fitsBehindBidder_1 (by decide) ?_
  refine lv_icmp_ne (tgt := 11) hx hb dX7_fitsBehindBidder_3 (by decide) (fun h1 => ?_) (fun h1 => ?_)
  · have hf := o_f h1 hf
    refine lv_iload_n hx hb dX7_fitsBehindBidder_11 rfl (lv_at hl 0 rfl) ?_
    refine lv_bipush (v := 59) hx hb dX7_fitsBehindBidder_12 (by decide) ?_
    refine lv_icmp_ne (tgt := 26) hx hb dX7_fitsBehindBidder_14 (by decide) (fun h2 => ?_) (fun h2 => ?_)
    · have hf := o_f h2 hf
      refine lv_iconst (v := 0) hx hb dX7_fitsBehindBidder_26 (by decide) ?_
      exact r_rz F hQ (by decide) (Option.some.inj hf) dX7_fitsBehindBidder_27
    · have hf := o_t h2 hf
      refine lv_iload_n hx hb dX7_fitsBehindBidder_17 rfl (lv_at hl 1 rfl) ?_
      refine lv_iconst (v := 2) hx hb dX7_fitsBehindBidder_18 (by decide) ?_
      refine lv_icmp_lt (tgt := 26) hx hb dX7_fitsBehindBidder_19 (by decide) (fun h3 => ?_) (fun h3 => ?_)
      · have hf := o_t h3 hf
        refine lv_iconst (v := 0) hx hb dX7_fitsBehindBidder_26 (by decide) ?_
        exact r_rz F hQ (by decide) (Option.some.inj hf) dX7_fitsBehindBidder_27
      · have hf := o_f h3 hf
        refine lv_iconst (v := 1) hx hb dX7_fitsBehindBidder_22 (by decide) ?_
        refine lv_goto (tgt := 27) hx hb dX7_fitsBehindBidder_23 (by decide) ?_
        exact r_rz F hQ (by decide) (Option.some.inj hf) dX7_fitsBehindBidder_27
  · have hf := o_t h1 hf
    refine lv_iload_n hx hb dX7_fitsBehindBidder_6 rfl (lv_at hl 1 rfl) ?_
    refine lv_iconst (v := 5) hx hb dX7_fitsBehindBidder_7 (by decide) ?_
    refine lv_icmp_lt (tgt := 22) hx hb dX7_fitsBehindBidder_8 (by decide) (fun h4 => ?_) (fun h4 => ?_)
    · have hf := o_t h4 hf
      refine lv_iconst (v := 1) hx hb dX7_fitsBehindBidder_22 (by decide) ?_
      refine lv_goto (tgt := 27) hx hb dX7_fitsBehindBidder_23 (by decide) ?_
      exact r_rz F hQ (by decide) (Option.some.inj hf) dX7_fitsBehindBidder_27
    · have hf := o_f h4 hf
      refine lv_iload_n hx hb dX7_fitsBehindBidder_11 rfl (lv_at hl 0 rfl) ?_
      refine lv_bipush (v := 59) hx hb dX7_fitsBehindBidder_12 (by decide) ?_
      refine lv_icmp_ne (tgt := 26) hx hb dX7_fitsBehindBidder_14 (by decide) (fun h5 => ?_) (fun h5 => ?_)
      · have hf := o_f h5 hf
        refine lv_iconst (v := 0) hx hb dX7_fitsBehindBidder_26 (by decide) ?_
        exact r_rz F hQ (by decide) (Option.some.inj hf) dX7_fitsBehindBidder_27
      · have hf := o_t h5 hf
        refine lv_iload_n hx hb dX7_fitsBehindBidder_17 rfl (lv_at hl 1 rfl) ?_
        refine lv_iconst (v := 2) hx hb dX7_fitsBehindBidder_18 (by decide) ?_
        refine lv_icmp_lt (tgt := 26) hx hb dX7_fitsBehindBidder_19 (by decide) (fun h6 => ?_) (fun h6 => ?_)
        · have hf := o_t h6 hf
          refine lv_iconst (v := 0) hx hb dX7_fitsBehindBidder_26 (by decide) ?_
          exact r_rz F hQ (by decide) (Option.some.inj hf) dX7_fitsBehindBidder_27
        · have hf := o_f h6 hf
          refine lv_iconst (v := 1) hx hb dX7_fitsBehindBidder_22 (by decide) ?_
          refine lv_goto (tgt := 27) hx hb dX7_fitsBehindBidder_23 (by decide) ?_
          exact r_rz F hQ (by decide) (Option.some.inj hf) dX7_fitsBehindBidder_27
def f_X7_isDigit (x0 : Int32) : Option (Int32) := (if x0 < 48 then (some 0) else (if 57 < x0 then (some 0) else (some 1)))
set_option maxRecDepth 100000 in
set_option maxHeartbeats 4000000 in
theorem c_X7_isDigit (l : Launch) (g : GG) (x0 : Int32) {r0 : Int32} (hf : f_X7_isDigit x0 = some r0) : MR l g yX7_isDigit cX7_isDigit 1 (some .boolean) 0 0 [.int x0] [] (some (.int r0)) := by
  refine MR.mk (by decide) (Nat.le_of_ble_eq_true rfl) ?_
  intro p e s m args below meth c ls Q F hK hP hl hQ
  have hx := F.1
  have hb := F.2.1
  have hml := F.2.2.2.1
  have hown := F.2.2.2.2.1
  have hts := F.2.2.2.2.2.1
  have hl : lv_has ls 1 [(0, .int x0)] := hl
  unfold f_X7_isDigit at hf
  refine lv_iload_n hx hb dX7_isDigit_0 rfl (lv_at hl 0 rfl) ?_
  refine lv_bipush (v := 48) hx hb dX7_isDigit_1 (by decide) ?_
  refine lv_icmp_lt (tgt := 16) hx hb dX7_isDigit_3 (by decide) (fun h1 => ?_) (fun h1 => ?_)
  · have hf := o_t h1 hf
    refine lv_iconst (v := 0) hx hb dX7_isDigit_16 (by decide) ?_
    exact r_rz F hQ (by decide) (Option.some.inj hf) dX7_isDigit_17
  · have hf := o_f h1 hf
    refine lv_iload_n hx hb dX7_isDigit_6 rfl (lv_at hl 0 rfl) ?_
    refine lv_bipush (v := 57) hx hb dX7_isDigit_7 (by decide) ?_
    refine lv_icmp_gt (tgt := 16) hx hb dX7_isDigit_9 (by decide) (fun h2 => ?_) (fun h2 => ?_)
    · have hf := o_t h2 hf
      refine lv_iconst (v := 0) hx hb dX7_isDigit_16 (by decide) ?_
      exact r_rz F hQ (by decide) (Option.some.inj hf) dX7_isDigit_17
    · have hf := o_f h2 hf
      refine lv_iconst (v := 1) hx hb dX7_isDigit_12 (by decide) ?_
      refine lv_goto (tgt := 17) hx hb dX7_isDigit_13 (by decide) ?_
      exact r_rz F hQ (by decide) (Option.some.inj hf) dX7_isDigit_17
def f_X8_weigh_9 (fuel : Nat) (v_breaths : Int32) (v_size : Int32) (y2 : Int32) (y1 : Int32) (w_v_weights : Nat → Int32) : Option (Int32 × Int32 × (Nat → Int32)) := match fuel with
  | 0 => none
  | k + 1 => (if y2 < 0 then (some (y2, y1, w_v_weights)) else (if y2 < 0 ∨ 5 ≤ Int32.toNatClampNeg y2 then none else (bnd (y1 * v_breaths) fun z4 => (bnd (y2 + (-1) : Int32) fun z5 => (f_X8_weigh_9 k v_breaths v_size z5 z4 (upd w_v_weights (Int32.toNatClampNeg y2) y1))))))
def f_X8_weigh (v_breaths : Int32) (v_size : Int32) (v_weights : Nat → Int32) : Option (Int32 × (Nat → Int32)) := (bnd (v_size - 1) fun z1 => ((f_X8_weigh_9 4096 v_breaths v_size z1 1 v_weights).bind fun q6 => (some ((if (1024 : Int32) < q6.2.1 then 1024 else q6.2.1), q6.2.2))))
set_option maxRecDepth 100000 in
set_option maxHeartbeats 4000000 in
theorem c_X8_weigh (l : Launch) (g : GG) (a_this : Nat) (a_this_getters : Nat) (a_this_gains : Nat) (a_this_weights : Nat) (a_this_choices : Nat) (a_this_firstChoices : Nat) (v_size : Int32) (v_breaths : Int32) (v_howMany : Int32) (v_weights : Nat → Int32) {r0 : Int32} {r1 : Nat → Int32} (hf : f_X8_weigh v_breaths v_size v_weights = some (r0, r1)) : MD l g yX8_weigh cX8_weigh 3 (some .int) 1 21 [.ref a_this] [ob a_this 10 [.ref a_this_getters, .ref a_this_gains, .ref a_this_weights, .ref a_this_choices, .ref a_this_firstChoices, .int v_size, .int v_breaths, .int v_howMany], ia g a_this_weights 5 v_weights] (some (.int r0)) [ob a_this 10 [.ref a_this_getters, .ref a_this_gains, .ref a_this_weights, .ref a_this_choices, .ref a_this_firstChoices, .int v_size, .int v_breaths, .int v_howMany], ia g a_this_weights 5 r1] := by
  refine MC.mk (by decide) (Nat.le_of_ble_eq_true rfl) ?_
  intro p e s m args below meth c ls Q A F hnm hK hw hA hl hQ
  have hP := hw.1
  have hx := F.1
  have hb := F.2.1
  have hml := F.2.2.2.1
  have hown := F.2.2.2.2.1
  have hts := F.2.2.2.2.2.1
  have hl : lv_has ls 3 [(0, .ref a_this)] := hl
  have L9 : ∀ (k : Nat) (y2 : Int32) (y1 : Int32) (w_v_weights : Nat → Int32) (q : Int32 × Int32 × (Nat → Int32)), f_X8_weigh_9 k v_breaths v_size y2 y1 w_v_weights = some q → ∀ (H : Heap) (locs : List Loc) (ls : Array Slot), WD g A s.heap [ob a_this 10 [.ref a_this_getters, .ref a_this_gains, .ref a_this_weights, .ref a_this_choices, .ref a_this_firstChoices, .int v_size, .int v_breaths, .int v_howMany], ia g a_this_weights 5 w_v_weights] H locs → lv_has ls 3 [(2, .int y2), (1, .int y1), (0, .ref a_this)] → (∀ (H : Heap) (locs : List Loc) (ls : Array Slot), WD g A s.heap [ob a_this 10 [.ref a_this_getters, .ref a_this_gains, .ref a_this_weights, .ref a_this_choices, .ref a_this_firstChoices, .int v_size, .int v_breaths, .int v_howMany], ia g a_this_weights 5 q.2.2] H locs → lv_has ls 3 [(2, .int q.1), (1, .int q.2.1), (0, .ref a_this)] → W p l e (rmc 1 0 0 21) s m args below meth c H locs 0 0 Q (F0 m 33 ls [])) → W p l e (rmc 1 0 0 21) s m args below meth c H locs 0 0 Q (F0 m 9 ls []) := by
    intro k
    induction k with
    | zero => intro y2 y1 w_v_weights q hf; rw [f_X8_weigh_9] at hf; cases hf
    | succ k ih =>
      intro y2 y1 w_v_weights q hf H locs ls hw hl kx
      rw [f_X8_weigh_9] at hf
      have hP := hw.1
      refine lv_iload_n hx hb dX8_weigh_9 rfl (lv_at hl 0 rfl) ?_
      refine lv_if_lt (tgt := 33) hx hb dX8_weigh_10 (by decide) (fun h2 => ?_) (fun h2 => ?_)
      · have hf := o_t h2 hf
        cases hf
        exact kx _ _ ls hw (lv_sub hl [0, 1, 2] rfl)
      · have hf := o_f h2 hf
        refine lv_aload_n hx hb dX8_weigh_13 rfl (lv_at hl 2 rfl) ?_
        refine w_get (ci := 10) F hK hP fb_X8 0 rfl rfl 2 (by decide) fl_X8_18 (fun _ h => h) rfl dX8_weigh_14 ?_
        refine lv_iload_n hx hb dX8_weigh_17 rfl (lv_at hl 0 rfl) ?_
        refine lv_iload_n hx hb dX8_weigh_18 rfl (lv_at hl 1 rfl) ?_
        obtain ⟨h3, hf⟩ := o_chk hf
        refine w_iast (ws' := [ob a_this 10 [.ref a_this_getters, .ref a_this_gains, .ref a_this_weights, .ref a_this_choices, .ref a_this_firstChoices, .int v_size, .int v_breaths, .int v_howMany], ia g a_this_weights 5 (upd w_v_weights (Int32.toNatClampNeg y2) y1)]) F hK hw 1 rfl h3 rfl dX8_weigh_19 (fun H locs hw => ?_)
        have hP := hw.1
        refine lv_iload_n hx hb dX8_weigh_20 rfl (lv_at hl 1 rfl) ?_
        refine lv_aload_n hx hb dX8_weigh_21 rfl (lv_at hl 2 rfl) ?_
        refine w_get (ci := 10) F hK hP fb_X8 0 rfl rfl 6 (by decide) fl_X8_40 (fun _ h => h) rfl dX8_weigh_22 ?_
        refine lv_imul hx hb dX8_weigh_25 ?_
        refine lv_topi (fun z4 ez4 => ?_)
        have hf := o_bnd ez4 hf
        refine lv_istore_n (lv' := [(1, .int z4), (2, .int y2), (0, .ref a_this)]) hx hb dX8_weigh_26 rfl hl (by decide) rfl (fun ls hl => ?_)
        obtain ⟨z5, ez5⟩ : ∃ y : Int32, y = y2 + (-1) := ⟨_, rfl⟩
        have hf := o_bnd ez5 hf
        refine lv_iinc (v := z5) (lv' := [(2, .int z5), (1, .int z4), (0, .ref a_this)]) hx hb dX8_weigh_27 hl (k := 1) rfl (by rw [ez5]; rfl) (by decide) rfl (fun ls hl => ?_)
        refine lv_goto (tgt := 9) hx hb dX8_weigh_30 (by decide) ?_
        exact ih z5 z4 (upd w_v_weights (Int32.toNatClampNeg y2) y1) _ hf _ _ ls hw (lv_sub hl [0, 1, 2] rfl) kx
  unfold f_X8_weigh at hf
  refine lv_iconst (v := 1) hx hb dX8_weigh_0 (by decide) ?_
  refine lv_istore_n (lv' := [(1, .int 1), (0, .ref a_this)]) hx hb dX8_weigh_1 rfl hl (by decide) rfl (fun ls hl => ?_)
  refine lv_aload_n hx hb dX8_weigh_2 rfl (lv_at hl 1 rfl) ?_
  refine w_get (ci := 10) F hK hP fb_X8 0 rfl rfl 5 (by decide) fl_X8_39 (fun _ h => h) rfl dX8_weigh_3 ?_
  refine lv_iconst (v := 1) hx hb dX8_weigh_6 (by decide) ?_
  refine lv_isub hx hb dX8_weigh_7 ?_
  refine lv_topi (fun z1 ez1 => ?_)
  have hf := o_bnd ez1 hf
  refine lv_istore_n (lv' := [(2, .int z1), (1, .int 1), (0, .ref a_this)]) hx hb dX8_weigh_8 rfl hl (by decide) rfl (fun ls hl => ?_)
  obtain ⟨q6, hq6, hf⟩ := o_bind hf
  refine L9 _ z1 1 v_weights _ hq6 _ _ ls hw (lv_sub hl [0, 1, 2] rfl) (fun H locs ls hw hl => ?_)
  have hP := hw.1
  refine lv_iload_n hx hb dX8_weigh_33 rfl (lv_at hl 1 rfl) ?_
  refine lv_sipush (v := 1024) hx hb dX8_weigh_34 (by decide) ?_
  refine va_mmin hx hb (hml.trans hl.1.symm) hown (hts _ ml_X8_67) (hts _ mm_st_min) (hts _ mm_in) (hts _ mm_co_min) (Nat.le_of_ble_eq_true rfl) (Nat.le_of_ble_eq_true rfl) (Nat.le_of_ble_eq_true rfl) (Nat.le_of_ble_eq_true rfl) dX8_weigh_37 ?_
  cases hf
  exact r_ci F hQ ⟨rfl, rfl⟩ hw dX8_weigh_40
def f_X8_chooseFirst_2 (fuel : Nat) (v_size : Int32) (y1 : Int32) (w_v_choices : Nat → Int32) : Option (Int32 × (Nat → Int32)) := match fuel with
  | 0 => none
  | k + 1 => (if v_size ≤ y1 then (some (y1, w_v_choices)) else (if y1 < 0 ∨ 5 ≤ Int32.toNatClampNeg y1 then none else (bnd (y1 + 1 : Int32) fun z3 => (f_X8_chooseFirst_2 k v_size z3 (upd w_v_choices (Int32.toNatClampNeg y1) 1)))))
def f_X8_chooseFirst (v_choices : Nat → Int32) (v_size : Int32) : Option ((Nat → Int32)) := ((f_X8_chooseFirst_2 4096 v_size 0 v_choices).bind fun q4 => (some q4.2))
set_option maxRecDepth 100000 in
set_option maxHeartbeats 4000000 in
theorem c_X8_chooseFirst (l : Launch) (g : GG) (a_this : Nat) (a_this_getters : Nat) (a_this_gains : Nat) (a_this_weights : Nat) (a_this_choices : Nat) (a_this_firstChoices : Nat) (v_size : Int32) (v_breaths : Int32) (v_howMany : Int32) (v_choices : Nat → Int32) {r0 : Nat → Int32} (hf : f_X8_chooseFirst v_choices v_size = some r0) : MD l g yX8_chooseFirst cX8_chooseFirst 2 none 0 0 [.ref a_this] [ob a_this 10 [.ref a_this_getters, .ref a_this_gains, .ref a_this_weights, .ref a_this_choices, .ref a_this_firstChoices, .int v_size, .int v_breaths, .int v_howMany], ia g a_this_choices 5 v_choices] none [ob a_this 10 [.ref a_this_getters, .ref a_this_gains, .ref a_this_weights, .ref a_this_choices, .ref a_this_firstChoices, .int v_size, .int v_breaths, .int v_howMany], ia g a_this_choices 5 r0] := by
  refine MC.mk (by decide) (Nat.le_of_ble_eq_true rfl) ?_
  intro p e s m args below meth c ls Q A F hnm hK hw hA hl hQ
  have hP := hw.1
  have hx := F.1
  have hb := F.2.1
  have hml := F.2.2.2.1
  have hown := F.2.2.2.2.1
  have hts := F.2.2.2.2.2.1
  have hl : lv_has ls 2 [(0, .ref a_this)] := hl
  have L2 : ∀ (k : Nat) (y1 : Int32) (w_v_choices : Nat → Int32) (q : Int32 × (Nat → Int32)), f_X8_chooseFirst_2 k v_size y1 w_v_choices = some q → ∀ (H : Heap) (locs : List Loc) (ls : Array Slot), WD g A s.heap [ob a_this 10 [.ref a_this_getters, .ref a_this_gains, .ref a_this_weights, .ref a_this_choices, .ref a_this_firstChoices, .int v_size, .int v_breaths, .int v_howMany], ia g a_this_choices 5 w_v_choices] H locs → lv_has ls 2 [(1, .int y1), (0, .ref a_this)] → (∀ (H : Heap) (locs : List Loc) (ls : Array Slot), WD g A s.heap [ob a_this 10 [.ref a_this_getters, .ref a_this_gains, .ref a_this_weights, .ref a_this_choices, .ref a_this_firstChoices, .int v_size, .int v_breaths, .int v_howMany], ia g a_this_choices 5 q.2] H locs → lv_has ls 2 [(1, .int q.1), (0, .ref a_this)] → W p l e (rmc 0 0 0 0) s m args below meth c H locs 0 0 Q (F0 m 23 ls [])) → W p l e (rmc 0 0 0 0) s m args below meth c H locs 0 0 Q (F0 m 2 ls []) := by
    intro k
    induction k with
    | zero => intro y1 w_v_choices q hf; rw [f_X8_chooseFirst_2] at hf; cases hf
    | succ k ih =>
      intro y1 w_v_choices q hf H locs ls hw hl kx
      rw [f_X8_chooseFirst_2] at hf
      have hP := hw.1
      refine lv_iload_n hx hb dX8_chooseFirst_2 rfl (lv_at hl 0 rfl) ?_
      refine lv_aload_n hx hb dX8_chooseFirst_3 rfl (lv_at hl 1 rfl) ?_
      refine w_get (ci := 10) F hK hP fb_X8 0 rfl rfl 5 (by decide) fl_X8_39 (fun _ h => h) rfl dX8_chooseFirst_4 ?_
      refine lv_icmp_ge (tgt := 23) hx hb dX8_chooseFirst_7 (by decide) (fun h1 => ?_) (fun h1 => ?_)
      · have hf := o_t h1 hf
        cases hf
        exact kx _ _ ls hw (lv_sub hl [0, 1] rfl)
      · have hf := o_f h1 hf
        refine lv_aload_n hx hb dX8_chooseFirst_10 rfl (lv_at hl 1 rfl) ?_
        refine w_get (ci := 10) F hK hP fb_X8 0 rfl rfl 3 (by decide) fl_X8_21 (fun _ h => h) rfl dX8_chooseFirst_11 ?_
        refine lv_iload_n hx hb dX8_chooseFirst_14 rfl (lv_at hl 0 rfl) ?_
        refine lv_iconst (v := 1) hx hb dX8_chooseFirst_15 (by decide) ?_
        obtain ⟨h2, hf⟩ := o_chk hf
        refine w_iast (ws' := [ob a_this 10 [.ref a_this_getters, .ref a_this_gains, .ref a_this_weights, .ref a_this_choices, .ref a_this_firstChoices, .int v_size, .int v_breaths, .int v_howMany], ia g a_this_choices 5 (upd w_v_choices (Int32.toNatClampNeg y1) 1)]) F hK hw 1 rfl h2 rfl dX8_chooseFirst_16 (fun H locs hw => ?_)
        have hP := hw.1
        obtain ⟨z3, ez3⟩ : ∃ y : Int32, y = y1 + 1 := ⟨_, rfl⟩
        have hf := o_bnd ez3 hf
        refine lv_iinc (v := z3) (lv' := [(1, .int z3), (0, .ref a_this)]) hx hb dX8_chooseFirst_17 hl (k := 0) rfl (by rw [ez3]; rfl) (by decide) rfl (fun ls hl => ?_)
        refine lv_goto (tgt := 2) hx hb dX8_chooseFirst_20 (by decide) ?_
        exact ih z3 (upd w_v_choices (Int32.toNatClampNeg y1) 1) _ hf _ _ ls hw (lv_sub hl [0, 1] rfl) kx
  unfold f_X8_chooseFirst at hf
  refine lv_iconst (v := 0) hx hb dX8_chooseFirst_0 (by decide) ?_
  refine lv_istore_n (lv' := [(1, .int 0), (0, .ref a_this)]) hx hb dX8_chooseFirst_1 rfl hl (by decide) rfl (fun ls hl => ?_)
  obtain ⟨q4, hq4, hf⟩ := o_bind hf
  refine L2 _ 0 v_choices _ hq4 _ _ ls hw (lv_sub hl [0, 1] rfl) (fun H locs ls hw hl => ?_)
  have hP := hw.1
  cases hf
  exact r_cv F hQ ⟨rfl, rfl⟩ hw dX8_chooseFirst_23
def f_X8_chooseNext_7 (fuel : Nat) (v_breaths : Int32) (v_size : Int32) (y1 : Int32) (w_v_choices : Nat → Int32) : Option ((Nat → Int32)) := match fuel with
  | 0 => none
  | k + 1 => (if y1 < 0 then (some w_v_choices) else (if y1 < 0 ∨ 5 ≤ Int32.toNatClampNeg y1 then none else (if v_breaths ≤ (w_v_choices (Int32.toNatClampNeg y1)) then (bnd (y1 + (-1) : Int32) fun z5 => (f_X8_chooseNext_7 k v_breaths v_size z5 (upd w_v_choices (Int32.toNatClampNeg y1) 1))) else (some (upd w_v_choices (Int32.toNatClampNeg y1) ((w_v_choices (Int32.toNatClampNeg y1)) + 1))))))
def f_X8_chooseNext (v_breaths : Int32) (v_choices : Nat → Int32) (v_size : Int32) : Option ((Nat → Int32)) := (bnd (v_size - 1) fun z1 => (f_X8_chooseNext_7 4096 v_breaths v_size z1 v_choices))
set_option maxRecDepth 100000 in
set_option maxHeartbeats 4000000 in
theorem c_X8_chooseNext (l : Launch) (g : GG) (a_this : Nat) (a_this_getters : Nat) (a_this_gains : Nat) (a_this_weights : Nat) (a_this_choices : Nat) (a_this_firstChoices : Nat) (v_size : Int32) (v_breaths : Int32) (v_howMany : Int32) (v_choices : Nat → Int32) {r0 : Nat → Int32} (hf : f_X8_chooseNext v_breaths v_choices v_size = some r0) : MD l g yX8_chooseNext cX8_chooseNext 2 none 0 0 [.ref a_this] [ob a_this 10 [.ref a_this_getters, .ref a_this_gains, .ref a_this_weights, .ref a_this_choices, .ref a_this_firstChoices, .int v_size, .int v_breaths, .int v_howMany], ia g a_this_choices 5 v_choices] none [ob a_this 10 [.ref a_this_getters, .ref a_this_gains, .ref a_this_weights, .ref a_this_choices, .ref a_this_firstChoices, .int v_size, .int v_breaths, .int v_howMany], ia g a_this_choices 5 r0] := by
  refine MC.mk (by decide) (Nat.le_of_ble_eq_true rfl) ?_
  intro p e s m args below meth c ls Q A F hnm hK hw hA hl hQ
  have hP := hw.1
  have hx := F.1
  have hb := F.2.1
  have hml := F.2.2.2.1
  have hown := F.2.2.2.2.1
  have hts := F.2.2.2.2.2.1
  have hl : lv_has ls 2 [(0, .ref a_this)] := hl
  have L7 : ∀ (k : Nat) (y1 : Int32) (w_v_choices : Nat → Int32) (_q : Unit), f_X8_chooseNext_7 k v_breaths v_size y1 w_v_choices = some r0 → ∀ (H : Heap) (locs : List Loc) (ls : Array Slot), WD g A s.heap [ob a_this 10 [.ref a_this_getters, .ref a_this_gains, .ref a_this_weights, .ref a_this_choices, .ref a_this_firstChoices, .int v_size, .int v_breaths, .int v_howMany], ia g a_this_choices 5 w_v_choices] H locs → lv_has ls 2 [(1, .int y1), (0, .ref a_this)] → W p l e (rmc 0 0 0 0) s m args below meth c H locs 0 0 Q (F0 m 7 ls []) := by
    intro k
    induction k with
    | zero => intro y1 w_v_choices q hf; rw [f_X8_chooseNext_7] at hf; cases hf
    | succ k ih =>
      intro y1 w_v_choices q hf H locs ls hw hl
      rw [f_X8_chooseNext_7] at hf
      have hP := hw.1
      refine lv_iload_n hx hb dX8_chooseNext_7 rfl (lv_at hl 0 rfl) ?_
      refine lv_if_lt (tgt := 48) hx hb dX8_chooseNext_8 (by decide) (fun h2 => ?_) (fun h2 => ?_)
      · have hf := o_t h2 hf
        cases hf
        exact r_cv F hQ ⟨rfl, rfl⟩ hw dX8_chooseNext_48
      · have hf := o_f h2 hf
        refine lv_aload_n hx hb dX8_chooseNext_11 rfl (lv_at hl 1 rfl) ?_
        refine w_get (ci := 10) F hK hP fb_X8 0 rfl rfl 3 (by decide) fl_X8_21 (fun _ h => h) rfl dX8_chooseNext_12 ?_
        refine lv_iload_n hx hb dX8_chooseNext_15 rfl (lv_at hl 0 rfl) ?_
        obtain ⟨h3, hf⟩ := o_chk hf
        refine w_iald F hK hP 1 rfl h3 dX8_chooseNext_16 ?_
        refine lv_aload_n hx hb dX8_chooseNext_17 rfl (lv_at hl 1 rfl) ?_
        refine w_get (ci := 10) F hK hP fb_X8 0 rfl rfl 6 (by decide) fl_X8_40 (fun _ h => h) rfl dX8_chooseNext_18 ?_
        refine lv_icmp_ge (tgt := 35) hx hb dX8_chooseNext_21 (by decide) (fun h4 => ?_) (fun h4 => ?_)
        · have hf := o_t h4 hf
          refine lv_aload_n hx hb dX8_chooseNext_35 rfl (lv_at hl 1 rfl) ?_
          refine w_get (ci := 10) F hK hP fb_X8 0 rfl rfl 3 (by decide) fl_X8_21 (fun _ h => h) rfl dX8_chooseNext_36 ?_
          refine lv_iload_n hx hb dX8_chooseNext_39 rfl (lv_at hl 0 rfl) ?_
          refine lv_iconst (v := 1) hx hb dX8_chooseNext_40 (by decide) ?_
          refine w_iast (ws' := [ob a_this 10 [.ref a_this_getters, .ref a_this_gains, .ref a_this_weights, .ref a_this_choices, .ref a_this_firstChoices, .int v_size, .int v_breaths, .int v_howMany], ia g a_this_choices 5 (upd w_v_choices (Int32.toNatClampNeg y1) 1)]) F hK hw 1 rfl h3 rfl dX8_chooseNext_41 (fun H locs hw => ?_)
          have hP := hw.1
          obtain ⟨z5, ez5⟩ : ∃ y : Int32, y = y1 + (-1) := ⟨_, rfl⟩
          have hf := o_bnd ez5 hf
          refine lv_iinc (v := z5) (lv' := [(1, .int z5), (0, .ref a_this)]) hx hb dX8_chooseNext_42 hl (k := 0) rfl (by rw [ez5]; rfl) (by decide) rfl (fun ls hl => ?_)
          refine lv_goto (tgt := 7) hx hb dX8_chooseNext_45 (by decide) ?_
          exact ih z5 (upd w_v_choices (Int32.toNatClampNeg y1) 1) () hf _ _ ls hw (lv_sub hl [0, 1] rfl)
        · have hf := o_f h4 hf
          refine lv_aload_n hx hb dX8_chooseNext_24 rfl (lv_at hl 1 rfl) ?_
          refine w_get (ci := 10) F hK hP fb_X8 0 rfl rfl 3 (by decide) fl_X8_21 (fun _ h => h) rfl dX8_chooseNext_25 ?_
          refine lv_iload_n hx hb dX8_chooseNext_28 rfl (lv_at hl 0 rfl) ?_
          refine lv_dup2_11 hx hb dX8_chooseNext_29 rfl rfl ?_
          refine w_iald F hK hP 1 rfl h3 dX8_chooseNext_30 ?_
          refine lv_iconst (v := 1) hx hb dX8_chooseNext_31 (by decide) ?_
          refine lv_iadd hx hb dX8_chooseNext_32 ?_
          refine w_iast (ws' := [ob a_this 10 [.ref a_this_getters, .ref a_this_gains, .ref a_this_weights, .ref a_this_choices, .ref a_this_firstChoices, .int v_size, .int v_breaths, .int v_howMany], ia g a_this_choices 5 (upd w_v_choices (Int32.toNatClampNeg y1) ((w_v_choices (Int32.toNatClampNeg y1)) + 1))]) F hK hw 1 rfl h3 rfl dX8_chooseNext_33 (fun H locs hw => ?_)
          have hP := hw.1
          cases hf
          exact r_cv F hQ ⟨rfl, rfl⟩ hw dX8_chooseNext_34
  unfold f_X8_chooseNext at hf
  refine lv_aload_n hx hb dX8_chooseNext_0 rfl (lv_at hl 0 rfl) ?_
  refine w_get (ci := 10) F hK hP fb_X8 0 rfl rfl 5 (by decide) fl_X8_39 (fun _ h => h) rfl dX8_chooseNext_1 ?_
  refine lv_iconst (v := 1) hx hb dX8_chooseNext_4 (by decide) ?_
  refine lv_isub hx hb dX8_chooseNext_5 ?_
  refine lv_topi (fun z1 ez1 => ?_)
  have hf := o_bnd ez1 hf
  refine lv_istore_n (lv' := [(1, .int z1), (0, .ref a_this)]) hx hb dX8_chooseNext_6 rfl hl (by decide) rfl (fun ls hl => ?_)
  exact L7 _ z1 v_choices () hf _ _ ls hw (lv_sub hl [0, 1] rfl)
