def f_X11_touched_58 (fuel : Nat) (x1 : Int32) (b_K : Nat → Nat) (b_ch : Nat → Int32) (b_tc : Nat → Int32) (b_wd : Nat → Int32) (v_hall_size : Int32) (v_heard_bidders : Nat → Int32) (v_heard_breaths : Nat → Int32) (v_heard_size : Int32) (y4 : Int32) (y3 : Int32) (y2 : Int32) (w_v_course_ends : Nat → Int32) (w_v_course_getter : Int32) (w_v_course_silences : Nat → Int32) (w_v_course_stops : Nat → Int32) (w_v_course_touchers : Nat → Int32) : Option (Int32 × Int32 × Int32 × (Nat → Int32) × Int32 × (Nat → Int32) × (Nat → Int32) × (Nat → Int32)) := match fuel with
  | 0 => none
  | k + 1 => (if 25 ≤ y4 then (some (y4, y3, y2, w_v_course_ends, w_v_course_getter, w_v_course_silences, w_v_course_stops, w_v_course_touchers)) else ((f_X11_explainsHeard (y4 / 5) (y4 - y4 / 5 * 5) b_K b_ch b_tc b_wd w_v_course_ends w_v_course_getter w_v_course_silences w_v_course_stops w_v_course_touchers v_hall_size v_heard_bidders v_heard_breaths v_heard_size).bind fun q8 => (if q8.1 = 0 then (bnd (y4 + 1 : Int32) fun z10 => (f_X11_touched_58 k x1 b_K b_ch b_tc b_wd v_hall_size v_heard_bidders v_heard_breaths v_heard_size z10 y3 y2 q8.2.1 q8.2.2.1 q8.2.2.2.1 q8.2.2.2.2.1 q8.2.2.2.2.2)) else (bnd (y2 + 1 : Int32) fun z11 => (if y3 = (-2) then (bnd (y4 + 1 : Int32) fun z14 => (f_X11_touched_58 k x1 b_K b_ch b_tc b_wd v_hall_size v_heard_bidders v_heard_breaths v_heard_size z14 y4 z11 q8.2.1 q8.2.2.1 q8.2.2.2.1 q8.2.2.2.2.1 q8.2.2.2.2.2)) else (bnd (y4 + 1 : Int32) fun z13 => (f_X11_touched_58 k x1 b_K b_ch b_tc b_wd v_hall_size v_heard_bidders v_heard_breaths v_heard_size z13 y3 z11 q8.2.1 q8.2.2.1 q8.2.2.2.1 q8.2.2.2.2.1 q8.2.2.2.2.2)))))))
def f_X11_touched (x1 : Int32) (b_K : Nat → Nat) (b_ch : Nat → Int32) (b_tc : Nat → Int32) (b_wd : Nat → Int32) (v_course_ends : Nat → Int32) (v_course_getter : Int32) (v_course_silences : Nat → Int32) (v_course_stops : Nat → Int32) (v_course_touchers : Nat → Int32) (v_hall_size : Int32) (v_heard_bidders : Nat → Int32) (v_heard_breaths : Nat → Int32) (v_heard_size : Int32) : Option (Int32 × (Nat → Int32) × Int32 × (Nat → Int32) × (Nat → Int32) × (Nat → Int32)) := (if x1 < 0 then (some ((-102), v_course_ends, v_course_getter, v_course_silences, v_course_stops, v_course_touchers)) else (if x1 ≤ 1 then (if v_hall_size = 0 then (some ((-103), v_course_ends, v_course_getter, v_course_silences, v_course_stops, v_course_touchers)) else ((f_X2_runAsItIs b_K b_ch b_tc b_wd v_course_ends v_course_getter v_hall_size v_course_silences v_course_stops v_course_touchers).bind fun q4 => ((f_X5_agrees v_heard_bidders v_heard_breaths q4.2.2.1 v_heard_size).bind fun q5 => (if q5 = 0 then ((f_X11_touched_58 4096 x1 b_K b_ch b_tc b_wd v_hall_size v_heard_bidders v_heard_breaths v_heard_size 0 (-2) 0 q4.1 q4.2.1 q4.2.2.1 q4.2.2.2.1 q4.2.2.2.2).bind fun q15 => (if x1 = 0 then (some (q15.2.2.1, q15.2.2.2.1, q15.2.2.2.2.1, q15.2.2.2.2.2.1, q15.2.2.2.2.2.2.1, q15.2.2.2.2.2.2.2)) else (some (q15.2.1, q15.2.2.2.1, q15.2.2.2.2.1, q15.2.2.2.2.2.1, q15.2.2.2.2.2.2.1, q15.2.2.2.2.2.2.2)))) else ((f_X11_touched_58 4096 x1 b_K b_ch b_tc b_wd v_hall_size v_heard_bidders v_heard_breaths v_heard_size 0 (-1) 1 q4.1 q4.2.1 q4.2.2.1 q4.2.2.2.1 q4.2.2.2.2).bind fun q17 => (if x1 = 0 then (some (q17.2.2.1, q17.2.2.2.1, q17.2.2.2.2.1, q17.2.2.2.2.2.1, q17.2.2.2.2.2.2.1, q17.2.2.2.2.2.2.2)) else (some (q17.2.1, q17.2.2.2.1, q17.2.2.2.2.1, q17.2.2.2.2.2.1, q17.2.2.2.2.2.2.1, q17.2.2.2.2.2.2.2)))))))) else (some ((-102), v_course_ends, v_course_getter, v_course_silences, v_course_stops, v_course_touchers))))
set_option maxRecDepth 100000 in
set_option maxHeartbeats 4000000 in
theorem c_X11_touched (l : Launch) (g : GG) (a_this : Nat) (a_this_page : Nat) (a_this_hall : Nat) (a_this_course : Nat) (a_this_heard : Nat) (a_this_image : Nat) (a_this_rests : Nat) (a_this_course_ends : Nat) (a_this_course_touchers : Nat) (a_this_course_stops : Nat) (a_this_course_silences : Nat) (a_this_hall_seats : Nat) (a_this_heard_bidders : Nat) (a_this_heard_breaths : Nat) (sa : Nat → Nat) (x1 : Int32) (v_hallsRead : Int32) (v_restsDone : Int32) (v_course_getter : Int32) (v_course_ends : Nat → Int32) (v_course_silences : Nat → Int32) (v_course_stops : Nat → Int32) (v_course_touchers : Nat → Int32) (v_hall_size : Int32) (v_hall_fall : Int32) (v_heard_size : Int32) (v_heard_bidders : Nat → Int32) (v_heard_breaths : Nat → Int32) (b_K : Nat → Nat) (b_su : Nat → Int32) (b_wi : Nat → Int32) (b_wd : Nat → Int32) (b_ch : Nat → Int32) (b_tc : Nat → Int32) (hK5 : ∀ i, b_K i < 5) {r0 : Int32} {r1 : Nat → Int32} {r2 : Int32} {r3 : Nat → Int32} {r4 : Nat → Int32} {r5 : Nat → Int32} (hf : f_X11_touched x1 b_K b_ch b_tc b_wd v_course_ends v_course_getter v_course_silences v_course_stops v_course_touchers v_hall_size v_heard_bidders v_heard_breaths v_heard_size = some (r0, r1, r2, r3, r4, r5)) : MD l g yX11_touched cX11_touched 5 (some .int) 5 111 [.ref a_this, .int x1] ([ob a_this 11 [.ref a_this_page, .ref a_this_hall, .ref a_this_course, .ref a_this_heard, .ref a_this_image, .ref a_this_rests, .int v_hallsRead, .int v_restsDone], ob a_this_course 7 [.ref a_this_hall, .ref a_this_course_ends, .ref a_this_course_touchers, .ref a_this_course_stops, .ref a_this_course_silences, .int v_course_getter], ia g a_this_course_ends 5 v_course_ends, ia g a_this_course_silences 5 v_course_silences, ia g a_this_course_stops 5 v_course_stops, ia g a_this_course_touchers 5 v_course_touchers, ob a_this_hall 6 [.ref a_this_hall_seats, .int v_hall_size, .int v_hall_fall], ra g a_this_hall_seats 5 (fun i => some (sa i)), ob a_this_heard 8 [.ref a_this_heard_bidders, .ref a_this_heard_breaths, .int v_heard_size], ia g a_this_heard_bidders 8 v_heard_bidders, ia g a_this_heard_breaths 8 v_heard_breaths] ++ swl sa b_K b_su b_wi b_wd b_ch b_tc) (some (.int r0)) ([ob a_this 11 [.ref a_this_page, .ref a_this_hall, .ref a_this_course, .ref a_this_heard, .ref a_this_image, .ref a_this_rests, .int v_hallsRead, .int v_restsDone], ob a_this_course 7 [.ref a_this_hall, .ref a_this_course_ends, .ref a_this_course_touchers, .ref a_this_course_stops, .ref a_this_course_silences, .int r2], ia g a_this_course_ends 5 r1, ia g a_this_course_silences 5 r3, ia g a_this_course_stops 5 r4, ia g a_this_course_touchers 5 r5, ob a_this_hall 6 [.ref a_this_hall_seats, .int v_hall_size, .int v_hall_fall], ra g a_this_hall_seats 5 (fun i => some (sa i)), ob a_this_heard 8 [.ref a_this_heard_bidders, .ref a_this_heard_breaths, .int v_heard_size], ia g a_this_heard_bidders 8 v_heard_bidders, ia g a_this_heard_breaths 8 v_heard_breaths] ++ swl sa b_K b_su b_wi b_wd b_ch b_tc) := by
  refine MC.mk (by decide) (Nat.le_of_ble_eq_true rfl) ?_
  intro p e s m args below meth c ls Q A F hnm hK hw hA hl hQ
  have hP := hw.1
  have hx := F.1
  have hb := F.2.1
  have hml := F.2.2.2.1
  have hown := F.2.2.2.2.1
  have hts := F.2.2.2.2.2.1
  have hl : lv_has ls 5 [(0, .ref a_this), (1, .int x1)] := hl
  have L58 : ∀ (k : Nat) (y4 : Int32) (y3 : Int32) (y2 : Int32) (w_v_course_ends : Nat → Int32) (w_v_course_getter : Int32) (w_v_course_silences : Nat → Int32) (w_v_course_stops : Nat → Int32) (w_v_course_touchers : Nat → Int32) (q : Int32 × Int32 × Int32 × (Nat → Int32) × Int32 × (Nat → Int32) × (Nat → Int32) × (Nat → Int32)), f_X11_touched_58 k x1 b_K b_ch b_tc b_wd v_hall_size v_heard_bidders v_heard_breaths v_heard_size y4 y3 y2 w_v_course_ends w_v_course_getter w_v_course_silences w_v_course_stops w_v_course_touchers = some q → ∀ (H : Heap) (locs : List Loc) (ls : Array Slot), WD g A s.heap ([ob a_this 11 [.ref a_this_page, .ref a_this_hall, .ref a_this_course, .ref a_this_heard, .ref a_this_image, .ref a_this_rests, .int v_hallsRead, .int v_restsDone], ob a_this_course 7 [.ref a_this_hall, .ref a_this_course_ends, .ref a_this_course_touchers, .ref a_this_course_stops, .ref a_this_course_silences, .int w_v_course_getter], ia g a_this_course_ends 5 w_v_course_ends, ia g a_this_course_silences 5 w_v_course_silences, ia g a_this_course_stops 5 w_v_course_stops, ia g a_this_course_touchers 5 w_v_course_touchers, ob a_this_hall 6 [.ref a_this_hall_seats, .int v_hall_size, .int v_hall_fall], ra g a_this_hall_seats 5 (fun i => some (sa i)), ob a_this_heard 8 [.ref a_this_heard_bidders, .ref a_this_heard_breaths, .int v_heard_size], ia g a_this_heard_bidders 8 v_heard_bidders, ia g a_this_heard_breaths 8 v_heard_breaths] ++ swl sa b_K b_su b_wi b_wd b_ch b_tc) H locs → lv_has ls 5 [(4, .int y4), (3, .int y3), (2, .int y2), (0, .ref a_this), (1, .int x1)] → (∀ (H : Heap) (locs : List Loc) (ls : Array Slot), WD g A s.heap ([ob a_this 11 [.ref a_this_page, .ref a_this_hall, .ref a_this_course, .ref a_this_heard, .ref a_this_image, .ref a_this_rests, .int v_hallsRead, .int v_restsDone], ob a_this_course 7 [.ref a_this_hall, .ref a_this_course_ends, .ref a_this_course_touchers, .ref a_this_course_stops, .ref a_this_course_silences, .int q.2.2.2.2.1], ia g a_this_course_ends 5 q.2.2.2.1, ia g a_this_course_silences 5 q.2.2.2.2.2.1, ia g a_this_course_stops 5 q.2.2.2.2.2.2.1, ia g a_this_course_touchers 5 q.2.2.2.2.2.2.2, ob a_this_hall 6 [.ref a_this_hall_seats, .int v_hall_size, .int v_hall_fall], ra g a_this_hall_seats 5 (fun i => some (sa i)), ob a_this_heard 8 [.ref a_this_heard_bidders, .ref a_this_heard_breaths, .int v_heard_size], ia g a_this_heard_bidders 8 v_heard_bidders, ia g a_this_heard_breaths 8 v_heard_breaths] ++ swl sa b_K b_su b_wi b_wd b_ch b_tc) H locs → lv_has ls 5 [(4, .int q.1), (3, .int q.2.1), (2, .int q.2.2.1), (0, .ref a_this), (1, .int x1)] → W p l e (rmc 5 0 0 111) s m args below meth c H locs 0 0 Q (F0 m 102 ls [])) → W p l e (rmc 5 0 0 111) s m args below meth c H locs 0 0 Q (F0 m 58 ls []) := by
    intro k
    induction k with
    | zero => intro y4 y3 y2 w_v_course_ends w_v_course_getter w_v_course_silences w_v_course_stops w_v_course_touchers q hf; rw [f_X11_touched_58] at hf; cases hf
    | succ k ih =>
      intro y4 y3 y2 w_v_course_ends w_v_course_getter w_v_course_silences w_v_course_stops w_v_course_touchers q hf H locs ls hw hl kx
      rw [f_X11_touched_58] at hf
      have hP := hw.1
      refine lv_iload hx hb dX11_touched_58 (lv_at hl 0 rfl) ?_
      refine lv_bipush (v := 25) hx hb dX11_touched_60 (by decide) ?_
      refine lv_icmp_ge (tgt := 102) hx hb dX11_touched_62 (by decide) (fun h7 => ?_) (fun h7 => ?_)
      · have hf := o_t h7 hf
        cases hf
        exact kx _ _ ls hw (lv_sub hl [0, 1, 2, 3, 4] rfl)
      · have hf := o_f h7 hf
        refine lv_aload_n hx hb dX11_touched_65 rfl (lv_at hl 3 rfl) ?_
        refine lv_iload hx hb dX11_touched_66 (lv_at hl 0 rfl) ?_
        refine lv_iconst (v := 5) hx hb dX11_touched_68 (by decide) ?_
        refine lv_idiv hx hb dX11_touched_69 (by decide) ?_
        refine lv_iload hx hb dX11_touched_70 (lv_at hl 0 rfl) ?_
        refine lv_iconst (v := 5) hx hb dX11_touched_72 (by decide) ?_
        refine lv_irem hx hb dX11_touched_73 (by decide) ?_
        obtain ⟨q8, hq8, hf⟩ := o_bind hf
        refine k_dV (wr := []) (ws' := ([ob a_this 11 [.ref a_this_page, .ref a_this_hall, .ref a_this_course, .ref a_this_heard, .ref a_this_image, .ref a_this_rests, .int v_hallsRead, .int v_restsDone], ob a_this_course 7 [.ref a_this_hall, .ref a_this_course_ends, .ref a_this_course_touchers, .ref a_this_course_stops, .ref a_this_course_silences, .int q8.2.2.1], ia g a_this_course_ends 5 q8.2.1, ia g a_this_course_silences 5 q8.2.2.2.1, ia g a_this_course_stops 5 q8.2.2.2.2.1, ia g a_this_course_touchers 5 q8.2.2.2.2.2, ob a_this_hall 6 [.ref a_this_hall_seats, .int v_hall_size, .int v_hall_fall], ra g a_this_hall_seats 5 (fun i => some (sa i)), ob a_this_heard 8 [.ref a_this_heard_bidders, .ref a_this_heard_breaths, .int v_heard_size], ia g a_this_heard_bidders 8 v_heard_bidders, ia g a_this_heard_breaths 8 v_heard_breaths] ++ swl sa b_K b_su b_wi b_wd b_ch b_tc)) F (c_X11_explainsHeard l g a_this a_this_page a_this_hall a_this_course a_this_heard a_this_image a_this_rests a_this_course_ends a_this_course_touchers a_this_course_stops a_this_course_silences a_this_hall_seats a_this_heard_bidders a_this_heard_breaths sa (y4 / 5) (y4 - y4 / 5 * 5) v_hallsRead v_restsDone w_v_course_getter w_v_course_ends w_v_course_silences w_v_course_stops w_v_course_touchers v_hall_size v_hall_fall v_heard_size v_heard_bidders v_heard_breaths b_K b_su b_wi b_wd b_ch b_tc hK5 hq8) qv_X11_explainsHeard ml_X11_183 hw hA hK [0, 1, 2, 3, 4, 5, 6, 7, 8, 9, 10, 11, 12, 13, 14, 15] [] [0, 1, 2, 3, 4, 5, 6, 7, 8, 9, 10, 11, 12, 13, 14, 15] rfl rfl rfl rfl rfl (by decide) rfl rfl rfl (va_recv hK.1 hP (ci := 11) (q0 := 0) rfl rfl) rfl hl.1 rfl (Nat.le_of_ble_eq_true rfl) dX11_touched_74 ⟨(Nat.le_of_ble_eq_true rfl), (Nat.le_of_ble_eq_true rfl)⟩ ⟨(Nat.le_of_ble_eq_true rfl), (Nat.le_of_ble_eq_true rfl)⟩ (fun H locs hw => ?_)
        have hP := hw.1
        refine W.eq (g2 := F0 m 77 ls (.int q8.1 :: [])) rfl ?_
        refine lv_if_eq (tgt := 96) hx hb dX11_touched_77 (by decide) (fun h9 => ?_) (fun h9 => ?_)
        · have hf := o_t h9 hf
          obtain ⟨z10, ez10⟩ : ∃ y : Int32, y = y4 + 1 := ⟨_, rfl⟩
          have hf := o_bnd ez10 hf
          refine lv_iinc (v := z10) (lv' := [(4, .int z10), (3, .int y3), (2, .int y2), (0, .ref a_this), (1, .int x1)]) hx hb dX11_touched_96 hl (k := 0) rfl (by rw [ez10]; rfl) (by decide) rfl (fun ls hl => ?_)
          refine lv_goto (tgt := 58) hx hb dX11_touched_99 (by decide) ?_
          exact ih z10 y3 y2 q8.2.1 q8.2.2.1 q8.2.2.2.1 q8.2.2.2.2.1 q8.2.2.2.2.2 _ hf _ _ ls hw (lv_sub hl [0, 1, 2, 3, 4] rfl) kx
        · have hf := o_f h9 hf
          obtain ⟨z11, ez11⟩ : ∃ y : Int32, y = y2 + 1 := ⟨_, rfl⟩
          have hf := o_bnd ez11 hf
          refine lv_iinc (v := z11) (lv' := [(2, .int z11), (4, .int y4), (3, .int y3), (0, .ref a_this), (1, .int x1)]) hx hb dX11_touched_80 hl (k := 2) rfl (by rw [ez11]; rfl) (by decide) rfl (fun ls hl => ?_)
          refine lv_iload_n hx hb dX11_touched_83 rfl (lv_at hl 2 rfl) ?_
          refine lv_bipush (v := (-2)) hx hb dX11_touched_84 (by decide) ?_
          refine lv_icmp_ne (tgt := 94) hx hb dX11_touched_86 (by decide) (fun h12 => ?_) (fun h12 => ?_)
          · have hf := o_f h12 hf
            refine lv_iload_n hx hb dX11_touched_94 rfl (lv_at hl 2 rfl) ?_
            refine lv_istore_n (lv' := [(3, .int y3), (2, .int z11), (4, .int y4), (0, .ref a_this), (1, .int x1)]) hx hb dX11_touched_95 rfl hl (by decide) rfl (fun ls hl => ?_)
            obtain ⟨z13, ez13⟩ : ∃ y : Int32, y = y4 + 1 := ⟨_, rfl⟩
            have hf := o_bnd ez13 hf
            refine lv_iinc (v := z13) (lv' := [(4, .int z13), (3, .int y3), (2, .int z11), (0, .ref a_this), (1, .int x1)]) hx hb dX11_touched_96 hl (k := 2) rfl (by rw [ez13]; rfl) (by decide) rfl (fun ls hl => ?_)
            refine lv_goto (tgt := 58) hx hb dX11_touched_99 (by decide) ?_
            exact ih z13 y3 z11 q8.2.1 q8.2.2.1 q8.2.2.2.1 q8.2.2.2.2.1 q8.2.2.2.2.2 _ hf _ _ ls hw (lv_sub hl [0, 1, 2, 3, 4] rfl) kx
          · have hf := o_t h12 hf
            refine lv_iload hx hb dX11_touched_89 (lv_at hl 1 rfl) ?_
            refine lv_goto (tgt := 95) hx hb dX11_touched_91 (by decide) ?_
            refine lv_istore_n (lv' := [(3, .int y4), (2, .int z11), (4, .int y4), (0, .ref a_this), (1, .int x1)]) hx hb dX11_touched_95 rfl hl (by decide) rfl (fun ls hl => ?_)
            obtain ⟨z14, ez14⟩ : ∃ y : Int32, y = y4 + 1 := ⟨_, rfl⟩
            have hf := o_bnd ez14 hf
            refine lv_iinc (v := z14) (lv' := [(4, .int z14), (3, .int y4), (2, .int z11), (0, .ref a_this), (1, .int x1)]) hx hb dX11_touched_96 hl (k := 2) rfl (by rw [ez14]; rfl) (by decide) rfl (fun ls hl => ?_)
            refine lv_goto (tgt := 58) hx hb dX11_touched_99 (by decide) ?_
            exact ih z14 y4 z11 q8.2.1 q8.2.2.1 q8.2.2.2.1 q8.2.2.2.2.1 q8.2.2.2.2.2 _ hf _ _ ls hw (lv_sub hl [0, 1, 2, 3, 4] rfl) kx
  unfold f_X11_touched at hf
  refine lv_iload_n hx hb dX11_touched_0 rfl (lv_at hl 1 rfl) ?_
  refine lv_if_lt (tgt := 9) hx hb dX11_touched_1 (by decide) (fun h1 => ?_) (fun h1 => ?_)
  · have hf := o_t h1 hf
    refine lv_bipush (v := (-102)) hx hb dX11_touched_9 (by decide) ?_
    cases hf
    exact r_ci F hQ ⟨rfl, rfl⟩ hw dX11_touched_11
  · have hf := o_f h1 hf
    refine lv_iload_n hx hb dX11_touched_4 rfl (lv_at hl 1 rfl) ?_
    refine lv_iconst (v := 1) hx hb dX11_touched_5 (by decide) ?_
    refine lv_icmp_le (tgt := 12) hx hb dX11_touched_6 (by decide) (fun h2 => ?_) (fun h2 => ?_)
    · have hf := o_t h2 hf
      refine lv_aload_n hx hb dX11_touched_12 rfl (lv_at hl 0 rfl) ?_
      refine w_get (ci := 11) F hK hP fb_X11 0 rfl rfl 1 (by decide) fl_X11_27 (fun _ h => h) rfl dX11_touched_13 ?_
      refine w_get (ci := 6) F hK hP fb_X4 6 rfl rfl 1 (by decide) fl_X11_78 (fun _ h => h) rfl dX11_touched_16 ?_
      refine lv_if_ne (tgt := 25) hx hb dX11_touched_19 (by decide) (fun h3 => ?_) (fun h3 => ?_)
      · have hf := o_f h3 hf
        refine lv_iconst (v := 0) hx hb dX11_touched_25 (by decide) ?_
        refine lv_istore_n (lv' := [(2, .int 0), (0, .ref a_this), (1, .int x1)]) hx hb dX11_touched_26 rfl hl (by decide) rfl (fun ls hl => ?_)
        refine lv_bipush (v := (-2)) hx hb dX11_touched_27 (by decide) ?_
        refine lv_istore_n (lv' := [(3, .int (-2)), (2, .int 0), (0, .ref a_this), (1, .int x1)]) hx hb dX11_touched_29 rfl hl (by decide) rfl (fun ls hl => ?_)
        refine lv_aload_n hx hb dX11_touched_30 rfl (lv_at hl 2 rfl) ?_
        refine w_get (ci := 11) F hK hP fb_X11 0 rfl rfl 2 (by decide) fl_X11_19 (fun _ h => h) rfl dX11_touched_31 ?_
        obtain ⟨q4, hq4, hf⟩ := o_bind hf
        refine k_dV (wr := [ob a_this 11 [.ref a_this_page, .ref a_this_hall, .ref a_this_course, .ref a_this_heard, .ref a_this_image, .ref a_this_rests, .int v_hallsRead, .int v_restsDone], ob a_this_heard 8 [.ref a_this_heard_bidders, .ref a_this_heard_breaths, .int v_heard_size], ia g a_this_heard_bidders 8 v_heard_bidders, ia g a_this_heard_breaths 8 v_heard_breaths]) (ws' := ([ob a_this 11 [.ref a_this_page, .ref a_this_hall, .ref a_this_course, .ref a_this_heard, .ref a_this_image, .ref a_this_rests, .int v_hallsRead, .int v_restsDone], ob a_this_course 7 [.ref a_this_hall, .ref a_this_course_ends, .ref a_this_course_touchers, .ref a_this_course_stops, .ref a_this_course_silences, .int q4.2.1], ia g a_this_course_ends 5 q4.1, ia g a_this_course_silences 5 q4.2.2.1, ia g a_this_course_stops 5 q4.2.2.2.1, ia g a_this_course_touchers 5 q4.2.2.2.2, ob a_this_hall 6 [.ref a_this_hall_seats, .int v_hall_size, .int v_hall_fall], ra g a_this_hall_seats 5 (fun i => some (sa i)), ob a_this_heard 8 [.ref a_this_heard_bidders, .ref a_this_heard_breaths, .int v_heard_size], ia g a_this_heard_bidders 8 v_heard_bidders, ia g a_this_heard_breaths 8 v_heard_breaths] ++ swl sa b_K b_su b_wi b_wd b_ch b_tc)) F (c_X2_runAsItIs l g a_this_course a_this_hall a_this_course_ends a_this_course_touchers a_this_course_stops a_this_course_silences a_this_hall_seats sa v_course_getter v_course_ends v_hall_size v_hall_fall v_course_silences v_course_stops v_course_touchers b_K b_su b_wi b_wd b_ch b_tc hK5 hq4) qv_X2_runAsItIs ml_X11_85 hw hA hK [1, 2, 6, 7, 3, 4, 5, 11, 12, 13, 14, 15] [0, 8, 9, 10] [0, 4, 5, 8, 9, 10, 6, 7, 1, 2, 3, 11, 12, 13, 14, 15] rfl rfl rfl rfl rfl (by decide) rfl rfl rfl (va_recv hK.1 hP (ci := 7) (q0 := 1) rfl rfl) rfl hl.1 rfl (Nat.le_of_ble_eq_true rfl) dX11_touched_34 ⟨(Nat.le_of_ble_eq_true rfl), (Nat.le_of_ble_eq_true rfl)⟩ ⟨(Nat.le_of_ble_eq_true rfl), (Nat.le_of_ble_eq_true rfl)⟩ (fun H locs hw => ?_)
        have hP := hw.1
        refine W.eq (g2 := F0 m 37 ls ([])) rfl ?_
        refine lv_aload_n hx hb dX11_touched_37 rfl (lv_at hl 2 rfl) ?_
        refine w_get (ci := 11) F hK hP fb_X11 0 rfl rfl 3 (by decide) fl_X11_31 (fun _ h => h) rfl dX11_touched_38 ?_
        refine lv_aload_n hx hb dX11_touched_41 rfl (lv_at hl 2 rfl) ?_
        refine w_get (ci := 11) F hK hP fb_X11 0 rfl rfl 2 (by decide) fl_X11_19 (fun _ h => h) rfl dX11_touched_42 ?_
        obtain ⟨q5, hq5, hf⟩ := o_bind hf
        refine k_rV F (c_X5_agrees l g a_this_heard a_this_course a_this_hall a_this_course_ends a_this_course_touchers a_this_course_stops a_this_course_silences a_this_heard_bidders a_this_heard_breaths q4.2.1 q4.2.2.1 v_heard_size v_heard_bidders v_heard_breaths hq5) qv_X5_agrees ml_X11_179 (hP.sub [1, 3, 8, 9, 10] rfl) hK (va_recv hK.1 hP (ci := 8) (q0 := 8) rfl rfl) rfl hl.1 rfl (Nat.le_of_ble_eq_true rfl) dX11_touched_45 ⟨(Nat.le_of_ble_eq_true rfl), (Nat.le_of_ble_eq_true rfl)⟩ ⟨(Nat.le_of_ble_eq_true rfl), (Nat.le_of_ble_eq_true rfl)⟩ ?_
        refine W.eq (g2 := F0 m 48 ls (.int q5 :: [])) rfl ?_
        refine lv_if_eq (tgt := 55) hx hb dX11_touched_48 (by decide) (fun h6 => ?_) (fun h6 => ?_)
        · have hf := o_t h6 hf
          refine lv_iconst (v := 0) hx hb dX11_touched_55 (by decide) ?_
          refine lv_istore (lv' := [(4, .int 0), (3, .int (-2)), (2, .int 0), (0, .ref a_this), (1, .int x1)]) hx hb dX11_touched_56 hl (by decide) rfl (fun ls hl => ?_)
          obtain ⟨q15, hq15, hf⟩ := o_bind hf
          refine L58 _ 0 (-2) 0 q4.1 q4.2.1 q4.2.2.1 q4.2.2.2.1 q4.2.2.2.2 _ hq15 _ _ ls hw (lv_sub hl [0, 1, 2, 3, 4] rfl) (fun H locs ls hw hl => ?_)
          have hP := hw.1
          refine lv_iload_n hx hb dX11_touched_102 rfl (lv_at hl 4 rfl) ?_
          refine lv_if_ne (tgt := 110) hx hb dX11_touched_103 (by decide) (fun h16 => ?_) (fun h16 => ?_)
          · have hf := o_f h16 hf
            refine lv_iload_n hx hb dX11_touched_110 rfl (lv_at hl 1 rfl) ?_
            cases hf
            exact r_ci F hQ ⟨rfl, rfl⟩ hw dX11_touched_111
          · have hf := o_t h16 hf
            refine lv_iload_n hx hb dX11_touched_106 rfl (lv_at hl 2 rfl) ?_
            refine lv_goto (tgt := 111) hx hb dX11_touched_107 (by decide) ?_
            cases hf
            exact r_ci F hQ ⟨rfl, rfl⟩ hw dX11_touched_111
        · have hf := o_f h6 hf
          refine lv_iconst (v := 1) hx hb dX11_touched_51 (by decide) ?_
          refine lv_istore_n (lv' := [(2, .int 1), (3, .int (-2)), (0, .ref a_this), (1, .int x1)]) hx hb dX11_touched_52 rfl hl (by decide) rfl (fun ls hl => ?_)
          refine lv_iconst (v := (-1)) hx hb dX11_touched_53 (by decide) ?_
          refine lv_istore_n (lv' := [(3, .int (-1)), (2, .int 1), (0, .ref a_this), (1, .int x1)]) hx hb dX11_touched_54 rfl hl (by decide) rfl (fun ls hl => ?_)
          refine lv_iconst (v := 0) hx hb dX11_touched_55 (by decide) ?_
          refine lv_istore (lv' := [(4, .int 0), (3, .int (-1)), (2, .int 1), (0, .ref a_this), (1, .int x1)]) hx hb dX11_touched_56 hl (by decide) rfl (fun ls hl => ?_)
          obtain ⟨q17, hq17, hf⟩ := o_bind hf
          refine L58 _ 0 (-1) 1 q4.1 q4.2.1 q4.2.2.1 q4.2.2.2.1 q4.2.2.2.2 _ hq17 _ _ ls hw (lv_sub hl [0, 1, 2, 3, 4] rfl) (fun H locs ls hw hl => ?_)
          have hP := hw.1
          refine lv_iload_n hx hb dX11_touched_102 rfl (lv_at hl 4 rfl) ?_
          refine lv_if_ne (tgt := 110) hx hb dX11_touched_103 (by decide) (fun h18 => ?_) (fun h18 => ?_)
          · have hf := o_f h18 hf
            refine lv_iload_n hx hb dX11_touched_110 rfl (lv_at hl 1 rfl) ?_
            cases hf
            exact r_ci F hQ ⟨rfl, rfl⟩ hw dX11_touched_111
          · have hf := o_t h18 hf
            refine lv_iload_n hx hb dX11_touched_106 rfl (lv_at hl 2 rfl) ?_
            refine lv_goto (tgt := 111) hx hb dX11_touched_107 (by decide) ?_
            cases hf
            exact r_ci F hQ ⟨rfl, rfl⟩ hw dX11_touched_111
      · have hf := o_t h3 hf
        refine lv_bipush (v := (-103)) hx hb dX11_touched_22 (by decide) ?_
        cases hf
        exact r_ci F hQ ⟨rfl, rfl⟩ hw dX11_touched_24
    · have hf := o_f h2 hf
      refine lv_bipush (v := (-102)) hx hb dX11_touched_9 (by decide) ?_
      cases hf
      exact r_ci F hQ ⟨rfl, rfl⟩ hw dX11_touched_11
def f_X11_supposeDrawnChoices_4 (fuel : Nat) (x1 : Int32) (b_K : Nat → Nat) (b_wd : Nat → Int32) (v_hall_size : Int32) (y3 : Int32) (y2 : Int32) (w_v_course_ends : Nat → Int32) : Option (Int32 × Int32 × (Nat → Int32)) := match fuel with
  | 0 => none
  | k + 1 => (if v_hall_size ≤ y3 then (some (y3, y2, w_v_course_ends)) else (bnd (Int64.toInt32 (((1103515245 * (Int32.toInt64 y2)) + 12345) &&& 2147483647)) fun z2 => ((f_X2_supposeChoice y3 (1 + ((z2 / 65536) - (z2 / 65536) / 9 * 9)) b_K b_wd w_v_course_ends).bind fun q3 => (bnd (y3 + 1 : Int32) fun z4 => (f_X11_supposeDrawnChoices_4 k x1 b_K b_wd v_hall_size z4 z2 q3)))))
def f_X11_supposeDrawnChoices (x1 : Int32) (b_K : Nat → Nat) (b_wd : Nat → Int32) (v_course_ends : Nat → Int32) (v_hall_size : Int32) : Option (Int32 × (Nat → Int32)) := ((f_X11_supposeDrawnChoices_4 4096 x1 b_K b_wd v_hall_size 0 x1 v_course_ends).bind fun q5 => (some (q5.2.1, q5.2.2)))
set_option maxRecDepth 100000 in
set_option maxHeartbeats 4000000 in
theorem c_X11_supposeDrawnChoices (l : Launch) (g : GG) (a_this : Nat) (a_this_page : Nat) (a_this_hall : Nat) (a_this_course : Nat) (a_this_heard : Nat) (a_this_image : Nat) (a_this_rests : Nat) (a_this_course_ends : Nat) (a_this_course_touchers : Nat) (a_this_course_stops : Nat) (a_this_course_silences : Nat) (a_this_hall_seats : Nat) (sa : Nat → Nat) (x1 : Int32) (v_hallsRead : Int32) (v_restsDone : Int32) (v_course_getter : Int32) (v_course_ends : Nat → Int32) (v_hall_size : Int32) (v_hall_fall : Int32) (b_K : Nat → Nat) (b_su : Nat → Int32) (b_wi : Nat → Int32) (b_wd : Nat → Int32) (b_ch : Nat → Int32) (b_tc : Nat → Int32) (hK5 : ∀ i, b_K i < 5) {r0 : Int32} {r1 : Nat → Int32} (hf : f_X11_supposeDrawnChoices x1 b_K b_wd v_course_ends v_hall_size = some (r0, r1)) : MD l g yX11_supposeDrawnChoices cX11_supposeDrawnChoices 4 (some .int) 3 67 [.ref a_this, .int x1] ([ob a_this 11 [.ref a_this_page, .ref a_this_hall, .ref a_this_course, .ref a_this_heard, .ref a_this_image, .ref a_this_rests, .int v_hallsRead, .int v_restsDone], ob a_this_course 7 [.ref a_this_hall, .ref a_this_course_ends, .ref a_this_course_touchers, .ref a_this_course_stops, .ref a_this_course_silences, .int v_course_getter], ia g a_this_course_ends 5 v_course_ends, ob a_this_hall 6 [.ref a_this_hall_seats, .int v_hall_size, .int v_hall_fall], ra g a_this_hall_seats 5 (fun i => some (sa i))] ++ swl sa b_K b_su b_wi b_wd b_ch b_tc) (some (.int r0)) ([ob a_this 11 [.ref a_this_page, .ref a_this_hall, .ref a_this_course, .ref a_this_heard, .ref a_this_image, .ref a_this_rests, .int v_hallsRead, .int v_restsDone], ob a_this_course 7 [.ref a_this_hall, .ref a_this_course_ends, .ref a_this_course_touchers, .ref a_this_course_stops, .ref a_this_course_silences, .int v_course_getter], ia g a_this_course_ends 5 r1, ob a_this_hall 6 [.ref a_this_hall_seats, .int v_hall_size, .int v_hall_fall], ra g a_this_hall_seats 5 (fun i => some (sa i))] ++ swl sa b_K b_su b_wi b_wd b_ch b_tc) := by
  refine MC.mk (by decide) (Nat.le_of_ble_eq_true rfl) ?_
  intro p e s m args below meth c ls Q A F hnm hK hw hA hl hQ
  have hP := hw.1
  have hx := F.1
  have hb := F.2.1
  have hml := F.2.2.2.1
  have hown := F.2.2.2.2.1
  have hts := F.2.2.2.2.2.1
  have hl : lv_has ls 4 [(0, .ref a_this), (1, .int x1)] := hl
  have L4 : ∀ (k : Nat) (y3 : Int32) (y2 : Int32) (w_v_course_ends : Nat → Int32) (q : Int32 × Int32 × (Nat → Int32)), f_X11_supposeDrawnChoices_4 k x1 b_K b_wd v_hall_size y3 y2 w_v_course_ends = some q → ∀ (H : Heap) (locs : List Loc) (ls : Array Slot), WD g A s.heap ([ob a_this 11 [.ref a_this_page, .ref a_this_hall, .ref a_this_course, .ref a_this_heard, .ref a_this_image, .ref a_this_rests, .int v_hallsRead, .int v_restsDone], ob a_this_course 7 [.ref a_this_hall, .ref a_this_course_ends, .ref a_this_course_touchers, .ref a_this_course_stops, .ref a_this_course_silences, .int v_course_getter], ia g a_this_course_ends 5 w_v_course_ends, ob a_this_hall 6 [.ref a_this_hall_seats, .int v_hall_size, .int v_hall_fall], ra g a_this_hall_seats 5 (fun i => some (sa i))] ++ swl sa b_K b_su b_wi b_wd b_ch b_tc) H locs → lv_has ls 4 [(3, .int y3), (2, .int y2), (0, .ref a_this)] → (∀ (H : Heap) (locs : List Loc) (ls : Array Slot), WD g A s.heap ([ob a_this 11 [.ref a_this_page, .ref a_this_hall, .ref a_this_course, .ref a_this_heard, .ref a_this_image, .ref a_this_rests, .int v_hallsRead, .int v_restsDone], ob a_this_course 7 [.ref a_this_hall, .ref a_this_course_ends, .ref a_this_course_touchers, .ref a_this_course_stops, .ref a_this_course_silences, .int v_course_getter], ia g a_this_course_ends 5 q.2.2, ob a_this_hall 6 [.ref a_this_hall_seats, .int v_hall_size, .int v_hall_fall], ra g a_this_hall_seats 5 (fun i => some (sa i))] ++ swl sa b_K b_su b_wi b_wd b_ch b_tc) H locs → lv_has ls 4 [(3, .int q.1), (2, .int q.2.1), (0, .ref a_this)] → W p l e (rmc 3 0 0 67) s m args below meth c H locs 0 0 Q (F0 m 54 ls [])) → W p l e (rmc 3 0 0 67) s m args below meth c H locs 0 0 Q (F0 m 4 ls []) := by
    intro k
    induction k with
    | zero => intro y3 y2 w_v_course_ends q hf; rw [f_X11_supposeDrawnChoices_4] at hf; cases hf
    | succ k ih =>
      intro y3 y2 w_v_course_ends q hf H locs ls hw hl kx
      rw [f_X11_supposeDrawnChoices_4] at hf
      have hP := hw.1
      refine lv_iload_n hx hb dX11_supposeDrawnChoices_4 rfl (lv_at hl 0 rfl) ?_
      refine lv_aload_n hx hb dX11_supposeDrawnChoices_5 rfl (lv_at hl 2 rfl) ?_
      refine w_get (ci := 11) F hK hP fb_X11 0 rfl rfl 1 (by decide) fl_X11_27 (fun _ h => h) rfl dX11_supposeDrawnChoices_6 ?_
      refine w_get (ci := 6) F hK hP fb_X4 3 rfl rfl 1 (by decide) fl_X11_78 (fun _ h => h) rfl dX11_supposeDrawnChoices_9 ?_
      refine lv_icmp_ge (tgt := 54) hx hb dX11_supposeDrawnChoices_12 (by decide) (fun h1 => ?_) (fun h1 => ?_)
      · have hf := o_t h1 hf
        cases hf
        exact kx _ _ ls hw (lv_sub hl [0, 1, 2] rfl)
      · have hf := o_f h1 hf
        refine lv_ldc2 (v := 1103515245) hx hb hown (hts _ kc_X11_196) dX11_supposeDrawnChoices_15 ?_
        refine lv_iload_n hx hb dX11_supposeDrawnChoices_18 rfl (lv_at hl 1 rfl) ?_
        refine lv_i2l hx hb dX11_supposeDrawnChoices_19 rfl ?_
        refine lv_lmul hx hb dX11_supposeDrawnChoices_20 ?_
        refine lv_ldc2 (v := 12345) hx hb hown (hts _ kc_X11_198) dX11_supposeDrawnChoices_21 ?_
        refine lv_ladd hx hb dX11_supposeDrawnChoices_24 ?_
        refine lv_ldc2 (v := 2147483647) hx hb hown (hts _ kc_X11_200) dX11_supposeDrawnChoices_25 ?_
        refine lv_land hx hb dX11_supposeDrawnChoices_28 ?_
        refine lv_l2i hx hb dX11_supposeDrawnChoices_29 rfl ?_
        refine lv_topi (fun z2 ez2 => ?_)
        have hf := o_bnd ez2 hf
        refine lv_istore_n (lv' := [(2, .int z2), (3, .int y3), (0, .ref a_this)]) hx hb dX11_supposeDrawnChoices_30 rfl hl (by decide) rfl (fun ls hl => ?_)
        refine lv_aload_n hx hb dX11_supposeDrawnChoices_31 rfl (lv_at hl 2 rfl) ?_
        refine w_get (ci := 11) F hK hP fb_X11 0 rfl rfl 2 (by decide) fl_X11_19 (fun _ h => h) rfl dX11_supposeDrawnChoices_32 ?_
        refine lv_iload_n hx hb dX11_supposeDrawnChoices_35 rfl (lv_at hl 1 rfl) ?_
        refine lv_iconst (v := 1) hx hb dX11_supposeDrawnChoices_36 (by decide) ?_
        refine lv_iload_n hx hb dX11_supposeDrawnChoices_37 rfl (lv_at hl 0 rfl) ?_
        refine lv_ldc (v := 65536) hx hb hown (hts _ kc_X11_202) dX11_supposeDrawnChoices_38 ?_
        refine lv_idiv hx hb dX11_supposeDrawnChoices_40 (by decide) ?_
        refine lv_bipush (v := 9) hx hb dX11_supposeDrawnChoices_41 (by decide) ?_
        refine lv_irem hx hb dX11_supposeDrawnChoices_43 (by decide) ?_
        refine lv_iadd hx hb dX11_supposeDrawnChoices_44 ?_
        obtain ⟨q3, hq3, hf⟩ := o_bind hf
        refine k_dV (wr := [ob a_this 11 [.ref a_this_page, .ref a_this_hall, .ref a_this_course, .ref a_this_heard, .ref a_this_image, .ref a_this_rests, .int v_hallsRead, .int v_restsDone]]) (ws' := ([ob a_this 11 [.ref a_this_page, .ref a_this_hall, .ref a_this_course, .ref a_this_heard, .ref a_this_image, .ref a_this_rests, .int v_hallsRead, .int v_restsDone], ob a_this_course 7 [.ref a_this_hall, .ref a_this_course_ends, .ref a_this_course_touchers, .ref a_this_course_stops, .ref a_this_course_silences, .int v_course_getter], ia g a_this_course_ends 5 q3, ob a_this_hall 6 [.ref a_this_hall_seats, .int v_hall_size, .int v_hall_fall], ra g a_this_hall_seats 5 (fun i => some (sa i))] ++ swl sa b_K b_su b_wi b_wd b_ch b_tc)) F (c_X2_supposeChoice l g a_this_course a_this_hall a_this_course_ends a_this_course_touchers a_this_course_stops a_this_course_silences a_this_hall_seats sa y3 (1 + ((z2 / 65536) - (z2 / 65536) / 9 * 9)) v_course_getter w_v_course_ends v_hall_size v_hall_fall b_K b_su b_wi b_wd b_ch b_tc hK5 hq3) qv_X2_supposeChoice ml_X11_148 hw hA hK [1, 2, 3, 4, 5, 6, 7, 8, 9] [0] [0, 1, 2, 3, 4, 5, 6, 7, 8, 9] rfl rfl rfl rfl rfl (by decide) rfl rfl rfl (va_recv hK.1 hP (ci := 7) (q0 := 1) rfl rfl) rfl hl.1 rfl (Nat.le_of_ble_eq_true rfl) dX11_supposeDrawnChoices_45 ⟨(Nat.le_of_ble_eq_true rfl), (Nat.le_of_ble_eq_true rfl)⟩ ⟨(Nat.le_of_ble_eq_true rfl), (Nat.le_of_ble_eq_true rfl)⟩ (fun H locs hw => ?_)
        have hP := hw.1
        refine W.eq (g2 := F0 m 48 ls ([])) rfl ?_
        obtain ⟨z4, ez4⟩ : ∃ y : Int32, y = y3 + 1 := ⟨_, rfl⟩
        have hf := o_bnd ez4 hf
        refine lv_iinc (v := z4) (lv' := [(3, .int z4), (2, .int z2), (0, .ref a_this)]) hx hb dX11_supposeDrawnChoices_48 hl (k := 1) rfl (by rw [ez4]; rfl) (by decide) rfl (fun ls hl => ?_)
        refine lv_goto (tgt := 4) hx hb dX11_supposeDrawnChoices_51 (by decide) ?_
        exact ih z4 z2 q3 _ hf _ _ ls hw (lv_sub hl [0, 1, 2] rfl) kx
  unfold f_X11_supposeDrawnChoices at hf
  refine lv_iload_n hx hb dX11_supposeDrawnChoices_0 rfl (lv_at hl 1 rfl) ?_
  refine lv_istore_n (lv' := [(2, .int x1), (0, .ref a_this), (1, .int x1)]) hx hb dX11_supposeDrawnChoices_1 rfl hl (by decide) rfl (fun ls hl => ?_)
  refine lv_iconst (v := 0) hx hb dX11_supposeDrawnChoices_2 (by decide) ?_
  refine lv_istore_n (lv' := [(3, .int 0), (2, .int x1), (0, .ref a_this), (1, .int x1)]) hx hb dX11_supposeDrawnChoices_3 rfl hl (by decide) rfl (fun ls hl => ?_)
  obtain ⟨q5, hq5, hf⟩ := o_bind hf
  refine L4 _ 0 x1 v_course_ends _ hq5 _ _ ls hw (lv_sub hl [0, 1, 2] rfl) (fun H locs ls hw hl => ?_)
  have hP := hw.1
  refine lv_iload_n hx hb dX11_supposeDrawnChoices_54 rfl (lv_at hl 1 rfl) ?_
  cases hf
  exact r_ci F hQ ⟨rfl, rfl⟩ hw dX11_supposeDrawnChoices_55
def f_X11_sales_59 (fuel : Nat) (x1 : Int32) (x2 : Int32) (x3 : Int32) (b_K : Nat → Nat) (b_ch : Nat → Int32) (b_su : Nat → Int32) (b_tc : Nat → Int32) (b_wd : Nat → Int32) (v_hall_fall : Int32) (v_hall_size : Int32) (y7 : Int32) (y6 : Int32) (y5 : Int32) (y4 : Int32) (w_v_course_ends : Nat → Int32) (w_v_course_getter : Int32) (w_v_course_silences : Nat → Int32) (w_v_course_stops : Nat → Int32) (w_v_course_touchers : Nat → Int32) : Option (Int32 × Int32 × Int32 × Int32 × (Nat → Int32) × Int32 × (Nat → Int32) × (Nat → Int32) × (Nat → Int32)) := match fuel with
  | 0 => none
  | k + 1 => (if x1 ≤ y7 then (some (y7, y6, y5, y4, w_v_course_ends, w_v_course_getter, w_v_course_silences, w_v_course_stops, w_v_course_touchers)) else ((f_X11_supposeDrawnChoices y6 b_K b_wd w_v_course_ends v_hall_size).bind fun q9 => ((f_X2_run b_K q9.2 w_v_course_getter v_hall_size w_v_course_silences w_v_course_stops w_v_course_touchers).bind fun q10 => (if q10.1 = (-1) then (bnd (y7 + 1 : Int32) fun z12 => (f_X11_sales_59 k x1 x2 x3 b_K b_ch b_su b_tc b_wd v_hall_fall v_hall_size z12 q9.1 y5 y4 q9.2 q10.1 q10.2.1 q10.2.2 w_v_course_touchers)) else (bnd (y4 + 1 : Int32) fun z13 => ((f_X2_priceOf q10.1 b_K b_su v_hall_fall q10.2.2).bind fun q14 => (bnd (y5 + q14) fun z15 => (bnd (y7 + 1 : Int32) fun z16 => (f_X11_sales_59 k x1 x2 x3 b_K b_ch b_su b_tc b_wd v_hall_fall v_hall_size z16 q9.1 z15 z13 q9.2 q10.1 q10.2.1 q10.2.2 w_v_course_touchers)))))))))
def f_X11_sales (x1 : Int32) (x2 : Int32) (x3 : Int32) (b_K : Nat → Nat) (b_ch : Nat → Int32) (b_su : Nat → Int32) (b_tc : Nat → Int32) (b_wd : Nat → Int32) (v_course_ends : Nat → Int32) (v_course_getter : Int32) (v_course_silences : Nat → Int32) (v_course_stops : Nat → Int32) (v_course_touchers : Nat → Int32) (v_hall_fall : Int32) (v_hall_size : Int32) : Option (Int32 × (Nat → Int32) × Int32 × (Nat → Int32) × (Nat → Int32) × (Nat → Int32)) := (if x1 < 1 then (some ((-102), v_course_ends, v_course_getter, v_course_silences, v_course_stops, v_course_touchers)) else (if 60 < x1 then (some ((-102), v_course_ends, v_course_getter, v_course_silences, v_course_stops, v_course_touchers)) else (if x2 < 0 then (some ((-102), v_course_ends, v_course_getter, v_course_silences, v_course_stops, v_course_touchers)) else (if x3 < 0 then (some ((-102), v_course_ends, v_course_getter, v_course_silences, v_course_stops, v_course_touchers)) else (if x3 ≤ 2 then (if v_hall_size = 0 then (some ((-103), v_course_ends, v_course_getter, v_course_silences, v_course_stops, v_course_touchers)) else ((f_X2_takeAsItIs b_K b_ch b_tc b_wd v_course_ends v_hall_size v_course_touchers).bind fun q7 => ((f_X11_sales_59 4096 x1 x2 x3 b_K b_ch b_su b_tc b_wd v_hall_fall v_hall_size 0 x2 0 0 q7.1 v_course_getter v_course_silences v_course_stops q7.2).bind fun q17 => (if x3 = 0 then (some (q17.2.2.2.1, q17.2.2.2.2.1, q17.2.2.2.2.2.1, q17.2.2.2.2.2.2.1, q17.2.2.2.2.2.2.2.1, q17.2.2.2.2.2.2.2.2)) else (if x3 = 1 then (some (q17.2.2.1, q17.2.2.2.2.1, q17.2.2.2.2.2.1, q17.2.2.2.2.2.2.1, q17.2.2.2.2.2.2.2.1, q17.2.2.2.2.2.2.2.2)) else (some (q17.2.1, q17.2.2.2.2.1, q17.2.2.2.2.2.1, q17.2.2.2.2.2.2.1, q17.2.2.2.2.2.2.2.1, q17.2.2.2.2.2.2.2.2))))))) else (some ((-102), v_course_ends, v_course_getter, v_course_silences, v_course_stops, v_course_touchers)))))))
set_option maxRecDepth 100000 in
set_option maxHeartbeats 4000000 in
theorem c_X11_sales (l : Launch) (g : GG) (a_this : Nat) (a_this_page : Nat) (a_this_hall : Nat) (a_this_course : Nat) (a_this_heard : Nat) (a_this_image : Nat) (a_this_rests : Nat) (a_this_course_ends : Nat) (a_this_course_touchers : Nat) (a_this_course_stops : Nat) (a_this_course_silences : Nat) (a_this_hall_seats : Nat) (sa : Nat → Nat) (x1 : Int32) (x2 : Int32) (x3 : Int32) (v_hallsRead : Int32) (v_restsDone : Int32) (v_course_getter : Int32) (v_course_ends : Nat → Int32) (v_course_silences : Nat → Int32) (v_course_stops : Nat → Int32) (v_course_touchers : Nat → Int32) (v_hall_size : Int32) (v_hall_fall : Int32) (b_K : Nat → Nat) (b_su : Nat → Int32) (b_wi : Nat → Int32) (b_wd : Nat → Int32) (b_ch : Nat → Int32) (b_tc : Nat → Int32) (hK5 : ∀ i, b_K i < 5) {r0 : Int32} {r1 : Nat → Int32} {r2 : Int32} {r3 : Nat → Int32} {r4 : Nat → Int32} {r5 : Nat → Int32} (hf : f_X11_sales x1 x2 x3 b_K b_ch b_su b_tc b_wd v_course_ends v_course_getter v_course_silences v_course_stops v_course_touchers v_hall_fall v_hall_size = some (r0, r1, r2, r3, r4, r5)) : MD l g yX11_sales cX11_sales 8 (some .int) 4 90 [.ref a_this, .int x1, .int x2, .int x3] ([ob a_this 11 [.ref a_this_page, .ref a_this_hall, .ref a_this_course, .ref a_this_heard, .ref a_this_image, .ref a_this_rests, .int v_hallsRead, .int v_restsDone], ob a_this_course 7 [.ref a_this_hall, .ref a_this_course_ends, .ref a_this_course_touchers, .ref a_this_course_stops, .ref a_this_course_silences, .int v_course_getter], ia g a_this_course_ends 5 v_course_ends, ia g a_this_course_silences 5 v_course_silences, ia g a_this_course_stops 5 v_course_stops, ia g a_this_course_touchers 5 v_course_touchers, ob a_this_hall 6 [.ref a_this_hall_seats, .int v_hall_size, .int v_hall_fall], ra g a_this_hall_seats 5 (fun i => some (sa i))] ++ swl sa b_K b_su b_wi b_wd b_ch b_tc) (some (.int r0)) ([ob a_this 11 [.ref a_this_page, .ref a_this_hall, .ref a_this_course, .ref a_this_heard, .ref a_this_image, .ref a_this_rests, .int v_hallsRead, .int v_restsDone], ob a_this_course 7 [.ref a_this_hall, .ref a_this_course_ends, .ref a_this_course_touchers, .ref a_this_course_stops, .ref a_this_course_silences, .int r2], ia g a_this_course_ends 5 r1, ia g a_this_course_silences 5 r3, ia g a_this_course_stops 5 r4, ia g a_this_course_touchers 5 r5, ob a_this_hall 6 [.ref a_this_hall_seats, .int v_hall_size, .int v_hall_fall], ra g a_this_hall_seats 5 (fun i => some (sa i))] ++ swl sa b_K b_su b_wi b_wd b_ch b_tc) := by
  refine MC.mk (by decide) (Nat.le_of_ble_eq_true rfl) ?_
  intro p e s m args below meth c ls Q A F hnm hK hw hA hl hQ
  have hP := hw.1
  have hx := F.1
  have hb := F.2.1
  have hml := F.2.2.2.1
  have hown := F.2.2.2.2.1
  have hts := F.2.2.2.2.2.1
  have hl : lv_has ls 8 [(0, .ref a_this), (1, .int x1), (2, .int x2), (3, .int x3)] := hl
  have L59 : ∀ (k : Nat) (y7 : Int32) (y6 : Int32) (y5 : Int32) (y4 : Int32) (w_v_course_ends : Nat → Int32) (w_v_course_getter : Int32) (w_v_course_silences : Nat → Int32) (w_v_course_stops : Nat → Int32) (w_v_course_touchers : Nat → Int32) (q : Int32 × Int32 × Int32 × Int32 × (Nat → Int32) × Int32 × (Nat → Int32) × (Nat → Int32) × (Nat → Int32)), f_X11_sales_59 k x1 x2 x3 b_K b_ch b_su b_tc b_wd v_hall_fall v_hall_size y7 y6 y5 y4 w_v_course_ends w_v_course_getter w_v_course_silences w_v_course_stops w_v_course_touchers = some q → ∀ (H : Heap) (locs : List Loc) (ls : Array Slot), WD g A s.heap ([ob a_this 11 [.ref a_this_page, .ref a_this_hall, .ref a_this_course, .ref a_this_heard, .ref a_this_image, .ref a_this_rests, .int v_hallsRead, .int v_restsDone], ob a_this_course 7 [.ref a_this_hall, .ref a_this_course_ends, .ref a_this_course_touchers, .ref a_this_course_stops, .ref a_this_course_silences, .int w_v_course_getter], ia g a_this_course_ends 5 w_v_course_ends, ia g a_this_course_silences 5 w_v_course_silences, ia g a_this_course_stops 5 w_v_course_stops, ia g a_this_course_touchers 5 w_v_course_touchers, ob a_this_hall 6 [.ref a_this_hall_seats, .int v_hall_size, .int v_hall_fall], ra g a_this_hall_seats 5 (fun i => some (sa i))] ++ swl sa b_K b_su b_wi b_wd b_ch b_tc) H locs → lv_has ls 8 [(7, .int y7), (6, .int y6), (5, .int y5), (4, .int y4), (0, .ref a_this), (1, .int x1), (3, .int x3)] → (∀ (H : Heap) (locs : List Loc) (ls : Array Slot), WD g A s.heap ([ob a_this 11 [.ref a_this_page, .ref a_this_hall, .ref a_this_course, .ref a_this_heard, .ref a_this_image, .ref a_this_rests, .int v_hallsRead, .int v_restsDone], ob a_this_course 7 [.ref a_this_hall, .ref a_this_course_ends, .ref a_this_course_touchers, .ref a_this_course_stops, .ref a_this_course_silences, .int q.2.2.2.2.2.1], ia g a_this_course_ends 5 q.2.2.2.2.1, ia g a_this_course_silences 5 q.2.2.2.2.2.2.1, ia g a_this_course_stops 5 q.2.2.2.2.2.2.2.1, ia g a_this_course_touchers 5 q.2.2.2.2.2.2.2.2, ob a_this_hall 6 [.ref a_this_hall_seats, .int v_hall_size, .int v_hall_fall], ra g a_this_hall_seats 5 (fun i => some (sa i))] ++ swl sa b_K b_su b_wi b_wd b_ch b_tc) H locs → lv_has ls 8 [(7, .int q.1), (6, .int q.2.1), (5, .int q.2.2.1), (4, .int q.2.2.2.1), (0, .ref a_this), (1, .int x1), (3, .int x3)] → W p l e (rmc 4 0 0 90) s m args below meth c H locs 0 0 Q (F0 m 119 ls [])) → W p l e (rmc 4 0 0 90) s m args below meth c H locs 0 0 Q (F0 m 59 ls []) := by
    intro k
    induction k with
    | zero => intro y7 y6 y5 y4 w_v_course_ends w_v_course_getter w_v_course_silences w_v_course_stops w_v_course_touchers q hf; rw [f_X11_sales_59] at hf; cases hf
    | succ k ih =>
      intro y7 y6 y5 y4 w_v_course_ends w_v_course_getter w_v_course_silences w_v_course_stops w_v_course_touchers q hf H locs ls hw hl kx
      rw [f_X11_sales_59] at hf
      have hP := hw.1
      refine lv_iload hx hb dX11_sales_59 (lv_at hl 0 rfl) ?_
      refine lv_iload_n hx hb dX11_sales_61 rfl (lv_at hl 5 rfl) ?_
      refine lv_icmp_ge (tgt := 119) hx hb dX11_sales_62 (by decide) (fun h8 => ?_) (fun h8 => ?_)
      · have hf := o_t h8 hf
        cases hf
        exact kx _ _ ls hw (lv_sub hl [0, 1, 2, 3, 4, 5, 6] rfl)
      · have hf := o_f h8 hf
        refine lv_aload_n hx hb dX11_sales_65 rfl (lv_at hl 4 rfl) ?_
        refine lv_iload hx hb dX11_sales_66 (lv_at hl 1 rfl) ?_
        obtain ⟨q9, hq9, hf⟩ := o_bind hf
        refine k_dV (wr := [ia g a_this_course_silences 5 w_v_course_silences, ia g a_this_course_stops 5 w_v_course_stops, ia g a_this_course_touchers 5 w_v_course_touchers]) (ws' := ([ob a_this 11 [.ref a_this_page, .ref a_this_hall, .ref a_this_course, .ref a_this_heard, .ref a_this_image, .ref a_this_rests, .int v_hallsRead, .int v_restsDone], ob a_this_course 7 [.ref a_this_hall, .ref a_this_course_ends, .ref a_this_course_touchers, .ref a_this_course_stops, .ref a_this_course_silences, .int w_v_course_getter], ia g a_this_course_ends 5 q9.2, ia g a_this_course_silences 5 w_v_course_silences, ia g a_this_course_stops 5 w_v_course_stops, ia g a_this_course_touchers 5 w_v_course_touchers, ob a_this_hall 6 [.ref a_this_hall_seats, .int v_hall_size, .int v_hall_fall], ra g a_this_hall_seats 5 (fun i => some (sa i))] ++ swl sa b_K b_su b_wi b_wd b_ch b_tc)) F (c_X11_supposeDrawnChoices l g a_this a_this_page a_this_hall a_this_course a_this_heard a_this_image a_this_rests a_this_course_ends a_this_course_touchers a_this_course_stops a_this_course_silences a_this_hall_seats sa y6 v_hallsRead v_restsDone w_v_course_getter w_v_course_ends v_hall_size v_hall_fall b_K b_su b_wi b_wd b_ch b_tc hK5 hq9) qv_X11_supposeDrawnChoices ml_X11_193 hw hA hK [0, 1, 2, 6, 7, 8, 9, 10, 11, 12] [3, 4, 5] [3, 4, 5, 0, 1, 2, 6, 7, 8, 9, 10, 11, 12] rfl rfl rfl rfl rfl (by decide) rfl rfl rfl (va_recv hK.1 hP (ci := 11) (q0 := 0) rfl rfl) rfl hl.1 rfl (Nat.le_of_ble_eq_true rfl) dX11_sales_68 ⟨(Nat.le_of_ble_eq_true rfl), (Nat.le_of_ble_eq_true rfl)⟩ ⟨(Nat.le_of_ble_eq_true rfl), (Nat.le_of_ble_eq_true rfl)⟩ (fun H locs hw => ?_)
        have hP := hw.1
        refine W.eq (g2 := F0 m 71 ls (.int q9.1 :: [])) rfl ?_
        refine lv_istore (lv' := [(6, .int q9.1), (7, .int y7), (5, .int y5), (4, .int y4), (0, .ref a_this), (1, .int x1), (3, .int x3)]) hx hb dX11_sales_71 hl (by decide) rfl (fun ls hl => ?_)
        refine lv_aload_n hx hb dX11_sales_73 rfl (lv_at hl 4 rfl) ?_
        refine w_get (ci := 11) F hK hP fb_X11 0 rfl rfl 2 (by decide) fl_X11_19 (fun _ h => h) rfl dX11_sales_74 ?_
        obtain ⟨q10, hq10, hf⟩ := o_bind hf
        refine k_dV (wr := [ob a_this 11 [.ref a_this_page, .ref a_this_hall, .ref a_this_course, .ref a_this_heard, .ref a_this_image, .ref a_this_rests, .int v_hallsRead, .int v_restsDone]]) (ws' := ([ob a_this 11 [.ref a_this_page, .ref a_this_hall, .ref a_this_course, .ref a_this_heard, .ref a_this_image, .ref a_this_rests, .int v_hallsRead, .int v_restsDone], ob a_this_course 7 [.ref a_this_hall, .ref a_this_course_ends, .ref a_this_course_touchers, .ref a_this_course_stops, .ref a_this_course_silences, .int q10.1], ia g a_this_course_ends 5 q9.2, ia g a_this_course_silences 5 q10.2.1, ia g a_this_course_stops 5 q10.2.2, ia g a_this_course_touchers 5 w_v_course_touchers, ob a_this_hall 6 [.ref a_this_hall_seats, .int v_hall_size, .int v_hall_fall], ra g a_this_hall_seats 5 (fun i => some (sa i))] ++ swl sa b_K b_su b_wi b_wd b_ch b_tc)) F (c_X2_run l g a_this_course a_this_hall a_this_course_ends a_this_course_touchers a_this_course_stops a_this_course_silences a_this_hall_seats sa w_v_course_getter q9.2 v_hall_size v_hall_fall w_v_course_silences w_v_course_stops w_v_course_touchers b_K b_su b_wi b_wd b_ch b_tc hK5 hq10) qv_X2_run ml_X11_152 hw hA hK [1, 2, 6, 7, 3, 4, 5, 8, 9, 10, 11, 12] [0] [0, 1, 2, 5, 6, 7, 3, 4, 8, 9, 10, 11, 12] rfl rfl rfl rfl rfl (by decide) rfl rfl rfl (va_recv hK.1 hP (ci := 7) (q0 := 1) rfl rfl) rfl hl.1 rfl (Nat.le_of_ble_eq_true rfl) dX11_sales_77 ⟨(Nat.le_of_ble_eq_true rfl), (Nat.le_of_ble_eq_true rfl)⟩ ⟨(Nat.le_of_ble_eq_true rfl), (Nat.le_of_ble_eq_true rfl)⟩ (fun H locs hw => ?_)
        have hP := hw.1
        refine W.eq (g2 := F0 m 80 ls ([])) rfl ?_
        refine lv_aload_n hx hb dX11_sales_80 rfl (lv_at hl 4 rfl) ?_
        refine w_get (ci := 11) F hK hP fb_X11 0 rfl rfl 2 (by decide) fl_X11_19 (fun _ h => h) rfl dX11_sales_81 ?_
        refine w_get (ci := 7) F hK hP fb_X2 1 rfl rfl 5 (by decide) fl_X11_138 (fun _ h => h) rfl dX11_sales_84 ?_
        refine lv_iconst (v := (-1)) hx hb dX11_sales_87 (by decide) ?_
        refine lv_icmp_eq (tgt := 113) hx hb dX11_sales_88 (by decide) (fun h11 => ?_) (fun h11 => ?_)
        · have hf := o_t h11 hf
          obtain ⟨z12, ez12⟩ : ∃ y : Int32, y = y7 + 1 := ⟨_, rfl⟩
          have hf := o_bnd ez12 hf
          refine lv_iinc (v := z12) (lv' := [(7, .int z12), (6, .int q9.1), (5, .int y5), (4, .int y4), (0, .ref a_this), (1, .int x1), (3, .int x3)]) hx hb dX11_sales_113 hl (k := 1) rfl (by rw [ez12]; rfl) (by decide) rfl (fun ls hl => ?_)
          refine lv_goto (tgt := 59) hx hb dX11_sales_116 (by decide) ?_
          exact ih z12 q9.1 y5 y4 q9.2 q10.1 q10.2.1 q10.2.2 w_v_course_touchers _ hf _ _ ls hw (lv_sub hl [0, 1, 2, 3, 4, 5, 6] rfl) kx
        · have hf := o_f h11 hf
          obtain ⟨z13, ez13⟩ : ∃ y : Int32, y = y4 + 1 := ⟨_, rfl⟩
          have hf := o_bnd ez13 hf
          refine lv_iinc (v := z13) (lv' := [(4, .int z13), (6, .int q9.1), (7, .int y7), (5, .int y5), (0, .ref a_this), (1, .int x1), (3, .int x3)]) hx hb dX11_sales_91 hl (k := 3) rfl (by rw [ez13]; rfl) (by decide) rfl (fun ls hl => ?_)
          refine lv_iload hx hb dX11_sales_94 (lv_at hl 3 rfl) ?_
          refine lv_aload_n hx hb dX11_sales_96 rfl (lv_at hl 4 rfl) ?_
          refine w_get (ci := 11) F hK hP fb_X11 0 rfl rfl 2 (by decide) fl_X11_19 (fun _ h => h) rfl dX11_sales_97 ?_
          refine lv_aload_n hx hb dX11_sales_100 rfl (lv_at hl 4 rfl) ?_
          refine w_get (ci := 11) F hK hP fb_X11 0 rfl rfl 2 (by decide) fl_X11_19 (fun _ h => h) rfl dX11_sales_101 ?_
          refine w_get (ci := 7) F hK hP fb_X2 1 rfl rfl 5 (by decide) fl_X11_138 (fun _ h => h) rfl dX11_sales_104 ?_
          obtain ⟨q14, hq14, hf⟩ := o_bind hf
          refine k_rV F (c_X2_priceOf l g a_this_course a_this_hall a_this_course_ends a_this_course_touchers a_this_course_stops a_this_course_silences a_this_hall_seats sa q10.1 q10.1 v_hall_size v_hall_fall q10.2.2 b_K b_su b_wi b_wd b_ch b_tc hK5 hq14) qv_X2_priceOf ml_X11_116 (hP.sub [1, 6, 7, 4, 8, 9, 10, 11, 12] rfl) hK (va_recv hK.1 hP (ci := 7) (q0 := 1) rfl rfl) rfl hl.1 rfl (Nat.le_of_ble_eq_true rfl) dX11_sales_107 ⟨(Nat.le_of_ble_eq_true rfl), (Nat.le_of_ble_eq_true rfl)⟩ ⟨(Nat.le_of_ble_eq_true rfl), (Nat.le_of_ble_eq_true rfl)⟩ ?_
          refine W.eq (g2 := F0 m 110 ls (.int q14 :: [.int y5])) rfl ?_
          refine lv_iadd hx hb dX11_sales_110 ?_
          refine lv_topi (fun z15 ez15 => ?_)
          have hf := o_bnd ez15 hf
          refine lv_istore (lv' := [(5, .int z15), (4, .int z13), (6, .int q9.1), (7, .int y7), (0, .ref a_this), (1, .int x1), (3, .int x3)]) hx hb dX11_sales_111 hl (by decide) rfl (fun ls hl => ?_)
          obtain ⟨z16, ez16⟩ : ∃ y : Int32, y = y7 + 1 := ⟨_, rfl⟩
          have hf := o_bnd ez16 hf
          refine lv_iinc (v := z16) (lv' := [(7, .int z16), (5, .int z15), (4, .int z13), (6, .int q9.1), (0, .ref a_this), (1, .int x1), (3, .int x3)]) hx hb dX11_sales_113 hl (k := 3) rfl (by rw [ez16]; rfl) (by decide) rfl (fun ls hl => ?_)
          refine lv_goto (tgt := 59) hx hb dX11_sales_116 (by decide) ?_
          exact ih z16 q9.1 z15 z13 q9.2 q10.1 q10.2.1 q10.2.2 w_v_course_touchers _ hf _ _ ls hw (lv_sub hl [0, 3, 1, 2, 4, 5, 6] rfl) kx
  unfold f_X11_sales at hf
  refine lv_iload_n hx hb dX11_sales_0 rfl (lv_at hl 1 rfl) ?_
  refine lv_iconst (v := 1) hx hb dX11_sales_1 (by decide) ?_
  refine lv_icmp_lt (tgt := 24) hx hb dX11_sales_2 (by decide) (fun h1 => ?_) (fun h1 => ?_)
  · have hf := o_t h1 hf
    refine lv_bipush (v := (-102)) hx hb dX11_sales_24 (by decide) ?_
    cases hf
    exact r_ci F hQ ⟨rfl, rfl⟩ hw dX11_sales_26
  · have hf := o_f h1 hf
    refine lv_iload_n hx hb dX11_sales_5 rfl (lv_at hl 1 rfl) ?_
    refine lv_bipush (v := 60) hx hb dX11_sales_6 (by decide) ?_
    refine lv_icmp_gt (tgt := 24) hx hb dX11_sales_8 (by decide) (fun h2 => ?_) (fun h2 => ?_)
    · have hf := o_t h2 hf
      refine lv_bipush (v := (-102)) hx hb dX11_sales_24 (by decide) ?_
      cases hf
      exact r_ci F hQ ⟨rfl, rfl⟩ hw dX11_sales_26
    · have hf := o_f h2 hf
      refine lv_iload_n hx hb dX11_sales_11 rfl (lv_at hl 2 rfl) ?_
      refine lv_if_lt (tgt := 24) hx hb dX11_sales_12 (by decide) (fun h3 => ?_) (fun h3 => ?_)
      · have hf := o_t h3 hf
        refine lv_bipush (v := (-102)) hx hb dX11_sales_24 (by decide) ?_
        cases hf
        exact r_ci F hQ ⟨rfl, rfl⟩ hw dX11_sales_26
      · have hf := o_f h3 hf
        refine lv_iload_n hx hb dX11_sales_15 rfl (lv_at hl 3 rfl) ?_
        refine lv_if_lt (tgt := 24) hx hb dX11_sales_16 (by decide) (fun h4 => ?_) (fun h4 => ?_)
        · have hf := o_t h4 hf
          refine lv_bipush (v := (-102)) hx hb dX11_sales_24 (by decide) ?_
          cases hf
          exact r_ci F hQ ⟨rfl, rfl⟩ hw dX11_sales_26
        · have hf := o_f h4 hf
          refine lv_iload_n hx hb dX11_sales_19 rfl (lv_at hl 3 rfl) ?_
          refine lv_iconst (v := 2) hx hb dX11_sales_20 (by decide) ?_
          refine lv_icmp_le (tgt := 27) hx hb dX11_sales_21 (by decide) (fun h5 => ?_) (fun h5 => ?_)
          · have hf := o_t h5 hf
            refine lv_aload_n hx hb dX11_sales_27 rfl (lv_at hl 0 rfl) ?_
            refine w_get (ci := 11) F hK hP fb_X11 0 rfl rfl 1 (by decide) fl_X11_27 (fun _ h => h) rfl dX11_sales_28 ?_
            refine w_get (ci := 6) F hK hP fb_X4 6 rfl rfl 1 (by decide) fl_X11_78 (fun _ h => h) rfl dX11_sales_31 ?_
            refine lv_if_ne (tgt := 40) hx hb dX11_sales_34 (by decide) (fun h6 => ?_) (fun h6 => ?_)
            · have hf := o_f h6 hf
              refine lv_iconst (v := 0) hx hb dX11_sales_40 (by decide) ?_
              refine lv_istore (lv' := [(4, .int 0), (0, .ref a_this), (1, .int x1), (2, .int x2), (3, .int x3)]) hx hb dX11_sales_41 hl (by decide) rfl (fun ls hl => ?_)
              refine lv_iconst (v := 0) hx hb dX11_sales_43 (by decide) ?_
              refine lv_istore (lv' := [(5, .int 0), (4, .int 0), (0, .ref a_this), (1, .int x1), (2, .int x2), (3, .int x3)]) hx hb dX11_sales_44 hl (by decide) rfl (fun ls hl => ?_)
              refine lv_iload_n hx hb dX11_sales_46 rfl (lv_at hl 4 rfl) ?_
              refine lv_istore (lv' := [(6, .int x2), (5, .int 0), (4, .int 0), (0, .ref a_this), (1, .int x1), (2, .int x2), (3, .int x3)]) hx hb dX11_sales_47 hl (by decide) rfl (fun ls hl => ?_)
              refine lv_aload_n hx hb dX11_sales_49 rfl (lv_at hl 3 rfl) ?_
              refine w_get (ci := 11) F hK hP fb_X11 0 rfl rfl 2 (by decide) fl_X11_19 (fun _ h => h) rfl dX11_sales_50 ?_
              obtain ⟨q7, hq7, hf⟩ := o_bind hf
              refine k_dV (wr := [ob a_this 11 [.ref a_this_page, .ref a_this_hall, .ref a_this_course, .ref a_this_heard, .ref a_this_image, .ref a_this_rests, .int v_hallsRead, .int v_restsDone], ia g a_this_course_silences 5 v_course_silences, ia g a_this_course_stops 5 v_course_stops]) (ws' := ([ob a_this 11 [.ref a_this_page, .ref a_this_hall, .ref a_this_course, .ref a_this_heard, .ref a_this_image, .ref a_this_rests, .int v_hallsRead, .int v_restsDone], ob a_this_course 7 [.ref a_this_hall, .ref a_this_course_ends, .ref a_this_course_touchers, .ref a_this_course_stops, .ref a_this_course_silences, .int v_course_getter], ia g a_this_course_ends 5 q7.1, ia g a_this_course_silences 5 v_course_silences, ia g a_this_course_stops 5 v_course_stops, ia g a_this_course_touchers 5 q7.2, ob a_this_hall 6 [.ref a_this_hall_seats, .int v_hall_size, .int v_hall_fall], ra g a_this_hall_seats 5 (fun i => some (sa i))] ++ swl sa b_K b_su b_wi b_wd b_ch b_tc)) F (c_X2_takeAsItIs l g a_this_course a_this_hall a_this_course_ends a_this_course_touchers a_this_course_stops a_this_course_silences a_this_hall_seats sa v_course_getter v_course_ends v_hall_size v_hall_fall v_course_touchers b_K b_su b_wi b_wd b_ch b_tc hK5 hq7) qv_X2_takeAsItIs ml_X11_141 hw hA hK [1, 2, 6, 7, 5, 8, 9, 10, 11, 12] [0, 3, 4] [0, 3, 4, 1, 2, 7, 5, 6, 8, 9, 10, 11, 12] rfl rfl rfl rfl rfl (by decide) rfl rfl rfl (va_recv hK.1 hP (ci := 7) (q0 := 1) rfl rfl) rfl hl.1 rfl (Nat.le_of_ble_eq_true rfl) dX11_sales_53 ⟨(Nat.le_of_ble_eq_true rfl), (Nat.le_of_ble_eq_true rfl)⟩ ⟨(Nat.le_of_ble_eq_true rfl), (Nat.le_of_ble_eq_true rfl)⟩ (fun H locs hw => ?_)
              have hP := hw.1
              refine W.eq (g2 := F0 m 56 ls ([])) rfl ?_
              refine lv_iconst (v := 0) hx hb dX11_sales_56 (by decide) ?_
              refine lv_istore (lv' := [(7, .int 0), (6, .int x2), (5, .int 0), (4, .int 0), (0, .ref a_this), (1, .int x1), (2, .int x2), (3, .int x3)]) hx hb dX11_sales_57 hl (by decide) rfl (fun ls hl => ?_)
              obtain ⟨q17, hq17, hf⟩ := o_bind hf
              refine L59 _ 0 x2 0 0 q7.1 v_course_getter v_course_silences v_course_stops q7.2 _ hq17 _ _ ls hw (lv_sub hl [0, 1, 2, 3, 4, 5, 7] rfl) (fun H locs ls hw hl => ?_)
              have hP := hw.1
              refine lv_iload_n hx hb dX11_sales_119 rfl (lv_at hl 6 rfl) ?_
              by_cases h18 : x3 = 0
              · have hf := o_t h18 hf
                refine lv_lookup (off := 28) (tgt := 148) hx hb dX11_sales_120 (by decide) (by rw [h18]; decide) (by decide) ?_
                refine lv_iload hx hb dX11_sales_148 (lv_at hl 3 rfl) ?_
                cases hf
                exact r_ci F hQ ⟨rfl, rfl⟩ hw dX11_sales_150
              · have hf := o_f h18 hf
                by_cases h19 : x3 = 1
                · have hf := o_t h19 hf
                  refine lv_lookup (off := 31) (tgt := 151) hx hb dX11_sales_120 (by decide) (by rw [h19]; decide) (by decide) ?_
                  refine lv_iload hx hb dX11_sales_151 (lv_at hl 2 rfl) ?_
                  cases hf
                  exact r_ci F hQ ⟨rfl, rfl⟩ hw dX11_sales_153
                · have hf := o_f h19 hf
                  refine lv_lookup (off := 34) (tgt := 154) hx hb dX11_sales_120 (by decide) ((lv_osw h18 rfl).trans ((lv_osw h19 rfl).trans (rfl))) (by decide) ?_
                  refine lv_iload hx hb dX11_sales_154 (lv_at hl 1 rfl) ?_
                  cases hf
                  exact r_ci F hQ ⟨rfl, rfl⟩ hw dX11_sales_156
            · have hf := o_t h6 hf
              refine lv_bipush (v := (-103)) hx hb dX11_sales_37 (by decide) ?_
              cases hf
              exact r_ci F hQ ⟨rfl, rfl⟩ hw dX11_sales_39
          · have hf := o_f h5 hf
            refine lv_bipush (v := (-102)) hx hb dX11_sales_24 (by decide) ?_
            cases hf
            exact r_ci F hQ ⟨rfl, rfl⟩ hw dX11_sales_26
def f_X11_image (b_ch : Nat → Int32) (b_tc : Nat → Int32) (b_wd : Nat → Int32) (v_hall_size : Int32) (v_hallsRead : Int32) (v_heard_bidders : Nat → Int32) (v_heard_breaths : Nat → Int32) (v_heard_size : Int32) (v_image_choices : Nat → Int32) (v_image_hallNumber : Int32) (v_image_heard_bidders : Nat → Int32) (v_image_heard_breaths : Nat → Int32) (v_image_heard_size : Int32) (v_image_touchers : Nat → Int32) (v_image_winds : Nat → Int32) : Option (Int32 × (Nat → Int32) × Int32 × (Nat → Int32) × (Nat → Int32) × Int32 × (Nat → Int32) × (Nat → Int32)) := (if v_hall_size = 0 then (some ((-103), v_image_choices, v_image_hallNumber, v_image_heard_bidders, v_image_heard_breaths, v_image_heard_size, v_image_touchers, v_image_winds)) else ((f_X6_keep v_hallsRead b_ch b_tc b_wd v_image_choices v_image_hallNumber v_image_heard_bidders v_image_heard_breaths v_image_heard_size v_hall_size v_heard_bidders v_heard_breaths v_heard_size v_image_touchers v_image_winds).bind fun q2 => (some (v_hall_size, q2.1, q2.2.1, q2.2.2.1, q2.2.2.2.1, q2.2.2.2.2.1, q2.2.2.2.2.2.1, q2.2.2.2.2.2.2))))
set_option maxRecDepth 100000 in
set_option maxHeartbeats 4000000 in
theorem c_X11_image (l : Launch) (g : GG) (a_this : Nat) (a_this_page : Nat) (a_this_hall : Nat) (a_this_course : Nat) (a_this_heard : Nat) (a_this_image : Nat) (a_this_rests : Nat) (a_this_hall_seats : Nat) (a_this_heard_bidders : Nat) (a_this_heard_breaths : Nat) (a_this_image_winds : Nat) (a_this_image_choices : Nat) (a_this_image_touchers : Nat) (a_this_image_heard : Nat) (a_this_image_heard_bidders : Nat) (a_this_image_heard_breaths : Nat) (sa : Nat → Nat) (v_hallsRead : Int32) (v_restsDone : Int32) (v_hall_size : Int32) (v_hall_fall : Int32) (v_heard_size : Int32) (v_heard_bidders : Nat → Int32) (v_heard_breaths : Nat → Int32) (v_image_hallNumber : Int32) (v_image_choices : Nat → Int32) (v_image_heard_size : Int32) (v_image_heard_bidders : Nat → Int32) (v_image_heard_breaths : Nat → Int32) (v_image_touchers : Nat → Int32) (v_image_winds : Nat → Int32) (b_K : Nat → Nat) (b_su : Nat → Int32) (b_wi : Nat → Int32) (b_wd : Nat → Int32) (b_ch : Nat → Int32) (b_tc : Nat → Int32) (hK5 : ∀ i, b_K i < 5) {r0 : Int32} {r1 : Nat → Int32} {r2 : Int32} {r3 : Nat → Int32} {r4 : Nat → Int32} {r5 : Int32} {r6 : Nat → Int32} {r7 : Nat → Int32} (hf : f_X11_image b_ch b_tc b_wd v_hall_size v_hallsRead v_heard_bidders v_heard_breaths v_heard_size v_image_choices v_image_hallNumber v_image_heard_bidders v_image_heard_breaths v_image_heard_size v_image_touchers v_image_winds = some (r0, r1, r2, r3, r4, r5, r6, r7)) : MD l g yX11_image cX11_image 1 (some .int) 2 46 [.ref a_this] ([ob a_this 11 [.ref a_this_page, .ref a_this_hall, .ref a_this_course, .ref a_this_heard, .ref a_this_image, .ref a_this_rests, .int v_hallsRead, .int v_restsDone], ob a_this_hall 6 [.ref a_this_hall_seats, .int v_hall_size, .int v_hall_fall], ra g a_this_hall_seats 5 (fun i => some (sa i)), ob a_this_heard 8 [.ref a_this_heard_bidders, .ref a_this_heard_breaths, .int v_heard_size], ia g a_this_heard_bidders 8 v_heard_bidders, ia g a_this_heard_breaths 8 v_heard_breaths, ob a_this_image 9 [.ref a_this_image_winds, .ref a_this_image_choices, .ref a_this_image_touchers, .ref a_this_image_heard, .int v_image_hallNumber], ia g a_this_image_choices 5 v_image_choices, ob a_this_image_heard 8 [.ref a_this_image_heard_bidders, .ref a_this_image_heard_breaths, .int v_image_heard_size], ia g a_this_image_heard_bidders 8 v_image_heard_bidders, ia g a_this_image_heard_breaths 8 v_image_heard_breaths, ia g a_this_image_touchers 5 v_image_touchers, ia g a_this_image_winds 5 v_image_winds] ++ swl sa b_K b_su b_wi b_wd b_ch b_tc) (some (.int r0)) ([ob a_this 11 [.ref a_this_page, .ref a_this_hall, .ref a_this_course, .ref a_this_heard, .ref a_this_image, .ref a_this_rests, .int v_hallsRead, .int v_restsDone], ob a_this_hall 6 [.ref a_this_hall_seats, .int v_hall_size, .int v_hall_fall], ra g a_this_hall_seats 5 (fun i => some (sa i)), ob a_this_heard 8 [.ref a_this_heard_bidders, .ref a_this_heard_breaths, .int v_heard_size], ia g a_this_heard_bidders 8 v_heard_bidders, ia g a_this_heard_breaths 8 v_heard_breaths, ob a_this_image 9 [.ref a_this_image_winds, .ref a_this_image_choices, .ref a_this_image_touchers, .ref a_this_image_heard, .int r2], ia g a_this_image_choices 5 r1, ob a_this_image_heard 8 [.ref a_this_image_heard_bidders, .ref a_this_image_heard_breaths, .int r5], ia g a_this_image_heard_bidders 8 r3, ia g a_this_image_heard_breaths 8 r4, ia g a_this_image_touchers 5 r6, ia g a_this_image_winds 5 r7] ++ swl sa b_K b_su b_wi b_wd b_ch b_tc) := by
  refine MC.mk (by decide) (Nat.le_of_ble_eq_true rfl) ?_
  intro p e s m args below meth c ls Q A F hnm hK hw hA hl hQ
  have hP := hw.1
  have hx := F.1
  have hb := F.2.1
  have hml := F.2.2.2.1
  have hown := F.2.2.2.2.1
  have hts := F.2.2.2.2.2.1
  have hl : lv_has ls 1 [(0, .ref a_this)] := hl
  unfold f_X11_image at hf
  refine lv_aload_n hx hb dX11_image_0 rfl (lv_at hl 0 rfl) ?_
  refine w_get (ci := 11) F hK hP fb_X11 0 rfl rfl 1 (by decide) fl_X11_27 (fun _ h => h) rfl dX11_image_1 ?_
  refine w_get (ci := 6) F hK hP fb_X4 1 rfl rfl 1 (by decide) fl_X11_78 (fun _ h => h) rfl dX11_image_4 ?_
  refine lv_if_ne (tgt := 13) hx hb dX11_image_7 (by decide) (fun h1 => ?_) (fun h1 => ?_)
  · have hf := o_f h1 hf
    refine lv_aload_n hx hb dX11_image_13 rfl (lv_at hl 0 rfl) ?_
    refine w_get (ci := 11) F hK hP fb_X11 0 rfl rfl 4 (by decide) fl_X11_38 (fun _ h => h) rfl dX11_image_14 ?_
    refine lv_aload_n hx hb dX11_image_17 rfl (lv_at hl 0 rfl) ?_
    refine w_get (ci := 11) F hK hP fb_X11 0 rfl rfl 1 (by decide) fl_X11_27 (fun _ h => h) rfl dX11_image_18 ?_
    refine lv_aload_n hx hb dX11_image_21 rfl (lv_at hl 0 rfl) ?_
    refine w_get (ci := 11) F hK hP fb_X11 0 rfl rfl 3 (by decide) fl_X11_31 (fun _ h => h) rfl dX11_image_22 ?_
    refine lv_aload_n hx hb dX11_image_25 rfl (lv_at hl 0 rfl) ?_
    refine w_get (ci := 11) F hK hP fb_X11 0 rfl rfl 6 (by decide) fl_X11_75 (fun _ h => h) rfl dX11_image_26 ?_
    obtain ⟨q2, hq2, hf⟩ := o_bind hf
    refine k_dV (wr := [ob a_this 11 [.ref a_this_page, .ref a_this_hall, .ref a_this_course, .ref a_this_heard, .ref a_this_image, .ref a_this_rests, .int v_hallsRead, .int v_restsDone]]) (ws' := ([ob a_this 11 [.ref a_this_page, .ref a_this_hall, .ref a_this_course, .ref a_this_heard, .ref a_this_image, .ref a_this_rests, .int v_hallsRead, .int v_restsDone], ob a_this_hall 6 [.ref a_this_hall_seats, .int v_hall_size, .int v_hall_fall], ra g a_this_hall_seats 5 (fun i => some (sa i)), ob a_this_heard 8 [.ref a_this_heard_bidders, .ref a_this_heard_breaths, .int v_heard_size], ia g a_this_heard_bidders 8 v_heard_bidders, ia g a_this_heard_breaths 8 v_heard_breaths, ob a_this_image 9 [.ref a_this_image_winds, .ref a_this_image_choices, .ref a_this_image_touchers, .ref a_this_image_heard, .int q2.2.1], ia g a_this_image_choices 5 q2.1, ob a_this_image_heard 8 [.ref a_this_image_heard_bidders, .ref a_this_image_heard_breaths, .int q2.2.2.2.2.1], ia g a_this_image_heard_bidders 8 q2.2.2.1, ia g a_this_image_heard_breaths 8 q2.2.2.2.1, ia g a_this_image_touchers 5 q2.2.2.2.2.2.1, ia g a_this_image_winds 5 q2.2.2.2.2.2.2] ++ swl sa b_K b_su b_wi b_wd b_ch b_tc)) F (c_X6_keep l g a_this_image a_this_hall a_this_heard a_this_hall_seats a_this_heard_bidders a_this_heard_breaths a_this_image_winds a_this_image_choices a_this_image_touchers a_this_image_heard a_this_image_heard_bidders a_this_image_heard_breaths sa v_hallsRead v_hall_size v_hall_fall v_heard_size v_heard_bidders v_heard_breaths v_image_hallNumber v_image_choices v_image_heard_size v_image_heard_bidders v_image_heard_breaths v_image_touchers v_image_winds b_K b_su b_wi b_wd b_ch b_tc hK5 hq2) qv_X6_keep ml_X11_203 hw hA hK [1, 2, 3, 4, 5, 6, 7, 8, 9, 10, 11, 12, 13, 14, 15, 16, 17] [0] [0, 1, 2, 3, 4, 5, 6, 7, 8, 9, 10, 11, 12, 13, 14, 15, 16, 17] rfl rfl rfl rfl rfl (by decide) rfl rfl rfl (va_recv hK.1 hP (ci := 9) (q0 := 6) rfl rfl) rfl hl.1 rfl (Nat.le_of_ble_eq_true rfl) dX11_image_29 ⟨(Nat.le_of_ble_eq_true rfl), (Nat.le_of_ble_eq_true rfl)⟩ ⟨(Nat.le_of_ble_eq_true rfl), (Nat.le_of_ble_eq_true rfl)⟩ (fun H locs hw => ?_)
    have hP := hw.1
    refine W.eq (g2 := F0 m 32 ls ([])) rfl ?_
    refine lv_aload_n hx hb dX11_image_32 rfl (lv_at hl 0 rfl) ?_
    refine w_get (ci := 11) F hK hP fb_X11 0 rfl rfl 1 (by decide) fl_X11_27 (fun _ h => h) rfl dX11_image_33 ?_
    refine w_get (ci := 6) F hK hP fb_X4 1 rfl rfl 1 (by decide) fl_X11_78 (fun _ h => h) rfl dX11_image_36 ?_
    cases hf
    exact r_ci F hQ ⟨rfl, rfl⟩ hw dX11_image_39
  · have hf := o_t h1 hf
    refine lv_bipush (v := (-103)) hx hb dX11_image_10 (by decide) ?_
    cases hf
    exact r_ci F hQ ⟨rfl, rfl⟩ hw dX11_image_12
