def f_X12_chosen_4 (fuel : Nat) (v_bidders : Int32) (v_choiceOf : Nat → Int32) (y2 : Int32) (y1 : Int32) : Option (Int32 × Int32) := match fuel with
  | 0 => none
  | k + 1 => (if v_bidders ≤ y2 then (some (y2, y1)) else (if y2 < 0 ∨ 5 ≤ Int32.toNatClampNeg y2 then none else (if (v_choiceOf (Int32.toNatClampNeg y2)) = (-1) then (bnd (y1 + 0) fun z6 => (bnd (y2 + 1 : Int32) fun z7 => (f_X12_chosen_4 k v_bidders v_choiceOf z7 z6))) else (bnd (y1 + 1) fun z4 => (bnd (y2 + 1 : Int32) fun z5 => (f_X12_chosen_4 k v_bidders v_choiceOf z5 z4))))))
def f_X12_chosen (v_bidders : Int32) (v_choiceOf : Nat → Int32) : Option (Int32) := ((f_X12_chosen_4 4096 v_bidders v_choiceOf 0 0).bind fun q8 => (some q8.2))
set_option maxRecDepth 100000 in
set_option maxHeartbeats 4000000 in
theorem c_X12_chosen (l : Launch) (g : GG) (aM : Nat) (rM : Nat → Nat) (v_halls : Int32) (v_bidders : Int32) (v_fall : Int32) (v_heard : Int32) (v_asks : Int32) (v_pageLength : Int32) (v_isWhole : Int32) (v_newMany : Int32) (v_seedNow : Int64) (v_isKept : Int32) (v_keptHall : Int32) (v_keptHeard : Int32) (v_h : Int64) (v_choiceOf : Nat → Int32) {r0 : Int32} (hf : f_X12_chosen v_bidders v_choiceOf = some r0) : MR l g yX12_chosen cX12_chosen 3 (some .int) 0 0 [.ref aM] [ob aM 12 (oM rM v_halls v_bidders v_fall v_heard v_asks v_pageLength v_isWhole v_newMany v_seedNow v_isKept v_keptHall v_keptHeard v_h), ia g (rM 7) 5 v_choiceOf] (some (.int r0)) := by
  refine MR.mk (by decide) (Nat.le_of_ble_eq_true rfl) ?_
  intro p e s m args below meth c ls Q F hK hP hl hQ
  have hx := F.1
  have hb := F.2.1
  have hml := F.2.2.2.1
  have hown := F.2.2.2.2.1
  have hts := F.2.2.2.2.2.1
  have hl : lv_has ls 3 [(0, .ref aM)] := hl
  have L4 : ∀ (k : Nat) (y2 : Int32) (y1 : Int32) (q : Int32 × Int32), f_X12_chosen_4 k v_bidders v_choiceOf y2 y1 = some q → ∀ (ls : Array Slot), lv_has ls 3 [(2, .int y2), (1, .int y1), (0, .ref aM)] → (∀ (ls : Array Slot), lv_has ls 3 [(2, .int q.1), (1, .int q.2), (0, .ref aM)] → W p l e (rmc 0 0 0 0) s m args below meth c s.heap [] 0 0 Q (F0 m 36 ls [])) → W p l e (rmc 0 0 0 0) s m args below meth c s.heap [] 0 0 Q (F0 m 4 ls []) := by
    intro k
    induction k with
    | zero => intro y2 y1 q hf; rw [f_X12_chosen_4] at hf; cases hf
    | succ k ih =>
      intro y2 y1 q hf ls hl kx
      rw [f_X12_chosen_4] at hf
      refine lv_iload_n hx hb dX12_chosen_4 rfl (lv_at hl 0 rfl) ?_
      refine lv_aload_n hx hb dX12_chosen_5 rfl (lv_at hl 2 rfl) ?_
      refine w_get (ci := 12) F hK hP fb_X12 0 rfl rfl 1 (by decide) fl_X12_89 (fun _ h => h) rfl dX12_chosen_6 ?_
      refine lv_icmp_ge (tgt := 36) hx hb dX12_chosen_9 (by decide) (fun h1 => ?_) (fun h1 => ?_)
      · have hf := o_t h1 hf
        cases hf
        exact kx ls (lv_sub hl [0, 1, 2] rfl)
      · have hf := o_f h1 hf
        refine lv_iload_n hx hb dX12_chosen_12 rfl (lv_at hl 1 rfl) ?_
        refine lv_aload_n hx hb dX12_chosen_13 rfl (lv_at hl 2 rfl) ?_
        refine w_get (ci := 12) F hK hP fb_X12 0 rfl rfl 7 (by decide) fl_X12_22 (fun _ h => h) rfl dX12_chosen_14 ?_
        refine lv_iload_n hx hb dX12_chosen_17 rfl (lv_at hl 0 rfl) ?_
        obtain ⟨h2, hf⟩ := o_chk hf
        refine w_iald F hK hP 1 rfl h2 dX12_chosen_18 ?_
        refine lv_iconst (v := (-1)) hx hb dX12_chosen_19 (by decide) ?_
        refine lv_icmp_ne (tgt := 27) hx hb dX12_chosen_20 (by decide) (fun h3 => ?_) (fun h3 => ?_)
        · have hf := o_f h3 hf
          refine lv_iconst (v := 1) hx hb dX12_chosen_27 (by decide) ?_
          refine lv_iadd hx hb dX12_chosen_28 ?_
          refine lv_topi (fun z4 ez4 => ?_)
          have hf := o_bnd ez4 hf
          refine lv_istore_n (lv' := [(1, .int z4), (2, .int y2), (0, .ref aM)]) hx hb dX12_chosen_29 rfl hl (by decide) rfl (fun ls hl => ?_)
          obtain ⟨z5, ez5⟩ : ∃ y : Int32, y = y2 + 1 := ⟨_, rfl⟩
          have hf := o_bnd ez5 hf
          refine lv_iinc (v := z5) (lv' := [(2, .int z5), (1, .int z4), (0, .ref aM)]) hx hb dX12_chosen_30 hl (k := 1) rfl (by rw [ez5]; rfl) (by decide) rfl (fun ls hl => ?_)
          refine lv_goto (tgt := 4) hx hb dX12_chosen_33 (by decide) ?_
          exact ih z5 z4 _ hf ls (lv_sub hl [0, 1, 2] rfl) kx
        · have hf := o_t h3 hf
          refine lv_iconst (v := 0) hx hb dX12_chosen_23 (by decide) ?_
          refine lv_goto (tgt := 28) hx hb dX12_chosen_24 (by decide) ?_
          refine lv_iadd hx hb dX12_chosen_28 ?_
          refine lv_topi (fun z6 ez6 => ?_)
          have hf := o_bnd ez6 hf
          refine lv_istore_n (lv' := [(1, .int z6), (2, .int y2), (0, .ref aM)]) hx hb dX12_chosen_29 rfl hl (by decide) rfl (fun ls hl => ?_)
          obtain ⟨z7, ez7⟩ : ∃ y : Int32, y = y2 + 1 := ⟨_, rfl⟩
          have hf := o_bnd ez7 hf
          refine lv_iinc (v := z7) (lv' := [(2, .int z7), (1, .int z6), (0, .ref aM)]) hx hb dX12_chosen_30 hl (k := 1) rfl (by rw [ez7]; rfl) (by decide) rfl (fun ls hl => ?_)
          refine lv_goto (tgt := 4) hx hb dX12_chosen_33 (by decide) ?_
          exact ih z7 z6 _ hf ls (lv_sub hl [0, 1, 2] rfl) kx
  unfold f_X12_chosen at hf
  refine lv_iconst (v := 0) hx hb dX12_chosen_0 (by decide) ?_
  refine lv_istore_n (lv' := [(1, .int 0), (0, .ref aM)]) hx hb dX12_chosen_1 rfl hl (by decide) rfl (fun ls hl => ?_)
  refine lv_iconst (v := 0) hx hb dX12_chosen_2 (by decide) ?_
  refine lv_istore_n (lv' := [(2, .int 0), (1, .int 0), (0, .ref aM)]) hx hb dX12_chosen_3 rfl hl (by decide) rfl (fun ls hl => ?_)
  obtain ⟨q8, hq8, hf⟩ := o_bind hf
  refine L4 _ 0 0 _ hq8 ls (lv_sub hl [0, 1, 2] rfl) (fun ls hl => ?_)
  refine lv_iload_n hx hb dX12_chosen_36 rfl (lv_at hl 1 rfl) ?_
  exact r_ri F hQ (Option.some.inj hf) dX12_chosen_37
def f_X12_touches_4 (fuel : Nat) (v_bidders : Int32) (v_touchedBy : Nat → Int32) (y2 : Int32) (y1 : Int32) : Option (Int32 × Int32) := match fuel with
  | 0 => none
  | k + 1 => (if (v_bidders * v_bidders) ≤ y2 then (some (y2, y1)) else (if v_bidders = 0 then none else (if (y2 / v_bidders) < 0 ∨ 5 ≤ Int32.toNatClampNeg (y2 / v_bidders) then none else (bnd (y1 + (((v_touchedBy (Int32.toNatClampNeg (y2 / v_bidders))) >>> ((y2 - y2 / v_bidders * v_bidders) &&& 31)) &&& 1)) fun z4 => (bnd (y2 + 1 : Int32) fun z5 => (f_X12_touches_4 k v_bidders v_touchedBy z5 z4))))))
def f_X12_touches (v_bidders : Int32) (v_touchedBy : Nat → Int32) : Option (Int32) := ((f_X12_touches_4 4096 v_bidders v_touchedBy 0 0).bind fun q6 => (some q6.2))
set_option maxRecDepth 100000 in
set_option maxHeartbeats 4000000 in
theorem c_X12_touches (l : Launch) (g : GG) (aM : Nat) (rM : Nat → Nat) (v_halls : Int32) (v_bidders : Int32) (v_fall : Int32) (v_heard : Int32) (v_asks : Int32) (v_pageLength : Int32) (v_isWhole : Int32) (v_newMany : Int32) (v_seedNow : Int64) (v_isKept : Int32) (v_keptHall : Int32) (v_keptHeard : Int32) (v_h : Int64) (v_touchedBy : Nat → Int32) {r0 : Int32} (hf : f_X12_touches v_bidders v_touchedBy = some r0) : MR l g yX12_touches cX12_touches 3 (some .int) 0 0 [.ref aM] [ob aM 12 (oM rM v_halls v_bidders v_fall v_heard v_asks v_pageLength v_isWhole v_newMany v_seedNow v_isKept v_keptHall v_keptHeard v_h), ia g (rM 8) 5 v_touchedBy] (some (.int r0)) := by
  refine MR.mk (by decide) (Nat.le_of_ble_eq_true rfl) ?_
  intro p e s m args below meth c ls Q F hK hP hl hQ
  have hx := F.1
  have hb := F.2.1
  have hml := F.2.2.2.1
  have hown := F.2.2.2.2.1
  have hts := F.2.2.2.2.2.1
  have hl : lv_has ls 3 [(0, .ref aM)] := hl
  have L4 : ∀ (k : Nat) (y2 : Int32) (y1 : Int32) (q : Int32 × Int32), f_X12_touches_4 k v_bidders v_touchedBy y2 y1 = some q → ∀ (ls : Array Slot), lv_has ls 3 [(2, .int y2), (1, .int y1), (0, .ref aM)] → (∀ (ls : Array Slot), lv_has ls 3 [(2, .int q.1), (1, .int q.2), (0, .ref aM)] → W p l e (rmc 0 0 0 0) s m args below meth c s.heap [] 0 0 Q (F0 m 46 ls [])) → W p l e (rmc 0 0 0 0) s m args below meth c s.heap [] 0 0 Q (F0 m 4 ls []) := by
    intro k
    induction k with
    | zero => intro y2 y1 q hf; rw [f_X12_touches_4] at hf; cases hf
    | succ k ih =>
      intro y2 y1 q hf ls hl kx
      rw [f_X12_touches_4] at hf
      refine lv_iload_n hx hb dX12_touches_4 rfl (lv_at hl 0 rfl) ?_
      refine lv_aload_n hx hb dX12_touches_5 rfl (lv_at hl 2 rfl) ?_
      refine w_get (ci := 12) F hK hP fb_X12 0 rfl rfl 1 (by decide) fl_X12_89 (fun _ h => h) rfl dX12_touches_6 ?_
      refine lv_aload_n hx hb dX12_touches_9 rfl (lv_at hl 2 rfl) ?_
      refine w_get (ci := 12) F hK hP fb_X12 0 rfl rfl 1 (by decide) fl_X12_89 (fun _ h => h) rfl dX12_touches_10 ?_
      refine lv_imul hx hb dX12_touches_13 ?_
      refine lv_icmp_ge (tgt := 46) hx hb dX12_touches_14 (by decide) (fun h1 => ?_) (fun h1 => ?_)
      · have hf := o_t h1 hf
        cases hf
        exact kx ls (lv_sub hl [0, 1, 2] rfl)
      · have hf := o_f h1 hf
        refine lv_iload_n hx hb dX12_touches_17 rfl (lv_at hl 1 rfl) ?_
        refine lv_aload_n hx hb dX12_touches_18 rfl (lv_at hl 2 rfl) ?_
        refine w_get (ci := 12) F hK hP fb_X12 0 rfl rfl 8 (by decide) fl_X12_25 (fun _ h => h) rfl dX12_touches_19 ?_
        refine lv_iload_n hx hb dX12_touches_22 rfl (lv_at hl 0 rfl) ?_
        refine lv_aload_n hx hb dX12_touches_23 rfl (lv_at hl 2 rfl) ?_
        refine w_get (ci := 12) F hK hP fb_X12 0 rfl rfl 1 (by decide) fl_X12_89 (fun _ h => h) rfl dX12_touches_24 ?_
        obtain ⟨h2, hf⟩ := o_chk hf
        refine lv_idiv hx hb dX12_touches_27 h2 ?_
        obtain ⟨h3, hf⟩ := o_chk hf
        refine w_iald F hK hP 1 rfl h3 dX12_touches_28 ?_
        refine lv_iload_n hx hb dX12_touches_29 rfl (lv_at hl 0 rfl) ?_
        refine lv_aload_n hx hb dX12_touches_30 rfl (lv_at hl 2 rfl) ?_
        refine w_get (ci := 12) F hK hP fb_X12 0 rfl rfl 1 (by decide) fl_X12_89 (fun _ h => h) rfl dX12_touches_31 ?_
        refine lv_irem hx hb dX12_touches_34 h2 ?_
        refine lv_ishr hx hb dX12_touches_35 ?_
        refine lv_iconst (v := 1) hx hb dX12_touches_36 (by decide) ?_
        refine lv_iand hx hb dX12_touches_37 ?_
        refine lv_iadd hx hb dX12_touches_38 ?_
        refine lv_topi (fun z4 ez4 => ?_)
        have hf := o_bnd ez4 hf
        refine lv_istore_n (lv' := [(1, .int z4), (2, .int y2), (0, .ref aM)]) hx hb dX12_touches_39 rfl hl (by decide) rfl (fun ls hl => ?_)
        obtain ⟨z5, ez5⟩ : ∃ y : Int32, y = y2 + 1 := ⟨_, rfl⟩
        have hf := o_bnd ez5 hf
        refine lv_iinc (v := z5) (lv' := [(2, .int z5), (1, .int z4), (0, .ref aM)]) hx hb dX12_touches_40 hl (k := 1) rfl (by rw [ez5]; rfl) (by decide) rfl (fun ls hl => ?_)
        refine lv_goto (tgt := 4) hx hb dX12_touches_43 (by decide) ?_
        exact ih z5 z4 _ hf ls (lv_sub hl [0, 1, 2] rfl) kx
  unfold f_X12_touches at hf
  refine lv_iconst (v := 0) hx hb dX12_touches_0 (by decide) ?_
  refine lv_istore_n (lv' := [(1, .int 0), (0, .ref aM)]) hx hb dX12_touches_1 rfl hl (by decide) rfl (fun ls hl => ?_)
  refine lv_iconst (v := 0) hx hb dX12_touches_2 (by decide) ?_
  refine lv_istore_n (lv' := [(2, .int 0), (1, .int 0), (0, .ref aM)]) hx hb dX12_touches_3 rfl hl (by decide) rfl (fun ls hl => ?_)
  obtain ⟨q6, hq6, hf⟩ := o_bind hf
  refine L4 _ 0 0 _ hq6 ls (lv_sub hl [0, 1, 2] rfl) (fun ls hl => ?_)
  refine lv_iload_n hx hb dX12_touches_46 rfl (lv_at hl 1 rfl) ?_
  exact r_ri F hQ (Option.some.inj hf) dX12_touches_47
def f_X12_howMany (x1 : Int32) (v_asks : Int32) (v_bidders : Int32) (v_choiceOf : Nat → Int32) (v_fall : Int32) (v_halls : Int32) (v_heard : Int32) (v_pageLength : Int32) (v_touchedBy : Nat → Int32) : Option (Int32) := (if x1 = 0 then (some v_bidders) else (if x1 = 1 then (some v_fall) else (if x1 = 2 then ((f_X12_chosen v_bidders v_choiceOf).bind fun q4 => (some q4)) else (if x1 = 3 then ((f_X12_touches v_bidders v_touchedBy).bind fun q6 => (some q6)) else (if x1 = 4 then (some v_heard) else (if x1 = 5 then (some v_pageLength) else (if x1 = 6 then (some v_halls) else (if x1 = 7 then (some v_asks) else (some (-102))))))))))
set_option maxRecDepth 100000 in
set_option maxHeartbeats 4000000 in
theorem c_X12_howMany (l : Launch) (g : GG) (aM : Nat) (rM : Nat → Nat) (x1 : Int32) (v_halls : Int32) (v_bidders : Int32) (v_fall : Int32) (v_heard : Int32) (v_asks : Int32) (v_pageLength : Int32) (v_isWhole : Int32) (v_newMany : Int32) (v_seedNow : Int64) (v_isKept : Int32) (v_keptHall : Int32) (v_keptHeard : Int32) (v_h : Int64) (v_choiceOf : Nat → Int32) (v_touchedBy : Nat → Int32) {r0 : Int32} (hf : f_X12_howMany x1 v_asks v_bidders v_choiceOf v_fall v_halls v_heard v_pageLength v_touchedBy = some r0) : MR l g yX12_howMany cX12_howMany 2 (some .int) 1 22 [.ref aM, .int x1] [ob aM 12 (oM rM v_halls v_bidders v_fall v_heard v_asks v_pageLength v_isWhole v_newMany v_seedNow v_isKept v_keptHall v_keptHeard v_h), ia g (rM 7) 5 v_choiceOf, ia g (rM 8) 5 v_touchedBy] (some (.int r0)) := by
  refine MR.mk (by decide) (Nat.le_of_ble_eq_true rfl) ?_
  intro p e s m args below meth c ls Q F hK hP hl hQ
  have hx := F.1
  have hb := F.2.1
  have hml := F.2.2.2.1
  have hown := F.2.2.2.2.1
  have hts := F.2.2.2.2.2.1
  have hl : lv_has ls 2 [(0, .ref aM), (1, .int x1)] := hl
  unfold f_X12_howMany at hf
  refine lv_iload_n hx hb dX12_howMany_0 rfl (lv_at hl 1 rfl) ?_
  by_cases h1 : x1 = 0
  · have hf := o_t h1 hf
    refine lv_tableIn (off := 47) (tgt := 48) hx hb dX12_howMany_1 (by rw [h1]; decide) (by rw [h1]; decide) (by rw [h1]; rfl) (by decide) ?_
    refine lv_aload_n hx hb dX12_howMany_48 rfl (lv_at hl 0 rfl) ?_
    refine w_get (ci := 12) F hK hP fb_X12 0 rfl rfl 1 (by decide) fl_X12_89 (fun _ h => h) rfl dX12_howMany_49 ?_
    exact r_ri F hQ (Option.some.inj hf) dX12_howMany_52
  · have hf := o_f h1 hf
    by_cases h2 : x1 = 1
    · have hf := o_t h2 hf
      refine lv_tableIn (off := 52) (tgt := 53) hx hb dX12_howMany_1 (by rw [h2]; decide) (by rw [h2]; decide) (by rw [h2]; rfl) (by decide) ?_
      refine lv_aload_n hx hb dX12_howMany_53 rfl (lv_at hl 0 rfl) ?_
      refine w_get (ci := 12) F hK hP fb_X12 0 rfl rfl 2 (by decide) fl_X12_92 (fun _ h => h) rfl dX12_howMany_54 ?_
      exact r_ri F hQ (Option.some.inj hf) dX12_howMany_57
    · have hf := o_f h2 hf
      by_cases h3 : x1 = 2
      · have hf := o_t h3 hf
        refine lv_tableIn (off := 57) (tgt := 58) hx hb dX12_howMany_1 (by rw [h3]; decide) (by rw [h3]; decide) (by rw [h3]; rfl) (by decide) ?_
        refine lv_aload_n hx hb dX12_howMany_58 rfl (lv_at hl 0 rfl) ?_
        obtain ⟨q4, hq4, hf⟩ := o_bind hf
        refine k_rV F (c_X12_chosen l g aM rM v_halls v_bidders v_fall v_heard v_asks v_pageLength v_isWhole v_newMany v_seedNow v_isKept v_keptHall v_keptHeard v_h v_choiceOf hq4) qv_X12_chosen ml_X12_208 (hP.sub [0, 1] rfl) hK (va_recv hK.1 hP (ci := 12) (q0 := 0) rfl rfl) rfl hl.1 rfl (Nat.le_of_ble_eq_true rfl) dX12_howMany_59 ⟨(Nat.le_of_ble_eq_true rfl), (Nat.le_of_ble_eq_true rfl)⟩ ⟨(Nat.le_of_ble_eq_true rfl), (Nat.le_of_ble_eq_true rfl)⟩ ?_
        refine W.eq (g2 := F0 m 62 ls (.int q4 :: [])) rfl ?_
        exact r_ri F hQ (Option.some.inj hf) dX12_howMany_62
      · have hf := o_f h3 hf
        by_cases h5 : x1 = 3
        · have hf := o_t h5 hf
          refine lv_tableIn (off := 62) (tgt := 63) hx hb dX12_howMany_1 (by rw [h5]; decide) (by rw [h5]; decide) (by rw [h5]; rfl) (by decide) ?_
          refine lv_aload_n hx hb dX12_howMany_63 rfl (lv_at hl 0 rfl) ?_
          obtain ⟨q6, hq6, hf⟩ := o_bind hf
          refine k_rV F (c_X12_touches l g aM rM v_halls v_bidders v_fall v_heard v_asks v_pageLength v_isWhole v_newMany v_seedNow v_isKept v_keptHall v_keptHeard v_h v_touchedBy hq6) qv_X12_touches ml_X12_211 (hP.sub [0, 2] rfl) hK (va_recv hK.1 hP (ci := 12) (q0 := 0) rfl rfl) rfl hl.1 rfl (Nat.le_of_ble_eq_true rfl) dX12_howMany_64 ⟨(Nat.le_of_ble_eq_true rfl), (Nat.le_of_ble_eq_true rfl)⟩ ⟨(Nat.le_of_ble_eq_true rfl), (Nat.le_of_ble_eq_true rfl)⟩ ?_
          refine W.eq (g2 := F0 m 67 ls (.int q6 :: [])) rfl ?_
          exact r_ri F hQ (Option.some.inj hf) dX12_howMany_67
        · have hf := o_f h5 hf
          by_cases h7 : x1 = 4
          · have hf := o_t h7 hf
            refine lv_tableIn (off := 67) (tgt := 68) hx hb dX12_howMany_1 (by rw [h7]; decide) (by rw [h7]; decide) (by rw [h7]; rfl) (by decide) ?_
            refine lv_aload_n hx hb dX12_howMany_68 rfl (lv_at hl 0 rfl) ?_
            refine w_get (ci := 12) F hK hP fb_X12 0 rfl rfl 9 (by decide) fl_X12_98 (fun _ h => h) rfl dX12_howMany_69 ?_
            exact r_ri F hQ (Option.some.inj hf) dX12_howMany_72
          · have hf := o_f h7 hf
            by_cases h8 : x1 = 5
            · have hf := o_t h8 hf
              refine lv_tableIn (off := 72) (tgt := 73) hx hb dX12_howMany_1 (by rw [h8]; decide) (by rw [h8]; decide) (by rw [h8]; rfl) (by decide) ?_
              refine lv_aload_n hx hb dX12_howMany_73 rfl (lv_at hl 0 rfl) ?_
              refine w_get (ci := 12) F hK hP fb_X12 0 rfl rfl 13 (by decide) fl_X12_63 (fun _ h => h) rfl dX12_howMany_74 ?_
              exact r_ri F hQ (Option.some.inj hf) dX12_howMany_77
            · have hf := o_f h8 hf
              by_cases h9 : x1 = 6
              · have hf := o_t h9 hf
                refine lv_tableIn (off := 77) (tgt := 78) hx hb dX12_howMany_1 (by rw [h9]; decide) (by rw [h9]; decide) (by rw [h9]; rfl) (by decide) ?_
                refine lv_aload_n hx hb dX12_howMany_78 rfl (lv_at hl 0 rfl) ?_
                refine w_get (ci := 12) F hK hP fb_X12 0 rfl rfl 0 (by decide) fl_X12_95 (fun _ h => h) rfl dX12_howMany_79 ?_
                exact r_ri F hQ (Option.some.inj hf) dX12_howMany_82
              · have hf := o_f h9 hf
                by_cases h10 : x1 = 7
                · have hf := o_t h10 hf
                  refine lv_tableIn (off := 82) (tgt := 83) hx hb dX12_howMany_1 (by rw [h10]; decide) (by rw [h10]; decide) (by rw [h10]; rfl) (by decide) ?_
                  refine lv_aload_n hx hb dX12_howMany_83 rfl (lv_at hl 0 rfl) ?_
                  refine w_get (ci := 12) F hK hP fb_X12 0 rfl rfl 12 (by decide) fl_X12_162 (fun _ h => h) rfl dX12_howMany_84 ?_
                  exact r_ri F hQ (Option.some.inj hf) dX12_howMany_87
                · have hf := o_f h10 hf
                  refine lv_tableOut (tgt := 88) hx hb dX12_howMany_1 (by have := tI h1 (k := 0) rfl; have := tI h2 (k := 1) rfl; have := tI h3 (k := 2) rfl; have := tI h5 (k := 3) rfl; have := tI h7 (k := 4) rfl; have := tI h8 (k := 5) rfl; have := tI h9 (k := 6) rfl; have := tI h10 (k := 7) rfl; omega) (by decide) ?_
                  refine lv_bipush (v := (-102)) hx hb dX12_howMany_88 (by decide) ?_
                  exact r_ri F hQ (Option.some.inj hf) dX12_howMany_90
def f_X12_count (x1 : Int32) (v_asks : Int32) (v_bidders : Int32) (v_choiceOf : Nat → Int32) (v_fall : Int32) (v_halls : Int32) (v_heard : Int32) (v_pageLength : Int32) (v_touchedBy : Nat → Int32) : Option (Int32) := ((f_X12_howMany x1 v_asks v_bidders v_choiceOf v_fall v_halls v_heard v_pageLength v_touchedBy).bind fun q1 => (some q1))
set_option maxRecDepth 100000 in
set_option maxHeartbeats 4000000 in
theorem c_X12_count (l : Launch) (g : GG) (aM : Nat) (rM : Nat → Nat) (x1 : Int32) (v_halls : Int32) (v_bidders : Int32) (v_fall : Int32) (v_heard : Int32) (v_asks : Int32) (v_pageLength : Int32) (v_isWhole : Int32) (v_newMany : Int32) (v_seedNow : Int64) (v_isKept : Int32) (v_keptHall : Int32) (v_keptHeard : Int32) (v_h : Int64) (v_choiceOf : Nat → Int32) (v_touchedBy : Nat → Int32) {r0 : Int32} (hf : f_X12_count x1 v_asks v_bidders v_choiceOf v_fall v_halls v_heard v_pageLength v_touchedBy = some r0) : MR l g yX12_count cX12_count 2 (some .int) 2 43 [.ref aM, .int x1] [ob aM 12 (oM rM v_halls v_bidders v_fall v_heard v_asks v_pageLength v_isWhole v_newMany v_seedNow v_isKept v_keptHall v_keptHeard v_h), ia g (rM 7) 5 v_choiceOf, ia g (rM 8) 5 v_touchedBy] (some (.int r0)) := by
  refine MR.mk (by decide) (Nat.le_of_ble_eq_true rfl) ?_
  intro p e s m args below meth c ls Q F hK hP hl hQ
  have hx := F.1
  have hb := F.2.1
  have hml := F.2.2.2.1
  have hown := F.2.2.2.2.1
  have hts := F.2.2.2.2.2.1
  have hl : lv_has ls 2 [(0, .ref aM), (1, .int x1)] := hl
  unfold f_X12_count at hf
  refine lv_aload_n hx hb dX12_count_0 rfl (lv_at hl 0 rfl) ?_
  refine lv_iload_n hx hb dX12_count_1 rfl (lv_at hl 1 rfl) ?_
  obtain ⟨q1, hq1, hf⟩ := o_bind hf
  refine k_rV F (c_X12_howMany l g aM rM x1 v_halls v_bidders v_fall v_heard v_asks v_pageLength v_isWhole v_newMany v_seedNow v_isKept v_keptHall v_keptHeard v_h v_choiceOf v_touchedBy hq1) qv_X12_howMany ml_X12_214 (hP.sub [0, 1, 2] rfl) hK (va_recv hK.1 hP (ci := 12) (q0 := 0) rfl rfl) rfl hl.1 rfl (Nat.le_of_ble_eq_true rfl) dX12_count_2 ⟨(Nat.le_of_ble_eq_true rfl), (Nat.le_of_ble_eq_true rfl)⟩ ⟨(Nat.le_of_ble_eq_true rfl), (Nat.le_of_ble_eq_true rfl)⟩ ?_
  refine W.eq (g2 := F0 m 5 ls (.int q1 :: [])) rfl ?_
  exact r_ri F hQ (Option.some.inj hf) dX12_count_5
def f_X12_mix (x1 : Int64) (v_h : Int64) : Option (Int64) := (bnd ((31 * v_h) + x1) fun z1 => (some z1))
set_option maxRecDepth 100000 in
set_option maxHeartbeats 4000000 in
theorem c_X12_mix (l : Launch) (g : GG) (aM : Nat) (rM : Nat → Nat) (x1 : Int64) (v_halls : Int32) (v_bidders : Int32) (v_fall : Int32) (v_heard : Int32) (v_asks : Int32) (v_pageLength : Int32) (v_isWhole : Int32) (v_newMany : Int32) (v_seedNow : Int64) (v_isKept : Int32) (v_keptHall : Int32) (v_keptHeard : Int32) (v_h : Int64) {r0 : Int64} (hf : f_X12_mix x1 v_h = some r0) : MD l g yX12_mix cX12_mix 3 none 0 0 [.ref aM, .long x1] [ob aM 12 (oM rM v_halls v_bidders v_fall v_heard v_asks v_pageLength v_isWhole v_newMany v_seedNow v_isKept v_keptHall v_keptHeard v_h)] none [ob aM 12 (oM rM v_halls v_bidders v_fall v_heard v_asks v_pageLength v_isWhole v_newMany v_seedNow v_isKept v_keptHall v_keptHeard r0)] := by
  refine MC.mk (by decide) (Nat.le_of_ble_eq_true rfl) ?_
  intro p e s m args below meth c ls Q A F hnm hK hw hA hl hQ
  have hP := hw.1
  have hx := F.1
  have hb := F.2.1
  have hml := F.2.2.2.1
  have hown := F.2.2.2.2.1
  have hts := F.2.2.2.2.2.1
  have hl : lv_has ls 3 [(0, .ref aM), (1, .long x1)] := hl
  unfold f_X12_mix at hf
  refine lv_aload_n hx hb dX12_mix_0 rfl (lv_at hl 0 rfl) ?_
  refine lv_ldc2 (v := 31) hx hb hown (hts _ kc_X12_217) dX12_mix_1 ?_
  refine lv_aload_n hx hb dX12_mix_4 rfl (lv_at hl 0 rfl) ?_
  refine w_get (ci := 12) F hK hP fb_X12 0 rfl rfl 28 (by decide) fl_X12_219 (fun _ h => h) rfl dX12_mix_5 ?_
  refine lv_lmul hx hb dX12_mix_8 ?_
  refine lv_lload_n hx hb dX12_mix_9 rfl (lv_at hl 1 rfl) ?_
  refine lv_ladd hx hb dX12_mix_10 ?_
  refine lv_topl (fun z1 ez1 => ?_)
  have hf := o_bnd ez1 hf
  refine w_put (ci := 12) (ws' := [ob aM 12 (oM rM v_halls v_bidders v_fall v_heard v_asks v_pageLength v_isWhole v_newMany v_seedNow v_isKept v_keptHall v_keptHeard z1)]) F hK hw fb_X12 0 rfl rfl 28 (by decide) fl_X12_219 (fun _ h => h) rfl rfl rfl rfl (Nat.le_of_ble_eq_true rfl) rfl dX12_mix_11 (fun H locs hw => ?_)
  have hP := hw.1
  cases hf
  exact r_cv F hQ ⟨rfl, rfl⟩ hw dX12_mix_14
def f_X12_digest_69 (fuel : Nat) (v_asks : Int32) (v_bidders : Int32) (v_fall : Int32) (v_halls : Int32) (v_heard : Int32) (v_heardBidder : Nat → Int32) (v_heardBreath : Nat → Int32) (v_kindOf : Nat → Int32) (v_page : Nat → Int32) (v_pageLength : Int32) (v_sumOf : Nat → Int32) (v_wishOf : Nat → Int32) (y2 : Int32) (y1 : Int32) (w_v_choiceOf : Nat → Int32) (w_v_h : Int64) (w_v_stopsAt : Nat → Int32) (w_v_touchedBy : Nat → Int32) (w_v_windOf : Nat → Int32) : Option (Int32 × Int32 × (Nat → Int32) × Int64 × (Nat → Int32) × (Nat → Int32) × (Nat → Int32)) := match fuel with
  | 0 => none
  | k + 1 => (if 10 ≤ y2 then (some (y2, y1, w_v_choiceOf, w_v_h, w_v_stopsAt, w_v_touchedBy, w_v_windOf)) else ((f_X12_bidderNow y1 y2 v_bidders w_v_choiceOf v_fall v_kindOf w_v_stopsAt v_sumOf w_v_touchedBy w_v_windOf v_wishOf).bind fun q4 => ((f_X12_mix (Int32.toInt64 q4.1) w_v_h).bind fun q5 => (bnd (y2 + 1 : Int32) fun z6 => (f_X12_digest_69 k v_asks v_bidders v_fall v_halls v_heard v_heardBidder v_heardBreath v_kindOf v_page v_pageLength v_sumOf v_wishOf z6 y1 w_v_choiceOf q5 q4.2 w_v_touchedBy w_v_windOf)))))
def f_X12_digest_59 (fuel : Nat) (v_asks : Int32) (v_bidders : Int32) (v_fall : Int32) (v_halls : Int32) (v_heard : Int32) (v_heardBidder : Nat → Int32) (v_heardBreath : Nat → Int32) (v_kindOf : Nat → Int32) (v_page : Nat → Int32) (v_pageLength : Int32) (v_sumOf : Nat → Int32) (v_wishOf : Nat → Int32) (y1 : Int32) (w_v_choiceOf : Nat → Int32) (w_v_h : Int64) (w_v_stopsAt : Nat → Int32) (w_v_touchedBy : Nat → Int32) (w_v_windOf : Nat → Int32) : Option (Int32 × (Nat → Int32) × Int64 × (Nat → Int32) × (Nat → Int32) × (Nat → Int32)) := match fuel with
  | 0 => none
  | k + 1 => (if v_bidders ≤ y1 then (some (y1, w_v_choiceOf, w_v_h, w_v_stopsAt, w_v_touchedBy, w_v_windOf)) else ((f_X12_digest_69 4096 v_asks v_bidders v_fall v_halls v_heard v_heardBidder v_heardBreath v_kindOf v_page v_pageLength v_sumOf v_wishOf 0 y1 w_v_choiceOf w_v_h w_v_stopsAt w_v_touchedBy w_v_windOf).bind fun q7 => ((f_X12_bestNow q7.2.1 0 v_bidders q7.2.2.1 v_fall v_kindOf q7.2.2.2.2.1 v_sumOf q7.2.2.2.2.2.1 q7.2.2.2.2.2.2 v_wishOf).bind fun q8 => ((f_X12_mix (Int32.toInt64 q8.1) q7.2.2.2.1).bind fun q9 => ((f_X12_bestNow q7.2.1 1 v_bidders q8.2.1 v_fall v_kindOf q8.2.2 v_sumOf q7.2.2.2.2.2.1 q7.2.2.2.2.2.2 v_wishOf).bind fun q10 => ((f_X12_mix (Int32.toInt64 q10.1) q9).bind fun q11 => ((f_X12_windsNow q7.2.1 v_bidders q10.2.1 v_heard v_heardBidder v_heardBreath v_kindOf q10.2.2 q7.2.2.2.2.2.1 q7.2.2.2.2.2.2).bind fun q12 => ((f_X12_mix (Int32.toInt64 q12.1) q11).bind fun q13 => (bnd (q7.2.1 + 1 : Int32) fun z14 => (f_X12_digest_59 k v_asks v_bidders v_fall v_halls v_heard v_heardBidder v_heardBreath v_kindOf v_page v_pageLength v_sumOf v_wishOf z14 q10.2.1 q13 q12.2.1 q7.2.2.2.2.2.1 q12.2.2))))))))))
def f_X12_digest_132 (fuel : Nat) (v_asks : Int32) (v_bidders : Int32) (v_fall : Int32) (v_halls : Int32) (v_heard : Int32) (v_heardBidder : Nat → Int32) (v_heardBreath : Nat → Int32) (v_kindOf : Nat → Int32) (v_page : Nat → Int32) (v_pageLength : Int32) (v_sumOf : Nat → Int32) (v_wishOf : Nat → Int32) (y1 : Int32) (w_v_choiceOf : Nat → Int32) (w_v_h : Int64) (w_v_stopsAt : Nat → Int32) (w_v_touchedBy : Nat → Int32) (w_v_windOf : Nat → Int32) : Option (Int32 × (Nat → Int32) × Int64 × (Nat → Int32) × (Nat → Int32) × (Nat → Int32)) := match fuel with
  | 0 => none
  | k + 1 => (if v_pageLength ≤ y1 then (some (y1, w_v_choiceOf, w_v_h, w_v_stopsAt, w_v_touchedBy, w_v_windOf)) else (if y1 < 0 ∨ 28 ≤ Int32.toNatClampNeg y1 then none else ((f_X12_mix (Int32.toInt64 (v_page (Int32.toNatClampNeg y1))) w_v_h).bind fun q18 => (bnd (y1 + 1 : Int32) fun z19 => (f_X12_digest_132 k v_asks v_bidders v_fall v_halls v_heard v_heardBidder v_heardBreath v_kindOf v_page v_pageLength v_sumOf v_wishOf z19 w_v_choiceOf q18 w_v_stopsAt w_v_touchedBy w_v_windOf)))))
def f_X12_digest_159 (fuel : Nat) (v_asks : Int32) (v_bidders : Int32) (v_fall : Int32) (v_halls : Int32) (v_heard : Int32) (v_heardBidder : Nat → Int32) (v_heardBreath : Nat → Int32) (v_kindOf : Nat → Int32) (v_page : Nat → Int32) (v_pageLength : Int32) (v_sumOf : Nat → Int32) (v_wishOf : Nat → Int32) (y1 : Int32) (w_v_choiceOf : Nat → Int32) (w_v_h : Int64) (w_v_stopsAt : Nat → Int32) (w_v_touchedBy : Nat → Int32) (w_v_windOf : Nat → Int32) : Option (Int32 × (Nat → Int32) × Int64 × (Nat → Int32) × (Nat → Int32) × (Nat → Int32)) := match fuel with
  | 0 => none
  | k + 1 => (if 8 ≤ y1 then (some (y1, w_v_choiceOf, w_v_h, w_v_stopsAt, w_v_touchedBy, w_v_windOf)) else ((f_X12_howMany y1 v_asks v_bidders w_v_choiceOf v_fall v_halls v_heard v_pageLength w_v_touchedBy).bind fun q22 => ((f_X12_mix (Int32.toInt64 q22) w_v_h).bind fun q23 => (bnd (y1 + 1 : Int32) fun z24 => (f_X12_digest_159 k v_asks v_bidders v_fall v_halls v_heard v_heardBidder v_heardBreath v_kindOf v_page v_pageLength v_sumOf v_wishOf z24 w_v_choiceOf q23 w_v_stopsAt w_v_touchedBy w_v_windOf)))))
def f_X12_digest_16 (fuel : Nat) (v_asks : Int32) (v_bidders : Int32) (v_fall : Int32) (v_halls : Int32) (v_heard : Int32) (v_heardBidder : Nat → Int32) (v_heardBreath : Nat → Int32) (v_kindOf : Nat → Int32) (v_page : Nat → Int32) (v_pageLength : Int32) (v_sumOf : Nat → Int32) (v_wishOf : Nat → Int32) (y1 : Int32) (w_v_choiceOf : Nat → Int32) (w_v_h : Int64) (w_v_stopsAt : Nat → Int32) (w_v_touchedBy : Nat → Int32) (w_v_windOf : Nat → Int32) : Option (Int32 × (Nat → Int32) × Int64 × (Nat → Int32) × (Nat → Int32) × (Nat → Int32)) := match fuel with
  | 0 => none
  | k + 1 => (if 3 ≤ y1 then (some (y1, w_v_choiceOf, w_v_h, w_v_stopsAt, w_v_touchedBy, w_v_windOf)) else ((f_X12_lotNow y1 v_bidders w_v_choiceOf v_fall v_kindOf w_v_stopsAt v_sumOf w_v_touchedBy w_v_windOf).bind fun q27 => ((f_X12_mix (Int32.toInt64 q27.1) w_v_h).bind fun q28 => (bnd (y1 + 1 : Int32) fun z29 => (f_X12_digest_16 k v_asks v_bidders v_fall v_halls v_heard v_heardBidder v_heardBreath v_kindOf v_page v_pageLength v_sumOf v_wishOf z29 w_v_choiceOf q28 q27.2 w_v_touchedBy w_v_windOf)))))
def f_X12_digest (v_asks : Int32) (v_bidders : Int32) (v_choiceOf : Nat → Int32) (v_fall : Int32) (v_h : Int64) (v_halls : Int32) (v_heard : Int32) (v_heardBidder : Nat → Int32) (v_heardBreath : Nat → Int32) (v_kindOf : Nat → Int32) (v_page : Nat → Int32) (v_pageLength : Int32) (v_stopsAt : Nat → Int32) (v_sumOf : Nat → Int32) (v_touchedBy : Nat → Int32) (v_windOf : Nat → Int32) (v_wishOf : Nat → Int32) : Option (Int64 × (Nat → Int32) × Int64 × (Nat → Int32) × (Nat → Int32) × (Nat → Int32)) := (if v_bidders ≤ 0 then ((f_X12_digest_59 4096 v_asks v_bidders v_fall v_halls v_heard v_heardBidder v_heardBreath v_kindOf v_page v_pageLength v_sumOf v_wishOf 0 v_choiceOf 911 v_stopsAt v_touchedBy v_windOf).bind fun q15 => ((f_X12_digest_132 4096 v_asks v_bidders v_fall v_halls v_heard v_heardBidder v_heardBreath v_kindOf v_page v_pageLength v_sumOf v_wishOf 0 q15.2.1 q15.2.2.1 q15.2.2.2.1 q15.2.2.2.2.1 q15.2.2.2.2.2).bind fun q20 => ((f_X12_digest_159 4096 v_asks v_bidders v_fall v_halls v_heard v_heardBidder v_heardBreath v_kindOf v_page v_pageLength v_sumOf v_wishOf 0 q20.2.1 q20.2.2.1 q20.2.2.2.1 q20.2.2.2.2.1 q20.2.2.2.2.2).bind fun q25 => (some (q25.2.2.1, q25.2.1, q25.2.2.1, q25.2.2.2.1, q25.2.2.2.2.1, q25.2.2.2.2.2))))) else ((f_X12_digest_16 4096 v_asks v_bidders v_fall v_halls v_heard v_heardBidder v_heardBreath v_kindOf v_page v_pageLength v_sumOf v_wishOf 0 v_choiceOf 911 v_stopsAt v_touchedBy v_windOf).bind fun q30 => ((f_X12_touchedNow 0 v_bidders q30.2.1 v_heard v_heardBidder v_heardBreath v_kindOf q30.2.2.2.1 q30.2.2.2.2.1 q30.2.2.2.2.2).bind fun q31 => ((f_X12_mix (Int32.toInt64 q31.1) q30.2.2.1).bind fun q32 => ((f_X12_touchedNow 1 v_bidders q30.2.1 v_heard v_heardBidder v_heardBreath v_kindOf q31.2.1 q31.2.2 q30.2.2.2.2.2).bind fun q33 => ((f_X12_mix (Int32.toInt64 q33.1) q32).bind fun q34 => ((f_X12_digest_59 4096 v_asks v_bidders v_fall v_halls v_heard v_heardBidder v_heardBreath v_kindOf v_page v_pageLength v_sumOf v_wishOf 0 q30.2.1 q34 q33.2.1 q33.2.2 q30.2.2.2.2.2).bind fun q35 => ((f_X12_digest_132 4096 v_asks v_bidders v_fall v_halls v_heard v_heardBidder v_heardBreath v_kindOf v_page v_pageLength v_sumOf v_wishOf 0 q35.2.1 q35.2.2.1 q35.2.2.2.1 q35.2.2.2.2.1 q35.2.2.2.2.2).bind fun q36 => ((f_X12_digest_159 4096 v_asks v_bidders v_fall v_halls v_heard v_heardBidder v_heardBreath v_kindOf v_page v_pageLength v_sumOf v_wishOf 0 q36.2.1 q36.2.2.1 q36.2.2.2.1 q36.2.2.2.2.1 q36.2.2.2.2.2).bind fun q37 => (some (q37.2.2.1, q37.2.1, q37.2.2.1, q37.2.2.2.1, q37.2.2.2.2.1, q37.2.2.2.2.2)))))))))))
set_option maxRecDepth 100000 in
set_option maxHeartbeats 4000000 in
theorem c_X12_digest (l : Launch) (g : GG) (aM : Nat) (rM : Nat → Nat) (v_halls : Int32) (v_bidders : Int32) (v_fall : Int32) (v_heard : Int32) (v_asks : Int32) (v_pageLength : Int32) (v_isWhole : Int32) (v_newMany : Int32) (v_seedNow : Int64) (v_isKept : Int32) (v_keptHall : Int32) (v_keptHeard : Int32) (v_h : Int64) (v_choiceOf : Nat → Int32) (v_heardBidder : Nat → Int32) (v_heardBreath : Nat → Int32) (v_kindOf : Nat → Int32) (v_page : Nat → Int32) (v_stopsAt : Nat → Int32) (v_sumOf : Nat → Int32) (v_touchedBy : Nat → Int32) (v_windOf : Nat → Int32) (v_wishOf : Nat → Int32) {r0 : Int64} {r1 : Nat → Int32} {r2 : Int64} {r3 : Nat → Int32} {r4 : Nat → Int32} {r5 : Nat → Int32} (hf : f_X12_digest v_asks v_bidders v_choiceOf v_fall v_h v_halls v_heard v_heardBidder v_heardBreath v_kindOf v_page v_pageLength v_stopsAt v_sumOf v_touchedBy v_windOf v_wishOf = some (r0, r1, r2, r3, r4, r5)) : MD l g yX12_digest cX12_digest 3 (some .long) 6 140 [.ref aM] [ob aM 12 (oM rM v_halls v_bidders v_fall v_heard v_asks v_pageLength v_isWhole v_newMany v_seedNow v_isKept v_keptHall v_keptHeard v_h), ia g (rM 7) 5 v_choiceOf, ia g (rM 10) 8 v_heardBidder, ia g (rM 11) 8 v_heardBreath, ia g (rM 3) 5 v_kindOf, ba g (rM 14) 28 v_page, ia g (rM 17) 5 v_stopsAt, ia g (rM 5) 5 v_sumOf, ia g (rM 8) 5 v_touchedBy, ia g (rM 4) 5 v_windOf, ia g (rM 6) 5 v_wishOf] (some (.long r0)) [ob aM 12 (oM rM v_halls v_bidders v_fall v_heard v_asks v_pageLength v_isWhole v_newMany v_seedNow v_isKept v_keptHall v_keptHeard r2), ia g (rM 7) 5 r1, ia g (rM 10) 8 v_heardBidder, ia g (rM 11) 8 v_heardBreath, ia g (rM 3) 5 v_kindOf, ba g (rM 14) 28 v_page, ia g (rM 17) 5 r3, ia g (rM 5) 5 v_sumOf, ia g (rM 8) 5 r4, ia g (rM 4) 5 r5, ia g (rM 6) 5 v_wishOf] := by
  refine MC.mk (by decide) (Nat.le_of_ble_eq_true rfl) ?_
  intro p e s m args below meth c ls Q A F hnm hK hw hA hl hQ
  have hP := hw.1
  have hx := F.1
  have hb := F.2.1
  have hml := F.2.2.2.1
  have hown := F.2.2.2.2.1
  have hts := F.2.2.2.2.2.1
  have hl : lv_has ls 3 [(0, .ref aM)] := hl
  have L69 : ∀ (k : Nat) (y2 : Int32) (y1 : Int32) (w_v_choiceOf : Nat → Int32) (w_v_h : Int64) (w_v_stopsAt : Nat → Int32) (w_v_touchedBy : Nat → Int32) (w_v_windOf : Nat → Int32) (q : Int32 × Int32 × (Nat → Int32) × Int64 × (Nat → Int32) × (Nat → Int32) × (Nat → Int32)), f_X12_digest_69 k v_asks v_bidders v_fall v_halls v_heard v_heardBidder v_heardBreath v_kindOf v_page v_pageLength v_sumOf v_wishOf y2 y1 w_v_choiceOf w_v_h w_v_stopsAt w_v_touchedBy w_v_windOf = some q → ∀ (H : Heap) (locs : List Loc) (ls : Array Slot), WD g A s.heap [ob aM 12 (oM rM v_halls v_bidders v_fall v_heard v_asks v_pageLength v_isWhole v_newMany v_seedNow v_isKept v_keptHall v_keptHeard w_v_h), ia g (rM 7) 5 w_v_choiceOf, ia g (rM 10) 8 v_heardBidder, ia g (rM 11) 8 v_heardBreath, ia g (rM 3) 5 v_kindOf, ba g (rM 14) 28 v_page, ia g (rM 17) 5 w_v_stopsAt, ia g (rM 5) 5 v_sumOf, ia g (rM 8) 5 w_v_touchedBy, ia g (rM 4) 5 w_v_windOf, ia g (rM 6) 5 v_wishOf] H locs → lv_has ls 3 [(2, .int y2), (1, .int y1), (0, .ref aM)] → (∀ (H : Heap) (locs : List Loc) (ls : Array Slot), WD g A s.heap [ob aM 12 (oM rM v_halls v_bidders v_fall v_heard v_asks v_pageLength v_isWhole v_newMany v_seedNow v_isKept v_keptHall v_keptHeard q.2.2.2.1), ia g (rM 7) 5 q.2.2.1, ia g (rM 10) 8 v_heardBidder, ia g (rM 11) 8 v_heardBreath, ia g (rM 3) 5 v_kindOf, ba g (rM 14) 28 v_page, ia g (rM 17) 5 q.2.2.2.2.1, ia g (rM 5) 5 v_sumOf, ia g (rM 8) 5 q.2.2.2.2.2.1, ia g (rM 4) 5 q.2.2.2.2.2.2, ia g (rM 6) 5 v_wishOf] H locs → lv_has ls 3 [(2, .int q.1), (1, .int q.2.1), (0, .ref aM)] → W p l e (rmc 6 0 0 140) s m args below meth c H locs 0 0 Q (F0 m 92 ls [])) → W p l e (rmc 6 0 0 140) s m args below meth c H locs 0 0 Q (F0 m 69 ls []) := by
    intro k
    induction k with
    | zero => intro y2 y1 w_v_choiceOf w_v_h w_v_stopsAt w_v_touchedBy w_v_windOf q hf; rw [f_X12_digest_69] at hf; cases hf
    | succ k ih =>
      intro y2 y1 w_v_choiceOf w_v_h w_v_stopsAt w_v_touchedBy w_v_windOf q hf H locs ls hw hl kx
      rw [f_X12_digest_69] at hf
      have hP := hw.1
      refine lv_iload_n hx hb dX12_digest_69 rfl (lv_at hl 0 rfl) ?_
      refine lv_bipush (v := 10) hx hb dX12_digest_70 (by decide) ?_
      refine lv_icmp_ge (tgt := 92) hx hb dX12_digest_72 (by decide) (fun h3 => ?_) (fun h3 => ?_)
      · have hf := o_t h3 hf
        cases hf
        exact kx _ _ ls hw (lv_sub hl [0, 1, 2] rfl)
      · have hf := o_f h3 hf
        refine lv_aload_n hx hb dX12_digest_75 rfl (lv_at hl 2 rfl) ?_
        refine lv_aload_n hx hb dX12_digest_76 rfl (lv_at hl 2 rfl) ?_
        refine lv_iload_n hx hb dX12_digest_77 rfl (lv_at hl 1 rfl) ?_
        refine lv_iload_n hx hb dX12_digest_78 rfl (lv_at hl 0 rfl) ?_
        obtain ⟨q4, hq4, hf⟩ := o_bind hf
        refine k_dV (wr := [ia g (rM 10) 8 v_heardBidder, ia g (rM 11) 8 v_heardBreath, ba g (rM 14) 28 v_page]) (ws' := [ob aM 12 (oM rM v_halls v_bidders v_fall v_heard v_asks v_pageLength v_isWhole v_newMany v_seedNow v_isKept v_keptHall v_keptHeard w_v_h), ia g (rM 7) 5 w_v_choiceOf, ia g (rM 10) 8 v_heardBidder, ia g (rM 11) 8 v_heardBreath, ia g (rM 3) 5 v_kindOf, ba g (rM 14) 28 v_page, ia g (rM 17) 5 q4.2, ia g (rM 5) 5 v_sumOf, ia g (rM 8) 5 w_v_touchedBy, ia g (rM 4) 5 w_v_windOf, ia g (rM 6) 5 v_wishOf]) F (c_X12_bidderNow l g aM rM y1 y2 v_halls v_bidders v_fall v_heard v_asks v_pageLength v_isWhole v_newMany v_seedNow v_isKept v_keptHall v_keptHeard w_v_h w_v_choiceOf v_kindOf w_v_stopsAt v_sumOf w_v_touchedBy w_v_windOf v_wishOf hq4) qv_X12_bidderNow ml_X12_133 hw hA hK [0, 1, 4, 6, 7, 8, 9, 10] [2, 3, 5] [3, 4, 0, 1, 5, 2, 6, 7, 8, 9, 10] rfl rfl rfl rfl rfl (by decide) rfl rfl rfl (va_recv hK.1 hP (ci := 12) (q0 := 0) rfl rfl) rfl hl.1 rfl (Nat.le_of_ble_eq_true rfl) dX12_digest_79 ⟨(Nat.le_of_ble_eq_true rfl), (Nat.le_of_ble_eq_true rfl)⟩ ⟨(Nat.le_of_ble_eq_true rfl), (Nat.le_of_ble_eq_true rfl)⟩ (fun H locs hw => ?_)
        have hP := hw.1
        refine W.eq (g2 := F0 m 82 ls (.int q4.1 :: [.ref aM])) rfl ?_
        refine lv_i2l hx hb dX12_digest_82 rfl ?_
        obtain ⟨q5, hq5, hf⟩ := o_bind hf
        refine k_dV (wr := [ia g (rM 7) 5 w_v_choiceOf, ia g (rM 10) 8 v_heardBidder, ia g (rM 11) 8 v_heardBreath, ia g (rM 3) 5 v_kindOf, ba g (rM 14) 28 v_page, ia g (rM 17) 5 q4.2, ia g (rM 5) 5 v_sumOf, ia g (rM 8) 5 w_v_touchedBy, ia g (rM 4) 5 w_v_windOf, ia g (rM 6) 5 v_wishOf]) (ws' := [ob aM 12 (oM rM v_halls v_bidders v_fall v_heard v_asks v_pageLength v_isWhole v_newMany v_seedNow v_isKept v_keptHall v_keptHeard q5), ia g (rM 7) 5 w_v_choiceOf, ia g (rM 10) 8 v_heardBidder, ia g (rM 11) 8 v_heardBreath, ia g (rM 3) 5 v_kindOf, ba g (rM 14) 28 v_page, ia g (rM 17) 5 q4.2, ia g (rM 5) 5 v_sumOf, ia g (rM 8) 5 w_v_touchedBy, ia g (rM 4) 5 w_v_windOf, ia g (rM 6) 5 v_wishOf]) F (c_X12_mix l g aM rM (Int32.toInt64 q4.1) v_halls v_bidders v_fall v_heard v_asks v_pageLength v_isWhole v_newMany v_seedNow v_isKept v_keptHall v_keptHeard w_v_h hq5) qv_X12_mix ml_X12_224 hw hA hK [0] [1, 2, 3, 4, 5, 6, 7, 8, 9, 10] [10, 0, 1, 2, 3, 4, 5, 6, 7, 8, 9] rfl rfl rfl rfl rfl (by decide) rfl rfl rfl (va_recv hK.1 hP (ci := 12) (q0 := 0) rfl rfl) rfl hl.1 rfl (Nat.le_of_ble_eq_true rfl) dX12_digest_83 ⟨(Nat.le_of_ble_eq_true rfl), (Nat.le_of_ble_eq_true rfl)⟩ ⟨(Nat.le_of_ble_eq_true rfl), (Nat.le_of_ble_eq_true rfl)⟩ (fun H locs hw => ?_)
        have hP := hw.1
        refine W.eq (g2 := F0 m 86 ls ([])) rfl ?_
        obtain ⟨z6, ez6⟩ : ∃ y : Int32, y = y2 + 1 := ⟨_, rfl⟩
        have hf := o_bnd ez6 hf
        refine lv_iinc (v := z6) (lv' := [(2, .int z6), (1, .int y1), (0, .ref aM)]) hx hb dX12_digest_86 hl (k := 0) rfl (by rw [ez6]; rfl) (by decide) rfl (fun ls hl => ?_)
        refine lv_goto (tgt := 69) hx hb dX12_digest_89 (by decide) ?_
        exact ih z6 y1 w_v_choiceOf q5 q4.2 w_v_touchedBy w_v_windOf _ hf _ _ ls hw (lv_sub hl [0, 1, 2] rfl) kx
  have L59 : ∀ (k : Nat) (y1 : Int32) (w_v_choiceOf : Nat → Int32) (w_v_h : Int64) (w_v_stopsAt : Nat → Int32) (w_v_touchedBy : Nat → Int32) (w_v_windOf : Nat → Int32) (q : Int32 × (Nat → Int32) × Int64 × (Nat → Int32) × (Nat → Int32) × (Nat → Int32)), f_X12_digest_59 k v_asks v_bidders v_fall v_halls v_heard v_heardBidder v_heardBreath v_kindOf v_page v_pageLength v_sumOf v_wishOf y1 w_v_choiceOf w_v_h w_v_stopsAt w_v_touchedBy w_v_windOf = some q → ∀ (H : Heap) (locs : List Loc) (ls : Array Slot), WD g A s.heap [ob aM 12 (oM rM v_halls v_bidders v_fall v_heard v_asks v_pageLength v_isWhole v_newMany v_seedNow v_isKept v_keptHall v_keptHeard w_v_h), ia g (rM 7) 5 w_v_choiceOf, ia g (rM 10) 8 v_heardBidder, ia g (rM 11) 8 v_heardBreath, ia g (rM 3) 5 v_kindOf, ba g (rM 14) 28 v_page, ia g (rM 17) 5 w_v_stopsAt, ia g (rM 5) 5 v_sumOf, ia g (rM 8) 5 w_v_touchedBy, ia g (rM 4) 5 w_v_windOf, ia g (rM 6) 5 v_wishOf] H locs → lv_has ls 3 [(1, .int y1), (0, .ref aM)] → (∀ (H : Heap) (locs : List Loc) (ls : Array Slot), WD g A s.heap [ob aM 12 (oM rM v_halls v_bidders v_fall v_heard v_asks v_pageLength v_isWhole v_newMany v_seedNow v_isKept v_keptHall v_keptHeard q.2.2.1), ia g (rM 7) 5 q.2.1, ia g (rM 10) 8 v_heardBidder, ia g (rM 11) 8 v_heardBreath, ia g (rM 3) 5 v_kindOf, ba g (rM 14) 28 v_page, ia g (rM 17) 5 q.2.2.2.1, ia g (rM 5) 5 v_sumOf, ia g (rM 8) 5 q.2.2.2.2.1, ia g (rM 4) 5 q.2.2.2.2.2, ia g (rM 6) 5 v_wishOf] H locs → lv_has ls 3 [(1, .int q.1), (0, .ref aM)] → W p l e (rmc 6 0 0 140) s m args below meth c H locs 0 0 Q (F0 m 130 ls [])) → W p l e (rmc 6 0 0 140) s m args below meth c H locs 0 0 Q (F0 m 59 ls []) := by
    intro k
    induction k with
    | zero => intro y1 w_v_choiceOf w_v_h w_v_stopsAt w_v_touchedBy w_v_windOf q hf; rw [f_X12_digest_59] at hf; cases hf
    | succ k ih =>
      intro y1 w_v_choiceOf w_v_h w_v_stopsAt w_v_touchedBy w_v_windOf q hf H locs ls hw hl kx
      rw [f_X12_digest_59] at hf
      have hP := hw.1
      refine lv_iload_n hx hb dX12_digest_59 rfl (lv_at hl 0 rfl) ?_
      refine lv_aload_n hx hb dX12_digest_60 rfl (lv_at hl 1 rfl) ?_
      refine w_get (ci := 12) F hK hP fb_X12 0 rfl rfl 1 (by decide) fl_X12_89 (fun _ h => h) rfl dX12_digest_61 ?_
      refine lv_icmp_ge (tgt := 130) hx hb dX12_digest_64 (by decide) (fun h2 => ?_) (fun h2 => ?_)
      · have hf := o_t h2 hf
        cases hf
        exact kx _ _ ls hw (lv_sub hl [0, 1] rfl)
      · have hf := o_f h2 hf
        refine lv_iconst (v := 0) hx hb dX12_digest_67 (by decide) ?_
        refine lv_istore_n (lv' := [(2, .int 0), (1, .int y1), (0, .ref aM)]) hx hb dX12_digest_68 rfl hl (by decide) rfl (fun ls hl => ?_)
        obtain ⟨q7, hq7, hf⟩ := o_bind hf
        refine L69 _ 0 y1 w_v_choiceOf w_v_h w_v_stopsAt w_v_touchedBy w_v_windOf _ hq7 _ _ ls hw (lv_sub hl [0, 1, 2] rfl) (fun H locs ls hw hl => ?_)
        have hP := hw.1
        refine lv_aload_n hx hb dX12_digest_92 rfl (lv_at hl 2 rfl) ?_
        refine lv_aload_n hx hb dX12_digest_93 rfl (lv_at hl 2 rfl) ?_
        refine lv_iload_n hx hb dX12_digest_94 rfl (lv_at hl 1 rfl) ?_
        refine lv_iconst (v := 0) hx hb dX12_digest_95 (by decide) ?_
        obtain ⟨q8, hq8, hf⟩ := o_bind hf
        refine k_dV (wr := [ia g (rM 10) 8 v_heardBidder, ia g (rM 11) 8 v_heardBreath, ba g (rM 14) 28 v_page]) (ws' := [ob aM 12 (oM rM v_halls v_bidders v_fall v_heard v_asks v_pageLength v_isWhole v_newMany v_seedNow v_isKept v_keptHall v_keptHeard q7.2.2.2.1), ia g (rM 7) 5 q8.2.1, ia g (rM 10) 8 v_heardBidder, ia g (rM 11) 8 v_heardBreath, ia g (rM 3) 5 v_kindOf, ba g (rM 14) 28 v_page, ia g (rM 17) 5 q8.2.2, ia g (rM 5) 5 v_sumOf, ia g (rM 8) 5 q7.2.2.2.2.2.1, ia g (rM 4) 5 q7.2.2.2.2.2.2, ia g (rM 6) 5 v_wishOf]) F (c_X12_bestNow l g aM rM q7.2.1 0 v_halls v_bidders v_fall v_heard v_asks v_pageLength v_isWhole v_newMany v_seedNow v_isKept v_keptHall v_keptHeard q7.2.2.2.1 q7.2.2.1 v_kindOf q7.2.2.2.2.1 v_sumOf q7.2.2.2.2.2.1 q7.2.2.2.2.2.2 v_wishOf hq8) qv_X12_bestNow ml_X12_146 hw hA hK [0, 1, 4, 6, 7, 8, 9, 10] [2, 3, 5] [3, 4, 0, 1, 5, 2, 6, 7, 8, 9, 10] rfl rfl rfl rfl rfl (by decide) rfl rfl rfl (va_recv hK.1 hP (ci := 12) (q0 := 0) rfl rfl) rfl hl.1 rfl (Nat.le_of_ble_eq_true rfl) dX12_digest_96 ⟨(Nat.le_of_ble_eq_true rfl), (Nat.le_of_ble_eq_true rfl)⟩ ⟨(Nat.le_of_ble_eq_true rfl), (Nat.le_of_ble_eq_true rfl)⟩ (fun H locs hw => ?_)
        have hP := hw.1
        refine W.eq (g2 := F0 m 99 ls (.int q8.1 :: [.ref aM])) rfl ?_
        refine lv_i2l hx hb dX12_digest_99 rfl ?_
        obtain ⟨q9, hq9, hf⟩ := o_bind hf
        refine k_dV (wr := [ia g (rM 7) 5 q8.2.1, ia g (rM 10) 8 v_heardBidder, ia g (rM 11) 8 v_heardBreath, ia g (rM 3) 5 v_kindOf, ba g (rM 14) 28 v_page, ia g (rM 17) 5 q8.2.2, ia g (rM 5) 5 v_sumOf, ia g (rM 8) 5 q7.2.2.2.2.2.1, ia g (rM 4) 5 q7.2.2.2.2.2.2, ia g (rM 6) 5 v_wishOf]) (ws' := [ob aM 12 (oM rM v_halls v_bidders v_fall v_heard v_asks v_pageLength v_isWhole v_newMany v_seedNow v_isKept v_keptHall v_keptHeard q9), ia g (rM 7) 5 q8.2.1, ia g (rM 10) 8 v_heardBidder, ia g (rM 11) 8 v_heardBreath, ia g (rM 3) 5 v_kindOf, ba g (rM 14) 28 v_page, ia g (rM 17) 5 q8.2.2, ia g (rM 5) 5 v_sumOf, ia g (rM 8) 5 q7.2.2.2.2.2.1, ia g (rM 4) 5 q7.2.2.2.2.2.2, ia g (rM 6) 5 v_wishOf]) F (c_X12_mix l g aM rM (Int32.toInt64 q8.1) v_halls v_bidders v_fall v_heard v_asks v_pageLength v_isWhole v_newMany v_seedNow v_isKept v_keptHall v_keptHeard q7.2.2.2.1 hq9) qv_X12_mix ml_X12_224 hw hA hK [0] [1, 2, 3, 4, 5, 6, 7, 8, 9, 10] [10, 0, 1, 2, 3, 4, 5, 6, 7, 8, 9] rfl rfl rfl rfl rfl (by decide) rfl rfl rfl (va_recv hK.1 hP (ci := 12) (q0 := 0) rfl rfl) rfl hl.1 rfl (Nat.le_of_ble_eq_true rfl) dX12_digest_100 ⟨(Nat.le_of_ble_eq_true rfl), (Nat.le_of_ble_eq_true rfl)⟩ ⟨(Nat.le_of_ble_eq_true rfl), (Nat.le_of_ble_eq_true rfl)⟩ (fun H locs hw => ?_)
        have hP := hw.1
        refine W.eq (g2 := F0 m 103 ls ([])) rfl ?_
        refine lv_aload_n hx hb dX12_digest_103 rfl (lv_at hl 2 rfl) ?_
        refine lv_aload_n hx hb dX12_digest_104 rfl (lv_at hl 2 rfl) ?_
        refine lv_iload_n hx hb dX12_digest_105 rfl (lv_at hl 1 rfl) ?_
        refine lv_iconst (v := 1) hx hb dX12_digest_106 (by decide) ?_
        obtain ⟨q10, hq10, hf⟩ := o_bind hf
        refine k_dV (wr := [ia g (rM 10) 8 v_heardBidder, ia g (rM 11) 8 v_heardBreath, ba g (rM 14) 28 v_page]) (ws' := [ob aM 12 (oM rM v_halls v_bidders v_fall v_heard v_asks v_pageLength v_isWhole v_newMany v_seedNow v_isKept v_keptHall v_keptHeard q9), ia g (rM 7) 5 q10.2.1, ia g (rM 10) 8 v_heardBidder, ia g (rM 11) 8 v_heardBreath, ia g (rM 3) 5 v_kindOf, ba g (rM 14) 28 v_page, ia g (rM 17) 5 q10.2.2, ia g (rM 5) 5 v_sumOf, ia g (rM 8) 5 q7.2.2.2.2.2.1, ia g (rM 4) 5 q7.2.2.2.2.2.2, ia g (rM 6) 5 v_wishOf]) F (c_X12_bestNow l g aM rM q7.2.1 1 v_halls v_bidders v_fall v_heard v_asks v_pageLength v_isWhole v_newMany v_seedNow v_isKept v_keptHall v_keptHeard q9 q8.2.1 v_kindOf q8.2.2 v_sumOf q7.2.2.2.2.2.1 q7.2.2.2.2.2.2 v_wishOf hq10) qv_X12_bestNow ml_X12_146 hw hA hK [0, 1, 4, 6, 7, 8, 9, 10] [2, 3, 5] [3, 4, 0, 1, 5, 2, 6, 7, 8, 9, 10] rfl rfl rfl rfl rfl (by decide) rfl rfl rfl (va_recv hK.1 hP (ci := 12) (q0 := 0) rfl rfl) rfl hl.1 rfl (Nat.le_of_ble_eq_true rfl) dX12_digest_107 ⟨(Nat.le_of_ble_eq_true rfl), (Nat.le_of_ble_eq_true rfl)⟩ ⟨(Nat.le_of_ble_eq_true rfl), (Nat.le_of_ble_eq_true rfl)⟩ (fun H locs hw => ?_)
        have hP := hw.1
        refine W.eq (g2 := F0 m 110 ls (.int q10.1 :: [.ref aM])) rfl ?_
        refine lv_i2l hx hb dX12_digest_110 rfl ?_
        obtain ⟨q11, hq11, hf⟩ := o_bind hf
        refine k_dV (wr := [ia g (rM 7) 5 q10.2.1, ia g (rM 10) 8 v_heardBidder, ia g (rM 11) 8 v_heardBreath, ia g (rM 3) 5 v_kindOf, ba g (rM 14) 28 v_page, ia g (rM 17) 5 q10.2.2, ia g (rM 5) 5 v_sumOf, ia g (rM 8) 5 q7.2.2.2.2.2.1, ia g (rM 4) 5 q7.2.2.2.2.2.2, ia g (rM 6) 5 v_wishOf]) (ws' := [ob aM 12 (oM rM v_halls v_bidders v_fall v_heard v_asks v_pageLength v_isWhole v_newMany v_seedNow v_isKept v_keptHall v_keptHeard q11), ia g (rM 7) 5 q10.2.1, ia g (rM 10) 8 v_heardBidder, ia g (rM 11) 8 v_heardBreath, ia g (rM 3) 5 v_kindOf, ba g (rM 14) 28 v_page, ia g (rM 17) 5 q10.2.2, ia g (rM 5) 5 v_sumOf, ia g (rM 8) 5 q7.2.2.2.2.2.1, ia g (rM 4) 5 q7.2.2.2.2.2.2, ia g (rM 6) 5 v_wishOf]) F (c_X12_mix l g aM rM (Int32.toInt64 q10.1) v_halls v_bidders v_fall v_heard v_asks v_pageLength v_isWhole v_newMany v_seedNow v_isKept v_keptHall v_keptHeard q9 hq11) qv_X12_mix ml_X12_224 hw hA hK [0] [1, 2, 3, 4, 5, 6, 7, 8, 9, 10] [10, 0, 1, 2, 3, 4, 5, 6, 7, 8, 9] rfl rfl rfl rfl rfl (by decide) rfl rfl rfl (va_recv hK.1 hP (ci := 12) (q0 := 0) rfl rfl) rfl hl.1 rfl (Nat.le_of_ble_eq_true rfl) dX12_digest_111 ⟨(Nat.le_of_ble_eq_true rfl), (Nat.le_of_ble_eq_true rfl)⟩ ⟨(Nat.le_of_ble_eq_true rfl), (Nat.le_of_ble_eq_true rfl)⟩ (fun H locs hw => ?_)
        have hP := hw.1
        refine W.eq (g2 := F0 m 114 ls ([])) rfl ?_
        refine lv_aload_n hx hb dX12_digest_114 rfl (lv_at hl 2 rfl) ?_
        refine lv_aload_n hx hb dX12_digest_115 rfl (lv_at hl 2 rfl) ?_
        refine lv_iload_n hx hb dX12_digest_116 rfl (lv_at hl 1 rfl) ?_
        obtain ⟨q12, hq12, hf⟩ := o_bind hf
        refine k_dV (wr := [ba g (rM 14) 28 v_page, ia g (rM 5) 5 v_sumOf, ia g (rM 6) 5 v_wishOf]) (ws' := [ob aM 12 (oM rM v_halls v_bidders v_fall v_heard v_asks v_pageLength v_isWhole v_newMany v_seedNow v_isKept v_keptHall v_keptHeard q11), ia g (rM 7) 5 q10.2.1, ia g (rM 10) 8 v_heardBidder, ia g (rM 11) 8 v_heardBreath, ia g (rM 3) 5 v_kindOf, ba g (rM 14) 28 v_page, ia g (rM 17) 5 q12.2.1, ia g (rM 5) 5 v_sumOf, ia g (rM 8) 5 q7.2.2.2.2.2.1, ia g (rM 4) 5 q12.2.2, ia g (rM 6) 5 v_wishOf]) F (c_X12_windsNow l g aM rM q7.2.1 v_halls v_bidders v_fall v_heard v_asks v_pageLength v_isWhole v_newMany v_seedNow v_isKept v_keptHall v_keptHeard q11 q10.2.1 v_heardBidder v_heardBreath v_kindOf q10.2.2 q7.2.2.2.2.2.1 q7.2.2.2.2.2.2 hq12) qv_X12_windsNow ml_X12_171 hw hA hK [0, 1, 2, 3, 4, 6, 8, 9] [5, 7, 10] [3, 4, 5, 6, 7, 0, 8, 1, 9, 10, 2] rfl rfl rfl rfl rfl (by decide) rfl rfl rfl (va_recv hK.1 hP (ci := 12) (q0 := 0) rfl rfl) rfl hl.1 rfl (Nat.le_of_ble_eq_true rfl) dX12_digest_117 ⟨(Nat.le_of_ble_eq_true rfl), (Nat.le_of_ble_eq_true rfl)⟩ ⟨(Nat.le_of_ble_eq_true rfl), (Nat.le_of_ble_eq_true rfl)⟩ (fun H locs hw => ?_)
        have hP := hw.1
        refine W.eq (g2 := F0 m 120 ls (.int q12.1 :: [.ref aM])) rfl ?_
        refine lv_i2l hx hb dX12_digest_120 rfl ?_
        obtain ⟨q13, hq13, hf⟩ := o_bind hf
        refine k_dV (wr := [ia g (rM 7) 5 q10.2.1, ia g (rM 10) 8 v_heardBidder, ia g (rM 11) 8 v_heardBreath, ia g (rM 3) 5 v_kindOf, ba g (rM 14) 28 v_page, ia g (rM 17) 5 q12.2.1, ia g (rM 5) 5 v_sumOf, ia g (rM 8) 5 q7.2.2.2.2.2.1, ia g (rM 4) 5 q12.2.2, ia g (rM 6) 5 v_wishOf]) (ws' := [ob aM 12 (oM rM v_halls v_bidders v_fall v_heard v_asks v_pageLength v_isWhole v_newMany v_seedNow v_isKept v_keptHall v_keptHeard q13), ia g (rM 7) 5 q10.2.1, ia g (rM 10) 8 v_heardBidder, ia g (rM 11) 8 v_heardBreath, ia g (rM 3) 5 v_kindOf, ba g (rM 14) 28 v_page, ia g (rM 17) 5 q12.2.1, ia g (rM 5) 5 v_sumOf, ia g (rM 8) 5 q7.2.2.2.2.2.1, ia g (rM 4) 5 q12.2.2, ia g (rM 6) 5 v_wishOf]) F (c_X12_mix l g aM rM (Int32.toInt64 q12.1) v_halls v_bidders v_fall v_heard v_asks v_pageLength v_isWhole v_newMany v_seedNow v_isKept v_keptHall v_keptHeard q11 hq13) qv_X12_mix ml_X12_224 hw hA hK [0] [1, 2, 3, 4, 5, 6, 7, 8, 9, 10] [10, 0, 1, 2, 3, 4, 5, 6, 7, 8, 9] rfl rfl rfl rfl rfl (by decide) rfl rfl rfl (va_recv hK.1 hP (ci := 12) (q0 := 0) rfl rfl) rfl hl.1 rfl (Nat.le_of_ble_eq_true rfl) dX12_digest_121 ⟨(Nat.le_of_ble_eq_true rfl), (Nat.le_of_ble_eq_true rfl)⟩ ⟨(Nat.le_of_ble_eq_true rfl), (Nat.le_of_ble_eq_true rfl)⟩ (fun H locs hw => ?_)
        have hP := hw.1
        refine W.eq (g2 := F0 m 124 ls ([])) rfl ?_
        obtain ⟨z14, ez14⟩ : ∃ y : Int32, y = q7.2.1 + 1 := ⟨_, rfl⟩
        have hf := o_bnd ez14 hf
        refine lv_iinc (v := z14) (lv' := [(1, .int z14), (2, .int q7.1), (0, .ref aM)]) hx hb dX12_digest_124 hl (k := 1) rfl (by rw [ez14]; rfl) (by decide) rfl (fun ls hl => ?_)
        refine lv_goto (tgt := 59) hx hb dX12_digest_127 (by decide) ?_
        exact ih z14 q10.2.1 q13 q12.2.1 q7.2.2.2.2.2.1 q12.2.2 _ hf _ _ ls hw (lv_sub hl [0, 2] rfl) kx
  have L132 : ∀ (k : Nat) (y1 : Int32) (w_v_choiceOf : Nat → Int32) (w_v_h : Int64) (w_v_stopsAt : Nat → Int32) (w_v_touchedBy : Nat → Int32) (w_v_windOf : Nat → Int32) (q : Int32 × (Nat → Int32) × Int64 × (Nat → Int32) × (Nat → Int32) × (Nat → Int32)), f_X12_digest_132 k v_asks v_bidders v_fall v_halls v_heard v_heardBidder v_heardBreath v_kindOf v_page v_pageLength v_sumOf v_wishOf y1 w_v_choiceOf w_v_h w_v_stopsAt w_v_touchedBy w_v_windOf = some q → ∀ (H : Heap) (locs : List Loc) (ls : Array Slot), WD g A s.heap [ob aM 12 (oM rM v_halls v_bidders v_fall v_heard v_asks v_pageLength v_isWhole v_newMany v_seedNow v_isKept v_keptHall v_keptHeard w_v_h), ia g (rM 7) 5 w_v_choiceOf, ia g (rM 10) 8 v_heardBidder, ia g (rM 11) 8 v_heardBreath, ia g (rM 3) 5 v_kindOf, ba g (rM 14) 28 v_page, ia g (rM 17) 5 w_v_stopsAt, ia g (rM 5) 5 v_sumOf, ia g (rM 8) 5 w_v_touchedBy, ia g (rM 4) 5 w_v_windOf, ia g (rM 6) 5 v_wishOf] H locs → lv_has ls 3 [(1, .int y1), (0, .ref aM)] → (∀ (H : Heap) (locs : List Loc) (ls : Array Slot), WD g A s.heap [ob aM 12 (oM rM v_halls v_bidders v_fall v_heard v_asks v_pageLength v_isWhole v_newMany v_seedNow v_isKept v_keptHall v_keptHeard q.2.2.1), ia g (rM 7) 5 q.2.1, ia g (rM 10) 8 v_heardBidder, ia g (rM 11) 8 v_heardBreath, ia g (rM 3) 5 v_kindOf, ba g (rM 14) 28 v_page, ia g (rM 17) 5 q.2.2.2.1, ia g (rM 5) 5 v_sumOf, ia g (rM 8) 5 q.2.2.2.2.1, ia g (rM 4) 5 q.2.2.2.2.2, ia g (rM 6) 5 v_wishOf] H locs → lv_has ls 3 [(1, .int q.1), (0, .ref aM)] → W p l e (rmc 6 0 0 140) s m args below meth c H locs 0 0 Q (F0 m 157 ls [])) → W p l e (rmc 6 0 0 140) s m args below meth c H locs 0 0 Q (F0 m 132 ls []) := by
    intro k
    induction k with
    | zero => intro y1 w_v_choiceOf w_v_h w_v_stopsAt w_v_touchedBy w_v_windOf q hf; rw [f_X12_digest_132] at hf; cases hf
    | succ k ih =>
      intro y1 w_v_choiceOf w_v_h w_v_stopsAt w_v_touchedBy w_v_windOf q hf H locs ls hw hl kx
      rw [f_X12_digest_132] at hf
      have hP := hw.1
      refine lv_iload_n hx hb dX12_digest_132 rfl (lv_at hl 0 rfl) ?_
      refine lv_aload_n hx hb dX12_digest_133 rfl (lv_at hl 1 rfl) ?_
      refine w_get (ci := 12) F hK hP fb_X12 0 rfl rfl 13 (by decide) fl_X12_63 (fun _ h => h) rfl dX12_digest_134 ?_
      refine lv_icmp_ge (tgt := 157) hx hb dX12_digest_137 (by decide) (fun h16 => ?_) (fun h16 => ?_)
      · have hf := o_t h16 hf
        cases hf
        exact kx _ _ ls hw (lv_sub hl [0, 1] rfl)
      · have hf := o_f h16 hf
        refine lv_aload_n hx hb dX12_digest_140 rfl (lv_at hl 1 rfl) ?_
        refine lv_aload_n hx hb dX12_digest_141 rfl (lv_at hl 1 rfl) ?_
        refine w_get (ci := 12) F hK hP fb_X12 0 rfl rfl 14 (by decide) fl_X12_34 (fun _ h => h) rfl dX12_digest_142 ?_
        refine lv_iload_n hx hb dX12_digest_145 rfl (lv_at hl 0 rfl) ?_
        obtain ⟨h17, hf⟩ := o_chk hf
        refine w_bald F hK hP 5 rfl h17 dX12_digest_146 ?_
        refine lv_i2l hx hb dX12_digest_147 rfl ?_
        obtain ⟨q18, hq18, hf⟩ := o_bind hf
        refine k_dV (wr := [ia g (rM 7) 5 w_v_choiceOf, ia g (rM 10) 8 v_heardBidder, ia g (rM 11) 8 v_heardBreath, ia g (rM 3) 5 v_kindOf, ba g (rM 14) 28 v_page, ia g (rM 17) 5 w_v_stopsAt, ia g (rM 5) 5 v_sumOf, ia g (rM 8) 5 w_v_touchedBy, ia g (rM 4) 5 w_v_windOf, ia g (rM 6) 5 v_wishOf]) (ws' := [ob aM 12 (oM rM v_halls v_bidders v_fall v_heard v_asks v_pageLength v_isWhole v_newMany v_seedNow v_isKept v_keptHall v_keptHeard q18), ia g (rM 7) 5 w_v_choiceOf, ia g (rM 10) 8 v_heardBidder, ia g (rM 11) 8 v_heardBreath, ia g (rM 3) 5 v_kindOf, ba g (rM 14) 28 v_page, ia g (rM 17) 5 w_v_stopsAt, ia g (rM 5) 5 v_sumOf, ia g (rM 8) 5 w_v_touchedBy, ia g (rM 4) 5 w_v_windOf, ia g (rM 6) 5 v_wishOf]) F (c_X12_mix l g aM rM (Int32.toInt64 (v_page (Int32.toNatClampNeg y1))) v_halls v_bidders v_fall v_heard v_asks v_pageLength v_isWhole v_newMany v_seedNow v_isKept v_keptHall v_keptHeard w_v_h hq18) qv_X12_mix ml_X12_224 hw hA hK [0] [1, 2, 3, 4, 5, 6, 7, 8, 9, 10] [10, 0, 1, 2, 3, 4, 5, 6, 7, 8, 9] rfl rfl rfl rfl rfl (by decide) rfl rfl rfl (va_recv hK.1 hP (ci := 12) (q0 := 0) rfl rfl) rfl hl.1 rfl (Nat.le_of_ble_eq_true rfl) dX12_digest_148 ⟨(Nat.le_of_ble_eq_true rfl), (Nat.le_of_ble_eq_true rfl)⟩ ⟨(Nat.le_of_ble_eq_true rfl), (Nat.le_of_ble_eq_true rfl)⟩ (fun H locs hw => ?_)
        have hP := hw.1
        refine W.eq (g2 := F0 m 151 ls ([])) rfl ?_
        obtain ⟨z19, ez19⟩ : ∃ y : Int32, y = y1 + 1 := ⟨_, rfl⟩
        have hf := o_bnd ez19 hf
        refine lv_iinc (v := z19) (lv' := [(1, .int z19), (0, .ref aM)]) hx hb dX12_digest_151 hl (k := 0) rfl (by rw [ez19]; rfl) (by decide) rfl (fun ls hl => ?_)
        refine lv_goto (tgt := 132) hx hb dX12_digest_154 (by decide) ?_
        exact ih z19 w_v_choiceOf q18 w_v_stopsAt w_v_touchedBy w_v_windOf _ hf _ _ ls hw (lv_sub hl [0, 1] rfl) kx
  have L159 : ∀ (k : Nat) (y1 : Int32) (w_v_choiceOf : Nat → Int32) (w_v_h : Int64) (w_v_stopsAt : Nat → Int32) (w_v_touchedBy : Nat → Int32) (w_v_windOf : Nat → Int32) (q : Int32 × (Nat → Int32) × Int64 × (Nat → Int32) × (Nat → Int32) × (Nat → Int32)), f_X12_digest_159 k v_asks v_bidders v_fall v_halls v_heard v_heardBidder v_heardBreath v_kindOf v_page v_pageLength v_sumOf v_wishOf y1 w_v_choiceOf w_v_h w_v_stopsAt w_v_touchedBy w_v_windOf = some q → ∀ (H : Heap) (locs : List Loc) (ls : Array Slot), WD g A s.heap [ob aM 12 (oM rM v_halls v_bidders v_fall v_heard v_asks v_pageLength v_isWhole v_newMany v_seedNow v_isKept v_keptHall v_keptHeard w_v_h), ia g (rM 7) 5 w_v_choiceOf, ia g (rM 10) 8 v_heardBidder, ia g (rM 11) 8 v_heardBreath, ia g (rM 3) 5 v_kindOf, ba g (rM 14) 28 v_page, ia g (rM 17) 5 w_v_stopsAt, ia g (rM 5) 5 v_sumOf, ia g (rM 8) 5 w_v_touchedBy, ia g (rM 4) 5 w_v_windOf, ia g (rM 6) 5 v_wishOf] H locs → lv_has ls 3 [(1, .int y1), (0, .ref aM)] → (∀ (H : Heap) (locs : List Loc) (ls : Array Slot), WD g A s.heap [ob aM 12 (oM rM v_halls v_bidders v_fall v_heard v_asks v_pageLength v_isWhole v_newMany v_seedNow v_isKept v_keptHall v_keptHeard q.2.2.1), ia g (rM 7) 5 q.2.1, ia g (rM 10) 8 v_heardBidder, ia g (rM 11) 8 v_heardBreath, ia g (rM 3) 5 v_kindOf, ba g (rM 14) 28 v_page, ia g (rM 17) 5 q.2.2.2.1, ia g (rM 5) 5 v_sumOf, ia g (rM 8) 5 q.2.2.2.2.1, ia g (rM 4) 5 q.2.2.2.2.2, ia g (rM 6) 5 v_wishOf] H locs → lv_has ls 3 [(1, .int q.1), (0, .ref aM)] → W p l e (rmc 6 0 0 140) s m args below meth c H locs 0 0 Q (F0 m 181 ls [])) → W p l e (rmc 6 0 0 140) s m args below meth c H locs 0 0 Q (F0 m 159 ls []) := by
    intro k
    induction k with
    | zero => intro y1 w_v_choiceOf w_v_h w_v_stopsAt w_v_touchedBy w_v_windOf q hf; rw [f_X12_digest_159] at hf; cases hf
    | succ k ih =>
      intro y1 w_v_choiceOf w_v_h w_v_stopsAt w_v_touchedBy w_v_windOf q hf H locs ls hw hl kx
      rw [f_X12_digest_159] at hf
      have hP := hw.1
      refine lv_iload_n hx hb dX12_digest_159 rfl (lv_at hl 0 rfl) ?_
      refine lv_bipush (v := 8) hx hb dX12_digest_160 (by decide) ?_
      refine lv_icmp_ge (tgt := 181) hx hb dX12_digest_162 (by decide) (fun h21 => ?_) (fun h21 => ?_)
      · have hf := o_t h21 hf
        cases hf
        exact kx _ _ ls hw (lv_sub hl [0, 1] rfl)
      · have hf := o_f h21 hf
        refine lv_aload_n hx hb dX12_digest_165 rfl (lv_at hl 1 rfl) ?_
        refine lv_aload_n hx hb dX12_digest_166 rfl (lv_at hl 1 rfl) ?_
        refine lv_iload_n hx hb dX12_digest_167 rfl (lv_at hl 0 rfl) ?_
        obtain ⟨q22, hq22, hf⟩ := o_bind hf
        refine k_rV F (c_X12_howMany l g aM rM y1 v_halls v_bidders v_fall v_heard v_asks v_pageLength v_isWhole v_newMany v_seedNow v_isKept v_keptHall v_keptHeard w_v_h w_v_choiceOf w_v_touchedBy hq22) qv_X12_howMany ml_X12_214 (hP.sub [0, 1, 8] rfl) hK (va_recv hK.1 hP (ci := 12) (q0 := 0) rfl rfl) rfl hl.1 rfl (Nat.le_of_ble_eq_true rfl) dX12_digest_168 ⟨(Nat.le_of_ble_eq_true rfl), (Nat.le_of_ble_eq_true rfl)⟩ ⟨(Nat.le_of_ble_eq_true rfl), (Nat.le_of_ble_eq_true rfl)⟩ ?_
        refine W.eq (g2 := F0 m 171 ls (.int q22 :: [.ref aM])) rfl ?_
        refine lv_i2l hx hb dX12_digest_171 rfl ?_
        obtain ⟨q23, hq23, hf⟩ := o_bind hf
        refine k_dV (wr := [ia g (rM 7) 5 w_v_choiceOf, ia g (rM 10) 8 v_heardBidder, ia g (rM 11) 8 v_heardBreath, ia g (rM 3) 5 v_kindOf, ba g (rM 14) 28 v_page, ia g (rM 17) 5 w_v_stopsAt, ia g (rM 5) 5 v_sumOf, ia g (rM 8) 5 w_v_touchedBy, ia g (rM 4) 5 w_v_windOf, ia g (rM 6) 5 v_wishOf]) (ws' := [ob aM 12 (oM rM v_halls v_bidders v_fall v_heard v_asks v_pageLength v_isWhole v_newMany v_seedNow v_isKept v_keptHall v_keptHeard q23), ia g (rM 7) 5 w_v_choiceOf, ia g (rM 10) 8 v_heardBidder, ia g (rM 11) 8 v_heardBreath, ia g (rM 3) 5 v_kindOf, ba g (rM 14) 28 v_page, ia g (rM 17) 5 w_v_stopsAt, ia g (rM 5) 5 v_sumOf, ia g (rM 8) 5 w_v_touchedBy, ia g (rM 4) 5 w_v_windOf, ia g (rM 6) 5 v_wishOf]) F (c_X12_mix l g aM rM (Int32.toInt64 q22) v_halls v_bidders v_fall v_heard v_asks v_pageLength v_isWhole v_newMany v_seedNow v_isKept v_keptHall v_keptHeard w_v_h hq23) qv_X12_mix ml_X12_224 hw hA hK [0] [1, 2, 3, 4, 5, 6, 7, 8, 9, 10] [10, 0, 1, 2, 3, 4, 5, 6, 7, 8, 9] rfl rfl rfl rfl rfl (by decide) rfl rfl rfl (va_recv hK.1 hP (ci := 12) (q0 := 0) rfl rfl) rfl hl.1 rfl (Nat.le_of_ble_eq_true rfl) dX12_digest_172 ⟨(Nat.le_of_ble_eq_true rfl), (Nat.le_of_ble_eq_true rfl)⟩ ⟨(Nat.le_of_ble_eq_true rfl), (Nat.le_of_ble_eq_true rfl)⟩ (fun H locs hw => ?_)
        have hP := hw.1
        refine W.eq (g2 := F0 m 175 ls ([])) rfl ?_
        obtain ⟨z24, ez24⟩ : ∃ y : Int32, y = y1 + 1 := ⟨_, rfl⟩
        have hf := o_bnd ez24 hf
        refine lv_iinc (v := z24) (lv' := [(1, .int z24), (0, .ref aM)]) hx hb dX12_digest_175 hl (k := 0) rfl (by rw [ez24]; rfl) (by decide) rfl (fun ls hl => ?_)
        refine lv_goto (tgt := 159) hx hb dX12_digest_178 (by decide) ?_
        exact ih z24 w_v_choiceOf q23 w_v_stopsAt w_v_touchedBy w_v_windOf _ hf _ _ ls hw (lv_sub hl [0, 1] rfl) kx
  have L16 : ∀ (k : Nat) (y1 : Int32) (w_v_choiceOf : Nat → Int32) (w_v_h : Int64) (w_v_stopsAt : Nat → Int32) (w_v_touchedBy : Nat → Int32) (w_v_windOf : Nat → Int32) (q : Int32 × (Nat → Int32) × Int64 × (Nat → Int32) × (Nat → Int32) × (Nat → Int32)), f_X12_digest_16 k v_asks v_bidders v_fall v_halls v_heard v_heardBidder v_heardBreath v_kindOf v_page v_pageLength v_sumOf v_wishOf y1 w_v_choiceOf w_v_h w_v_stopsAt w_v_touchedBy w_v_windOf = some q → ∀ (H : Heap) (locs : List Loc) (ls : Array Slot), WD g A s.heap [ob aM 12 (oM rM v_halls v_bidders v_fall v_heard v_asks v_pageLength v_isWhole v_newMany v_seedNow v_isKept v_keptHall v_keptHeard w_v_h), ia g (rM 7) 5 w_v_choiceOf, ia g (rM 10) 8 v_heardBidder, ia g (rM 11) 8 v_heardBreath, ia g (rM 3) 5 v_kindOf, ba g (rM 14) 28 v_page, ia g (rM 17) 5 w_v_stopsAt, ia g (rM 5) 5 v_sumOf, ia g (rM 8) 5 w_v_touchedBy, ia g (rM 4) 5 w_v_windOf, ia g (rM 6) 5 v_wishOf] H locs → lv_has ls 3 [(1, .int y1), (0, .ref aM)] → (∀ (H : Heap) (locs : List Loc) (ls : Array Slot), WD g A s.heap [ob aM 12 (oM rM v_halls v_bidders v_fall v_heard v_asks v_pageLength v_isWhole v_newMany v_seedNow v_isKept v_keptHall v_keptHeard q.2.2.1), ia g (rM 7) 5 q.2.1, ia g (rM 10) 8 v_heardBidder, ia g (rM 11) 8 v_heardBreath, ia g (rM 3) 5 v_kindOf, ba g (rM 14) 28 v_page, ia g (rM 17) 5 q.2.2.2.1, ia g (rM 5) 5 v_sumOf, ia g (rM 8) 5 q.2.2.2.2.1, ia g (rM 4) 5 q.2.2.2.2.2, ia g (rM 6) 5 v_wishOf] H locs → lv_has ls 3 [(1, .int q.1), (0, .ref aM)] → W p l e (rmc 6 0 0 140) s m args below meth c H locs 0 0 Q (F0 m 37 ls [])) → W p l e (rmc 6 0 0 140) s m args below meth c H locs 0 0 Q (F0 m 16 ls []) := by
    intro k
    induction k with
    | zero => intro y1 w_v_choiceOf w_v_h w_v_stopsAt w_v_touchedBy w_v_windOf q hf; rw [f_X12_digest_16] at hf; cases hf
    | succ k ih =>
      intro y1 w_v_choiceOf w_v_h w_v_stopsAt w_v_touchedBy w_v_windOf q hf H locs ls hw hl kx
      rw [f_X12_digest_16] at hf
      have hP := hw.1
      refine lv_iload_n hx hb dX12_digest_16 rfl (lv_at hl 0 rfl) ?_
      refine lv_iconst (v := 3) hx hb dX12_digest_17 (by decide) ?_
      refine lv_icmp_ge (tgt := 37) hx hb dX12_digest_18 (by decide) (fun h26 => ?_) (fun h26 => ?_)
      · have hf := o_t h26 hf
        cases hf
        exact kx _ _ ls hw (lv_sub hl [0, 1] rfl)
      · have hf := o_f h26 hf
        refine lv_aload_n hx hb dX12_digest_21 rfl (lv_at hl 1 rfl) ?_
        refine lv_aload_n hx hb dX12_digest_22 rfl (lv_at hl 1 rfl) ?_
        refine lv_iload_n hx hb dX12_digest_23 rfl (lv_at hl 0 rfl) ?_
        obtain ⟨q27, hq27, hf⟩ := o_bind hf
        refine k_dV (wr := [ia g (rM 10) 8 v_heardBidder, ia g (rM 11) 8 v_heardBreath, ba g (rM 14) 28 v_page, ia g (rM 6) 5 v_wishOf]) (ws' := [ob aM 12 (oM rM v_halls v_bidders v_fall v_heard v_asks v_pageLength v_isWhole v_newMany v_seedNow v_isKept v_keptHall v_keptHeard w_v_h), ia g (rM 7) 5 w_v_choiceOf, ia g (rM 10) 8 v_heardBidder, ia g (rM 11) 8 v_heardBreath, ia g (rM 3) 5 v_kindOf, ba g (rM 14) 28 v_page, ia g (rM 17) 5 q27.2, ia g (rM 5) 5 v_sumOf, ia g (rM 8) 5 w_v_touchedBy, ia g (rM 4) 5 w_v_windOf, ia g (rM 6) 5 v_wishOf]) F (c_X12_lotNow l g aM rM y1 v_halls v_bidders v_fall v_heard v_asks v_pageLength v_isWhole v_newMany v_seedNow v_isKept v_keptHall v_keptHeard w_v_h w_v_choiceOf v_kindOf w_v_stopsAt v_sumOf w_v_touchedBy w_v_windOf hq27) qv_X12_lotNow ml_X12_140 hw hA hK [0, 1, 4, 6, 7, 8, 9] [2, 3, 5, 10] [4, 5, 0, 1, 6, 2, 7, 8, 9, 10, 3] rfl rfl rfl rfl rfl (by decide) rfl rfl rfl (va_recv hK.1 hP (ci := 12) (q0 := 0) rfl rfl) rfl hl.1 rfl (Nat.le_of_ble_eq_true rfl) dX12_digest_24 ⟨(Nat.le_of_ble_eq_true rfl), (Nat.le_of_ble_eq_true rfl)⟩ ⟨(Nat.le_of_ble_eq_true rfl), (Nat.le_of_ble_eq_true rfl)⟩ (fun H locs hw => ?_)
        have hP := hw.1
        refine W.eq (g2 := F0 m 27 ls (.int q27.1 :: [.ref aM])) rfl ?_
        refine lv_i2l hx hb dX12_digest_27 rfl ?_
        obtain ⟨q28, hq28, hf⟩ := o_bind hf
        refine k_dV (wr := [ia g (rM 7) 5 w_v_choiceOf, ia g (rM 10) 8 v_heardBidder, ia g (rM 11) 8 v_heardBreath, ia g (rM 3) 5 v_kindOf, ba g (rM 14) 28 v_page, ia g (rM 17) 5 q27.2, ia g (rM 5) 5 v_sumOf, ia g (rM 8) 5 w_v_touchedBy, ia g (rM 4) 5 w_v_windOf, ia g (rM 6) 5 v_wishOf]) (ws' := [ob aM 12 (oM rM v_halls v_bidders v_fall v_heard v_asks v_pageLength v_isWhole v_newMany v_seedNow v_isKept v_keptHall v_keptHeard q28), ia g (rM 7) 5 w_v_choiceOf, ia g (rM 10) 8 v_heardBidder, ia g (rM 11) 8 v_heardBreath, ia g (rM 3) 5 v_kindOf, ba g (rM 14) 28 v_page, ia g (rM 17) 5 q27.2, ia g (rM 5) 5 v_sumOf, ia g (rM 8) 5 w_v_touchedBy, ia g (rM 4) 5 w_v_windOf, ia g (rM 6) 5 v_wishOf]) F (c_X12_mix l g aM rM (Int32.toInt64 q27.1) v_halls v_bidders v_fall v_heard v_asks v_pageLength v_isWhole v_newMany v_seedNow v_isKept v_keptHall v_keptHeard w_v_h hq28) qv_X12_mix ml_X12_224 hw hA hK [0] [1, 2, 3, 4, 5, 6, 7, 8, 9, 10] [10, 0, 1, 2, 3, 4, 5, 6, 7, 8, 9] rfl rfl rfl rfl rfl (by decide) rfl rfl rfl (va_recv hK.1 hP (ci := 12) (q0 := 0) rfl rfl) rfl hl.1 rfl (Nat.le_of_ble_eq_true rfl) dX12_digest_28 ⟨(Nat.le_of_ble_eq_true rfl), (Nat.le_of_ble_eq_true rfl)⟩ ⟨(Nat.le_of_ble_eq_true rfl), (Nat.le_of_ble_eq_true rfl)⟩ (fun H locs hw => ?_)
        have hP := hw.1
        refine W.eq (g2 := F0 m 31 ls ([])) rfl ?_
        obtain ⟨z29, ez29⟩ : ∃ y : Int32, y = y1 + 1 := ⟨_, rfl⟩
        have hf := o_bnd ez29 hf
        refine lv_iinc (v := z29) (lv' := [(1, .int z29), (0, .ref aM)]) hx hb dX12_digest_31 hl (k := 0) rfl (by rw [ez29]; rfl) (by decide) rfl (fun ls hl => ?_)
        refine lv_goto (tgt := 16) hx hb dX12_digest_34 (by decide) ?_
        exact ih z29 w_v_choiceOf q28 q27.2 w_v_touchedBy w_v_windOf _ hf _ _ ls hw (lv_sub hl [0, 1] rfl) kx
  unfold f_X12_digest at hf
  refine lv_aload_n hx hb dX12_digest_0 rfl (lv_at hl 0 rfl) ?_
  refine lv_ldc2 (v := 911) hx hb hown (hts _ kc_X12_222) dX12_digest_1 ?_
  refine w_put (ci := 12) (ws' := [ob aM 12 (oM rM v_halls v_bidders v_fall v_heard v_asks v_pageLength v_isWhole v_newMany v_seedNow v_isKept v_keptHall v_keptHeard 911), ia g (rM 7) 5 v_choiceOf, ia g (rM 10) 8 v_heardBidder, ia g (rM 11) 8 v_heardBreath, ia g (rM 3) 5 v_kindOf, ba g (rM 14) 28 v_page, ia g (rM 17) 5 v_stopsAt, ia g (rM 5) 5 v_sumOf, ia g (rM 8) 5 v_touchedBy, ia g (rM 4) 5 v_windOf, ia g (rM 6) 5 v_wishOf]) F hK hw fb_X12 0 rfl rfl 28 (by decide) fl_X12_219 (fun _ h => h) rfl rfl rfl rfl (Nat.le_of_ble_eq_true rfl) rfl dX12_digest_4 (fun H locs hw => ?_)
  have hP := hw.1
  refine lv_aload_n hx hb dX12_digest_7 rfl (lv_at hl 0 rfl) ?_
  refine w_get (ci := 12) F hK hP fb_X12 0 rfl rfl 1 (by decide) fl_X12_89 (fun _ h => h) rfl dX12_digest_8 ?_
  refine lv_if_le (tgt := 57) hx hb dX12_digest_11 (by decide) (fun h1 => ?_) (fun h1 => ?_)
  · have hf := o_t h1 hf
    refine lv_iconst (v := 0) hx hb dX12_digest_57 (by decide) ?_
    refine lv_istore_n (lv' := [(1, .int 0), (0, .ref aM)]) hx hb dX12_digest_58 rfl hl (by decide) rfl (fun ls hl => ?_)
    obtain ⟨q15, hq15, hf⟩ := o_bind hf
    refine L59 _ 0 v_choiceOf 911 v_stopsAt v_touchedBy v_windOf _ hq15 _ _ ls hw (lv_sub hl [0, 1] rfl) (fun H locs ls hw hl => ?_)
    have hP := hw.1
    refine lv_iconst (v := 0) hx hb dX12_digest_130 (by decide) ?_
    refine lv_istore_n (lv' := [(1, .int 0), (0, .ref aM)]) hx hb dX12_digest_131 rfl hl (by decide) rfl (fun ls hl => ?_)
    obtain ⟨q20, hq20, hf⟩ := o_bind hf
    refine L132 _ 0 q15.2.1 q15.2.2.1 q15.2.2.2.1 q15.2.2.2.2.1 q15.2.2.2.2.2 _ hq20 _ _ ls hw (lv_sub hl [0, 1] rfl) (fun H locs ls hw hl => ?_)
    have hP := hw.1
    refine lv_iconst (v := 0) hx hb dX12_digest_157 (by decide) ?_
    refine lv_istore_n (lv' := [(1, .int 0), (0, .ref aM)]) hx hb dX12_digest_158 rfl hl (by decide) rfl (fun ls hl => ?_)
    obtain ⟨q25, hq25, hf⟩ := o_bind hf
    refine L159 _ 0 q20.2.1 q20.2.2.1 q20.2.2.2.1 q20.2.2.2.2.1 q20.2.2.2.2.2 _ hq25 _ _ ls hw (lv_sub hl [0, 1] rfl) (fun H locs ls hw hl => ?_)
    have hP := hw.1
    refine lv_aload_n hx hb dX12_digest_181 rfl (lv_at hl 1 rfl) ?_
    refine w_get (ci := 12) F hK hP fb_X12 0 rfl rfl 28 (by decide) fl_X12_219 (fun _ h => h) rfl dX12_digest_182 ?_
    cases hf
    exact r_cl F hQ ⟨rfl, rfl⟩ hw dX12_digest_185
  · have hf := o_f h1 hf
    refine lv_iconst (v := 0) hx hb dX12_digest_14 (by decide) ?_
    refine lv_istore_n (lv' := [(1, .int 0), (0, .ref aM)]) hx hb dX12_digest_15 rfl hl (by decide) rfl (fun ls hl => ?_)
    obtain ⟨q30, hq30, hf⟩ := o_bind hf
    refine L16 _ 0 v_choiceOf 911 v_stopsAt v_touchedBy v_windOf _ hq30 _ _ ls hw (lv_sub hl [0, 1] rfl) (fun H locs ls hw hl => ?_)
    have hP := hw.1
    refine lv_aload_n hx hb dX12_digest_37 rfl (lv_at hl 1 rfl) ?_
    refine lv_aload_n hx hb dX12_digest_38 rfl (lv_at hl 1 rfl) ?_
    refine lv_iconst (v := 0) hx hb dX12_digest_39 (by decide) ?_
    obtain ⟨q31, hq31, hf⟩ := o_bind hf
    refine k_dV (wr := [ba g (rM 14) 28 v_page, ia g (rM 5) 5 v_sumOf, ia g (rM 6) 5 v_wishOf]) (ws' := [ob aM 12 (oM rM v_halls v_bidders v_fall v_heard v_asks v_pageLength v_isWhole v_newMany v_seedNow v_isKept v_keptHall v_keptHeard q30.2.2.1), ia g (rM 7) 5 q30.2.1, ia g (rM 10) 8 v_heardBidder, ia g (rM 11) 8 v_heardBreath, ia g (rM 3) 5 v_kindOf, ba g (rM 14) 28 v_page, ia g (rM 17) 5 q31.2.1, ia g (rM 5) 5 v_sumOf, ia g (rM 8) 5 q31.2.2, ia g (rM 4) 5 q30.2.2.2.2.2, ia g (rM 6) 5 v_wishOf]) F (c_X12_touchedNow l g aM rM 0 v_halls v_bidders v_fall v_heard v_asks v_pageLength v_isWhole v_newMany v_seedNow v_isKept v_keptHall v_keptHeard q30.2.2.1 q30.2.1 v_heardBidder v_heardBreath v_kindOf q30.2.2.2.1 q30.2.2.2.2.1 q30.2.2.2.2.2 hq31) qv_X12_touchedNow ml_X12_177 hw hA hK [0, 1, 2, 3, 4, 6, 8, 9] [5, 7, 10] [3, 4, 5, 6, 7, 0, 8, 1, 9, 10, 2] rfl rfl rfl rfl rfl (by decide) rfl rfl rfl (va_recv hK.1 hP (ci := 12) (q0 := 0) rfl rfl) rfl hl.1 rfl (Nat.le_of_ble_eq_true rfl) dX12_digest_40 ⟨(Nat.le_of_ble_eq_true rfl), (Nat.le_of_ble_eq_true rfl)⟩ ⟨(Nat.le_of_ble_eq_true rfl), (Nat.le_of_ble_eq_true rfl)⟩ (fun H locs hw => ?_)
    have hP := hw.1
    refine W.eq (g2 := F0 m 43 ls (.int q31.1 :: [.ref aM])) rfl ?_
    refine lv_i2l hx hb dX12_digest_43 rfl ?_
    obtain ⟨q32, hq32, hf⟩ := o_bind hf
    refine k_dV (wr := [ia g (rM 7) 5 q30.2.1, ia g (rM 10) 8 v_heardBidder, ia g (rM 11) 8 v_heardBreath, ia g (rM 3) 5 v_kindOf, ba g (rM 14) 28 v_page, ia g (rM 17) 5 q31.2.1, ia g (rM 5) 5 v_sumOf, ia g (rM 8) 5 q31.2.2, ia g (rM 4) 5 q30.2.2.2.2.2, ia g (rM 6) 5 v_wishOf]) (ws' := [ob aM 12 (oM rM v_halls v_bidders v_fall v_heard v_asks v_pageLength v_isWhole v_newMany v_seedNow v_isKept v_keptHall v_keptHeard q32), ia g (rM 7) 5 q30.2.1, ia g (rM 10) 8 v_heardBidder, ia g (rM 11) 8 v_heardBreath, ia g (rM 3) 5 v_kindOf, ba g (rM 14) 28 v_page, ia g (rM 17) 5 q31.2.1, ia g (rM 5) 5 v_sumOf, ia g (rM 8) 5 q31.2.2, ia g (rM 4) 5 q30.2.2.2.2.2, ia g (rM 6) 5 v_wishOf]) F (c_X12_mix l g aM rM (Int32.toInt64 q31.1) v_halls v_bidders v_fall v_heard v_asks v_pageLength v_isWhole v_newMany v_seedNow v_isKept v_keptHall v_keptHeard q30.2.2.1 hq32) qv_X12_mix ml_X12_224 hw hA hK [0] [1, 2, 3, 4, 5, 6, 7, 8, 9, 10] [10, 0, 1, 2, 3, 4, 5, 6, 7, 8, 9] rfl rfl rfl rfl rfl (by decide) rfl rfl rfl (va_recv hK.1 hP (ci := 12) (q0 := 0) rfl rfl) rfl hl.1 rfl (Nat.le_of_ble_eq_true rfl) dX12_digest_44 ⟨(Nat.le_of_ble_eq_true rfl), (Nat.le_of_ble_eq_true rfl)⟩ ⟨(Nat.le_of_ble_eq_true rfl), (Nat.le_of_ble_eq_true rfl)⟩ (fun H locs hw => ?_)
    have hP := hw.1
    refine W.eq (g2 := F0 m 47 ls ([])) rfl ?_
    refine lv_aload_n hx hb dX12_digest_47 rfl (lv_at hl 1 rfl) ?_
    refine lv_aload_n hx hb dX12_digest_48 rfl (lv_at hl 1 rfl) ?_
    refine lv_iconst (v := 1) hx hb dX12_digest_49 (by decide) ?_
    obtain ⟨q33, hq33, hf⟩ := o_bind hf
    refine k_dV (wr := [ba g (rM 14) 28 v_page, ia g (rM 5) 5 v_sumOf, ia g (rM 6) 5 v_wishOf]) (ws' := [ob aM 12 (oM rM v_halls v_bidders v_fall v_heard v_asks v_pageLength v_isWhole v_newMany v_seedNow v_isKept v_keptHall v_keptHeard q32), ia g (rM 7) 5 q30.2.1, ia g (rM 10) 8 v_heardBidder, ia g (rM 11) 8 v_heardBreath, ia g (rM 3) 5 v_kindOf, ba g (rM 14) 28 v_page, ia g (rM 17) 5 q33.2.1, ia g (rM 5) 5 v_sumOf, ia g (rM 8) 5 q33.2.2, ia g (rM 4) 5 q30.2.2.2.2.2, ia g (rM 6) 5 v_wishOf]) F (c_X12_touchedNow l g aM rM 1 v_halls v_bidders v_fall v_heard v_asks v_pageLength v_isWhole v_newMany v_seedNow v_isKept v_keptHall v_keptHeard q32 q30.2.1 v_heardBidder v_heardBreath v_kindOf q31.2.1 q31.2.2 q30.2.2.2.2.2 hq33) qv_X12_touchedNow ml_X12_177 hw hA hK [0, 1, 2, 3, 4, 6, 8, 9] [5, 7, 10] [3, 4, 5, 6, 7, 0, 8, 1, 9, 10, 2] rfl rfl rfl rfl rfl (by decide) rfl rfl rfl (va_recv hK.1 hP (ci := 12) (q0 := 0) rfl rfl) rfl hl.1 rfl (Nat.le_of_ble_eq_true rfl) dX12_digest_50 ⟨(Nat.le_of_ble_eq_true rfl), (Nat.le_of_ble_eq_true rfl)⟩ ⟨(Nat.le_of_ble_eq_true rfl), (Nat.le_of_ble_eq_true rfl)⟩ (fun H locs hw => ?_)
    have hP := hw.1
    refine W.eq (g2 := F0 m 53 ls (.int q33.1 :: [.ref aM])) rfl ?_
    refine lv_i2l hx hb dX12_digest_53 rfl ?_
    obtain ⟨q34, hq34, hf⟩ := o_bind hf
    refine k_dV (wr := [ia g (rM 7) 5 q30.2.1, ia g (rM 10) 8 v_heardBidder, ia g (rM 11) 8 v_heardBreath, ia g (rM 3) 5 v_kindOf, ba g (rM 14) 28 v_page, ia g (rM 17) 5 q33.2.1, ia g (rM 5) 5 v_sumOf, ia g (rM 8) 5 q33.2.2, ia g (rM 4) 5 q30.2.2.2.2.2, ia g (rM 6) 5 v_wishOf]) (ws' := [ob aM 12 (oM rM v_halls v_bidders v_fall v_heard v_asks v_pageLength v_isWhole v_newMany v_seedNow v_isKept v_keptHall v_keptHeard q34), ia g (rM 7) 5 q30.2.1, ia g (rM 10) 8 v_heardBidder, ia g (rM 11) 8 v_heardBreath, ia g (rM 3) 5 v_kindOf, ba g (rM 14) 28 v_page, ia g (rM 17) 5 q33.2.1, ia g (rM 5) 5 v_sumOf, ia g (rM 8) 5 q33.2.2, ia g (rM 4) 5 q30.2.2.2.2.2, ia g (rM 6) 5 v_wishOf]) F (c_X12_mix l g aM rM (Int32.toInt64 q33.1) v_halls v_bidders v_fall v_heard v_asks v_pageLength v_isWhole v_newMany v_seedNow v_isKept v_keptHall v_keptHeard q32 hq34) qv_X12_mix ml_X12_224 hw hA hK [0] [1, 2, 3, 4, 5, 6, 7, 8, 9, 10] [10, 0, 1, 2, 3, 4, 5, 6, 7, 8, 9] rfl rfl rfl rfl rfl (by decide) rfl rfl rfl (va_recv hK.1 hP (ci := 12) (q0 := 0) rfl rfl) rfl hl.1 rfl (Nat.le_of_ble_eq_true rfl) dX12_digest_54 ⟨(Nat.le_of_ble_eq_true rfl), (Nat.le_of_ble_eq_true rfl)⟩ ⟨(Nat.le_of_ble_eq_true rfl), (Nat.le_of_ble_eq_true rfl)⟩ (fun H locs hw => ?_)
    have hP := hw.1
    refine W.eq (g2 := F0 m 57 ls ([])) rfl ?_
    refine lv_iconst (v := 0) hx hb dX12_digest_57 (by decide) ?_
    refine lv_istore_n (lv' := [(1, .int 0), (0, .ref aM)]) hx hb dX12_digest_58 rfl hl (by decide) rfl (fun ls hl => ?_)
    obtain ⟨q35, hq35, hf⟩ := o_bind hf
    refine L59 _ 0 q30.2.1 q34 q33.2.1 q33.2.2 q30.2.2.2.2.2 _ hq35 _ _ ls hw (lv_sub hl [0, 1] rfl) (fun H locs ls hw hl => ?_)
    have hP := hw.1
    refine lv_iconst (v := 0) hx hb dX12_digest_130 (by decide) ?_
    refine lv_istore_n (lv' := [(1, .int 0), (0, .ref aM)]) hx hb dX12_digest_131 rfl hl (by decide) rfl (fun ls hl => ?_)
    obtain ⟨q36, hq36, hf⟩ := o_bind hf
    refine L132 _ 0 q35.2.1 q35.2.2.1 q35.2.2.2.1 q35.2.2.2.2.1 q35.2.2.2.2.2 _ hq36 _ _ ls hw (lv_sub hl [0, 1] rfl) (fun H locs ls hw hl => ?_)
    have hP := hw.1
    refine lv_iconst (v := 0) hx hb dX12_digest_157 (by decide) ?_
    refine lv_istore_n (lv' := [(1, .int 0), (0, .ref aM)]) hx hb dX12_digest_158 rfl hl (by decide) rfl (fun ls hl => ?_)
    obtain ⟨q37, hq37, hf⟩ := o_bind hf
    refine L159 _ 0 q36.2.1 q36.2.2.1 q36.2.2.2.1 q36.2.2.2.2.1 q36.2.2.2.2.2 _ hq37 _ _ ls hw (lv_sub hl [0, 1] rfl) (fun H locs ls hw hl => ?_)
    have hP := hw.1
    refine lv_aload_n hx hb dX12_digest_181 rfl (lv_at hl 1 rfl) ?_
    refine w_get (ci := 12) F hK hP fb_X12 0 rfl rfl 28 (by decide) fl_X12_219 (fun _ h => h) rfl dX12_digest_182 ?_
    cases hf
    exact r_cl F hQ ⟨rfl, rfl⟩ hw dX12_digest_185
