def f_X12_restsNow_9 (fuel : Nat) (x1 : Int32) (x2 : Int32) (v_bidders : Int32) (v_fall : Int32) (v_kindOf : Nat → Int32) (v_sumOf : Nat → Int32) (v_touchedBy : Nat → Int32) (v_windOf : Nat → Int32) (v_wishOf : Nat → Int32) (y4 : Int32) (y3 : Int32) (w_v_choiceOf : Nat → Int32) (w_v_saved : Nat → Int32) (w_v_stopsAt : Nat → Int32) : Option (Int32 × Int32 × (Nat → Int32) × (Nat → Int32) × (Nat → Int32)) := match fuel with
  | 0 => none
  | k + 1 => (if v_bidders ≤ y4 then (some (y4, y3, w_v_choiceOf, w_v_saved, w_v_stopsAt)) else (bnd (y3 * x1) fun z3 => (bnd (y4 + 1 : Int32) fun z4 => (f_X12_restsNow_9 k x1 x2 v_bidders v_fall v_kindOf v_sumOf v_touchedBy v_windOf v_wishOf z4 z3 w_v_choiceOf w_v_saved w_v_stopsAt))))
def f_X12_restsNow_39 (fuel : Nat) (x1 : Int32) (x2 : Int32) (v_bidders : Int32) (v_fall : Int32) (v_kindOf : Nat → Int32) (v_sumOf : Nat → Int32) (v_touchedBy : Nat → Int32) (v_windOf : Nat → Int32) (v_wishOf : Nat → Int32) (y6 : Int32) (y5 : Int32) (y4 : Int32) (w_v_choiceOf : Nat → Int32) (w_v_saved : Nat → Int32) (w_v_stopsAt : Nat → Int32) : Option (Int32 × Int32 × Int32 × (Nat → Int32) × (Nat → Int32) × (Nat → Int32)) := match fuel with
  | 0 => none
  | k + 1 => (if y6 < 0 then (some (y6, y5, y4, w_v_choiceOf, w_v_saved, w_v_stopsAt)) else ((f_X12_chooseBy y6 x1 v_bidders w_v_choiceOf).bind fun q8 => ((f_X12_isRest x1 v_bidders q8 v_fall v_kindOf w_v_stopsAt v_sumOf v_touchedBy v_windOf v_wishOf).bind fun q9 => (if q9.1 = 0 then (bnd (y4 + 0) fun z11 => (bnd (y6 + (-1) : Int32) fun z13 => (f_X12_restsNow_39 k x1 x2 v_bidders v_fall v_kindOf v_sumOf v_touchedBy v_windOf v_wishOf z13 y5 z11 q9.2.1 w_v_saved q9.2.2))) else (bnd (y4 + 1) fun z14 => (bnd (y6 + (-1) : Int32) fun z16 => (f_X12_restsNow_39 k x1 x2 v_bidders v_fall v_kindOf v_sumOf v_touchedBy v_windOf v_wishOf z16 y6 z14 q9.2.1 w_v_saved q9.2.2)))))))
def f_X12_restsNow (x1 : Int32) (x2 : Int32) (v_bidders : Int32) (v_choiceOf : Nat → Int32) (v_fall : Int32) (v_kindOf : Nat → Int32) (v_saved : Nat → Int32) (v_stopsAt : Nat → Int32) (v_sumOf : Nat → Int32) (v_touchedBy : Nat → Int32) (v_windOf : Nat → Int32) (v_wishOf : Nat → Int32) : Option (Int32 × (Nat → Int32) × (Nat → Int32) × (Nat → Int32)) := ((f_X12_save v_bidders v_choiceOf v_saved).bind fun q1 => ((f_X12_restsNow_9 4096 x1 x2 v_bidders v_fall v_kindOf v_sumOf v_touchedBy v_windOf v_wishOf 0 1 v_choiceOf q1 v_stopsAt).bind fun q5 => (bnd (q5.2.1 - 1) fun z6 => ((f_X12_restsNow_39 4096 x1 x2 v_bidders v_fall v_kindOf v_sumOf v_touchedBy v_windOf v_wishOf z6 (-1) 0 q5.2.2.1 q5.2.2.2.1 q5.2.2.2.2).bind fun q17 => (if q17.2.1 = (-1) then ((f_X12_load v_bidders q17.2.2.2.1 q17.2.2.2.2.1).bind fun q19 => (if x2 = 0 then (some (q17.2.2.1, q19, q17.2.2.2.2.1, q17.2.2.2.2.2)) else (some ((-1), q19, q17.2.2.2.2.1, q17.2.2.2.2.2)))) else ((f_X12_isBidder (x2 - 10) v_bidders).bind fun q21 => (if q21 = 0 then ((f_X12_load v_bidders q17.2.2.2.1 q17.2.2.2.2.1).bind fun q23 => (if x2 = 0 then (some (q17.2.2.1, q23, q17.2.2.2.2.1, q17.2.2.2.2.2)) else (some ((-1), q23, q17.2.2.2.2.1, q17.2.2.2.2.2)))) else ((f_X12_chooseBy q17.2.1 x1 v_bidders q17.2.2.2.1).bind fun q25 => (if (x2 - 10) < 0 ∨ 5 ≤ Int32.toNatClampNeg (x2 - 10) then none else (bnd (q25 (Int32.toNatClampNeg (x2 - 10))) fun z27 => ((f_X12_load v_bidders q25 q17.2.2.2.2.1).bind fun q28 => (if x2 = 0 then (some (q17.2.2.1, q28, q17.2.2.2.2.1, q17.2.2.2.2.2)) else (some (z27, q28, q17.2.2.2.2.1, q17.2.2.2.2.2))))))))))))))
set_option maxRecDepth 100000 in
set_option maxHeartbeats 4000000 in
theorem c_X12_restsNow (l : Launch) (g : GG) (aM : Nat) (rM : Nat → Nat) (x1 : Int32) (x2 : Int32) (v_halls : Int32) (v_bidders : Int32) (v_fall : Int32) (v_heard : Int32) (v_asks : Int32) (v_pageLength : Int32) (v_isWhole : Int32) (v_newMany : Int32) (v_seedNow : Int64) (v_isKept : Int32) (v_keptHall : Int32) (v_keptHeard : Int32) (v_h : Int64) (v_choiceOf : Nat → Int32) (v_kindOf : Nat → Int32) (v_saved : Nat → Int32) (v_stopsAt : Nat → Int32) (v_sumOf : Nat → Int32) (v_touchedBy : Nat → Int32) (v_windOf : Nat → Int32) (v_wishOf : Nat → Int32) {r0 : Int32} {r1 : Nat → Int32} {r2 : Nat → Int32} {r3 : Nat → Int32} (hf : f_X12_restsNow x1 x2 v_bidders v_choiceOf v_fall v_kindOf v_saved v_stopsAt v_sumOf v_touchedBy v_windOf v_wishOf = some (r0, r1, r2, r3)) : MD l g yX12_restsNow cX12_restsNow 8 (some .int) 6 139 [.ref aM, .int x1, .int x2] [ob aM 12 (oM rM v_halls v_bidders v_fall v_heard v_asks v_pageLength v_isWhole v_newMany v_seedNow v_isKept v_keptHall v_keptHeard v_h), ia g (rM 7) 5 v_choiceOf, ia g (rM 3) 5 v_kindOf, ia g (rM 18) 5 v_saved, ia g (rM 17) 5 v_stopsAt, ia g (rM 5) 5 v_sumOf, ia g (rM 8) 5 v_touchedBy, ia g (rM 4) 5 v_windOf, ia g (rM 6) 5 v_wishOf] (some (.int r0)) [ob aM 12 (oM rM v_halls v_bidders v_fall v_heard v_asks v_pageLength v_isWhole v_newMany v_seedNow v_isKept v_keptHall v_keptHeard v_h), ia g (rM 7) 5 r1, ia g (rM 3) 5 v_kindOf, ia g (rM 18) 5 r2, ia g (rM 17) 5 r3, ia g (rM 5) 5 v_sumOf, ia g (rM 8) 5 v_touchedBy, ia g (rM 4) 5 v_windOf, ia g (rM 6) 5 v_wishOf] := by
  refine MC.mk (by decide) (Nat.le_of_ble_eq_true rfl) ?_
  intro p e s m args below meth c ls Q A F hnm hK hw hA hl hQ
  have hP := hw.1
  have hx := F.1
  have hb := F.2.1
  have hml := F.2.2.2.1
  have hown := F.2.2.2.2.1
  have hts := F.2.2.2.2.2.1
  have hl : lv_has ls 8 [(0, .ref aM), (1, .int x1), (2, .int x2)] := hl
  have L9 : ∀ (k : Nat) (y4 : Int32) (y3 : Int32) (w_v_choiceOf : Nat → Int32) (w_v_saved : Nat → Int32) (w_v_stopsAt : Nat → Int32) (q : Int32 × Int32 × (Nat → Int32) × (Nat → Int32) × (Nat → Int32)), f_X12_restsNow_9 k x1 x2 v_bidders v_fall v_kindOf v_sumOf v_touchedBy v_windOf v_wishOf y4 y3 w_v_choiceOf w_v_saved w_v_stopsAt = some q → ∀ (H : Heap) (locs : List Loc) (ls : Array Slot), WD g A s.heap [ob aM 12 (oM rM v_halls v_bidders v_fall v_heard v_asks v_pageLength v_isWhole v_newMany v_seedNow v_isKept v_keptHall v_keptHeard v_h), ia g (rM 7) 5 w_v_choiceOf, ia g (rM 3) 5 v_kindOf, ia g (rM 18) 5 w_v_saved, ia g (rM 17) 5 w_v_stopsAt, ia g (rM 5) 5 v_sumOf, ia g (rM 8) 5 v_touchedBy, ia g (rM 4) 5 v_windOf, ia g (rM 6) 5 v_wishOf] H locs → lv_has ls 8 [(4, .int y4), (3, .int y3), (0, .ref aM), (1, .int x1), (2, .int x2)] → (∀ (H : Heap) (locs : List Loc) (ls : Array Slot), WD g A s.heap [ob aM 12 (oM rM v_halls v_bidders v_fall v_heard v_asks v_pageLength v_isWhole v_newMany v_seedNow v_isKept v_keptHall v_keptHeard v_h), ia g (rM 7) 5 q.2.2.1, ia g (rM 3) 5 v_kindOf, ia g (rM 18) 5 q.2.2.2.1, ia g (rM 17) 5 q.2.2.2.2, ia g (rM 5) 5 v_sumOf, ia g (rM 8) 5 v_touchedBy, ia g (rM 4) 5 v_windOf, ia g (rM 6) 5 v_wishOf] H locs → lv_has ls 8 [(4, .int q.1), (3, .int q.2.1), (0, .ref aM), (1, .int x1), (2, .int x2)] → W p l e (rmc 6 0 0 139) s m args below meth c H locs 0 0 Q (F0 m 28 ls [])) → W p l e (rmc 6 0 0 139) s m args below meth c H locs 0 0 Q (F0 m 9 ls []) := by
    intro k
    induction k with
    | zero => intro y4 y3 w_v_choiceOf w_v_saved w_v_stopsAt q hf; rw [f_X12_restsNow_9] at hf; cases hf
    | succ k ih =>
      intro y4 y3 w_v_choiceOf w_v_saved w_v_stopsAt q hf H locs ls hw hl kx
      rw [f_X12_restsNow_9] at hf
      have hP := hw.1
      refine lv_iload hx hb dX12_restsNow_9 (lv_at hl 0 rfl) ?_
      refine lv_aload_n hx hb dX12_restsNow_11 rfl (lv_at hl 2 rfl) ?_
      refine w_get (ci := 12) F hK hP fb_X12 0 rfl rfl 1 (by decide) fl_X12_89 (fun _ h => h) rfl dX12_restsNow_12 ?_
      refine lv_icmp_ge (tgt := 28) hx hb dX12_restsNow_15 (by decide) (fun h2 => ?_) (fun h2 => ?_)
      · have hf := o_t h2 hf
        cases hf
        exact kx _ _ ls hw (lv_sub hl [0, 1, 2, 3, 4] rfl)
      · have hf := o_f h2 hf
        refine lv_iload_n hx hb dX12_restsNow_18 rfl (lv_at hl 1 rfl) ?_
        refine lv_iload_n hx hb dX12_restsNow_19 rfl (lv_at hl 3 rfl) ?_
        refine lv_imul hx hb dX12_restsNow_20 ?_
        refine lv_topi (fun z3 ez3 => ?_)
        have hf := o_bnd ez3 hf
        refine lv_istore_n (lv' := [(3, .int z3), (4, .int y4), (0, .ref aM), (1, .int x1), (2, .int x2)]) hx hb dX12_restsNow_21 rfl hl (by decide) rfl (fun ls hl => ?_)
        obtain ⟨z4, ez4⟩ : ∃ y : Int32, y = y4 + 1 := ⟨_, rfl⟩
        have hf := o_bnd ez4 hf
        refine lv_iinc (v := z4) (lv' := [(4, .int z4), (3, .int z3), (0, .ref aM), (1, .int x1), (2, .int x2)]) hx hb dX12_restsNow_22 hl (k := 1) rfl (by rw [ez4]; rfl) (by decide) rfl (fun ls hl => ?_)
        refine lv_goto (tgt := 9) hx hb dX12_restsNow_25 (by decide) ?_
        exact ih z4 z3 w_v_choiceOf w_v_saved w_v_stopsAt _ hf _ _ ls hw (lv_sub hl [0, 1, 2, 3, 4] rfl) kx
  have L39 : ∀ (k : Nat) (y6 : Int32) (y5 : Int32) (y4 : Int32) (w_v_choiceOf : Nat → Int32) (w_v_saved : Nat → Int32) (w_v_stopsAt : Nat → Int32) (q : Int32 × Int32 × Int32 × (Nat → Int32) × (Nat → Int32) × (Nat → Int32)), f_X12_restsNow_39 k x1 x2 v_bidders v_fall v_kindOf v_sumOf v_touchedBy v_windOf v_wishOf y6 y5 y4 w_v_choiceOf w_v_saved w_v_stopsAt = some q → ∀ (H : Heap) (locs : List Loc) (ls : Array Slot), WD g A s.heap [ob aM 12 (oM rM v_halls v_bidders v_fall v_heard v_asks v_pageLength v_isWhole v_newMany v_seedNow v_isKept v_keptHall v_keptHeard v_h), ia g (rM 7) 5 w_v_choiceOf, ia g (rM 3) 5 v_kindOf, ia g (rM 18) 5 w_v_saved, ia g (rM 17) 5 w_v_stopsAt, ia g (rM 5) 5 v_sumOf, ia g (rM 8) 5 v_touchedBy, ia g (rM 4) 5 v_windOf, ia g (rM 6) 5 v_wishOf] H locs → lv_has ls 8 [(6, .int y6), (5, .int y5), (4, .int y4), (0, .ref aM), (1, .int x1), (2, .int x2)] → (∀ (H : Heap) (locs : List Loc) (ls : Array Slot), WD g A s.heap [ob aM 12 (oM rM v_halls v_bidders v_fall v_heard v_asks v_pageLength v_isWhole v_newMany v_seedNow v_isKept v_keptHall v_keptHeard v_h), ia g (rM 7) 5 q.2.2.2.1, ia g (rM 3) 5 v_kindOf, ia g (rM 18) 5 q.2.2.2.2.1, ia g (rM 17) 5 q.2.2.2.2.2, ia g (rM 5) 5 v_sumOf, ia g (rM 8) 5 v_touchedBy, ia g (rM 4) 5 v_windOf, ia g (rM 6) 5 v_wishOf] H locs → lv_has ls 8 [(6, .int q.1), (5, .int q.2.1), (4, .int q.2.2.1), (0, .ref aM), (1, .int x1), (2, .int x2)] → W p l e (rmc 6 0 0 139) s m args below meth c H locs 0 0 Q (F0 m 93 ls [])) → W p l e (rmc 6 0 0 139) s m args below meth c H locs 0 0 Q (F0 m 39 ls []) := by
    intro k
    induction k with
    | zero => intro y6 y5 y4 w_v_choiceOf w_v_saved w_v_stopsAt q hf; rw [f_X12_restsNow_39] at hf; cases hf
    | succ k ih =>
      intro y6 y5 y4 w_v_choiceOf w_v_saved w_v_stopsAt q hf H locs ls hw hl kx
      rw [f_X12_restsNow_39] at hf
      have hP := hw.1
      refine lv_iload hx hb dX12_restsNow_39 (lv_at hl 0 rfl) ?_
      refine lv_if_lt (tgt := 93) hx hb dX12_restsNow_41 (by decide) (fun h7 => ?_) (fun h7 => ?_)
      · have hf := o_t h7 hf
        cases hf
        exact kx _ _ ls hw (lv_sub hl [0, 1, 2, 3, 4, 5] rfl)
      · have hf := o_f h7 hf
        refine lv_aload_n hx hb dX12_restsNow_44 rfl (lv_at hl 3 rfl) ?_
        refine lv_iload hx hb dX12_restsNow_45 (lv_at hl 0 rfl) ?_
        refine lv_iload_n hx hb dX12_restsNow_47 rfl (lv_at hl 4 rfl) ?_
        obtain ⟨q8, hq8, hf⟩ := o_bind hf
        refine k_dV (wr := [ia g (rM 3) 5 v_kindOf, ia g (rM 18) 5 w_v_saved, ia g (rM 17) 5 w_v_stopsAt, ia g (rM 5) 5 v_sumOf, ia g (rM 8) 5 v_touchedBy, ia g (rM 4) 5 v_windOf, ia g (rM 6) 5 v_wishOf]) (ws' := [ob aM 12 (oM rM v_halls v_bidders v_fall v_heard v_asks v_pageLength v_isWhole v_newMany v_seedNow v_isKept v_keptHall v_keptHeard v_h), ia g (rM 7) 5 q8, ia g (rM 3) 5 v_kindOf, ia g (rM 18) 5 w_v_saved, ia g (rM 17) 5 w_v_stopsAt, ia g (rM 5) 5 v_sumOf, ia g (rM 8) 5 v_touchedBy, ia g (rM 4) 5 v_windOf, ia g (rM 6) 5 v_wishOf]) F (c_X12_chooseBy l g aM rM y6 x1 v_halls v_bidders v_fall v_heard v_asks v_pageLength v_isWhole v_newMany v_seedNow v_isKept v_keptHall v_keptHeard v_h w_v_choiceOf hq8) qv_X12_chooseBy ml_X12_152 hw hA hK [0, 1] [2, 3, 4, 5, 6, 7, 8] [7, 8, 0, 1, 2, 3, 4, 5, 6] rfl rfl rfl rfl rfl (by decide) rfl rfl rfl (va_recv hK.1 hP (ci := 12) (q0 := 0) rfl rfl) rfl hl.1 rfl (Nat.le_of_ble_eq_true rfl) dX12_restsNow_48 ⟨(Nat.le_of_ble_eq_true rfl), (Nat.le_of_ble_eq_true rfl)⟩ ⟨(Nat.le_of_ble_eq_true rfl), (Nat.le_of_ble_eq_true rfl)⟩ (fun H locs hw => ?_)
        have hP := hw.1
        refine W.eq (g2 := F0 m 51 ls ([])) rfl ?_
        refine lv_aload_n hx hb dX12_restsNow_51 rfl (lv_at hl 3 rfl) ?_
        refine lv_iload_n hx hb dX12_restsNow_52 rfl (lv_at hl 4 rfl) ?_
        obtain ⟨q9, hq9, hf⟩ := o_bind hf
        refine k_dV (wr := [ia g (rM 18) 5 w_v_saved]) (ws' := [ob aM 12 (oM rM v_halls v_bidders v_fall v_heard v_asks v_pageLength v_isWhole v_newMany v_seedNow v_isKept v_keptHall v_keptHeard v_h), ia g (rM 7) 5 q9.2.1, ia g (rM 3) 5 v_kindOf, ia g (rM 18) 5 w_v_saved, ia g (rM 17) 5 q9.2.2, ia g (rM 5) 5 v_sumOf, ia g (rM 8) 5 v_touchedBy, ia g (rM 4) 5 v_windOf, ia g (rM 6) 5 v_wishOf]) F (c_X12_isRest l g aM rM x1 v_halls v_bidders v_fall v_heard v_asks v_pageLength v_isWhole v_newMany v_seedNow v_isKept v_keptHall v_keptHeard v_h q8 v_kindOf w_v_stopsAt v_sumOf v_touchedBy v_windOf v_wishOf hq9) qv_X12_isRest ml_X12_156 hw hA hK [0, 1, 2, 4, 5, 6, 7, 8] [3] [1, 2, 3, 0, 4, 5, 6, 7, 8] rfl rfl rfl rfl rfl (by decide) rfl rfl rfl (va_recv hK.1 hP (ci := 12) (q0 := 0) rfl rfl) rfl hl.1 rfl (Nat.le_of_ble_eq_true rfl) dX12_restsNow_53 ⟨(Nat.le_of_ble_eq_true rfl), (Nat.le_of_ble_eq_true rfl)⟩ ⟨(Nat.le_of_ble_eq_true rfl), (Nat.le_of_ble_eq_true rfl)⟩ (fun H locs hw => ?_)
        have hP := hw.1
        refine W.eq (g2 := F0 m 56 ls (.int q9.1 :: [])) rfl ?_
        refine lv_istore (lv' := [(7, .int q9.1), (6, .int y6), (5, .int y5), (4, .int y4), (0, .ref aM), (1, .int x1), (2, .int x2)]) hx hb dX12_restsNow_56 hl (by decide) rfl (fun ls hl => ?_)
        refine lv_iload hx hb dX12_restsNow_58 (lv_at hl 3 rfl) ?_
        refine lv_iload hx hb dX12_restsNow_60 (lv_at hl 0 rfl) ?_
        refine lv_if_eq (tgt := 69) hx hb dX12_restsNow_62 (by decide) (fun h10 => ?_) (fun h10 => ?_)
        · have hf := o_t h10 hf
          refine lv_iconst (v := 0) hx hb dX12_restsNow_69 (by decide) ?_
          refine lv_iadd hx hb dX12_restsNow_70 ?_
          refine lv_topi (fun z11 ez11 => ?_)
          have hf := o_bnd ez11 hf
          refine lv_istore (lv' := [(4, .int z11), (7, .int q9.1), (6, .int y6), (5, .int y5), (0, .ref aM), (1, .int x1), (2, .int x2)]) hx hb dX12_restsNow_71 hl (by decide) rfl (fun ls hl => ?_)
          refine lv_iload hx hb dX12_restsNow_73 (lv_at hl 1 rfl) ?_
          refine lv_if_eq (tgt := 83) hx hb dX12_restsNow_75 (by decide) (fun _ => ?_) (fun h => absurd h10 h)
          refine lv_iload hx hb dX12_restsNow_83 (lv_at hl 3 rfl) ?_
          refine lv_istore (lv' := [(5, .int y5), (4, .int z11), (7, .int q9.1), (6, .int y6), (0, .ref aM), (1, .int x1), (2, .int x2)]) hx hb dX12_restsNow_85 hl (by decide) rfl (fun ls hl => ?_)
          obtain ⟨z13, ez13⟩ : ∃ y : Int32, y = y6 + (-1) := ⟨_, rfl⟩
          have hf := o_bnd ez13 hf
          refine lv_iinc (v := z13) (lv' := [(6, .int z13), (5, .int y5), (4, .int z11), (7, .int q9.1), (0, .ref aM), (1, .int x1), (2, .int x2)]) hx hb dX12_restsNow_87 hl (k := 3) rfl (by rw [ez13]; rfl) (by decide) rfl (fun ls hl => ?_)
          refine lv_goto (tgt := 39) hx hb dX12_restsNow_90 (by decide) ?_
          exact ih z13 y5 z11 q9.2.1 w_v_saved q9.2.2 _ hf _ _ ls hw (lv_sub hl [0, 1, 2, 4, 5, 6] rfl) kx
        · have hf := o_f h10 hf
          refine lv_iconst (v := 1) hx hb dX12_restsNow_65 (by decide) ?_
          refine lv_goto (tgt := 70) hx hb dX12_restsNow_66 (by decide) ?_
          refine lv_iadd hx hb dX12_restsNow_70 ?_
          refine lv_topi (fun z14 ez14 => ?_)
          have hf := o_bnd ez14 hf
          refine lv_istore (lv' := [(4, .int z14), (7, .int q9.1), (6, .int y6), (5, .int y5), (0, .ref aM), (1, .int x1), (2, .int x2)]) hx hb dX12_restsNow_71 hl (by decide) rfl (fun ls hl => ?_)
          refine lv_iload hx hb dX12_restsNow_73 (lv_at hl 1 rfl) ?_
          refine lv_if_eq (tgt := 83) hx hb dX12_restsNow_75 (by decide) (fun h => absurd h h10) (fun _ => ?_)
          refine lv_iload hx hb dX12_restsNow_78 (lv_at hl 2 rfl) ?_
          refine lv_goto (tgt := 85) hx hb dX12_restsNow_80 (by decide) ?_
          refine lv_istore (lv' := [(5, .int y6), (4, .int z14), (7, .int q9.1), (6, .int y6), (0, .ref aM), (1, .int x1), (2, .int x2)]) hx hb dX12_restsNow_85 hl (by decide) rfl (fun ls hl => ?_)
          obtain ⟨z16, ez16⟩ : ∃ y : Int32, y = y6 + (-1) := ⟨_, rfl⟩
          have hf := o_bnd ez16 hf
          refine lv_iinc (v := z16) (lv' := [(6, .int z16), (5, .int y6), (4, .int z14), (7, .int q9.1), (0, .ref aM), (1, .int x1), (2, .int x2)]) hx hb dX12_restsNow_87 hl (k := 3) rfl (by rw [ez16]; rfl) (by decide) rfl (fun ls hl => ?_)
          refine lv_goto (tgt := 39) hx hb dX12_restsNow_90 (by decide) ?_
          exact ih z16 y6 z14 q9.2.1 w_v_saved q9.2.2 _ hf _ _ ls hw (lv_sub hl [0, 1, 2, 4, 5, 6] rfl) kx
  unfold f_X12_restsNow at hf
  refine lv_aload_n hx hb dX12_restsNow_0 rfl (lv_at hl 0 rfl) ?_
  obtain ⟨q1, hq1, hf⟩ := o_bind hf
  refine k_dV (wr := [ia g (rM 3) 5 v_kindOf, ia g (rM 17) 5 v_stopsAt, ia g (rM 5) 5 v_sumOf, ia g (rM 8) 5 v_touchedBy, ia g (rM 4) 5 v_windOf, ia g (rM 6) 5 v_wishOf]) (ws' := [ob aM 12 (oM rM v_halls v_bidders v_fall v_heard v_asks v_pageLength v_isWhole v_newMany v_seedNow v_isKept v_keptHall v_keptHeard v_h), ia g (rM 7) 5 v_choiceOf, ia g (rM 3) 5 v_kindOf, ia g (rM 18) 5 q1, ia g (rM 17) 5 v_stopsAt, ia g (rM 5) 5 v_sumOf, ia g (rM 8) 5 v_touchedBy, ia g (rM 4) 5 v_windOf, ia g (rM 6) 5 v_wishOf]) F (c_X12_save l g aM rM v_halls v_bidders v_fall v_heard v_asks v_pageLength v_isWhole v_newMany v_seedNow v_isKept v_keptHall v_keptHeard v_h v_choiceOf v_saved hq1) qv_X12_save ml_X12_149 hw hA hK [0, 1, 3] [2, 4, 5, 6, 7, 8] [6, 7, 0, 8, 1, 2, 3, 4, 5] rfl rfl rfl rfl rfl (by decide) rfl rfl rfl (va_recv hK.1 hP (ci := 12) (q0 := 0) rfl rfl) rfl hl.1 rfl (Nat.le_of_ble_eq_true rfl) dX12_restsNow_1 ⟨(Nat.le_of_ble_eq_true rfl), (Nat.le_of_ble_eq_true rfl)⟩ ⟨(Nat.le_of_ble_eq_true rfl), (Nat.le_of_ble_eq_true rfl)⟩ (fun H locs hw => ?_)
  have hP := hw.1
  refine W.eq (g2 := F0 m 4 ls ([])) rfl ?_
  refine lv_iconst (v := 1) hx hb dX12_restsNow_4 (by decide) ?_
  refine lv_istore_n (lv' := [(3, .int 1), (0, .ref aM), (1, .int x1), (2, .int x2)]) hx hb dX12_restsNow_5 rfl hl (by decide) rfl (fun ls hl => ?_)
  refine lv_iconst (v := 0) hx hb dX12_restsNow_6 (by decide) ?_
  refine lv_istore (lv' := [(4, .int 0), (3, .int 1), (0, .ref aM), (1, .int x1), (2, .int x2)]) hx hb dX12_restsNow_7 hl (by decide) rfl (fun ls hl => ?_)
  obtain ⟨q5, hq5, hf⟩ := o_bind hf
  refine L9 _ 0 1 v_choiceOf q1 v_stopsAt _ hq5 _ _ ls hw (lv_sub hl [0, 1, 2, 3, 4] rfl) (fun H locs ls hw hl => ?_)
  have hP := hw.1
  refine lv_iconst (v := 0) hx hb dX12_restsNow_28 (by decide) ?_
  refine lv_istore (lv' := [(4, .int 0), (3, .int q5.2.1), (0, .ref aM), (1, .int x1), (2, .int x2)]) hx hb dX12_restsNow_29 hl (by decide) rfl (fun ls hl => ?_)
  refine lv_iconst (v := (-1)) hx hb dX12_restsNow_31 (by decide) ?_
  refine lv_istore (lv' := [(5, .int (-1)), (4, .int 0), (3, .int q5.2.1), (0, .ref aM), (1, .int x1), (2, .int x2)]) hx hb dX12_restsNow_32 hl (by decide) rfl (fun ls hl => ?_)
  refine lv_iload_n hx hb dX12_restsNow_34 rfl (lv_at hl 2 rfl) ?_
  refine lv_iconst (v := 1) hx hb dX12_restsNow_35 (by decide) ?_
  refine lv_isub hx hb dX12_restsNow_36 ?_
  refine lv_topi (fun z6 ez6 => ?_)
  have hf := o_bnd ez6 hf
  refine lv_istore (lv' := [(6, .int z6), (5, .int (-1)), (4, .int 0), (3, .int q5.2.1), (0, .ref aM), (1, .int x1), (2, .int x2)]) hx hb dX12_restsNow_37 hl (by decide) rfl (fun ls hl => ?_)
  obtain ⟨q17, hq17, hf⟩ := o_bind hf
  refine L39 _ z6 (-1) 0 q5.2.2.1 q5.2.2.2.1 q5.2.2.2.2 _ hq17 _ _ ls hw (lv_sub hl [0, 1, 2, 4, 5, 6] rfl) (fun H locs ls hw hl => ?_)
  have hP := hw.1
  refine lv_iconst (v := (-1)) hx hb dX12_restsNow_93 (by decide) ?_
  refine lv_istore (lv' := [(6, .int (-1)), (5, .int q17.2.1), (4, .int q17.2.2.1), (0, .ref aM), (1, .int x1), (2, .int x2)]) hx hb dX12_restsNow_94 hl (by decide) rfl (fun ls hl => ?_)
  refine lv_iload hx hb dX12_restsNow_96 (lv_at hl 1 rfl) ?_
  refine lv_iconst (v := (-1)) hx hb dX12_restsNow_98 (by decide) ?_
  refine lv_icmp_eq (tgt := 131) hx hb dX12_restsNow_99 (by decide) (fun h18 => ?_) (fun h18 => ?_)
  · have hf := o_t h18 hf
    refine lv_aload_n hx hb dX12_restsNow_131 rfl (lv_at hl 3 rfl) ?_
    obtain ⟨q19, hq19, hf⟩ := o_bind hf
    refine k_dV (wr := [ia g (rM 3) 5 v_kindOf, ia g (rM 17) 5 q17.2.2.2.2.2, ia g (rM 5) 5 v_sumOf, ia g (rM 8) 5 v_touchedBy, ia g (rM 4) 5 v_windOf, ia g (rM 6) 5 v_wishOf]) (ws' := [ob aM 12 (oM rM v_halls v_bidders v_fall v_heard v_asks v_pageLength v_isWhole v_newMany v_seedNow v_isKept v_keptHall v_keptHeard v_h), ia g (rM 7) 5 q19, ia g (rM 3) 5 v_kindOf, ia g (rM 18) 5 q17.2.2.2.2.1, ia g (rM 17) 5 q17.2.2.2.2.2, ia g (rM 5) 5 v_sumOf, ia g (rM 8) 5 v_touchedBy, ia g (rM 4) 5 v_windOf, ia g (rM 6) 5 v_wishOf]) F (c_X12_load l g aM rM v_halls v_bidders v_fall v_heard v_asks v_pageLength v_isWhole v_newMany v_seedNow v_isKept v_keptHall v_keptHeard v_h q17.2.2.2.1 q17.2.2.2.2.1 hq19) qv_X12_load ml_X12_159 hw hA hK [0, 1, 3] [2, 4, 5, 6, 7, 8] [6, 7, 0, 8, 1, 2, 3, 4, 5] rfl rfl rfl rfl rfl (by decide) rfl rfl rfl (va_recv hK.1 hP (ci := 12) (q0 := 0) rfl rfl) rfl hl.1 rfl (Nat.le_of_ble_eq_true rfl) dX12_restsNow_132 ⟨(Nat.le_of_ble_eq_true rfl), (Nat.le_of_ble_eq_true rfl)⟩ ⟨(Nat.le_of_ble_eq_true rfl), (Nat.le_of_ble_eq_true rfl)⟩ (fun H locs hw => ?_)
    have hP := hw.1
    refine W.eq (g2 := F0 m 135 ls ([])) rfl ?_
    refine lv_iload_n hx hb dX12_restsNow_135 rfl (lv_at hl 5 rfl) ?_
    refine lv_if_ne (tgt := 144) hx hb dX12_restsNow_136 (by decide) (fun h20 => ?_) (fun h20 => ?_)
    · have hf := o_f h20 hf
      refine lv_iload hx hb dX12_restsNow_144 (lv_at hl 0 rfl) ?_
      cases hf
      exact r_ci F hQ ⟨rfl, rfl⟩ hw dX12_restsNow_146
    · have hf := o_t h20 hf
      refine lv_iload hx hb dX12_restsNow_139 (lv_at hl 2 rfl) ?_
      refine lv_goto (tgt := 146) hx hb dX12_restsNow_141 (by decide) ?_
      cases hf
      exact r_ci F hQ ⟨rfl, rfl⟩ hw dX12_restsNow_146
  · have hf := o_f h18 hf
    refine lv_aload_n hx hb dX12_restsNow_102 rfl (lv_at hl 3 rfl) ?_
    refine lv_iload_n hx hb dX12_restsNow_103 rfl (lv_at hl 5 rfl) ?_
    refine lv_bipush (v := 10) hx hb dX12_restsNow_104 (by decide) ?_
    refine lv_isub hx hb dX12_restsNow_106 ?_
    obtain ⟨q21, hq21, hf⟩ := o_bind hf
    refine k_rV F (c_X12_isBidder l g aM rM (x2 - 10) v_halls v_bidders v_fall v_heard v_asks v_pageLength v_isWhole v_newMany v_seedNow v_isKept v_keptHall v_keptHeard v_h hq21) qv_X12_isBidder ml_X12_129 (hP.sub [0] rfl) hK (va_recv hK.1 hP (ci := 12) (q0 := 0) rfl rfl) rfl hl.1 rfl (Nat.le_of_ble_eq_true rfl) dX12_restsNow_107 ⟨(Nat.le_of_ble_eq_true rfl), (Nat.le_of_ble_eq_true rfl)⟩ ⟨(Nat.le_of_ble_eq_true rfl), (Nat.le_of_ble_eq_true rfl)⟩ ?_
    refine W.eq (g2 := F0 m 110 ls (.int q21 :: [])) rfl ?_
    refine lv_if_eq (tgt := 131) hx hb dX12_restsNow_110 (by decide) (fun h22 => ?_) (fun h22 => ?_)
    · have hf := o_t h22 hf
      refine lv_aload_n hx hb dX12_restsNow_131 rfl (lv_at hl 3 rfl) ?_
      obtain ⟨q23, hq23, hf⟩ := o_bind hf
      refine k_dV (wr := [ia g (rM 3) 5 v_kindOf, ia g (rM 17) 5 q17.2.2.2.2.2, ia g (rM 5) 5 v_sumOf, ia g (rM 8) 5 v_touchedBy, ia g (rM 4) 5 v_windOf, ia g (rM 6) 5 v_wishOf]) (ws' := [ob aM 12 (oM rM v_halls v_bidders v_fall v_heard v_asks v_pageLength v_isWhole v_newMany v_seedNow v_isKept v_keptHall v_keptHeard v_h), ia g (rM 7) 5 q23, ia g (rM 3) 5 v_kindOf, ia g (rM 18) 5 q17.2.2.2.2.1, ia g (rM 17) 5 q17.2.2.2.2.2, ia g (rM 5) 5 v_sumOf, ia g (rM 8) 5 v_touchedBy, ia g (rM 4) 5 v_windOf, ia g (rM 6) 5 v_wishOf]) F (c_X12_load l g aM rM v_halls v_bidders v_fall v_heard v_asks v_pageLength v_isWhole v_newMany v_seedNow v_isKept v_keptHall v_keptHeard v_h q17.2.2.2.1 q17.2.2.2.2.1 hq23) qv_X12_load ml_X12_159 hw hA hK [0, 1, 3] [2, 4, 5, 6, 7, 8] [6, 7, 0, 8, 1, 2, 3, 4, 5] rfl rfl rfl rfl rfl (by decide) rfl rfl rfl (va_recv hK.1 hP (ci := 12) (q0 := 0) rfl rfl) rfl hl.1 rfl (Nat.le_of_ble_eq_true rfl) dX12_restsNow_132 ⟨(Nat.le_of_ble_eq_true rfl), (Nat.le_of_ble_eq_true rfl)⟩ ⟨(Nat.le_of_ble_eq_true rfl), (Nat.le_of_ble_eq_true rfl)⟩ (fun H locs hw => ?_)
      have hP := hw.1
      refine W.eq (g2 := F0 m 135 ls ([])) rfl ?_
      refine lv_iload_n hx hb dX12_restsNow_135 rfl (lv_at hl 5 rfl) ?_
      refine lv_if_ne (tgt := 144) hx hb dX12_restsNow_136 (by decide) (fun h24 => ?_) (fun h24 => ?_)
      · have hf := o_f h24 hf
        refine lv_iload hx hb dX12_restsNow_144 (lv_at hl 0 rfl) ?_
        cases hf
        exact r_ci F hQ ⟨rfl, rfl⟩ hw dX12_restsNow_146
      · have hf := o_t h24 hf
        refine lv_iload hx hb dX12_restsNow_139 (lv_at hl 2 rfl) ?_
        refine lv_goto (tgt := 146) hx hb dX12_restsNow_141 (by decide) ?_
        cases hf
        exact r_ci F hQ ⟨rfl, rfl⟩ hw dX12_restsNow_146
    · have hf := o_f h22 hf
      refine lv_aload_n hx hb dX12_restsNow_113 rfl (lv_at hl 3 rfl) ?_
      refine lv_iload hx hb dX12_restsNow_114 (lv_at hl 1 rfl) ?_
      refine lv_iload_n hx hb dX12_restsNow_116 rfl (lv_at hl 4 rfl) ?_
      obtain ⟨q25, hq25, hf⟩ := o_bind hf
      refine k_dV (wr := [ia g (rM 3) 5 v_kindOf, ia g (rM 18) 5 q17.2.2.2.2.1, ia g (rM 17) 5 q17.2.2.2.2.2, ia g (rM 5) 5 v_sumOf, ia g (rM 8) 5 v_touchedBy, ia g (rM 4) 5 v_windOf, ia g (rM 6) 5 v_wishOf]) (ws' := [ob aM 12 (oM rM v_halls v_bidders v_fall v_heard v_asks v_pageLength v_isWhole v_newMany v_seedNow v_isKept v_keptHall v_keptHeard v_h), ia g (rM 7) 5 q25, ia g (rM 3) 5 v_kindOf, ia g (rM 18) 5 q17.2.2.2.2.1, ia g (rM 17) 5 q17.2.2.2.2.2, ia g (rM 5) 5 v_sumOf, ia g (rM 8) 5 v_touchedBy, ia g (rM 4) 5 v_windOf, ia g (rM 6) 5 v_wishOf]) F (c_X12_chooseBy l g aM rM q17.2.1 x1 v_halls v_bidders v_fall v_heard v_asks v_pageLength v_isWhole v_newMany v_seedNow v_isKept v_keptHall v_keptHeard v_h q17.2.2.2.1 hq25) qv_X12_chooseBy ml_X12_152 hw hA hK [0, 1] [2, 3, 4, 5, 6, 7, 8] [7, 8, 0, 1, 2, 3, 4, 5, 6] rfl rfl rfl rfl rfl (by decide) rfl rfl rfl (va_recv hK.1 hP (ci := 12) (q0 := 0) rfl rfl) rfl hl.1 rfl (Nat.le_of_ble_eq_true rfl) dX12_restsNow_117 ⟨(Nat.le_of_ble_eq_true rfl), (Nat.le_of_ble_eq_true rfl)⟩ ⟨(Nat.le_of_ble_eq_true rfl), (Nat.le_of_ble_eq_true rfl)⟩ (fun H locs hw => ?_)
      have hP := hw.1
      refine W.eq (g2 := F0 m 120 ls ([])) rfl ?_
      refine lv_aload_n hx hb dX12_restsNow_120 rfl (lv_at hl 3 rfl) ?_
      refine w_get (ci := 12) F hK hP fb_X12 0 rfl rfl 7 (by decide) fl_X12_22 (fun _ h => h) rfl dX12_restsNow_121 ?_
      refine lv_iload_n hx hb dX12_restsNow_124 rfl (lv_at hl 5 rfl) ?_
      refine lv_bipush (v := 10) hx hb dX12_restsNow_125 (by decide) ?_
      refine lv_isub hx hb dX12_restsNow_127 ?_
      obtain ⟨h26, hf⟩ := o_chk hf
      refine w_iald F hK hP 1 rfl h26 dX12_restsNow_128 ?_
      refine lv_topi (fun z27 ez27 => ?_)
      have hf := o_bnd ez27 hf
      refine lv_istore (lv' := [(6, .int z27), (5, .int q17.2.1), (4, .int q17.2.2.1), (0, .ref aM), (1, .int x1), (2, .int x2)]) hx hb dX12_restsNow_129 hl (by decide) rfl (fun ls hl => ?_)
      refine lv_aload_n hx hb dX12_restsNow_131 rfl (lv_at hl 3 rfl) ?_
      obtain ⟨q28, hq28, hf⟩ := o_bind hf
      refine k_dV (wr := [ia g (rM 3) 5 v_kindOf, ia g (rM 17) 5 q17.2.2.2.2.2, ia g (rM 5) 5 v_sumOf, ia g (rM 8) 5 v_touchedBy, ia g (rM 4) 5 v_windOf, ia g (rM 6) 5 v_wishOf]) (ws' := [ob aM 12 (oM rM v_halls v_bidders v_fall v_heard v_asks v_pageLength v_isWhole v_newMany v_seedNow v_isKept v_keptHall v_keptHeard v_h), ia g (rM 7) 5 q28, ia g (rM 3) 5 v_kindOf, ia g (rM 18) 5 q17.2.2.2.2.1, ia g (rM 17) 5 q17.2.2.2.2.2, ia g (rM 5) 5 v_sumOf, ia g (rM 8) 5 v_touchedBy, ia g (rM 4) 5 v_windOf, ia g (rM 6) 5 v_wishOf]) F (c_X12_load l g aM rM v_halls v_bidders v_fall v_heard v_asks v_pageLength v_isWhole v_newMany v_seedNow v_isKept v_keptHall v_keptHeard v_h q25 q17.2.2.2.2.1 hq28) qv_X12_load ml_X12_159 hw hA hK [0, 1, 3] [2, 4, 5, 6, 7, 8] [6, 7, 0, 8, 1, 2, 3, 4, 5] rfl rfl rfl rfl rfl (by decide) rfl rfl rfl (va_recv hK.1 hP (ci := 12) (q0 := 0) rfl rfl) rfl hl.1 rfl (Nat.le_of_ble_eq_true rfl) dX12_restsNow_132 ⟨(Nat.le_of_ble_eq_true rfl), (Nat.le_of_ble_eq_true rfl)⟩ ⟨(Nat.le_of_ble_eq_true rfl), (Nat.le_of_ble_eq_true rfl)⟩ (fun H locs hw => ?_)
      have hP := hw.1
      refine W.eq (g2 := F0 m 135 ls ([])) rfl ?_
      refine lv_iload_n hx hb dX12_restsNow_135 rfl (lv_at hl 5 rfl) ?_
      refine lv_if_ne (tgt := 144) hx hb dX12_restsNow_136 (by decide) (fun h29 => ?_) (fun h29 => ?_)
      · have hf := o_f h29 hf
        refine lv_iload hx hb dX12_restsNow_144 (lv_at hl 0 rfl) ?_
        cases hf
        exact r_ci F hQ ⟨rfl, rfl⟩ hw dX12_restsNow_146
      · have hf := o_t h29 hf
        refine lv_iload hx hb dX12_restsNow_139 (lv_at hl 2 rfl) ?_
        refine lv_goto (tgt := 146) hx hb dX12_restsNow_141 (by decide) ?_
        cases hf
        exact r_ci F hQ ⟨rfl, rfl⟩ hw dX12_restsNow_146
def f_X12_rests (x1 : Int32) (x2 : Int32) (v_asks : Int32) (v_bidders : Int32) (v_choiceOf : Nat → Int32) (v_fall : Int32) (v_kindOf : Nat → Int32) (v_saved : Nat → Int32) (v_stopsAt : Nat → Int32) (v_sumOf : Nat → Int32) (v_touchedBy : Nat → Int32) (v_windOf : Nat → Int32) (v_wishOf : Nat → Int32) : Option (Int32 × Int32 × (Nat → Int32) × (Nat → Int32) × (Nat → Int32)) := ((f_X12_within x1 1 4).bind fun q1 => (if q1 = 0 then (some ((-102), v_asks, v_choiceOf, v_saved, v_stopsAt)) else (if x2 = 0 then (if v_bidders = 0 then (some ((-103), v_asks, v_choiceOf, v_saved, v_stopsAt)) else (if v_asks = 20 then (some ((-103), v_asks, v_choiceOf, v_saved, v_stopsAt)) else (bnd (v_asks + 1) fun z6 => ((f_X12_restsNow x1 x2 v_bidders v_choiceOf v_fall v_kindOf v_saved v_stopsAt v_sumOf v_touchedBy v_windOf v_wishOf).bind fun q7 => (some (q7.1, z6, q7.2.1, q7.2.2.1, q7.2.2.2)))))) else ((f_X12_within x2 10 14).bind fun q8 => (if q8 = 0 then (some ((-102), v_asks, v_choiceOf, v_saved, v_stopsAt)) else (if v_bidders = 0 then (some ((-103), v_asks, v_choiceOf, v_saved, v_stopsAt)) else (if v_asks = 20 then (some ((-103), v_asks, v_choiceOf, v_saved, v_stopsAt)) else (bnd (v_asks + 1) fun z12 => ((f_X12_restsNow x1 x2 v_bidders v_choiceOf v_fall v_kindOf v_saved v_stopsAt v_sumOf v_touchedBy v_windOf v_wishOf).bind fun q13 => (some (q13.1, z12, q13.2.1, q13.2.2.1, q13.2.2.2)))))))))))
set_option maxRecDepth 100000 in
set_option maxHeartbeats 4000000 in
theorem c_X12_rests (l : Launch) (g : GG) (aM : Nat) (rM : Nat → Nat) (x1 : Int32) (x2 : Int32) (v_halls : Int32) (v_bidders : Int32) (v_fall : Int32) (v_heard : Int32) (v_asks : Int32) (v_pageLength : Int32) (v_isWhole : Int32) (v_newMany : Int32) (v_seedNow : Int64) (v_isKept : Int32) (v_keptHall : Int32) (v_keptHeard : Int32) (v_h : Int64) (v_choiceOf : Nat → Int32) (v_kindOf : Nat → Int32) (v_saved : Nat → Int32) (v_stopsAt : Nat → Int32) (v_sumOf : Nat → Int32) (v_touchedBy : Nat → Int32) (v_windOf : Nat → Int32) (v_wishOf : Nat → Int32) {r0 : Int32} {r1 : Int32} {r2 : Nat → Int32} {r3 : Nat → Int32} {r4 : Nat → Int32} (hf : f_X12_rests x1 x2 v_asks v_bidders v_choiceOf v_fall v_kindOf v_saved v_stopsAt v_sumOf v_touchedBy v_windOf v_wishOf = some (r0, r1, r2, r3, r4)) : MD l g yX12_rests cX12_rests 3 (some .int) 7 166 [.ref aM, .int x1, .int x2] [ob aM 12 (oM rM v_halls v_bidders v_fall v_heard v_asks v_pageLength v_isWhole v_newMany v_seedNow v_isKept v_keptHall v_keptHeard v_h), ia g (rM 7) 5 v_choiceOf, ia g (rM 3) 5 v_kindOf, ia g (rM 18) 5 v_saved, ia g (rM 17) 5 v_stopsAt, ia g (rM 5) 5 v_sumOf, ia g (rM 8) 5 v_touchedBy, ia g (rM 4) 5 v_windOf, ia g (rM 6) 5 v_wishOf] (some (.int r0)) [ob aM 12 (oM rM v_halls v_bidders v_fall v_heard r1 v_pageLength v_isWhole v_newMany v_seedNow v_isKept v_keptHall v_keptHeard v_h), ia g (rM 7) 5 r2, ia g (rM 3) 5 v_kindOf, ia g (rM 18) 5 r3, ia g (rM 17) 5 r4, ia g (rM 5) 5 v_sumOf, ia g (rM 8) 5 v_touchedBy, ia g (rM 4) 5 v_windOf, ia g (rM 6) 5 v_wishOf] := by
  refine MC.mk (by decide) (Nat.le_of_ble_eq_true rfl) ?_
  intro p e s m args below meth c ls Q A F hnm hK hw hA hl hQ
  have hP := hw.1
  have hx := F.1
  have hb := F.2.1
  have hml := F.2.2.2.1
  have hown := F.2.2.2.2.1
  have hts := F.2.2.2.2.2.1
  have hl : lv_has ls 3 [(0, .ref aM), (1, .int x1), (2, .int x2)] := hl
  unfold f_X12_rests at hf
  refine lv_iload_n hx hb dX12_rests_0 rfl (lv_at hl 1 rfl) ?_
  refine lv_iconst (v := 1) hx hb dX12_rests_1 (by decide) ?_
  refine lv_iconst (v := 4) hx hb dX12_rests_2 (by decide) ?_
  obtain ⟨q1, hq1, hf⟩ := o_bind hf
  refine k_rS F (c_X12_within l g x1 1 4 hq1) qs_X12_within ml_X12_59 (hP.sub [] rfl) hK rfl hl.1 rfl (Nat.le_of_ble_eq_true rfl) dX12_rests_3 ⟨(Nat.le_of_ble_eq_true rfl), (Nat.le_of_ble_eq_true rfl)⟩ ⟨(Nat.le_of_ble_eq_true rfl), (Nat.le_of_ble_eq_true rfl)⟩ ?_
  refine W.eq (g2 := F0 m 6 ls (.int q1 :: [])) rfl ?_
  refine lv_if_eq (tgt := 24) hx hb dX12_rests_6 (by decide) (fun h2 => ?_) (fun h2 => ?_)
  · have hf := o_t h2 hf
    refine lv_bipush (v := (-102)) hx hb dX12_rests_24 (by decide) ?_
    cases hf
    exact r_ci F hQ ⟨rfl, rfl⟩ hw dX12_rests_26
  · have hf := o_f h2 hf
    refine lv_iload_n hx hb dX12_rests_9 rfl (lv_at hl 2 rfl) ?_
    refine lv_if_eq (tgt := 27) hx hb dX12_rests_10 (by decide) (fun h3 => ?_) (fun h3 => ?_)
    · have hf := o_t h3 hf
      refine lv_aload_n hx hb dX12_rests_27 rfl (lv_at hl 0 rfl) ?_
      refine w_get (ci := 12) F hK hP fb_X12 0 rfl rfl 1 (by decide) fl_X12_89 (fun _ h => h) rfl dX12_rests_28 ?_
      refine lv_if_eq (tgt := 43) hx hb dX12_rests_31 (by decide) (fun h4 => ?_) (fun h4 => ?_)
      · have hf := o_t h4 hf
        refine lv_bipush (v := (-103)) hx hb dX12_rests_43 (by decide) ?_
        cases hf
        exact r_ci F hQ ⟨rfl, rfl⟩ hw dX12_rests_45
      · have hf := o_f h4 hf
        refine lv_aload_n hx hb dX12_rests_34 rfl (lv_at hl 0 rfl) ?_
        refine w_get (ci := 12) F hK hP fb_X12 0 rfl rfl 12 (by decide) fl_X12_162 (fun _ h => h) rfl dX12_rests_35 ?_
        refine lv_bipush (v := 20) hx hb dX12_rests_38 (by decide) ?_
        refine lv_icmp_ne (tgt := 46) hx hb dX12_rests_40 (by decide) (fun h5 => ?_) (fun h5 => ?_)
        · have hf := o_f h5 hf
          refine lv_aload_n hx hb dX12_rests_46 rfl (lv_at hl 0 rfl) ?_
          refine lv_dup hx hb dX12_rests_47 rfl ?_
          refine w_get (ci := 12) F hK hP fb_X12 0 rfl rfl 12 (by decide) fl_X12_162 (fun _ h => h) rfl dX12_rests_48 ?_
          refine lv_iconst (v := 1) hx hb dX12_rests_51 (by decide) ?_
          refine lv_iadd hx hb dX12_rests_52 ?_
          refine lv_topi (fun z6 ez6 => ?_)
          have hf := o_bnd ez6 hf
          refine w_put (ci := 12) (ws' := [ob aM 12 (oM rM v_halls v_bidders v_fall v_heard z6 v_pageLength v_isWhole v_newMany v_seedNow v_isKept v_keptHall v_keptHeard v_h), ia g (rM 7) 5 v_choiceOf, ia g (rM 3) 5 v_kindOf, ia g (rM 18) 5 v_saved, ia g (rM 17) 5 v_stopsAt, ia g (rM 5) 5 v_sumOf, ia g (rM 8) 5 v_touchedBy, ia g (rM 4) 5 v_windOf, ia g (rM 6) 5 v_wishOf]) F hK hw fb_X12 0 rfl rfl 12 (by decide) fl_X12_162 (fun _ h => h) rfl rfl rfl rfl (Nat.le_of_ble_eq_true rfl) rfl dX12_rests_53 (fun H locs hw => ?_)
          have hP := hw.1
          refine lv_aload_n hx hb dX12_rests_56 rfl (lv_at hl 0 rfl) ?_
          refine lv_iload_n hx hb dX12_rests_57 rfl (lv_at hl 1 rfl) ?_
          refine lv_iload_n hx hb dX12_rests_58 rfl (lv_at hl 2 rfl) ?_
          obtain ⟨q7, hq7, hf⟩ := o_bind hf
          refine k_dV (wr := []) (ws' := [ob aM 12 (oM rM v_halls v_bidders v_fall v_heard z6 v_pageLength v_isWhole v_newMany v_seedNow v_isKept v_keptHall v_keptHeard v_h), ia g (rM 7) 5 q7.2.1, ia g (rM 3) 5 v_kindOf, ia g (rM 18) 5 q7.2.2.1, ia g (rM 17) 5 q7.2.2.2, ia g (rM 5) 5 v_sumOf, ia g (rM 8) 5 v_touchedBy, ia g (rM 4) 5 v_windOf, ia g (rM 6) 5 v_wishOf]) F (c_X12_restsNow l g aM rM x1 x2 v_halls v_bidders v_fall v_heard z6 v_pageLength v_isWhole v_newMany v_seedNow v_isKept v_keptHall v_keptHeard v_h v_choiceOf v_kindOf v_saved v_stopsAt v_sumOf v_touchedBy v_windOf v_wishOf hq7) qv_X12_restsNow ml_X12_165 hw hA hK [0, 1, 2, 3, 4, 5, 6, 7, 8] [] [0, 1, 2, 3, 4, 5, 6, 7, 8] rfl rfl rfl rfl rfl (by decide) rfl rfl rfl (va_recv hK.1 hP (ci := 12) (q0 := 0) rfl rfl) rfl hl.1 rfl (Nat.le_of_ble_eq_true rfl) dX12_rests_59 ⟨(Nat.le_of_ble_eq_true rfl), (Nat.le_of_ble_eq_true rfl)⟩ ⟨(Nat.le_of_ble_eq_true rfl), (Nat.le_of_ble_eq_true rfl)⟩ (fun H locs hw => ?_)
          have hP := hw.1
          refine W.eq (g2 := F0 m 62 ls (.int q7.1 :: [])) rfl ?_
          cases hf
          exact r_ci F hQ ⟨rfl, rfl⟩ hw dX12_rests_62
        · have hf := o_t h5 hf
          refine lv_bipush (v := (-103)) hx hb dX12_rests_43 (by decide) ?_
          cases hf
          exact r_ci F hQ ⟨rfl, rfl⟩ hw dX12_rests_45
    · have hf := o_f h3 hf
      refine lv_iload_n hx hb dX12_rests_13 rfl (lv_at hl 2 rfl) ?_
      refine lv_bipush (v := 10) hx hb dX12_rests_14 (by decide) ?_
      refine lv_bipush (v := 14) hx hb dX12_rests_16 (by decide) ?_
      obtain ⟨q8, hq8, hf⟩ := o_bind hf
      refine k_rS F (c_X12_within l g x2 10 14 hq8) qs_X12_within ml_X12_59 (hP.sub [] rfl) hK rfl hl.1 rfl (Nat.le_of_ble_eq_true rfl) dX12_rests_18 ⟨(Nat.le_of_ble_eq_true rfl), (Nat.le_of_ble_eq_true rfl)⟩ ⟨(Nat.le_of_ble_eq_true rfl), (Nat.le_of_ble_eq_true rfl)⟩ ?_
      refine W.eq (g2 := F0 m 21 ls (.int q8 :: [])) rfl ?_
      refine lv_if_ne (tgt := 27) hx hb dX12_rests_21 (by decide) (fun h9 => ?_) (fun h9 => ?_)
      · have hf := o_f h9 hf
        refine lv_aload_n hx hb dX12_rests_27 rfl (lv_at hl 0 rfl) ?_
        refine w_get (ci := 12) F hK hP fb_X12 0 rfl rfl 1 (by decide) fl_X12_89 (fun _ h => h) rfl dX12_rests_28 ?_
        refine lv_if_eq (tgt := 43) hx hb dX12_rests_31 (by decide) (fun h10 => ?_) (fun h10 => ?_)
        · have hf := o_t h10 hf
          refine lv_bipush (v := (-103)) hx hb dX12_rests_43 (by decide) ?_
          cases hf
          exact r_ci F hQ ⟨rfl, rfl⟩ hw dX12_rests_45
        · have hf := o_f h10 hf
          refine lv_aload_n hx hb dX12_rests_34 rfl (lv_at hl 0 rfl) ?_
          refine w_get (ci := 12) F hK hP fb_X12 0 rfl rfl 12 (by decide) fl_X12_162 (fun _ h => h) rfl dX12_rests_35 ?_
          refine lv_bipush (v := 20) hx hb dX12_rests_38 (by decide) ?_
          refine lv_icmp_ne (tgt := 46) hx hb dX12_rests_40 (by decide) (fun h11 => ?_) (fun h11 => ?_)
          · have hf := o_f h11 hf
            refine lv_aload_n hx hb dX12_rests_46 rfl (lv_at hl 0 rfl) ?_
            refine lv_dup hx hb dX12_rests_47 rfl ?_
            refine w_get (ci := 12) F hK hP fb_X12 0 rfl rfl 12 (by decide) fl_X12_162 (fun _ h => h) rfl dX12_rests_48 ?_
            refine lv_iconst (v := 1) hx hb dX12_rests_51 (by decide) ?_
            refine lv_iadd hx hb dX12_rests_52 ?_
            refine lv_topi (fun z12 ez12 => ?_)
            have hf := o_bnd ez12 hf
            refine w_put (ci := 12) (ws' := [ob aM 12 (oM rM v_halls v_bidders v_fall v_heard z12 v_pageLength v_isWhole v_newMany v_seedNow v_isKept v_keptHall v_keptHeard v_h), ia g (rM 7) 5 v_choiceOf, ia g (rM 3) 5 v_kindOf, ia g (rM 18) 5 v_saved, ia g (rM 17) 5 v_stopsAt, ia g (rM 5) 5 v_sumOf, ia g (rM 8) 5 v_touchedBy, ia g (rM 4) 5 v_windOf, ia g (rM 6) 5 v_wishOf]) F hK hw fb_X12 0 rfl rfl 12 (by decide) fl_X12_162 (fun _ h => h) rfl rfl rfl rfl (Nat.le_of_ble_eq_true rfl) rfl dX12_rests_53 (fun H locs hw => ?_)
            have hP := hw.1
            refine lv_aload_n hx hb dX12_rests_56 rfl (lv_at hl 0 rfl) ?_
            refine lv_iload_n hx hb dX12_rests_57 rfl (lv_at hl 1 rfl) ?_
            refine lv_iload_n hx hb dX12_rests_58 rfl (lv_at hl 2 rfl) ?_
            obtain ⟨q13, hq13, hf⟩ := o_bind hf
            refine k_dV (wr := []) (ws' := [ob aM 12 (oM rM v_halls v_bidders v_fall v_heard z12 v_pageLength v_isWhole v_newMany v_seedNow v_isKept v_keptHall v_keptHeard v_h), ia g (rM 7) 5 q13.2.1, ia g (rM 3) 5 v_kindOf, ia g (rM 18) 5 q13.2.2.1, ia g (rM 17) 5 q13.2.2.2, ia g (rM 5) 5 v_sumOf, ia g (rM 8) 5 v_touchedBy, ia g (rM 4) 5 v_windOf, ia g (rM 6) 5 v_wishOf]) F (c_X12_restsNow l g aM rM x1 x2 v_halls v_bidders v_fall v_heard z12 v_pageLength v_isWhole v_newMany v_seedNow v_isKept v_keptHall v_keptHeard v_h v_choiceOf v_kindOf v_saved v_stopsAt v_sumOf v_touchedBy v_windOf v_wishOf hq13) qv_X12_restsNow ml_X12_165 hw hA hK [0, 1, 2, 3, 4, 5, 6, 7, 8] [] [0, 1, 2, 3, 4, 5, 6, 7, 8] rfl rfl rfl rfl rfl (by decide) rfl rfl rfl (va_recv hK.1 hP (ci := 12) (q0 := 0) rfl rfl) rfl hl.1 rfl (Nat.le_of_ble_eq_true rfl) dX12_rests_59 ⟨(Nat.le_of_ble_eq_true rfl), (Nat.le_of_ble_eq_true rfl)⟩ ⟨(Nat.le_of_ble_eq_true rfl), (Nat.le_of_ble_eq_true rfl)⟩ (fun H locs hw => ?_)
            have hP := hw.1
            refine W.eq (g2 := F0 m 62 ls (.int q13.1 :: [])) rfl ?_
            cases hf
            exact r_ci F hQ ⟨rfl, rfl⟩ hw dX12_rests_62
          · have hf := o_t h11 hf
            refine lv_bipush (v := (-103)) hx hb dX12_rests_43 (by decide) ?_
            cases hf
            exact r_ci F hQ ⟨rfl, rfl⟩ hw dX12_rests_45
      · have hf := o_t h9 hf
        refine lv_bipush (v := (-102)) hx hb dX12_rests_24 (by decide) ?_
        cases hf
        exact r_ci F hQ ⟨rfl, rfl⟩ hw dX12_rests_26
def f_X12_hear (x1 : Int32) (x2 : Int32) (v_bidders : Int32) (v_heard : Int32) (v_heardBidder : Nat → Int32) (v_heardBreath : Nat → Int32) : Option (Int32 × Int32 × (Nat → Int32) × (Nat → Int32)) := ((f_X12_isBidder x1 v_bidders).bind fun q1 => (if q1 = 0 then (some ((-101), v_heard, v_heardBidder, v_heardBreath)) else ((f_X12_within x2 1 40).bind fun q3 => (if q3 = 0 then (some ((-102), v_heard, v_heardBidder, v_heardBreath)) else (if v_heard = 8 then (some ((-104), v_heard, v_heardBidder, v_heardBreath)) else (if v_heard < 0 ∨ 8 ≤ Int32.toNatClampNeg v_heard then none else (bnd (v_heard + 1) fun z7 => (some (z7, z7, (upd v_heardBidder (Int32.toNatClampNeg v_heard) x1), (upd v_heardBreath (Int32.toNatClampNeg v_heard) x2))))))))))
set_option maxRecDepth 100000 in
set_option maxHeartbeats 4000000 in
theorem c_X12_hear (l : Launch) (g : GG) (aM : Nat) (rM : Nat → Nat) (x1 : Int32) (x2 : Int32) (v_halls : Int32) (v_bidders : Int32) (v_fall : Int32) (v_heard : Int32) (v_asks : Int32) (v_pageLength : Int32) (v_isWhole : Int32) (v_newMany : Int32) (v_seedNow : Int64) (v_isKept : Int32) (v_keptHall : Int32) (v_keptHeard : Int32) (v_h : Int64) (v_heardBidder : Nat → Int32) (v_heardBreath : Nat → Int32) {r0 : Int32} {r1 : Int32} {r2 : Nat → Int32} {r3 : Nat → Int32} (hf : f_X12_hear x1 x2 v_bidders v_heard v_heardBidder v_heardBreath = some (r0, r1, r2, r3)) : MD l g yX12_hear cX12_hear 3 (some .int) 2 43 [.ref aM, .int x1, .int x2] [ob aM 12 (oM rM v_halls v_bidders v_fall v_heard v_asks v_pageLength v_isWhole v_newMany v_seedNow v_isKept v_keptHall v_keptHeard v_h), ia g (rM 10) 8 v_heardBidder, ia g (rM 11) 8 v_heardBreath] (some (.int r0)) [ob aM 12 (oM rM v_halls v_bidders v_fall r1 v_asks v_pageLength v_isWhole v_newMany v_seedNow v_isKept v_keptHall v_keptHeard v_h), ia g (rM 10) 8 r2, ia g (rM 11) 8 r3] := by
  refine MC.mk (by decide) (Nat.le_of_ble_eq_true rfl) ?_
  intro p e s m args below meth c ls Q A F hnm hK hw hA hl hQ
  have hP := hw.1
  have hx := F.1
  have hb := F.2.1
  have hml := F.2.2.2.1
  have hown := F.2.2.2.2.1
  have hts := F.2.2.2.2.2.1
  have hl : lv_has ls 3 [(0, .ref aM), (1, .int x1), (2, .int x2)] := hl
  unfold f_X12_hear at hf
  refine lv_aload_n hx hb dX12_hear_0 rfl (lv_at hl 0 rfl) ?_
  refine lv_iload_n hx hb dX12_hear_1 rfl (lv_at hl 1 rfl) ?_
  obtain ⟨q1, hq1, hf⟩ := o_bind hf
  refine k_rV F (c_X12_isBidder l g aM rM x1 v_halls v_bidders v_fall v_heard v_asks v_pageLength v_isWhole v_newMany v_seedNow v_isKept v_keptHall v_keptHeard v_h hq1) qv_X12_isBidder ml_X12_129 (hP.sub [0] rfl) hK (va_recv hK.1 hP (ci := 12) (q0 := 0) rfl rfl) rfl hl.1 rfl (Nat.le_of_ble_eq_true rfl) dX12_hear_2 ⟨(Nat.le_of_ble_eq_true rfl), (Nat.le_of_ble_eq_true rfl)⟩ ⟨(Nat.le_of_ble_eq_true rfl), (Nat.le_of_ble_eq_true rfl)⟩ ?_
  refine W.eq (g2 := F0 m 5 ls (.int q1 :: [])) rfl ?_
  refine lv_if_ne (tgt := 11) hx hb dX12_hear_5 (by decide) (fun h2 => ?_) (fun h2 => ?_)
  · have hf := o_f h2 hf
    refine lv_iload_n hx hb dX12_hear_11 rfl (lv_at hl 2 rfl) ?_
    refine lv_iconst (v := 1) hx hb dX12_hear_12 (by decide) ?_
    refine lv_bipush (v := 40) hx hb dX12_hear_13 (by decide) ?_
    obtain ⟨q3, hq3, hf⟩ := o_bind hf
    refine k_rS F (c_X12_within l g x2 1 40 hq3) qs_X12_within ml_X12_59 (hP.sub [] rfl) hK rfl hl.1 rfl (Nat.le_of_ble_eq_true rfl) dX12_hear_15 ⟨(Nat.le_of_ble_eq_true rfl), (Nat.le_of_ble_eq_true rfl)⟩ ⟨(Nat.le_of_ble_eq_true rfl), (Nat.le_of_ble_eq_true rfl)⟩ ?_
    refine W.eq (g2 := F0 m 18 ls (.int q3 :: [])) rfl ?_
    refine lv_if_ne (tgt := 24) hx hb dX12_hear_18 (by decide) (fun h4 => ?_) (fun h4 => ?_)
    · have hf := o_f h4 hf
      refine lv_aload_n hx hb dX12_hear_24 rfl (lv_at hl 0 rfl) ?_
      refine w_get (ci := 12) F hK hP fb_X12 0 rfl rfl 9 (by decide) fl_X12_98 (fun _ h => h) rfl dX12_hear_25 ?_
      refine lv_bipush (v := 8) hx hb dX12_hear_28 (by decide) ?_
      refine lv_icmp_ne (tgt := 36) hx hb dX12_hear_30 (by decide) (fun h5 => ?_) (fun h5 => ?_)
      · have hf := o_f h5 hf
        refine lv_aload_n hx hb dX12_hear_36 rfl (lv_at hl 0 rfl) ?_
        refine w_get (ci := 12) F hK hP fb_X12 0 rfl rfl 10 (by decide) fl_X12_28 (fun _ h => h) rfl dX12_hear_37 ?_
        refine lv_aload_n hx hb dX12_hear_40 rfl (lv_at hl 0 rfl) ?_
        refine w_get (ci := 12) F hK hP fb_X12 0 rfl rfl 9 (by decide) fl_X12_98 (fun _ h => h) rfl dX12_hear_41 ?_
        refine lv_iload_n hx hb dX12_hear_44 rfl (lv_at hl 1 rfl) ?_
        obtain ⟨h6, hf⟩ := o_chk hf
        refine w_iast (ws' := [ob aM 12 (oM rM v_halls v_bidders v_fall v_heard v_asks v_pageLength v_isWhole v_newMany v_seedNow v_isKept v_keptHall v_keptHeard v_h), ia g (rM 10) 8 (upd v_heardBidder (Int32.toNatClampNeg v_heard) x1), ia g (rM 11) 8 v_heardBreath]) F hK hw 1 rfl h6 rfl dX12_hear_45 (fun H locs hw => ?_)
        have hP := hw.1
        refine lv_aload_n hx hb dX12_hear_46 rfl (lv_at hl 0 rfl) ?_
        refine w_get (ci := 12) F hK hP fb_X12 0 rfl rfl 11 (by decide) fl_X12_31 (fun _ h => h) rfl dX12_hear_47 ?_
        refine lv_aload_n hx hb dX12_hear_50 rfl (lv_at hl 0 rfl) ?_
        refine w_get (ci := 12) F hK hP fb_X12 0 rfl rfl 9 (by decide) fl_X12_98 (fun _ h => h) rfl dX12_hear_51 ?_
        refine lv_iload_n hx hb dX12_hear_54 rfl (lv_at hl 2 rfl) ?_
        refine w_iast (ws' := [ob aM 12 (oM rM v_halls v_bidders v_fall v_heard v_asks v_pageLength v_isWhole v_newMany v_seedNow v_isKept v_keptHall v_keptHeard v_h), ia g (rM 10) 8 (upd v_heardBidder (Int32.toNatClampNeg v_heard) x1), ia g (rM 11) 8 (upd v_heardBreath (Int32.toNatClampNeg v_heard) x2)]) F hK hw 2 rfl h6 rfl dX12_hear_55 (fun H locs hw => ?_)
        have hP := hw.1
        refine lv_aload_n hx hb dX12_hear_56 rfl (lv_at hl 0 rfl) ?_
        refine lv_dup hx hb dX12_hear_57 rfl ?_
        refine w_get (ci := 12) F hK hP fb_X12 0 rfl rfl 9 (by decide) fl_X12_98 (fun _ h => h) rfl dX12_hear_58 ?_
        refine lv_iconst (v := 1) hx hb dX12_hear_61 (by decide) ?_
        refine lv_iadd hx hb dX12_hear_62 ?_
        refine lv_topi (fun z7 ez7 => ?_)
        have hf := o_bnd ez7 hf
        refine w_put (ci := 12) (ws' := [ob aM 12 (oM rM v_halls v_bidders v_fall z7 v_asks v_pageLength v_isWhole v_newMany v_seedNow v_isKept v_keptHall v_keptHeard v_h), ia g (rM 10) 8 (upd v_heardBidder (Int32.toNatClampNeg v_heard) x1), ia g (rM 11) 8 (upd v_heardBreath (Int32.toNatClampNeg v_heard) x2)]) F hK hw fb_X12 0 rfl rfl 9 (by decide) fl_X12_98 (fun _ h => h) rfl rfl rfl rfl (Nat.le_of_ble_eq_true rfl) rfl dX12_hear_63 (fun H locs hw => ?_)
        have hP := hw.1
        refine lv_aload_n hx hb dX12_hear_66 rfl (lv_at hl 0 rfl) ?_
        refine w_get (ci := 12) F hK hP fb_X12 0 rfl rfl 9 (by decide) fl_X12_98 (fun _ h => h) rfl dX12_hear_67 ?_
        cases hf
        exact r_ci F hQ ⟨rfl, rfl⟩ hw dX12_hear_70
      · have hf := o_t h5 hf
        refine lv_bipush (v := (-104)) hx hb dX12_hear_33 (by decide) ?_
        cases hf
        exact r_ci F hQ ⟨rfl, rfl⟩ hw dX12_hear_35
    · have hf := o_t h4 hf
      refine lv_bipush (v := (-102)) hx hb dX12_hear_21 (by decide) ?_
      cases hf
      exact r_ci F hQ ⟨rfl, rfl⟩ hw dX12_hear_23
  · have hf := o_t h2 hf
    refine lv_bipush (v := (-101)) hx hb dX12_hear_8 (by decide) ?_
    cases hf
    exact r_ci F hQ ⟨rfl, rfl⟩ hw dX12_hear_10
def f_X12_forget (v_heard : Int32) : Option (Int32 × Int32) := (some (v_heard, 0))
set_option maxRecDepth 100000 in
set_option maxHeartbeats 4000000 in
theorem c_X12_forget (l : Launch) (g : GG) (aM : Nat) (rM : Nat → Nat) (v_halls : Int32) (v_bidders : Int32) (v_fall : Int32) (v_heard : Int32) (v_asks : Int32) (v_pageLength : Int32) (v_isWhole : Int32) (v_newMany : Int32) (v_seedNow : Int64) (v_isKept : Int32) (v_keptHall : Int32) (v_keptHeard : Int32) (v_h : Int64) {r0 : Int32} {r1 : Int32} (hf : f_X12_forget v_heard = some (r0, r1)) : MD l g yX12_forget cX12_forget 2 (some .int) 0 0 [.ref aM] [ob aM 12 (oM rM v_halls v_bidders v_fall v_heard v_asks v_pageLength v_isWhole v_newMany v_seedNow v_isKept v_keptHall v_keptHeard v_h)] (some (.int r0)) [ob aM 12 (oM rM v_halls v_bidders v_fall r1 v_asks v_pageLength v_isWhole v_newMany v_seedNow v_isKept v_keptHall v_keptHeard v_h)] := by
  refine MC.mk (by decide) (Nat.le_of_ble_eq_true rfl) ?_
  intro p e s m args below meth c ls Q A F hnm hK hw hA hl hQ
  have hP := hw.1
  have hx := F.1
  have hb := F.2.1
  have hml := F.2.2.2.1
  have hown := F.2.2.2.2.1
  have hts := F.2.2.2.2.2.1
  have hl : lv_has ls 2 [(0, .ref aM)] := hl
  unfold f_X12_forget at hf
  refine lv_aload_n hx hb dX12_forget_0 rfl (lv_at hl 0 rfl) ?_
  refine w_get (ci := 12) F hK hP fb_X12 0 rfl rfl 9 (by decide) fl_X12_98 (fun _ h => h) rfl dX12_forget_1 ?_
  refine lv_istore_n (lv' := [(1, .int v_heard), (0, .ref aM)]) hx hb dX12_forget_4 rfl hl (by decide) rfl (fun ls hl => ?_)
  refine lv_aload_n hx hb dX12_forget_5 rfl (lv_at hl 1 rfl) ?_
  refine lv_iconst (v := 0) hx hb dX12_forget_6 (by decide) ?_
  refine w_put (ci := 12) (ws' := [ob aM 12 (oM rM v_halls v_bidders v_fall 0 v_asks v_pageLength v_isWhole v_newMany v_seedNow v_isKept v_keptHall v_keptHeard v_h)]) F hK hw fb_X12 0 rfl rfl 9 (by decide) fl_X12_98 (fun _ h => h) rfl rfl rfl rfl (Nat.le_of_ble_eq_true rfl) rfl dX12_forget_7 (fun H locs hw => ?_)
  have hP := hw.1
  refine lv_iload_n hx hb dX12_forget_10 rfl (lv_at hl 0 rfl) ?_
  cases hf
  exact r_ci F hQ ⟨rfl, rfl⟩ hw dX12_forget_11
def f_X12_isHeard_8 (fuel : Nat) (x1 : Int32) (v_bidders : Int32) (v_choiceOf : Nat → Int32) (v_heard : Int32) (v_heardBidder : Nat → Int32) (v_heardBreath : Nat → Int32) (v_kindOf : Nat → Int32) (v_touchedBy : Nat → Int32) (v_windOf : Nat → Int32) (y3 : Int32) (y2 : Int32) (w_v_stopsAt : Nat → Int32) : Option (Int32 × Int32 × (Nat → Int32)) := match fuel with
  | 0 => none
  | k + 1 => (if v_heard ≤ y3 then (some (y3, y2, w_v_stopsAt)) else (if x1 = (-1) then (if y2 = 0 then (bnd (y3 + 1 : Int32) fun z5 => (f_X12_isHeard_8 k x1 v_bidders v_choiceOf v_heard v_heardBidder v_heardBreath v_kindOf v_touchedBy v_windOf z5 0 w_v_stopsAt)) else (if y3 < 0 ∨ 8 ≤ Int32.toNatClampNeg y3 then none else ((f_X12_silentFrom (v_heardBidder (Int32.toNatClampNeg y3)) v_kindOf w_v_stopsAt).bind fun q7 => (if q7 = (v_heardBreath (Int32.toNatClampNeg y3)) then (bnd (y3 + 1 : Int32) fun z10 => (f_X12_isHeard_8 k x1 v_bidders v_choiceOf v_heard v_heardBidder v_heardBreath v_kindOf v_touchedBy v_windOf z10 1 w_v_stopsAt)) else (bnd (y3 + 1 : Int32) fun z9 => (f_X12_isHeard_8 k x1 v_bidders v_choiceOf v_heard v_heardBidder v_heardBreath v_kindOf v_touchedBy v_windOf z9 0 w_v_stopsAt)))))) else (if y3 < 0 ∨ 8 ≤ Int32.toNatClampNeg y3 then none else (if (v_heardBidder (Int32.toNatClampNeg y3)) = x1 then (if y2 = 0 then (bnd (y3 + 1 : Int32) fun z17 => (f_X12_isHeard_8 k x1 v_bidders v_choiceOf v_heard v_heardBidder v_heardBreath v_kindOf v_touchedBy v_windOf z17 0 w_v_stopsAt)) else ((f_X12_silentFrom (v_heardBidder (Int32.toNatClampNeg y3)) v_kindOf w_v_stopsAt).bind fun q18 => (if q18 = (v_heardBreath (Int32.toNatClampNeg y3)) then (bnd (y3 + 1 : Int32) fun z21 => (f_X12_isHeard_8 k x1 v_bidders v_choiceOf v_heard v_heardBidder v_heardBreath v_kindOf v_touchedBy v_windOf z21 1 w_v_stopsAt)) else (bnd (y3 + 1 : Int32) fun z20 => (f_X12_isHeard_8 k x1 v_bidders v_choiceOf v_heard v_heardBidder v_heardBreath v_kindOf v_touchedBy v_windOf z20 0 w_v_stopsAt))))) else (if y2 = 0 then (bnd (y3 + 1 : Int32) fun z14 => (f_X12_isHeard_8 k x1 v_bidders v_choiceOf v_heard v_heardBidder v_heardBreath v_kindOf v_touchedBy v_windOf z14 0 w_v_stopsAt)) else (bnd (y3 + 1 : Int32) fun z15 => (f_X12_isHeard_8 k x1 v_bidders v_choiceOf v_heard v_heardBidder v_heardBreath v_kindOf v_touchedBy v_windOf z15 1 w_v_stopsAt)))))))
def f_X12_isHeard (x1 : Int32) (v_bidders : Int32) (v_choiceOf : Nat → Int32) (v_heard : Int32) (v_heardBidder : Nat → Int32) (v_heardBreath : Nat → Int32) (v_kindOf : Nat → Int32) (v_stopsAt : Nat → Int32) (v_touchedBy : Nat → Int32) (v_windOf : Nat → Int32) : Option (Int32 × (Nat → Int32)) := ((f_X12_layStops v_bidders v_choiceOf v_kindOf v_stopsAt v_touchedBy v_windOf).bind fun q1 => ((f_X12_isHeard_8 4096 x1 v_bidders v_choiceOf v_heard v_heardBidder v_heardBreath v_kindOf v_touchedBy v_windOf 0 1 q1).bind fun q22 => (if ¬ (q22.2.1 = 0 ∨ q22.2.1 = 1) then none else (some (q22.2.1, q22.2.2)))))
set_option maxRecDepth 100000 in
set_option maxHeartbeats 4000000 in
theorem c_X12_isHeard (l : Launch) (g : GG) (aM : Nat) (rM : Nat → Nat) (x1 : Int32) (v_halls : Int32) (v_bidders : Int32) (v_fall : Int32) (v_heard : Int32) (v_asks : Int32) (v_pageLength : Int32) (v_isWhole : Int32) (v_newMany : Int32) (v_seedNow : Int64) (v_isKept : Int32) (v_keptHall : Int32) (v_keptHeard : Int32) (v_h : Int64) (v_choiceOf : Nat → Int32) (v_heardBidder : Nat → Int32) (v_heardBreath : Nat → Int32) (v_kindOf : Nat → Int32) (v_stopsAt : Nat → Int32) (v_touchedBy : Nat → Int32) (v_windOf : Nat → Int32) {r0 : Int32} {r1 : Nat → Int32} (hf : f_X12_isHeard x1 v_bidders v_choiceOf v_heard v_heardBidder v_heardBreath v_kindOf v_stopsAt v_touchedBy v_windOf = some (r0, r1)) : MD l g yX12_isHeard cX12_isHeard 5 (some .boolean) 2 47 [.ref aM, .int x1] [ob aM 12 (oM rM v_halls v_bidders v_fall v_heard v_asks v_pageLength v_isWhole v_newMany v_seedNow v_isKept v_keptHall v_keptHeard v_h), ia g (rM 7) 5 v_choiceOf, ia g (rM 10) 8 v_heardBidder, ia g (rM 11) 8 v_heardBreath, ia g (rM 3) 5 v_kindOf, ia g (rM 17) 5 v_stopsAt, ia g (rM 8) 5 v_touchedBy, ia g (rM 4) 5 v_windOf] (some (.int r0)) [ob aM 12 (oM rM v_halls v_bidders v_fall v_heard v_asks v_pageLength v_isWhole v_newMany v_seedNow v_isKept v_keptHall v_keptHeard v_h), ia g (rM 7) 5 v_choiceOf, ia g (rM 10) 8 v_heardBidder, ia g (rM 11) 8 v_heardBreath, ia g (rM 3) 5 v_kindOf, ia g (rM 17) 5 r1, ia g (rM 8) 5 v_touchedBy, ia g (rM 4) 5 v_windOf] := by
  refine MC.mk (by decide) (Nat.le_of_ble_eq_true rfl) ?_
  intro p e s m args below meth c ls Q A F hnm hK hw hA hl hQ
  have hP := hw.1
  have hx := F.1
  have hb := F.2.1
  have hml := F.2.2.2.1
  have hown := F.2.2.2.2.1
  have hts := F.2.2.2.2.2.1
  have hl : lv_has ls 5 [(0, .ref aM), (1, .int x1)] := hl
  have L8 : ∀ (k : Nat) (y3 : Int32) (y2 : Int32) (w_v_stopsAt : Nat → Int32) (q : Int32 × Int32 × (Nat → Int32)), f_X12_isHeard_8 k x1 v_bidders v_choiceOf v_heard v_heardBidder v_heardBreath v_kindOf v_touchedBy v_windOf y3 y2 w_v_stopsAt = some q → ∀ (H : Heap) (locs : List Loc) (ls : Array Slot), WD g A s.heap [ob aM 12 (oM rM v_halls v_bidders v_fall v_heard v_asks v_pageLength v_isWhole v_newMany v_seedNow v_isKept v_keptHall v_keptHeard v_h), ia g (rM 7) 5 v_choiceOf, ia g (rM 10) 8 v_heardBidder, ia g (rM 11) 8 v_heardBreath, ia g (rM 3) 5 v_kindOf, ia g (rM 17) 5 w_v_stopsAt, ia g (rM 8) 5 v_touchedBy, ia g (rM 4) 5 v_windOf] H locs → lv_has ls 5 [(3, .int y3), (2, .int y2), (0, .ref aM), (1, .int x1)] → (∀ (H : Heap) (locs : List Loc) (ls : Array Slot), WD g A s.heap [ob aM 12 (oM rM v_halls v_bidders v_fall v_heard v_asks v_pageLength v_isWhole v_newMany v_seedNow v_isKept v_keptHall v_keptHeard v_h), ia g (rM 7) 5 v_choiceOf, ia g (rM 10) 8 v_heardBidder, ia g (rM 11) 8 v_heardBreath, ia g (rM 3) 5 v_kindOf, ia g (rM 17) 5 q.2.2, ia g (rM 8) 5 v_touchedBy, ia g (rM 4) 5 v_windOf] H locs → lv_has ls 5 [(3, .int q.1), (2, .int q.2.1), (0, .ref aM), (1, .int x1)] → W p l e (rmc 2 0 0 47) s m args below meth c H locs 0 0 Q (F0 m 78 ls [])) → W p l e (rmc 2 0 0 47) s m args below meth c H locs 0 0 Q (F0 m 8 ls []) := by
    intro k
    induction k with
    | zero => intro y3 y2 w_v_stopsAt q hf; rw [f_X12_isHeard_8] at hf; cases hf
    | succ k ih =>
      intro y3 y2 w_v_stopsAt q hf H locs ls hw hl kx
      rw [f_X12_isHeard_8] at hf
      have hP := hw.1
      refine lv_iload_n hx hb dX12_isHeard_8 rfl (lv_at hl 0 rfl) ?_
      refine lv_aload_n hx hb dX12_isHeard_9 rfl (lv_at hl 2 rfl) ?_
      refine w_get (ci := 12) F hK hP fb_X12 0 rfl rfl 9 (by decide) fl_X12_98 (fun _ h => h) rfl dX12_isHeard_10 ?_
      refine lv_icmp_ge (tgt := 78) hx hb dX12_isHeard_13 (by decide) (fun h2 => ?_) (fun h2 => ?_)
      · have hf := o_t h2 hf
        cases hf
        exact kx _ _ ls hw (lv_sub hl [0, 1, 2, 3] rfl)
      · have hf := o_f h2 hf
        refine lv_iload_n hx hb dX12_isHeard_16 rfl (lv_at hl 3 rfl) ?_
        refine lv_iconst (v := (-1)) hx hb dX12_isHeard_17 (by decide) ?_
        refine lv_icmp_eq (tgt := 31) hx hb dX12_isHeard_18 (by decide) (fun h3 => ?_) (fun h3 => ?_)
        · have hf := o_t h3 hf
          refine lv_iconst (v := 1) hx hb dX12_isHeard_31 (by decide) ?_
          refine lv_goto (tgt := 36) hx hb dX12_isHeard_32 (by decide) ?_
          refine lv_istore (lv' := [(4, .int 1), (3, .int y3), (2, .int y2), (0, .ref aM), (1, .int x1)]) hx hb dX12_isHeard_36 hl (by decide) rfl (fun ls hl => ?_)
          refine lv_iload_n hx hb dX12_isHeard_38 rfl (lv_at hl 2 rfl) ?_
          refine lv_if_eq (tgt := 70) hx hb dX12_isHeard_39 (by decide) (fun h4 => ?_) (fun h4 => ?_)
          · have hf := o_t h4 hf
            refine lv_iconst (v := 0) hx hb dX12_isHeard_70 (by decide) ?_
            refine lv_istore_n (lv' := [(2, .int 0), (4, .int 1), (3, .int y3), (0, .ref aM), (1, .int x1)]) hx hb dX12_isHeard_71 rfl hl (by decide) rfl (fun ls hl => ?_)
            obtain ⟨z5, ez5⟩ : ∃ y : Int32, y = y3 + 1 := ⟨_, rfl⟩
            have hf := o_bnd ez5 hf
            refine lv_iinc (v := z5) (lv' := [(3, .int z5), (2, .int 0), (4, .int 1), (0, .ref aM), (1, .int x1)]) hx hb dX12_isHeard_72 hl (k := 2) rfl (by rw [ez5]; rfl) (by decide) rfl (fun ls hl => ?_)
            refine lv_goto (tgt := 8) hx hb dX12_isHeard_75 (by decide) ?_
            exact ih z5 0 w_v_stopsAt _ hf _ _ ls hw (lv_sub hl [0, 1, 3, 4] rfl) kx
          · have hf := o_f h4 hf
            refine lv_iload hx hb dX12_isHeard_42 (lv_at hl 0 rfl) ?_
            refine lv_if_eq (tgt := 66) hx hb dX12_isHeard_44 (by decide) (fun h => absurd h (by decide)) (fun _ => ?_)
            refine lv_aload_n hx hb dX12_isHeard_47 rfl (lv_at hl 3 rfl) ?_
            refine lv_aload_n hx hb dX12_isHeard_48 rfl (lv_at hl 3 rfl) ?_
            refine w_get (ci := 12) F hK hP fb_X12 0 rfl rfl 10 (by decide) fl_X12_28 (fun _ h => h) rfl dX12_isHeard_49 ?_
            refine lv_iload_n hx hb dX12_isHeard_52 rfl (lv_at hl 1 rfl) ?_
            obtain ⟨h6, hf⟩ := o_chk hf
            refine w_iald F hK hP 2 rfl h6 dX12_isHeard_53 ?_
            obtain ⟨q7, hq7, hf⟩ := o_bind hf
            refine k_rV F (c_X12_silentFrom l g aM rM (v_heardBidder (Int32.toNatClampNeg y3)) v_halls v_bidders v_fall v_heard v_asks v_pageLength v_isWhole v_newMany v_seedNow v_isKept v_keptHall v_keptHeard v_h v_kindOf w_v_stopsAt hq7) qv_X12_silentFrom ml_X12_108 (hP.sub [0, 4, 5] rfl) hK (va_recv hK.1 hP (ci := 12) (q0 := 0) rfl rfl) rfl hl.1 rfl (Nat.le_of_ble_eq_true rfl) dX12_isHeard_54 ⟨(Nat.le_of_ble_eq_true rfl), (Nat.le_of_ble_eq_true rfl)⟩ ⟨(Nat.le_of_ble_eq_true rfl), (Nat.le_of_ble_eq_true rfl)⟩ ?_
            refine W.eq (g2 := F0 m 57 ls (.int q7 :: [])) rfl ?_
            refine lv_aload_n hx hb dX12_isHeard_57 rfl (lv_at hl 3 rfl) ?_
            refine w_get (ci := 12) F hK hP fb_X12 0 rfl rfl 11 (by decide) fl_X12_31 (fun _ h => h) rfl dX12_isHeard_58 ?_
            refine lv_iload_n hx hb dX12_isHeard_61 rfl (lv_at hl 1 rfl) ?_
            refine w_iald F hK hP 3 rfl h6 dX12_isHeard_62 ?_
            refine lv_icmp_ne (tgt := 70) hx hb dX12_isHeard_63 (by decide) (fun h8 => ?_) (fun h8 => ?_)
            · have hf := o_f h8 hf
              refine lv_iconst (v := 0) hx hb dX12_isHeard_70 (by decide) ?_
              refine lv_istore_n (lv' := [(2, .int 0), (4, .int 1), (3, .int y3), (0, .ref aM), (1, .int x1)]) hx hb dX12_isHeard_71 rfl hl (by decide) rfl (fun ls hl => ?_)
              obtain ⟨z9, ez9⟩ : ∃ y : Int32, y = y3 + 1 := ⟨_, rfl⟩
              have hf := o_bnd ez9 hf
              refine lv_iinc (v := z9) (lv' := [(3, .int z9), (2, .int 0), (4, .int 1), (0, .ref aM), (1, .int x1)]) hx hb dX12_isHeard_72 hl (k := 2) rfl (by rw [ez9]; rfl) (by decide) rfl (fun ls hl => ?_)
              refine lv_goto (tgt := 8) hx hb dX12_isHeard_75 (by decide) ?_
              exact ih z9 0 w_v_stopsAt _ hf _ _ ls hw (lv_sub hl [0, 1, 3, 4] rfl) kx
            · have hf := o_t h8 hf
              refine lv_iconst (v := 1) hx hb dX12_isHeard_66 (by decide) ?_
              refine lv_goto (tgt := 71) hx hb dX12_isHeard_67 (by decide) ?_
              refine lv_istore_n (lv' := [(2, .int 1), (4, .int 1), (3, .int y3), (0, .ref aM), (1, .int x1)]) hx hb dX12_isHeard_71 rfl hl (by decide) rfl (fun ls hl => ?_)
              obtain ⟨z10, ez10⟩ : ∃ y : Int32, y = y3 + 1 := ⟨_, rfl⟩
              have hf := o_bnd ez10 hf
              refine lv_iinc (v := z10) (lv' := [(3, .int z10), (2, .int 1), (4, .int 1), (0, .ref aM), (1, .int x1)]) hx hb dX12_isHeard_72 hl (k := 2) rfl (by rw [ez10]; rfl) (by decide) rfl (fun ls hl => ?_)
              refine lv_goto (tgt := 8) hx hb dX12_isHeard_75 (by decide) ?_
              exact ih z10 1 w_v_stopsAt _ hf _ _ ls hw (lv_sub hl [0, 1, 3, 4] rfl) kx
        · have hf := o_f h3 hf
          refine lv_aload_n hx hb dX12_isHeard_21 rfl (lv_at hl 2 rfl) ?_
          refine w_get (ci := 12) F hK hP fb_X12 0 rfl rfl 10 (by decide) fl_X12_28 (fun _ h => h) rfl dX12_isHeard_22 ?_
          refine lv_iload_n hx hb dX12_isHeard_25 rfl (lv_at hl 0 rfl) ?_
          obtain ⟨h11, hf⟩ := o_chk hf
          refine w_iald F hK hP 2 rfl h11 dX12_isHeard_26 ?_
          refine lv_iload_n hx hb dX12_isHeard_27 rfl (lv_at hl 3 rfl) ?_
          refine lv_icmp_ne (tgt := 35) hx hb dX12_isHeard_28 (by decide) (fun h12 => ?_) (fun h12 => ?_)
          · have hf := o_f h12 hf
            refine lv_iconst (v := 0) hx hb dX12_isHeard_35 (by decide) ?_
            refine lv_istore (lv' := [(4, .int 0), (3, .int y3), (2, .int y2), (0, .ref aM), (1, .int x1)]) hx hb dX12_isHeard_36 hl (by decide) rfl (fun ls hl => ?_)
            refine lv_iload_n hx hb dX12_isHeard_38 rfl (lv_at hl 2 rfl) ?_
            refine lv_if_eq (tgt := 70) hx hb dX12_isHeard_39 (by decide) (fun h13 => ?_) (fun h13 => ?_)
            · have hf := o_t h13 hf
              refine lv_iconst (v := 0) hx hb dX12_isHeard_70 (by decide) ?_
              refine lv_istore_n (lv' := [(2, .int 0), (4, .int 0), (3, .int y3), (0, .ref aM), (1, .int x1)]) hx hb dX12_isHeard_71 rfl hl (by decide) rfl (fun ls hl => ?_)
              obtain ⟨z14, ez14⟩ : ∃ y : Int32, y = y3 + 1 := ⟨_, rfl⟩
              have hf := o_bnd ez14 hf
              refine lv_iinc (v := z14) (lv' := [(3, .int z14), (2, .int 0), (4, .int 0), (0, .ref aM), (1, .int x1)]) hx hb dX12_isHeard_72 hl (k := 2) rfl (by rw [ez14]; rfl) (by decide) rfl (fun ls hl => ?_)
              refine lv_goto (tgt := 8) hx hb dX12_isHeard_75 (by decide) ?_
              exact ih z14 0 w_v_stopsAt _ hf _ _ ls hw (lv_sub hl [0, 1, 3, 4] rfl) kx
            · have hf := o_f h13 hf
              refine lv_iload hx hb dX12_isHeard_42 (lv_at hl 0 rfl) ?_
              refine lv_if_eq (tgt := 66) hx hb dX12_isHeard_44 (by decide) (fun _ => ?_) (fun h => absurd h (by decide))
              refine lv_iconst (v := 1) hx hb dX12_isHeard_66 (by decide) ?_
              refine lv_goto (tgt := 71) hx hb dX12_isHeard_67 (by decide) ?_
              refine lv_istore_n (lv' := [(2, .int 1), (4, .int 0), (3, .int y3), (0, .ref aM), (1, .int x1)]) hx hb dX12_isHeard_71 rfl hl (by decide) rfl (fun ls hl => ?_)
              obtain ⟨z15, ez15⟩ : ∃ y : Int32, y = y3 + 1 := ⟨_, rfl⟩
              have hf := o_bnd ez15 hf
              refine lv_iinc (v := z15) (lv' := [(3, .int z15), (2, .int 1), (4, .int 0), (0, .ref aM), (1, .int x1)]) hx hb dX12_isHeard_72 hl (k := 2) rfl (by rw [ez15]; rfl) (by decide) rfl (fun ls hl => ?_)
              refine lv_goto (tgt := 8) hx hb dX12_isHeard_75 (by decide) ?_
              exact ih z15 1 w_v_stopsAt _ hf _ _ ls hw (lv_sub hl [0, 1, 3, 4] rfl) kx
          · have hf := o_t h12 hf
            refine lv_iconst (v := 1) hx hb dX12_isHeard_31 (by decide) ?_
            refine lv_goto (tgt := 36) hx hb dX12_isHeard_32 (by decide) ?_
            refine lv_istore (lv' := [(4, .int 1), (3, .int y3), (2, .int y2), (0, .ref aM), (1, .int x1)]) hx hb dX12_isHeard_36 hl (by decide) rfl (fun ls hl => ?_)
            refine lv_iload_n hx hb dX12_isHeard_38 rfl (lv_at hl 2 rfl) ?_
            refine lv_if_eq (tgt := 70) hx hb dX12_isHeard_39 (by decide) (fun h16 => ?_) (fun h16 => ?_)
            · have hf := o_t h16 hf
              refine lv_iconst (v := 0) hx hb dX12_isHeard_70 (by decide) ?_
              refine lv_istore_n (lv' := [(2, .int 0), (4, .int 1), (3, .int y3), (0, .ref aM), (1, .int x1)]) hx hb dX12_isHeard_71 rfl hl (by decide) rfl (fun ls hl => ?_)
              obtain ⟨z17, ez17⟩ : ∃ y : Int32, y = y3 + 1 := ⟨_, rfl⟩
              have hf := o_bnd ez17 hf
              refine lv_iinc (v := z17) (lv' := [(3, .int z17), (2, .int 0), (4, .int 1), (0, .ref aM), (1, .int x1)]) hx hb dX12_isHeard_72 hl (k := 2) rfl (by rw [ez17]; rfl) (by decide) rfl (fun ls hl => ?_)
              refine lv_goto (tgt := 8) hx hb dX12_isHeard_75 (by decide) ?_
              exact ih z17 0 w_v_stopsAt _ hf _ _ ls hw (lv_sub hl [0, 1, 3, 4] rfl) kx
            · have hf := o_f h16 hf
              refine lv_iload hx hb dX12_isHeard_42 (lv_at hl 0 rfl) ?_
              refine lv_if_eq (tgt := 66) hx hb dX12_isHeard_44 (by decide) (fun h => absurd h (by decide)) (fun _ => ?_)
              refine lv_aload_n hx hb dX12_isHeard_47 rfl (lv_at hl 3 rfl) ?_
              refine lv_aload_n hx hb dX12_isHeard_48 rfl (lv_at hl 3 rfl) ?_
              refine w_get (ci := 12) F hK hP fb_X12 0 rfl rfl 10 (by decide) fl_X12_28 (fun _ h => h) rfl dX12_isHeard_49 ?_
              refine lv_iload_n hx hb dX12_isHeard_52 rfl (lv_at hl 1 rfl) ?_
              refine w_iald F hK hP 2 rfl h11 dX12_isHeard_53 ?_
              obtain ⟨q18, hq18, hf⟩ := o_bind hf
              refine k_rV F (c_X12_silentFrom l g aM rM (v_heardBidder (Int32.toNatClampNeg y3)) v_halls v_bidders v_fall v_heard v_asks v_pageLength v_isWhole v_newMany v_seedNow v_isKept v_keptHall v_keptHeard v_h v_kindOf w_v_stopsAt hq18) qv_X12_silentFrom ml_X12_108 (hP.sub [0, 4, 5] rfl) hK (va_recv hK.1 hP (ci := 12) (q0 := 0) rfl rfl) rfl hl.1 rfl (Nat.le_of_ble_eq_true rfl) dX12_isHeard_54 ⟨(Nat.le_of_ble_eq_true rfl), (Nat.le_of_ble_eq_true rfl)⟩ ⟨(Nat.le_of_ble_eq_true rfl), (Nat.le_of_ble_eq_true rfl)⟩ ?_
              refine W.eq (g2 := F0 m 57 ls (.int q18 :: [])) rfl ?_
              refine lv_aload_n hx hb dX12_isHeard_57 rfl (lv_at hl 3 rfl) ?_
              refine w_get (ci := 12) F hK hP fb_X12 0 rfl rfl 11 (by decide) fl_X12_31 (fun _ h => h) rfl dX12_isHeard_58 ?_
              refine lv_iload_n hx hb dX12_isHeard_61 rfl (lv_at hl 1 rfl) ?_
              refine w_iald F hK hP 3 rfl h11 dX12_isHeard_62 ?_
              refine lv_icmp_ne (tgt := 70) hx hb dX12_isHeard_63 (by decide) (fun h19 => ?_) (fun h19 => ?_)
              · have hf := o_f h19 hf
                refine lv_iconst (v := 0) hx hb dX12_isHeard_70 (by decide) ?_
                refine lv_istore_n (lv' := [(2, .int 0), (4, .int 1), (3, .int y3), (0, .ref aM), (1, .int x1)]) hx hb dX12_isHeard_71 rfl hl (by decide) rfl (fun ls hl => ?_)
                obtain ⟨z20, ez20⟩ : ∃ y : Int32, y = y3 + 1 := ⟨_, rfl⟩
                have hf := o_bnd ez20 hf
                refine lv_iinc (v := z20) (lv' := [(3, .int z20), (2, .int 0), (4, .int 1), (0, .ref aM), (1, .int x1)]) hx hb dX12_isHeard_72 hl (k := 2) rfl (by rw [ez20]; rfl) (by decide) rfl (fun ls hl => ?_)
                refine lv_goto (tgt := 8) hx hb dX12_isHeard_75 (by decide) ?_
                exact ih z20 0 w_v_stopsAt _ hf _ _ ls hw (lv_sub hl [0, 1, 3, 4] rfl) kx
              · have hf := o_t h19 hf
                refine lv_iconst (v := 1) hx hb dX12_isHeard_66 (by decide) ?_
                refine lv_goto (tgt := 71) hx hb dX12_isHeard_67 (by decide) ?_
                refine lv_istore_n (lv' := [(2, .int 1), (4, .int 1), (3, .int y3), (0, .ref aM), (1, .int x1)]) hx hb dX12_isHeard_71 rfl hl (by decide) rfl (fun ls hl => ?_)
                obtain ⟨z21, ez21⟩ : ∃ y : Int32, y = y3 + 1 := ⟨_, rfl⟩
                have hf := o_bnd ez21 hf
                refine lv_iinc (v := z21) (lv' := [(3, .int z21), (2, .int 1), (4, .int 1), (0, .ref aM), (1, .int x1)]) hx hb dX12_isHeard_72 hl (k := 2) rfl (by rw [ez21]; rfl) (by decide) rfl (fun ls hl => ?_)
                refine lv_goto (tgt := 8) hx hb dX12_isHeard_75 (by decide) ?_
                exact ih z21 1 w_v_stopsAt _ hf _ _ ls hw (lv_sub hl [0, 1, 3, 4] rfl) kx
  unfold f_X12_isHeard at hf
  refine lv_aload_n hx hb dX12_isHeard_0 rfl (lv_at hl 0 rfl) ?_
  obtain ⟨q1, hq1, hf⟩ := o_bind hf
  refine k_dV (wr := [ia g (rM 10) 8 v_heardBidder, ia g (rM 11) 8 v_heardBreath]) (ws' := [ob aM 12 (oM rM v_halls v_bidders v_fall v_heard v_asks v_pageLength v_isWhole v_newMany v_seedNow v_isKept v_keptHall v_keptHeard v_h), ia g (rM 7) 5 v_choiceOf, ia g (rM 10) 8 v_heardBidder, ia g (rM 11) 8 v_heardBreath, ia g (rM 3) 5 v_kindOf, ia g (rM 17) 5 q1, ia g (rM 8) 5 v_touchedBy, ia g (rM 4) 5 v_windOf]) F (c_X12_layStops l g aM rM v_halls v_bidders v_fall v_heard v_asks v_pageLength v_isWhole v_newMany v_seedNow v_isKept v_keptHall v_keptHeard v_h v_choiceOf v_kindOf v_stopsAt v_touchedBy v_windOf hq1) qv_X12_layStops ml_X12_123 hw hA hK [0, 1, 4, 5, 6, 7] [2, 3] [2, 3, 0, 1, 4, 5, 6, 7] rfl rfl rfl rfl rfl (by decide) rfl rfl rfl (va_recv hK.1 hP (ci := 12) (q0 := 0) rfl rfl) rfl hl.1 rfl (Nat.le_of_ble_eq_true rfl) dX12_isHeard_1 ⟨(Nat.le_of_ble_eq_true rfl), (Nat.le_of_ble_eq_true rfl)⟩ ⟨(Nat.le_of_ble_eq_true rfl), (Nat.le_of_ble_eq_true rfl)⟩ (fun H locs hw => ?_)
  have hP := hw.1
  refine W.eq (g2 := F0 m 4 ls ([])) rfl ?_
  refine lv_iconst (v := 1) hx hb dX12_isHeard_4 (by decide) ?_
  refine lv_istore_n (lv' := [(2, .int 1), (0, .ref aM), (1, .int x1)]) hx hb dX12_isHeard_5 rfl hl (by decide) rfl (fun ls hl => ?_)
  refine lv_iconst (v := 0) hx hb dX12_isHeard_6 (by decide) ?_
  refine lv_istore_n (lv' := [(3, .int 0), (2, .int 1), (0, .ref aM), (1, .int x1)]) hx hb dX12_isHeard_7 rfl hl (by decide) rfl (fun ls hl => ?_)
  obtain ⟨q22, hq22, hf⟩ := o_bind hf
  refine L8 _ 0 1 q1 _ hq22 _ _ ls hw (lv_sub hl [0, 1, 2, 3] rfl) (fun H locs ls hw hl => ?_)
  have hP := hw.1
  refine lv_iload_n hx hb dX12_isHeard_78 rfl (lv_at hl 1 rfl) ?_
  obtain ⟨h23, hf⟩ := o_chk hf
  cases hf
  exact r_cz F hQ (Decidable.not_not.mp h23) ⟨rfl, rfl⟩ hw dX12_isHeard_79
