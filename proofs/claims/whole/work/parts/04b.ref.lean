def f_X12_isBidder (x1 : Int32) (v_bidders : Int32) : Option (Int32) := ((f_X12_within x1 0 (v_bidders - 1)).bind fun q1 => (if ¬ (q1 = 0 ∨ q1 = 1) then none else (some q1)))
set_option maxRecDepth 100000 in
set_option maxHeartbeats 4000000 in
theorem c_X12_isBidder (l : Launch) (g : GG) (aM : Nat) (rM : Nat → Nat) (x1 : Int32) (v_halls : Int32) (v_bidders : Int32) (v_fall : Int32) (v_heard : Int32) (v_asks : Int32) (v_pageLength : Int32) (v_isWhole : Int32) (v_newMany : Int32) (v_seedNow : Int64) (v_isKept : Int32) (v_keptHall : Int32) (v_keptHeard : Int32) (v_h : Int64) {r0 : Int32} (hf : f_X12_isBidder x1 v_bidders = some r0) : MR l g yX12_isBidder cX12_isBidder 2 (some .boolean) 1 22 [.ref aM, .int x1] [ob aM 12 (oM rM v_halls v_bidders v_fall v_heard v_asks v_pageLength v_isWhole v_newMany v_seedNow v_isKept v_keptHall v_keptHeard v_h)] (some (.int r0)) := by
  refine MR.mk (by decide) (Nat.le_of_ble_eq_true rfl) ?_
  intro p e s m args below meth c ls Q F hK hP hl hQ
  have hx := F.1
  have hb := F.2.1
  have hml := F.2.2.2.1
  have hown := F.2.2.2.2.1
  have hts := F.2.2.2.2.2.1
  have hl : lv_has ls 2 [(0, .ref aM), (1, .int x1)] := hl
  unfold f_X12_isBidder at hf
  refine lv_iload_n hx hb dX12_isBidder_0 rfl (lv_at hl 1 rfl) ?_
  refine lv_iconst (v := 0) hx hb dX12_isBidder_1 (by decide) ?_
  refine lv_aload_n hx hb dX12_isBidder_2 rfl (lv_at hl 0 rfl) ?_
  refine w_get (ci := 12) F hK hP fb_X12 0 rfl rfl 1 (by decide) fl_X12_89 (fun _ h => h) rfl dX12_isBidder_3 ?_
  refine lv_iconst (v := 1) hx hb dX12_isBidder_6 (by decide) ?_
  refine lv_isub hx hb dX12_isBidder_7 ?_
  obtain ⟨q1, hq1, hf⟩ := o_bind hf
  refine k_rS F (c_X12_within l g x1 0 (v_bidders - 1) hq1) qs_X12_within ml_X12_59 (hP.sub [] rfl) hK rfl hl.1 rfl (Nat.le_of_ble_eq_true rfl) dX12_isBidder_8 ⟨(Nat.le_of_ble_eq_true rfl), (Nat.le_of_ble_eq_true rfl)⟩ ⟨(Nat.le_of_ble_eq_true rfl), (Nat.le_of_ble_eq_true rfl)⟩ ?_
  refine W.eq (g2 := F0 m 11 ls (.int q1 :: [])) rfl ?_
  obtain ⟨h2, hf⟩ := o_chk hf
  exact r_rz F hQ (Decidable.not_not.mp h2) (Option.some.inj hf) dX12_isBidder_11
def f_X12_ownEnd (x1 : Int32) (v_choiceOf : Nat → Int32) (v_kindOf : Nat → Int32) (v_windOf : Nat → Int32) : Option (Int32) := (if x1 < 0 ∨ 5 ≤ Int32.toNatClampNeg x1 then none else (bnd (v_windOf (Int32.toNatClampNeg x1)) fun z2 => (if (v_kindOf (Int32.toNatClampNeg x1)) = 1 then (bnd ((2 * z2) + 1) fun z4 => (if (v_choiceOf (Int32.toNatClampNeg x1)) = (-1) then (some z4) else (if z4 ≤ (v_choiceOf (Int32.toNatClampNeg x1)) then (some z4) else (some (v_choiceOf (Int32.toNatClampNeg x1)))))) else (if (v_kindOf (Int32.toNatClampNeg x1)) = 4 then (bnd ((2 * z2) + 1) fun z15 => (if (v_choiceOf (Int32.toNatClampNeg x1)) = (-1) then (some z15) else (if z15 ≤ (v_choiceOf (Int32.toNatClampNeg x1)) then (some z15) else (some (v_choiceOf (Int32.toNatClampNeg x1)))))) else (if (v_kindOf (Int32.toNatClampNeg x1)) = 2 then (bnd (((z2 + 1) / 2) + 1) fun z12 => (if (v_choiceOf (Int32.toNatClampNeg x1)) = (-1) then (some z12) else (if z12 ≤ (v_choiceOf (Int32.toNatClampNeg x1)) then (some z12) else (some (v_choiceOf (Int32.toNatClampNeg x1)))))) else (bnd (z2 + 1) fun z9 => (if (v_choiceOf (Int32.toNatClampNeg x1)) = (-1) then (some z9) else (if z9 ≤ (v_choiceOf (Int32.toNatClampNeg x1)) then (some z9) else (some (v_choiceOf (Int32.toNatClampNeg x1)))))))))))
set_option maxRecDepth 100000 in
set_option maxHeartbeats 4000000 in
theorem c_X12_ownEnd (l : Launch) (g : GG) (aM : Nat) (rM : Nat → Nat) (x1 : Int32) (v_halls : Int32) (v_bidders : Int32) (v_fall : Int32) (v_heard : Int32) (v_asks : Int32) (v_pageLength : Int32) (v_isWhole : Int32) (v_newMany : Int32) (v_seedNow : Int64) (v_isKept : Int32) (v_keptHall : Int32) (v_keptHeard : Int32) (v_h : Int64) (v_choiceOf : Nat → Int32) (v_kindOf : Nat → Int32) (v_windOf : Nat → Int32) {r0 : Int32} (hf : f_X12_ownEnd x1 v_choiceOf v_kindOf v_windOf = some r0) : MR l g yX12_ownEnd cX12_ownEnd 4 (some .int) 0 0 [.ref aM, .int x1] [ob aM 12 (oM rM v_halls v_bidders v_fall v_heard v_asks v_pageLength v_isWhole v_newMany v_seedNow v_isKept v_keptHall v_keptHeard v_h), ia g (rM 7) 5 v_choiceOf, ia g (rM 3) 5 v_kindOf, ia g (rM 4) 5 v_windOf] (some (.int r0)) := by
  refine MR.mk (by decide) (Nat.le_of_ble_eq_true rfl) ?_
  intro p e s m args below meth c ls Q F hK hP hl hQ
  have hx := F.1
  have hb := F.2.1
  have hml := F.2.2.2.1
  have hown := F.2.2.2.2.1
  have hts := F.2.2.2.2.2.1
  have hl : lv_has ls 4 [(0, .ref aM), (1, .int x1)] := hl
  unfold f_X12_ownEnd at hf
  refine lv_aload_n hx hb dX12_ownEnd_0 rfl (lv_at hl 0 rfl) ?_
  refine w_get (ci := 12) F hK hP fb_X12 0 rfl rfl 4 (by decide) fl_X12_13 (fun _ h => h) rfl dX12_ownEnd_1 ?_
  refine lv_iload_n hx hb dX12_ownEnd_4 rfl (lv_at hl 1 rfl) ?_
  obtain ⟨h1, hf⟩ := o_chk hf
  refine w_iald F hK hP 3 rfl h1 dX12_ownEnd_5 ?_
  refine lv_topi (fun z2 ez2 => ?_)
  have hf := o_bnd ez2 hf
  refine lv_istore_n (lv' := [(2, .int z2), (0, .ref aM), (1, .int x1)]) hx hb dX12_ownEnd_6 rfl hl (by decide) rfl (fun ls hl => ?_)
  refine lv_aload_n hx hb dX12_ownEnd_7 rfl (lv_at hl 1 rfl) ?_
  refine w_get (ci := 12) F hK hP fb_X12 0 rfl rfl 3 (by decide) fl_X12_7 (fun _ h => h) rfl dX12_ownEnd_8 ?_
  refine lv_iload_n hx hb dX12_ownEnd_11 rfl (lv_at hl 2 rfl) ?_
  refine w_iald F hK hP 2 rfl h1 dX12_ownEnd_12 ?_
  refine lv_iconst (v := 1) hx hb dX12_ownEnd_13 (by decide) ?_
  refine lv_icmp_eq (tgt := 27) hx hb dX12_ownEnd_14 (by decide) (fun h3 => ?_) (fun h3 => ?_)
  · have hf := o_t h3 hf
    refine lv_iconst (v := 2) hx hb dX12_ownEnd_27 (by decide) ?_
    refine lv_iload_n hx hb dX12_ownEnd_28 rfl (lv_at hl 0 rfl) ?_
    refine lv_imul hx hb dX12_ownEnd_29 ?_
    refine lv_iconst (v := 1) hx hb dX12_ownEnd_30 (by decide) ?_
    refine lv_iadd hx hb dX12_ownEnd_31 ?_
    refine lv_goto (tgt := 58) hx hb dX12_ownEnd_32 (by decide) ?_
    refine lv_topi (fun z4 ez4 => ?_)
    have hf := o_bnd ez4 hf
    refine lv_istore_n (lv' := [(3, .int z4), (2, .int z2), (0, .ref aM), (1, .int x1)]) hx hb dX12_ownEnd_58 rfl hl (by decide) rfl (fun ls hl => ?_)
    refine lv_aload_n hx hb dX12_ownEnd_59 rfl (lv_at hl 2 rfl) ?_
    refine w_get (ci := 12) F hK hP fb_X12 0 rfl rfl 7 (by decide) fl_X12_22 (fun _ h => h) rfl dX12_ownEnd_60 ?_
    refine lv_iload_n hx hb dX12_ownEnd_63 rfl (lv_at hl 3 rfl) ?_
    refine w_iald F hK hP 1 rfl h1 dX12_ownEnd_64 ?_
    refine lv_iconst (v := (-1)) hx hb dX12_ownEnd_65 (by decide) ?_
    refine lv_icmp_eq (tgt := 88) hx hb dX12_ownEnd_66 (by decide) (fun h5 => ?_) (fun h5 => ?_)
    · have hf := o_t h5 hf
      refine lv_iload_n hx hb dX12_ownEnd_88 rfl (lv_at hl 0 rfl) ?_
      exact r_ri F hQ (Option.some.inj hf) dX12_ownEnd_89
    · have hf := o_f h5 hf
      refine lv_aload_n hx hb dX12_ownEnd_69 rfl (lv_at hl 2 rfl) ?_
      refine w_get (ci := 12) F hK hP fb_X12 0 rfl rfl 7 (by decide) fl_X12_22 (fun _ h => h) rfl dX12_ownEnd_70 ?_
      refine lv_iload_n hx hb dX12_ownEnd_73 rfl (lv_at hl 3 rfl) ?_
      refine w_iald F hK hP 1 rfl h1 dX12_ownEnd_74 ?_
      refine lv_iload_n hx hb dX12_ownEnd_75 rfl (lv_at hl 0 rfl) ?_
      refine lv_icmp_ge (tgt := 88) hx hb dX12_ownEnd_76 (by decide) (fun h6 => ?_) (fun h6 => ?_)
      · have hf := o_t h6 hf
        refine lv_iload_n hx hb dX12_ownEnd_88 rfl (lv_at hl 0 rfl) ?_
        exact r_ri F hQ (Option.some.inj hf) dX12_ownEnd_89
      · have hf := o_f h6 hf
        refine lv_aload_n hx hb dX12_ownEnd_79 rfl (lv_at hl 2 rfl) ?_
        refine w_get (ci := 12) F hK hP fb_X12 0 rfl rfl 7 (by decide) fl_X12_22 (fun _ h => h) rfl dX12_ownEnd_80 ?_
        refine lv_iload_n hx hb dX12_ownEnd_83 rfl (lv_at hl 3 rfl) ?_
        refine w_iald F hK hP 1 rfl h1 dX12_ownEnd_84 ?_
        refine lv_goto (tgt := 89) hx hb dX12_ownEnd_85 (by decide) ?_
        exact r_ri F hQ (Option.some.inj hf) dX12_ownEnd_89
  · have hf := o_f h3 hf
    refine lv_aload_n hx hb dX12_ownEnd_17 rfl (lv_at hl 1 rfl) ?_
    refine w_get (ci := 12) F hK hP fb_X12 0 rfl rfl 3 (by decide) fl_X12_7 (fun _ h => h) rfl dX12_ownEnd_18 ?_
    refine lv_iload_n hx hb dX12_ownEnd_21 rfl (lv_at hl 2 rfl) ?_
    refine w_iald F hK hP 2 rfl h1 dX12_ownEnd_22 ?_
    refine lv_iconst (v := 4) hx hb dX12_ownEnd_23 (by decide) ?_
    refine lv_icmp_ne (tgt := 35) hx hb dX12_ownEnd_24 (by decide) (fun h7 => ?_) (fun h7 => ?_)
    · have hf := o_f h7 hf
      refine lv_aload_n hx hb dX12_ownEnd_35 rfl (lv_at hl 1 rfl) ?_
      refine w_get (ci := 12) F hK hP fb_X12 0 rfl rfl 3 (by decide) fl_X12_7 (fun _ h => h) rfl dX12_ownEnd_36 ?_
      refine lv_iload_n hx hb dX12_ownEnd_39 rfl (lv_at hl 2 rfl) ?_
      refine w_iald F hK hP 2 rfl h1 dX12_ownEnd_40 ?_
      refine lv_iconst (v := 2) hx hb dX12_ownEnd_41 (by decide) ?_
      refine lv_icmp_ne (tgt := 55) hx hb dX12_ownEnd_42 (by decide) (fun h8 => ?_) (fun h8 => ?_)
      · have hf := o_f h8 hf
        refine lv_iload_n hx hb dX12_ownEnd_55 rfl (lv_at hl 0 rfl) ?_
        refine lv_iconst (v := 1) hx hb dX12_ownEnd_56 (by decide) ?_
        refine lv_iadd hx hb dX12_ownEnd_57 ?_
        refine lv_topi (fun z9 ez9 => ?_)
        have hf := o_bnd ez9 hf
        refine lv_istore_n (lv' := [(3, .int z9), (2, .int z2), (0, .ref aM), (1, .int x1)]) hx hb dX12_ownEnd_58 rfl hl (by decide) rfl (fun ls hl => ?_)
        refine lv_aload_n hx hb dX12_ownEnd_59 rfl (lv_at hl 2 rfl) ?_
        refine w_get (ci := 12) F hK hP fb_X12 0 rfl rfl 7 (by decide) fl_X12_22 (fun _ h => h) rfl dX12_ownEnd_60 ?_
        refine lv_iload_n hx hb dX12_ownEnd_63 rfl (lv_at hl 3 rfl) ?_
        refine w_iald F hK hP 1 rfl h1 dX12_ownEnd_64 ?_
        refine lv_iconst (v := (-1)) hx hb dX12_ownEnd_65 (by decide) ?_
        refine lv_icmp_eq (tgt := 88) hx hb dX12_ownEnd_66 (by decide) (fun h10 => ?_) (fun h10 => ?_)
        · have hf := o_t h10 hf
          refine lv_iload_n hx hb dX12_ownEnd_88 rfl (lv_at hl 0 rfl) ?_
          exact r_ri F hQ (Option.some.inj hf) dX12_ownEnd_89
        · have hf := o_f h10 hf
          refine lv_aload_n hx hb dX12_ownEnd_69 rfl (lv_at hl 2 rfl) ?_
          refine w_get (ci := 12) F hK hP fb_X12 0 rfl rfl 7 (by decide) fl_X12_22 (fun _ h => h) rfl dX12_ownEnd_70 ?_
          refine lv_iload_n hx hb dX12_ownEnd_73 rfl (lv_at hl 3 rfl) ?_
          refine w_iald F hK hP 1 rfl h1 dX12_ownEnd_74 ?_
          refine lv_iload_n hx hb dX12_ownEnd_75 rfl (lv_at hl 0 rfl) ?_
          refine lv_icmp_ge (tgt := 88) hx hb dX12_ownEnd_76 (by decide) (fun h11 => ?_) (fun h11 => ?_)
          · have hf := o_t h11 hf
            refine lv_iload_n hx hb dX12_ownEnd_88 rfl (lv_at hl 0 rfl) ?_
            exact r_ri F hQ (Option.some.inj hf) dX12_ownEnd_89
          · have hf := o_f h11 hf
            refine lv_aload_n hx hb dX12_ownEnd_79 rfl (lv_at hl 2 rfl) ?_
            refine w_get (ci := 12) F hK hP fb_X12 0 rfl rfl 7 (by decide) fl_X12_22 (fun _ h => h) rfl dX12_ownEnd_80 ?_
            refine lv_iload_n hx hb dX12_ownEnd_83 rfl (lv_at hl 3 rfl) ?_
            refine w_iald F hK hP 1 rfl h1 dX12_ownEnd_84 ?_
            refine lv_goto (tgt := 89) hx hb dX12_ownEnd_85 (by decide) ?_
            exact r_ri F hQ (Option.some.inj hf) dX12_ownEnd_89
      · have hf := o_t h8 hf
        refine lv_iload_n hx hb dX12_ownEnd_45 rfl (lv_at hl 0 rfl) ?_
        refine lv_iconst (v := 1) hx hb dX12_ownEnd_46 (by decide) ?_
        refine lv_iadd hx hb dX12_ownEnd_47 ?_
        refine lv_iconst (v := 2) hx hb dX12_ownEnd_48 (by decide) ?_
        refine lv_idiv hx hb dX12_ownEnd_49 (by decide) ?_
        refine lv_iconst (v := 1) hx hb dX12_ownEnd_50 (by decide) ?_
        refine lv_iadd hx hb dX12_ownEnd_51 ?_
        refine lv_goto (tgt := 58) hx hb dX12_ownEnd_52 (by decide) ?_
        refine lv_topi (fun z12 ez12 => ?_)
        have hf := o_bnd ez12 hf
        refine lv_istore_n (lv' := [(3, .int z12), (2, .int z2), (0, .ref aM), (1, .int x1)]) hx hb dX12_ownEnd_58 rfl hl (by decide) rfl (fun ls hl => ?_)
        refine lv_aload_n hx hb dX12_ownEnd_59 rfl (lv_at hl 2 rfl) ?_
        refine w_get (ci := 12) F hK hP fb_X12 0 rfl rfl 7 (by decide) fl_X12_22 (fun _ h => h) rfl dX12_ownEnd_60 ?_
        refine lv_iload_n hx hb dX12_ownEnd_63 rfl (lv_at hl 3 rfl) ?_
        refine w_iald F hK hP 1 rfl h1 dX12_ownEnd_64 ?_
        refine lv_iconst (v := (-1)) hx hb dX12_ownEnd_65 (by decide) ?_
        refine lv_icmp_eq (tgt := 88) hx hb dX12_ownEnd_66 (by decide) (fun h13 => ?_) (fun h13 => ?_)
        · have hf := o_t h13 hf
          refine lv_iload_n hx hb dX12_ownEnd_88 rfl (lv_at hl 0 rfl) ?_
          exact r_ri F hQ (Option.some.inj hf) dX12_ownEnd_89
        · have hf := o_f h13 hf
          refine lv_aload_n hx hb dX12_ownEnd_69 rfl (lv_at hl 2 rfl) ?_
          refine w_get (ci := 12) F hK hP fb_X12 0 rfl rfl 7 (by decide) fl_X12_22 (fun _ h => h) rfl dX12_ownEnd_70 ?_
          refine lv_iload_n hx hb dX12_ownEnd_73 rfl (lv_at hl 3 rfl) ?_
          refine w_iald F hK hP 1 rfl h1 dX12_ownEnd_74 ?_
          refine lv_iload_n hx hb dX12_ownEnd_75 rfl (lv_at hl 0 rfl) ?_
          refine lv_icmp_ge (tgt := 88) hx hb dX12_ownEnd_76 (by decide) (fun h14 => ?_) (fun h14 => ?_)
          · have hf := o_t h14 hf
            refine lv_iload_n hx hb dX12_ownEnd_88 rfl (lv_at hl 0 rfl) ?_
            exact r_ri F hQ (Option.some.inj hf) dX12_ownEnd_89
          · have hf := o_f h14 hf
            refine lv_aload_n hx hb dX12_ownEnd_79 rfl (lv_at hl 2 rfl) ?_
            refine w_get (ci := 12) F hK hP fb_X12 0 rfl rfl 7 (by decide) fl_X12_22 (fun _ h => h) rfl dX12_ownEnd_80 ?_
            refine lv_iload_n hx hb dX12_ownEnd_83 rfl (lv_at hl 3 rfl) ?_
            refine w_iald F hK hP 1 rfl h1 dX12_ownEnd_84 ?_
            refine lv_goto (tgt := 89) hx hb dX12_ownEnd_85 (by decide) ?_
            exact r_ri F hQ (Option.some.inj hf) dX12_ownEnd_89
    · have hf := o_t h7 hf
      refine lv_iconst (v := 2) hx hb dX12_ownEnd_27 (by decide) ?_
      refine lv_iload_n hx hb dX12_ownEnd_28 rfl (lv_at hl 0 rfl) ?_
      refine lv_imul hx hb dX12_ownEnd_29 ?_
      refine lv_iconst (v := 1) hx hb dX12_ownEnd_30 (by decide) ?_
      refine lv_iadd hx hb dX12_ownEnd_31 ?_
      refine lv_goto (tgt := 58) hx hb dX12_ownEnd_32 (by decide) ?_
      refine lv_topi (fun z15 ez15 => ?_)
      have hf := o_bnd ez15 hf
      refine lv_istore_n (lv' := [(3, .int z15), (2, .int z2), (0, .ref aM), (1, .int x1)]) hx hb dX12_ownEnd_58 rfl hl (by decide) rfl (fun ls hl => ?_)
      refine lv_aload_n hx hb dX12_ownEnd_59 rfl (lv_at hl 2 rfl) ?_
      refine w_get (ci := 12) F hK hP fb_X12 0 rfl rfl 7 (by decide) fl_X12_22 (fun _ h => h) rfl dX12_ownEnd_60 ?_
      refine lv_iload_n hx hb dX12_ownEnd_63 rfl (lv_at hl 3 rfl) ?_
      refine w_iald F hK hP 1 rfl h1 dX12_ownEnd_64 ?_
      refine lv_iconst (v := (-1)) hx hb dX12_ownEnd_65 (by decide) ?_
      refine lv_icmp_eq (tgt := 88) hx hb dX12_ownEnd_66 (by decide) (fun h16 => ?_) (fun h16 => ?_)
      · have hf := o_t h16 hf
        refine lv_iload_n hx hb dX12_ownEnd_88 rfl (lv_at hl 0 rfl) ?_
        exact r_ri F hQ (Option.some.inj hf) dX12_ownEnd_89
      · have hf := o_f h16 hf
        refine lv_aload_n hx hb dX12_ownEnd_69 rfl (lv_at hl 2 rfl) ?_
        refine w_get (ci := 12) F hK hP fb_X12 0 rfl rfl 7 (by decide) fl_X12_22 (fun _ h => h) rfl dX12_ownEnd_70 ?_
        refine lv_iload_n hx hb dX12_ownEnd_73 rfl (lv_at hl 3 rfl) ?_
        refine w_iald F hK hP 1 rfl h1 dX12_ownEnd_74 ?_
        refine lv_iload_n hx hb dX12_ownEnd_75 rfl (lv_at hl 0 rfl) ?_
        refine lv_icmp_ge (tgt := 88) hx hb dX12_ownEnd_76 (by decide) (fun h17 => ?_) (fun h17 => ?_)
        · have hf := o_t h17 hf
          refine lv_iload_n hx hb dX12_ownEnd_88 rfl (lv_at hl 0 rfl) ?_
          exact r_ri F hQ (Option.some.inj hf) dX12_ownEnd_89
        · have hf := o_f h17 hf
          refine lv_aload_n hx hb dX12_ownEnd_79 rfl (lv_at hl 2 rfl) ?_
          refine w_get (ci := 12) F hK hP fb_X12 0 rfl rfl 7 (by decide) fl_X12_22 (fun _ h => h) rfl dX12_ownEnd_80 ?_
          refine lv_iload_n hx hb dX12_ownEnd_83 rfl (lv_at hl 3 rfl) ?_
          refine w_iald F hK hP 1 rfl h1 dX12_ownEnd_84 ?_
          refine lv_goto (tgt := 89) hx hb dX12_ownEnd_85 (by decide) ?_
          exact r_ri F hQ (Option.some.inj hf) dX12_ownEnd_89
def f_X12_layStops_2 (fuel : Nat) (v_bidders : Int32) (v_choiceOf : Nat → Int32) (v_kindOf : Nat → Int32) (v_touchedBy : Nat → Int32) (v_windOf : Nat → Int32) (y1 : Int32) (w_v_stopsAt : Nat → Int32) : Option (Int32 × (Nat → Int32)) := match fuel with
  | 0 => none
  | k + 1 => (if v_bidders ≤ y1 then (some (y1, w_v_stopsAt)) else ((f_X12_ownEnd y1 v_choiceOf v_kindOf v_windOf).bind fun q2 => (if y1 < 0 ∨ 5 ≤ Int32.toNatClampNeg y1 then none else (bnd (y1 + 1 : Int32) fun z4 => (f_X12_layStops_2 k v_bidders v_choiceOf v_kindOf v_touchedBy v_windOf z4 (upd w_v_stopsAt (Int32.toNatClampNeg y1) q2))))))
def f_X12_layStops_29 (fuel : Nat) (v_bidders : Int32) (v_choiceOf : Nat → Int32) (v_kindOf : Nat → Int32) (v_touchedBy : Nat → Int32) (v_windOf : Nat → Int32) (y1 : Int32) (w_v_stopsAt : Nat → Int32) : Option (Int32 × (Nat → Int32)) := match fuel with
  | 0 => none
  | k + 1 => (if ((v_bidders * v_bidders) * v_bidders) ≤ y1 then (some (y1, w_v_stopsAt)) else (if v_bidders = 0 then none else (bnd (y1 - y1 / v_bidders * v_bidders) fun z8 => (bnd ((y1 / v_bidders) - (y1 / v_bidders) / v_bidders * v_bidders) fun z9 => (if z9 < 0 ∨ 5 ≤ Int32.toNatClampNeg z9 then none else ((f_X12_has (v_touchedBy (Int32.toNatClampNeg z9)) z8).bind fun q11 => (if q11 = 0 then (bnd (y1 + 1 : Int32) fun z13 => (f_X12_layStops_29 k v_bidders v_choiceOf v_kindOf v_touchedBy v_windOf z13 (upd w_v_stopsAt (Int32.toNatClampNeg z9) (w_v_stopsAt (Int32.toNatClampNeg z9))))) else (if z8 < 0 ∨ 5 ≤ Int32.toNatClampNeg z8 then none else (if (w_v_stopsAt (Int32.toNatClampNeg z9)) ≤ ((w_v_stopsAt (Int32.toNatClampNeg z8)) + 1) then (bnd (y1 + 1 : Int32) fun z16 => (f_X12_layStops_29 k v_bidders v_choiceOf v_kindOf v_touchedBy v_windOf z16 (upd w_v_stopsAt (Int32.toNatClampNeg z9) (w_v_stopsAt (Int32.toNatClampNeg z9))))) else (bnd (y1 + 1 : Int32) fun z17 => (f_X12_layStops_29 k v_bidders v_choiceOf v_kindOf v_touchedBy v_windOf z17 (upd w_v_stopsAt (Int32.toNatClampNeg z9) ((w_v_stopsAt (Int32.toNatClampNeg z8)) + 1)))))))))))))
def f_X12_layStops (v_bidders : Int32) (v_choiceOf : Nat → Int32) (v_kindOf : Nat → Int32) (v_stopsAt : Nat → Int32) (v_touchedBy : Nat → Int32) (v_windOf : Nat → Int32) : Option ((Nat → Int32)) := ((f_X12_layStops_2 4096 v_bidders v_choiceOf v_kindOf v_touchedBy v_windOf 0 v_stopsAt).bind fun q5 => ((f_X12_layStops_29 4096 v_bidders v_choiceOf v_kindOf v_touchedBy v_windOf 0 q5.2).bind fun q18 => (some q18.2)))
set_option maxRecDepth 100000 in
set_option maxHeartbeats 4000000 in
theorem c_X12_layStops (l : Launch) (g : GG) (aM : Nat) (rM : Nat → Nat) (v_halls : Int32) (v_bidders : Int32) (v_fall : Int32) (v_heard : Int32) (v_asks : Int32) (v_pageLength : Int32) (v_isWhole : Int32) (v_newMany : Int32) (v_seedNow : Int64) (v_isKept : Int32) (v_keptHall : Int32) (v_keptHeard : Int32) (v_h : Int64) (v_choiceOf : Nat → Int32) (v_kindOf : Nat → Int32) (v_stopsAt : Nat → Int32) (v_touchedBy : Nat → Int32) (v_windOf : Nat → Int32) {r0 : Nat → Int32} (hf : f_X12_layStops v_bidders v_choiceOf v_kindOf v_stopsAt v_touchedBy v_windOf = some r0) : MD l g yX12_layStops cX12_layStops 5 none 1 23 [.ref aM] [ob aM 12 (oM rM v_halls v_bidders v_fall v_heard v_asks v_pageLength v_isWhole v_newMany v_seedNow v_isKept v_keptHall v_keptHeard v_h), ia g (rM 7) 5 v_choiceOf, ia g (rM 3) 5 v_kindOf, ia g (rM 17) 5 v_stopsAt, ia g (rM 8) 5 v_touchedBy, ia g (rM 4) 5 v_windOf] none [ob aM 12 (oM rM v_halls v_bidders v_fall v_heard v_asks v_pageLength v_isWhole v_newMany v_seedNow v_isKept v_keptHall v_keptHeard v_h), ia g (rM 7) 5 v_choiceOf, ia g (rM 3) 5 v_kindOf, ia g (rM 17) 5 r0, ia g (rM 8) 5 v_touchedBy, ia g (rM 4) 5 v_windOf] := by
  refine MC.mk (by decide) (Nat.le_of_ble_eq_true rfl) ?_
  intro p e s m args below meth c ls Q A F hnm hK hw hA hl hQ
  have hP := hw.1
  have hx := F.1
  have hb := F.2.1
  have hml := F.2.2.2.1
  have hown := F.2.2.2.2.1
  have hts := F.2.2.2.2.2.1
  have hl : lv_has ls 5 [(0, .ref aM)] := hl
  have L2 : ∀ (k : Nat) (y1 : Int32) (w_v_stopsAt : Nat → Int32) (q : Int32 × (Nat → Int32)), f_X12_layStops_2 k v_bidders v_choiceOf v_kindOf v_touchedBy v_windOf y1 w_v_stopsAt = some q → ∀ (H : Heap) (locs : List Loc) (ls : Array Slot), WD g A s.heap [ob aM 12 (oM rM v_halls v_bidders v_fall v_heard v_asks v_pageLength v_isWhole v_newMany v_seedNow v_isKept v_keptHall v_keptHeard v_h), ia g (rM 7) 5 v_choiceOf, ia g (rM 3) 5 v_kindOf, ia g (rM 17) 5 w_v_stopsAt, ia g (rM 8) 5 v_touchedBy, ia g (rM 4) 5 v_windOf] H locs → lv_has ls 5 [(1, .int y1), (0, .ref aM)] → (∀ (H : Heap) (locs : List Loc) (ls : Array Slot), WD g A s.heap [ob aM 12 (oM rM v_halls v_bidders v_fall v_heard v_asks v_pageLength v_isWhole v_newMany v_seedNow v_isKept v_keptHall v_keptHeard v_h), ia g (rM 7) 5 v_choiceOf, ia g (rM 3) 5 v_kindOf, ia g (rM 17) 5 q.2, ia g (rM 8) 5 v_touchedBy, ia g (rM 4) 5 v_windOf] H locs → lv_has ls 5 [(1, .int q.1), (0, .ref aM)] → W p l e (rmc 1 0 0 23) s m args below meth c H locs 0 0 Q (F0 m 27 ls [])) → W p l e (rmc 1 0 0 23) s m args below meth c H locs 0 0 Q (F0 m 2 ls []) := by
    intro k
    induction k with
    | zero => intro y1 w_v_stopsAt q hf; rw [f_X12_layStops_2] at hf; cases hf
    | succ k ih =>
      intro y1 w_v_stopsAt q hf H locs ls hw hl kx
      rw [f_X12_layStops_2] at hf
      have hP := hw.1
      refine lv_iload_n hx hb dX12_layStops_2 rfl (lv_at hl 0 rfl) ?_
      refine lv_aload_n hx hb dX12_layStops_3 rfl (lv_at hl 1 rfl) ?_
      refine w_get (ci := 12) F hK hP fb_X12 0 rfl rfl 1 (by decide) fl_X12_89 (fun _ h => h) rfl dX12_layStops_4 ?_
      refine lv_icmp_ge (tgt := 27) hx hb dX12_layStops_7 (by decide) (fun h1 => ?_) (fun h1 => ?_)
      · have hf := o_t h1 hf
        cases hf
        exact kx _ _ ls hw (lv_sub hl [0, 1] rfl)
      · have hf := o_f h1 hf
        refine lv_aload_n hx hb dX12_layStops_10 rfl (lv_at hl 1 rfl) ?_
        refine w_get (ci := 12) F hK hP fb_X12 0 rfl rfl 17 (by decide) fl_X12_38 (fun _ h => h) rfl dX12_layStops_11 ?_
        refine lv_iload_n hx hb dX12_layStops_14 rfl (lv_at hl 0 rfl) ?_
        refine lv_aload_n hx hb dX12_layStops_15 rfl (lv_at hl 1 rfl) ?_
        refine lv_iload_n hx hb dX12_layStops_16 rfl (lv_at hl 0 rfl) ?_
        obtain ⟨q2, hq2, hf⟩ := o_bind hf
        refine k_rV F (c_X12_ownEnd l g aM rM y1 v_halls v_bidders v_fall v_heard v_asks v_pageLength v_isWhole v_newMany v_seedNow v_isKept v_keptHall v_keptHeard v_h v_choiceOf v_kindOf v_windOf hq2) qv_X12_ownEnd ml_X12_101 (hP.sub [0, 1, 2, 5] rfl) hK (va_recv hK.1 hP (ci := 12) (q0 := 0) rfl rfl) rfl hl.1 rfl (Nat.le_of_ble_eq_true rfl) dX12_layStops_17 ⟨(Nat.le_of_ble_eq_true rfl), (Nat.le_of_ble_eq_true rfl)⟩ ⟨(Nat.le_of_ble_eq_true rfl), (Nat.le_of_ble_eq_true rfl)⟩ ?_
        refine W.eq (g2 := F0 m 20 ls (.int q2 :: [.int y1, .ref (rM 17)])) rfl ?_
        obtain ⟨h3, hf⟩ := o_chk hf
        refine w_iast (ws' := [ob aM 12 (oM rM v_halls v_bidders v_fall v_heard v_asks v_pageLength v_isWhole v_newMany v_seedNow v_isKept v_keptHall v_keptHeard v_h), ia g (rM 7) 5 v_choiceOf, ia g (rM 3) 5 v_kindOf, ia g (rM 17) 5 (upd w_v_stopsAt (Int32.toNatClampNeg y1) q2), ia g (rM 8) 5 v_touchedBy, ia g (rM 4) 5 v_windOf]) F hK hw 3 rfl h3 rfl dX12_layStops_20 (fun H locs hw => ?_)
        have hP := hw.1
        obtain ⟨z4, ez4⟩ : ∃ y : Int32, y = y1 + 1 := ⟨_, rfl⟩
        have hf := o_bnd ez4 hf
        refine lv_iinc (v := z4) (lv' := [(1, .int z4), (0, .ref aM)]) hx hb dX12_layStops_21 hl (k := 0) rfl (by rw [ez4]; rfl) (by decide) rfl (fun ls hl => ?_)
        refine lv_goto (tgt := 2) hx hb dX12_layStops_24 (by decide) ?_
        exact ih z4 (upd w_v_stopsAt (Int32.toNatClampNeg y1) q2) _ hf _ _ ls hw (lv_sub hl [0, 1] rfl) kx
  have L29 : ∀ (k : Nat) (y1 : Int32) (w_v_stopsAt : Nat → Int32) (q : Int32 × (Nat → Int32)), f_X12_layStops_29 k v_bidders v_choiceOf v_kindOf v_touchedBy v_windOf y1 w_v_stopsAt = some q → ∀ (H : Heap) (locs : List Loc) (ls : Array Slot), WD g A s.heap [ob aM 12 (oM rM v_halls v_bidders v_fall v_heard v_asks v_pageLength v_isWhole v_newMany v_seedNow v_isKept v_keptHall v_keptHeard v_h), ia g (rM 7) 5 v_choiceOf, ia g (rM 3) 5 v_kindOf, ia g (rM 17) 5 w_v_stopsAt, ia g (rM 8) 5 v_touchedBy, ia g (rM 4) 5 v_windOf] H locs → lv_has ls 5 [(1, .int y1), (0, .ref aM)] → (∀ (H : Heap) (locs : List Loc) (ls : Array Slot), WD g A s.heap [ob aM 12 (oM rM v_halls v_bidders v_fall v_heard v_asks v_pageLength v_isWhole v_newMany v_seedNow v_isKept v_keptHall v_keptHeard v_h), ia g (rM 7) 5 v_choiceOf, ia g (rM 3) 5 v_kindOf, ia g (rM 17) 5 q.2, ia g (rM 8) 5 v_touchedBy, ia g (rM 4) 5 v_windOf] H locs → lv_has ls 5 [(1, .int q.1), (0, .ref aM)] → W p l e (rmc 1 0 0 23) s m args below meth c H locs 0 0 Q (F0 m 137 ls [])) → W p l e (rmc 1 0 0 23) s m args below meth c H locs 0 0 Q (F0 m 29 ls []) := by
    intro k
    induction k with
    | zero => intro y1 w_v_stopsAt q hf; rw [f_X12_layStops_29] at hf; cases hf
    | succ k ih =>
      intro y1 w_v_stopsAt q hf H locs ls hw hl kx
      rw [f_X12_layStops_29] at hf
      have hP := hw.1
      refine lv_iload_n hx hb dX12_layStops_29 rfl (lv_at hl 0 rfl) ?_
      refine lv_aload_n hx hb dX12_layStops_30 rfl (lv_at hl 1 rfl) ?_
      refine w_get (ci := 12) F hK hP fb_X12 0 rfl rfl 1 (by decide) fl_X12_89 (fun _ h => h) rfl dX12_layStops_31 ?_
      refine lv_aload_n hx hb dX12_layStops_34 rfl (lv_at hl 1 rfl) ?_
      refine w_get (ci := 12) F hK hP fb_X12 0 rfl rfl 1 (by decide) fl_X12_89 (fun _ h => h) rfl dX12_layStops_35 ?_
      refine lv_imul hx hb dX12_layStops_38 ?_
      refine lv_aload_n hx hb dX12_layStops_39 rfl (lv_at hl 1 rfl) ?_
      refine w_get (ci := 12) F hK hP fb_X12 0 rfl rfl 1 (by decide) fl_X12_89 (fun _ h => h) rfl dX12_layStops_40 ?_
      refine lv_imul hx hb dX12_layStops_43 ?_
      refine lv_icmp_ge (tgt := 137) hx hb dX12_layStops_44 (by decide) (fun h6 => ?_) (fun h6 => ?_)
      · have hf := o_t h6 hf
        cases hf
        exact kx _ _ ls hw (lv_sub hl [0, 1] rfl)
      · have hf := o_f h6 hf
        refine lv_iload_n hx hb dX12_layStops_47 rfl (lv_at hl 0 rfl) ?_
        refine lv_aload_n hx hb dX12_layStops_48 rfl (lv_at hl 1 rfl) ?_
        refine w_get (ci := 12) F hK hP fb_X12 0 rfl rfl 1 (by decide) fl_X12_89 (fun _ h => h) rfl dX12_layStops_49 ?_
        obtain ⟨h7, hf⟩ := o_chk hf
        refine lv_irem hx hb dX12_layStops_52 h7 ?_
        refine lv_topi (fun z8 ez8 => ?_)
        have hf := o_bnd ez8 hf
        refine lv_istore_n (lv' := [(2, .int z8), (1, .int y1), (0, .ref aM)]) hx hb dX12_layStops_53 rfl hl (by decide) rfl (fun ls hl => ?_)
        refine lv_iload_n hx hb dX12_layStops_54 rfl (lv_at hl 1 rfl) ?_
        refine lv_aload_n hx hb dX12_layStops_55 rfl (lv_at hl 2 rfl) ?_
        refine w_get (ci := 12) F hK hP fb_X12 0 rfl rfl 1 (by decide) fl_X12_89 (fun _ h => h) rfl dX12_layStops_56 ?_
        refine lv_idiv hx hb dX12_layStops_59 h7 ?_
        refine lv_aload_n hx hb dX12_layStops_60 rfl (lv_at hl 2 rfl) ?_
        refine w_get (ci := 12) F hK hP fb_X12 0 rfl rfl 1 (by decide) fl_X12_89 (fun _ h => h) rfl dX12_layStops_61 ?_
        refine lv_irem hx hb dX12_layStops_64 h7 ?_
        refine lv_topi (fun z9 ez9 => ?_)
        have hf := o_bnd ez9 hf
        refine lv_istore_n (lv' := [(3, .int z9), (2, .int z8), (1, .int y1), (0, .ref aM)]) hx hb dX12_layStops_65 rfl hl (by decide) rfl (fun ls hl => ?_)
        refine lv_aload_n hx hb dX12_layStops_66 rfl (lv_at hl 3 rfl) ?_
        refine w_get (ci := 12) F hK hP fb_X12 0 rfl rfl 8 (by decide) fl_X12_25 (fun _ h => h) rfl dX12_layStops_67 ?_
        refine lv_iload_n hx hb dX12_layStops_70 rfl (lv_at hl 0 rfl) ?_
        obtain ⟨h10, hf⟩ := o_chk hf
        refine w_iald F hK hP 4 rfl h10 dX12_layStops_71 ?_
        refine lv_iload_n hx hb dX12_layStops_72 rfl (lv_at hl 1 rfl) ?_
        obtain ⟨q11, hq11, hf⟩ := o_bind hf
        refine k_rS F (c_X12_has l g (v_touchedBy (Int32.toNatClampNeg z9)) z8 hq11) qs_X12_has ml_X12_104 (hP.sub [] rfl) hK rfl hl.1 rfl (Nat.le_of_ble_eq_true rfl) dX12_layStops_73 ⟨(Nat.le_of_ble_eq_true rfl), (Nat.le_of_ble_eq_true rfl)⟩ ⟨(Nat.le_of_ble_eq_true rfl), (Nat.le_of_ble_eq_true rfl)⟩ ?_
        refine W.eq (g2 := F0 m 76 ls (.int q11 :: [])) rfl ?_
        refine lv_if_eq (tgt := 100) hx hb dX12_layStops_76 (by decide) (fun h12 => ?_) (fun h12 => ?_)
        · have hf := o_t h12 hf
          refine lv_iconst (v := 0) hx hb dX12_layStops_100 (by decide) ?_
          refine lv_istore (lv' := [(4, .int 0), (3, .int z9), (2, .int z8), (1, .int y1), (0, .ref aM)]) hx hb dX12_layStops_101 hl (by decide) rfl (fun ls hl => ?_)
          refine lv_aload_n hx hb dX12_layStops_103 rfl (lv_at hl 4 rfl) ?_
          refine w_get (ci := 12) F hK hP fb_X12 0 rfl rfl 17 (by decide) fl_X12_38 (fun _ h => h) rfl dX12_layStops_104 ?_
          refine lv_iload_n hx hb dX12_layStops_107 rfl (lv_at hl 1 rfl) ?_
          refine lv_iload hx hb dX12_layStops_108 (lv_at hl 0 rfl) ?_
          refine lv_if_eq (tgt := 124) hx hb dX12_layStops_110 (by decide) (fun _ => ?_) (fun h => absurd h (by decide))
          refine lv_aload_n hx hb dX12_layStops_124 rfl (lv_at hl 4 rfl) ?_
          refine w_get (ci := 12) F hK hP fb_X12 0 rfl rfl 17 (by decide) fl_X12_38 (fun _ h => h) rfl dX12_layStops_125 ?_
          refine lv_iload_n hx hb dX12_layStops_128 rfl (lv_at hl 1 rfl) ?_
          refine w_iald F hK hP 3 rfl h10 dX12_layStops_129 ?_
          refine w_iast (ws' := [ob aM 12 (oM rM v_halls v_bidders v_fall v_heard v_asks v_pageLength v_isWhole v_newMany v_seedNow v_isKept v_keptHall v_keptHeard v_h), ia g (rM 7) 5 v_choiceOf, ia g (rM 3) 5 v_kindOf, ia g (rM 17) 5 (upd w_v_stopsAt (Int32.toNatClampNeg z9) (w_v_stopsAt (Int32.toNatClampNeg z9))), ia g (rM 8) 5 v_touchedBy, ia g (rM 4) 5 v_windOf]) F hK hw 3 rfl h10 rfl dX12_layStops_130 (fun H locs hw => ?_)
          have hP := hw.1
          obtain ⟨z13, ez13⟩ : ∃ y : Int32, y = y1 + 1 := ⟨_, rfl⟩
          have hf := o_bnd ez13 hf
          refine lv_iinc (v := z13) (lv' := [(1, .int z13), (4, .int 0), (3, .int z9), (2, .int z8), (0, .ref aM)]) hx hb dX12_layStops_131 hl (k := 3) rfl (by rw [ez13]; rfl) (by decide) rfl (fun ls hl => ?_)
          refine lv_goto (tgt := 29) hx hb dX12_layStops_134 (by decide) ?_
          exact ih z13 (upd w_v_stopsAt (Int32.toNatClampNeg z9) (w_v_stopsAt (Int32.toNatClampNeg z9))) _ hf _ _ ls hw (lv_sub hl [0, 4] rfl) kx
        · have hf := o_f h12 hf
          refine lv_aload_n hx hb dX12_layStops_79 rfl (lv_at hl 3 rfl) ?_
          refine w_get (ci := 12) F hK hP fb_X12 0 rfl rfl 17 (by decide) fl_X12_38 (fun _ h => h) rfl dX12_layStops_80 ?_
          refine lv_iload_n hx hb dX12_layStops_83 rfl (lv_at hl 1 rfl) ?_
          obtain ⟨h14, hf⟩ := o_chk hf
          refine w_iald F hK hP 3 rfl h14 dX12_layStops_84 ?_
          refine lv_iconst (v := 1) hx hb dX12_layStops_85 (by decide) ?_
          refine lv_iadd hx hb dX12_layStops_86 ?_
          refine lv_aload_n hx hb dX12_layStops_87 rfl (lv_at hl 3 rfl) ?_
          refine w_get (ci := 12) F hK hP fb_X12 0 rfl rfl 17 (by decide) fl_X12_38 (fun _ h => h) rfl dX12_layStops_88 ?_
          refine lv_iload_n hx hb dX12_layStops_91 rfl (lv_at hl 0 rfl) ?_
          refine w_iald F hK hP 3 rfl h10 dX12_layStops_92 ?_
          refine lv_icmp_ge (tgt := 100) hx hb dX12_layStops_93 (by decide) (fun h15 => ?_) (fun h15 => ?_)
          · have hf := o_t h15 hf
            refine lv_iconst (v := 0) hx hb dX12_layStops_100 (by decide) ?_
            refine lv_istore (lv' := [(4, .int 0), (3, .int z9), (2, .int z8), (1, .int y1), (0, .ref aM)]) hx hb dX12_layStops_101 hl (by decide) rfl (fun ls hl => ?_)
            refine lv_aload_n hx hb dX12_layStops_103 rfl (lv_at hl 4 rfl) ?_
            refine w_get (ci := 12) F hK hP fb_X12 0 rfl rfl 17 (by decide) fl_X12_38 (fun _ h => h) rfl dX12_layStops_104 ?_
            refine lv_iload_n hx hb dX12_layStops_107 rfl (lv_at hl 1 rfl) ?_
            refine lv_iload hx hb dX12_layStops_108 (lv_at hl 0 rfl) ?_
            refine lv_if_eq (tgt := 124) hx hb dX12_layStops_110 (by decide) (fun _ => ?_) (fun h => absurd h (by decide))
            refine lv_aload_n hx hb dX12_layStops_124 rfl (lv_at hl 4 rfl) ?_
            refine w_get (ci := 12) F hK hP fb_X12 0 rfl rfl 17 (by decide) fl_X12_38 (fun _ h => h) rfl dX12_layStops_125 ?_
            refine lv_iload_n hx hb dX12_layStops_128 rfl (lv_at hl 1 rfl) ?_
            refine w_iald F hK hP 3 rfl h10 dX12_layStops_129 ?_
            refine w_iast (ws' := [ob aM 12 (oM rM v_halls v_bidders v_fall v_heard v_asks v_pageLength v_isWhole v_newMany v_seedNow v_isKept v_keptHall v_keptHeard v_h), ia g (rM 7) 5 v_choiceOf, ia g (rM 3) 5 v_kindOf, ia g (rM 17) 5 (upd w_v_stopsAt (Int32.toNatClampNeg z9) (w_v_stopsAt (Int32.toNatClampNeg z9))), ia g (rM 8) 5 v_touchedBy, ia g (rM 4) 5 v_windOf]) F hK hw 3 rfl h10 rfl dX12_layStops_130 (fun H locs hw => ?_)
            have hP := hw.1
            obtain ⟨z16, ez16⟩ : ∃ y : Int32, y = y1 + 1 := ⟨_, rfl⟩
            have hf := o_bnd ez16 hf
            refine lv_iinc (v := z16) (lv' := [(1, .int z16), (4, .int 0), (3, .int z9), (2, .int z8), (0, .ref aM)]) hx hb dX12_layStops_131 hl (k := 3) rfl (by rw [ez16]; rfl) (by decide) rfl (fun ls hl => ?_)
            refine lv_goto (tgt := 29) hx hb dX12_layStops_134 (by decide) ?_
            exact ih z16 (upd w_v_stopsAt (Int32.toNatClampNeg z9) (w_v_stopsAt (Int32.toNatClampNeg z9))) _ hf _ _ ls hw (lv_sub hl [0, 4] rfl) kx
          · have hf := o_f h15 hf
            refine lv_iconst (v := 1) hx hb dX12_layStops_96 (by decide) ?_
            refine lv_goto (tgt := 101) hx hb dX12_layStops_97 (by decide) ?_
            refine lv_istore (lv' := [(4, .int 1), (3, .int z9), (2, .int z8), (1, .int y1), (0, .ref aM)]) hx hb dX12_layStops_101 hl (by decide) rfl (fun ls hl => ?_)
            refine lv_aload_n hx hb dX12_layStops_103 rfl (lv_at hl 4 rfl) ?_
            refine w_get (ci := 12) F hK hP fb_X12 0 rfl rfl 17 (by decide) fl_X12_38 (fun _ h => h) rfl dX12_layStops_104 ?_
            refine lv_iload_n hx hb dX12_layStops_107 rfl (lv_at hl 1 rfl) ?_
            refine lv_iload hx hb dX12_layStops_108 (lv_at hl 0 rfl) ?_
            refine lv_if_eq (tgt := 124) hx hb dX12_layStops_110 (by decide) (fun h => absurd h (by decide)) (fun _ => ?_)
            refine lv_aload_n hx hb dX12_layStops_113 rfl (lv_at hl 4 rfl) ?_
            refine w_get (ci := 12) F hK hP fb_X12 0 rfl rfl 17 (by decide) fl_X12_38 (fun _ h => h) rfl dX12_layStops_114 ?_
            refine lv_iload_n hx hb dX12_layStops_117 rfl (lv_at hl 2 rfl) ?_
            refine w_iald F hK hP 3 rfl h14 dX12_layStops_118 ?_
            refine lv_iconst (v := 1) hx hb dX12_layStops_119 (by decide) ?_
            refine lv_iadd hx hb dX12_layStops_120 ?_
            refine lv_goto (tgt := 130) hx hb dX12_layStops_121 (by decide) ?_
            refine w_iast (ws' := [ob aM 12 (oM rM v_halls v_bidders v_fall v_heard v_asks v_pageLength v_isWhole v_newMany v_seedNow v_isKept v_keptHall v_keptHeard v_h), ia g (rM 7) 5 v_choiceOf, ia g (rM 3) 5 v_kindOf, ia g (rM 17) 5 (upd w_v_stopsAt (Int32.toNatClampNeg z9) ((w_v_stopsAt (Int32.toNatClampNeg z8)) + 1)), ia g (rM 8) 5 v_touchedBy, ia g (rM 4) 5 v_windOf]) F hK hw 3 rfl h10 rfl dX12_layStops_130 (fun H locs hw => ?_)
            have hP := hw.1
            obtain ⟨z17, ez17⟩ : ∃ y : Int32, y = y1 + 1 := ⟨_, rfl⟩
            have hf := o_bnd ez17 hf
            refine lv_iinc (v := z17) (lv' := [(1, .int z17), (4, .int 1), (3, .int z9), (2, .int z8), (0, .ref aM)]) hx hb dX12_layStops_131 hl (k := 3) rfl (by rw [ez17]; rfl) (by decide) rfl (fun ls hl => ?_)
            refine lv_goto (tgt := 29) hx hb dX12_layStops_134 (by decide) ?_
            exact ih z17 (upd w_v_stopsAt (Int32.toNatClampNeg z9) ((w_v_stopsAt (Int32.toNatClampNeg z8)) + 1)) _ hf _ _ ls hw (lv_sub hl [0, 4] rfl) kx
  unfold f_X12_layStops at hf
  refine lv_iconst (v := 0) hx hb dX12_layStops_0 (by decide) ?_
  refine lv_istore_n (lv' := [(1, .int 0), (0, .ref aM)]) hx hb dX12_layStops_1 rfl hl (by decide) rfl (fun ls hl => ?_)
  obtain ⟨q5, hq5, hf⟩ := o_bind hf
  refine L2 _ 0 v_stopsAt _ hq5 _ _ ls hw (lv_sub hl [0, 1] rfl) (fun H locs ls hw hl => ?_)
  have hP := hw.1
  refine lv_iconst (v := 0) hx hb dX12_layStops_27 (by decide) ?_
  refine lv_istore_n (lv' := [(1, .int 0), (0, .ref aM)]) hx hb dX12_layStops_28 rfl hl (by decide) rfl (fun ls hl => ?_)
  obtain ⟨q18, hq18, hf⟩ := o_bind hf
  refine L29 _ 0 q5.2 _ hq18 _ _ ls hw (lv_sub hl [0, 1] rfl) (fun H locs ls hw hl => ?_)
  have hP := hw.1
  cases hf
  exact r_cv F hQ ⟨rfl, rfl⟩ hw dX12_layStops_137
def f_X12_silentFrom (x1 : Int32) (v_kindOf : Nat → Int32) (v_stopsAt : Nat → Int32) : Option (Int32) := (if x1 < 0 ∨ 5 ≤ Int32.toNatClampNeg x1 then none else (if (v_kindOf (Int32.toNatClampNeg x1)) = 3 then (some ((v_stopsAt (Int32.toNatClampNeg x1)) + 2)) else (some ((v_stopsAt (Int32.toNatClampNeg x1)) + 0))))
set_option maxRecDepth 100000 in
set_option maxHeartbeats 4000000 in
theorem c_X12_silentFrom (l : Launch) (g : GG) (aM : Nat) (rM : Nat → Nat) (x1 : Int32) (v_halls : Int32) (v_bidders : Int32) (v_fall : Int32) (v_heard : Int32) (v_asks : Int32) (v_pageLength : Int32) (v_isWhole : Int32) (v_newMany : Int32) (v_seedNow : Int64) (v_isKept : Int32) (v_keptHall : Int32) (v_keptHeard : Int32) (v_h : Int64) (v_kindOf : Nat → Int32) (v_stopsAt : Nat → Int32) {r0 : Int32} (hf : f_X12_silentFrom x1 v_kindOf v_stopsAt = some r0) : MR l g yX12_silentFrom cX12_silentFrom 2 (some .int) 0 0 [.ref aM, .int x1] [ob aM 12 (oM rM v_halls v_bidders v_fall v_heard v_asks v_pageLength v_isWhole v_newMany v_seedNow v_isKept v_keptHall v_keptHeard v_h), ia g (rM 3) 5 v_kindOf, ia g (rM 17) 5 v_stopsAt] (some (.int r0)) := by
  refine MR.mk (by decide) (Nat.le_of_ble_eq_true rfl) ?_
  intro p e s m args below meth c ls Q F hK hP hl hQ
  have hx := F.1
  have hb := F.2.1
  have hml := F.2.2.2.1
  have hown := F.2.2.2.2.1
  have hts := F.2.2.2.2.2.1
  have hl : lv_has ls 2 [(0, .ref aM), (1, .int x1)] := hl
  unfold f_X12_silentFrom at hf
  refine lv_aload_n hx hb dX12_silentFrom_0 rfl (lv_at hl 0 rfl) ?_
  refine w_get (ci := 12) F hK hP fb_X12 0 rfl rfl 17 (by decide) fl_X12_38 (fun _ h => h) rfl dX12_silentFrom_1 ?_
  refine lv_iload_n hx hb dX12_silentFrom_4 rfl (lv_at hl 1 rfl) ?_
  obtain ⟨h1, hf⟩ := o_chk hf
  refine w_iald F hK hP 2 rfl h1 dX12_silentFrom_5 ?_
  refine lv_aload_n hx hb dX12_silentFrom_6 rfl (lv_at hl 0 rfl) ?_
  refine w_get (ci := 12) F hK hP fb_X12 0 rfl rfl 3 (by decide) fl_X12_7 (fun _ h => h) rfl dX12_silentFrom_7 ?_
  refine lv_iload_n hx hb dX12_silentFrom_10 rfl (lv_at hl 1 rfl) ?_
  refine w_iald F hK hP 1 rfl h1 dX12_silentFrom_11 ?_
  refine lv_iconst (v := 3) hx hb dX12_silentFrom_12 (by decide) ?_
  refine lv_icmp_ne (tgt := 20) hx hb dX12_silentFrom_13 (by decide) (fun h2 => ?_) (fun h2 => ?_)
  · have hf := o_f h2 hf
    refine lv_iconst (v := 0) hx hb dX12_silentFrom_20 (by decide) ?_
    refine lv_iadd hx hb dX12_silentFrom_21 ?_
    exact r_ri F hQ (Option.some.inj hf) dX12_silentFrom_22
  · have hf := o_t h2 hf
    refine lv_iconst (v := 2) hx hb dX12_silentFrom_16 (by decide) ?_
    refine lv_goto (tgt := 21) hx hb dX12_silentFrom_17 (by decide) ?_
    refine lv_iadd hx hb dX12_silentFrom_21 ?_
    exact r_ri F hQ (Option.some.inj hf) dX12_silentFrom_22
def f_X12_nextSilence_5 (fuel : Nat) (x1 : Int32) (v_bidders : Int32) (v_kindOf : Nat → Int32) (v_stopsAt : Nat → Int32) (y3 : Int32) (y2 : Int32) : Option (Int32 × Int32) := match fuel with
  | 0 => none
  | k + 1 => (if v_bidders ≤ y3 then (some (y3, y2)) else ((f_X12_silentFrom y3 v_kindOf v_stopsAt).bind fun q2 => (if q2 ≤ x1 then (bnd (y3 + 1 : Int32) fun z4 => (f_X12_nextSilence_5 k x1 v_bidders v_kindOf v_stopsAt z4 y2)) else (if y2 ≤ q2 then (bnd (y3 + 1 : Int32) fun z6 => (f_X12_nextSilence_5 k x1 v_bidders v_kindOf v_stopsAt z6 y2)) else (bnd (y3 + 1 : Int32) fun z7 => (f_X12_nextSilence_5 k x1 v_bidders v_kindOf v_stopsAt z7 q2))))))
def f_X12_nextSilence (x1 : Int32) (v_bidders : Int32) (v_kindOf : Nat → Int32) (v_stopsAt : Nat → Int32) : Option (Int32) := ((f_X12_nextSilence_5 4096 x1 v_bidders v_kindOf v_stopsAt 0 268435456).bind fun q8 => (some q8.2))
set_option maxRecDepth 100000 in
set_option maxHeartbeats 4000000 in
theorem c_X12_nextSilence (l : Launch) (g : GG) (aM : Nat) (rM : Nat → Nat) (x1 : Int32) (v_halls : Int32) (v_bidders : Int32) (v_fall : Int32) (v_heard : Int32) (v_asks : Int32) (v_pageLength : Int32) (v_isWhole : Int32) (v_newMany : Int32) (v_seedNow : Int64) (v_isKept : Int32) (v_keptHall : Int32) (v_keptHeard : Int32) (v_h : Int64) (v_kindOf : Nat → Int32) (v_stopsAt : Nat → Int32) {r0 : Int32} (hf : f_X12_nextSilence x1 v_bidders v_kindOf v_stopsAt = some r0) : MR l g yX12_nextSilence cX12_nextSilence 5 (some .int) 1 21 [.ref aM, .int x1] [ob aM 12 (oM rM v_halls v_bidders v_fall v_heard v_asks v_pageLength v_isWhole v_newMany v_seedNow v_isKept v_keptHall v_keptHeard v_h), ia g (rM 3) 5 v_kindOf, ia g (rM 17) 5 v_stopsAt] (some (.int r0)) := by
  refine MR.mk (by decide) (Nat.le_of_ble_eq_true rfl) ?_
  intro p e s m args below meth c ls Q F hK hP hl hQ
  have hx := F.1
  have hb := F.2.1
  have hml := F.2.2.2.1
  have hown := F.2.2.2.2.1
  have hts := F.2.2.2.2.2.1
  have hl : lv_has ls 5 [(0, .ref aM), (1, .int x1)] := hl
  have L5 : ∀ (k : Nat) (y3 : Int32) (y2 : Int32) (q : Int32 × Int32), f_X12_nextSilence_5 k x1 v_bidders v_kindOf v_stopsAt y3 y2 = some q → ∀ (ls : Array Slot), lv_has ls 5 [(3, .int y3), (2, .int y2), (0, .ref aM), (1, .int x1)] → (∀ (ls : Array Slot), lv_has ls 5 [(3, .int q.1), (2, .int q.2), (0, .ref aM), (1, .int x1)] → W p l e (rmc 1 0 0 21) s m args below meth c s.heap [] 0 0 Q (F0 m 45 ls [])) → W p l e (rmc 1 0 0 21) s m args below meth c s.heap [] 0 0 Q (F0 m 5 ls []) := by
    intro k
    induction k with
    | zero => intro y3 y2 q hf; rw [f_X12_nextSilence_5] at hf; cases hf
    | succ k ih =>
      intro y3 y2 q hf ls hl kx
      rw [f_X12_nextSilence_5] at hf
      refine lv_iload_n hx hb dX12_nextSilence_5 rfl (lv_at hl 0 rfl) ?_
      refine lv_aload_n hx hb dX12_nextSilence_6 rfl (lv_at hl 2 rfl) ?_
      refine w_get (ci := 12) F hK hP fb_X12 0 rfl rfl 1 (by decide) fl_X12_89 (fun _ h => h) rfl dX12_nextSilence_7 ?_
      refine lv_icmp_ge (tgt := 45) hx hb dX12_nextSilence_10 (by decide) (fun h1 => ?_) (fun h1 => ?_)
      · have hf := o_t h1 hf
        cases hf
        exact kx ls (lv_sub hl [0, 1, 2, 3] rfl)
      · have hf := o_f h1 hf
        refine lv_aload_n hx hb dX12_nextSilence_13 rfl (lv_at hl 2 rfl) ?_
        refine lv_iload_n hx hb dX12_nextSilence_14 rfl (lv_at hl 0 rfl) ?_
        obtain ⟨q2, hq2, hf⟩ := o_bind hf
        refine k_rV F (c_X12_silentFrom l g aM rM y3 v_halls v_bidders v_fall v_heard v_asks v_pageLength v_isWhole v_newMany v_seedNow v_isKept v_keptHall v_keptHeard v_h v_kindOf v_stopsAt hq2) qv_X12_silentFrom ml_X12_108 (hP.sub [0, 1, 2] rfl) hK (va_recv hK.1 hP (ci := 12) (q0 := 0) rfl rfl) rfl hl.1 rfl (Nat.le_of_ble_eq_true rfl) dX12_nextSilence_15 ⟨(Nat.le_of_ble_eq_true rfl), (Nat.le_of_ble_eq_true rfl)⟩ ⟨(Nat.le_of_ble_eq_true rfl), (Nat.le_of_ble_eq_true rfl)⟩ ?_
        refine W.eq (g2 := F0 m 18 ls (.int q2 :: [])) rfl ?_
        refine lv_istore (lv' := [(4, .int q2), (3, .int y3), (2, .int y2), (0, .ref aM), (1, .int x1)]) hx hb dX12_nextSilence_18 hl (by decide) rfl (fun ls hl => ?_)
        refine lv_iload hx hb dX12_nextSilence_20 (lv_at hl 0 rfl) ?_
        refine lv_iload_n hx hb dX12_nextSilence_22 rfl (lv_at hl 4 rfl) ?_
        refine lv_icmp_le (tgt := 37) hx hb dX12_nextSilence_23 (by decide) (fun h3 => ?_) (fun h3 => ?_)
        · have hf := o_t h3 hf
          refine lv_iload_n hx hb dX12_nextSilence_37 rfl (lv_at hl 2 rfl) ?_
          refine lv_istore_n (lv' := [(2, .int y2), (4, .int q2), (3, .int y3), (0, .ref aM), (1, .int x1)]) hx hb dX12_nextSilence_38 rfl hl (by decide) rfl (fun ls hl => ?_)
          obtain ⟨z4, ez4⟩ : ∃ y : Int32, y = y3 + 1 := ⟨_, rfl⟩
          have hf := o_bnd ez4 hf
          refine lv_iinc (v := z4) (lv' := [(3, .int z4), (2, .int y2), (4, .int q2), (0, .ref aM), (1, .int x1)]) hx hb dX12_nextSilence_39 hl (k := 2) rfl (by rw [ez4]; rfl) (by decide) rfl (fun ls hl => ?_)
          refine lv_goto (tgt := 5) hx hb dX12_nextSilence_42 (by decide) ?_
          exact ih z4 y2 _ hf ls (lv_sub hl [0, 1, 3, 4] rfl) kx
        · have hf := o_f h3 hf
          refine lv_iload hx hb dX12_nextSilence_26 (lv_at hl 0 rfl) ?_
          refine lv_iload_n hx hb dX12_nextSilence_28 rfl (lv_at hl 2 rfl) ?_
          refine lv_icmp_ge (tgt := 37) hx hb dX12_nextSilence_29 (by decide) (fun h5 => ?_) (fun h5 => ?_)
          · have hf := o_t h5 hf
            refine lv_iload_n hx hb dX12_nextSilence_37 rfl (lv_at hl 2 rfl) ?_
            refine lv_istore_n (lv' := [(2, .int y2), (4, .int q2), (3, .int y3), (0, .ref aM), (1, .int x1)]) hx hb dX12_nextSilence_38 rfl hl (by decide) rfl (fun ls hl => ?_)
            obtain ⟨z6, ez6⟩ : ∃ y : Int32, y = y3 + 1 := ⟨_, rfl⟩
            have hf := o_bnd ez6 hf
            refine lv_iinc (v := z6) (lv' := [(3, .int z6), (2, .int y2), (4, .int q2), (0, .ref aM), (1, .int x1)]) hx hb dX12_nextSilence_39 hl (k := 2) rfl (by rw [ez6]; rfl) (by decide) rfl (fun ls hl => ?_)
            refine lv_goto (tgt := 5) hx hb dX12_nextSilence_42 (by decide) ?_
            exact ih z6 y2 _ hf ls (lv_sub hl [0, 1, 3, 4] rfl) kx
          · have hf := o_f h5 hf
            refine lv_iload hx hb dX12_nextSilence_32 (lv_at hl 0 rfl) ?_
            refine lv_goto (tgt := 38) hx hb dX12_nextSilence_34 (by decide) ?_
            refine lv_istore_n (lv' := [(2, .int q2), (4, .int q2), (3, .int y3), (0, .ref aM), (1, .int x1)]) hx hb dX12_nextSilence_38 rfl hl (by decide) rfl (fun ls hl => ?_)
            obtain ⟨z7, ez7⟩ : ∃ y : Int32, y = y3 + 1 := ⟨_, rfl⟩
            have hf := o_bnd ez7 hf
            refine lv_iinc (v := z7) (lv' := [(3, .int z7), (2, .int q2), (4, .int q2), (0, .ref aM), (1, .int x1)]) hx hb dX12_nextSilence_39 hl (k := 2) rfl (by rw [ez7]; rfl) (by decide) rfl (fun ls hl => ?_)
            refine lv_goto (tgt := 5) hx hb dX12_nextSilence_42 (by decide) ?_
            exact ih z7 q2 _ hf ls (lv_sub hl [0, 1, 3, 4] rfl) kx
  unfold f_X12_nextSilence at hf
  refine lv_ldc (v := 268435456) hx hb hown (hts _ kc_X12_107) dX12_nextSilence_0 ?_
  refine lv_istore_n (lv' := [(2, .int 268435456), (0, .ref aM), (1, .int x1)]) hx hb dX12_nextSilence_2 rfl hl (by decide) rfl (fun ls hl => ?_)
  refine lv_iconst (v := 0) hx hb dX12_nextSilence_3 (by decide) ?_
  refine lv_istore_n (lv' := [(3, .int 0), (2, .int 268435456), (0, .ref aM), (1, .int x1)]) hx hb dX12_nextSilence_4 rfl hl (by decide) rfl (fun ls hl => ?_)
  obtain ⟨q8, hq8, hf⟩ := o_bind hf
  refine L5 _ 0 268435456 _ hq8 ls (lv_sub hl [0, 1, 2, 3] rfl) (fun ls hl => ?_)
  refine lv_iload_n hx hb dX12_nextSilence_45 rfl (lv_at hl 1 rfl) ?_
  exact r_ri F hQ (Option.some.inj hf) dX12_nextSilence_46
def f_X12_manySilent_4 (fuel : Nat) (x1 : Int32) (v_bidders : Int32) (v_kindOf : Nat → Int32) (v_stopsAt : Nat → Int32) (y3 : Int32) (y2 : Int32) : Option (Int32 × Int32) := match fuel with
  | 0 => none
  | k + 1 => (if v_bidders ≤ y3 then (some (y3, y2)) else ((f_X12_silentFrom y3 v_kindOf v_stopsAt).bind fun q2 => (if q2 = x1 then (bnd (y2 + 1) fun z6 => (bnd (y3 + 1 : Int32) fun z7 => (f_X12_manySilent_4 k x1 v_bidders v_kindOf v_stopsAt z7 z6))) else (bnd (y2 + 0) fun z4 => (bnd (y3 + 1 : Int32) fun z5 => (f_X12_manySilent_4 k x1 v_bidders v_kindOf v_stopsAt z5 z4))))))
def f_X12_manySilent (x1 : Int32) (v_bidders : Int32) (v_kindOf : Nat → Int32) (v_stopsAt : Nat → Int32) : Option (Int32) := ((f_X12_manySilent_4 4096 x1 v_bidders v_kindOf v_stopsAt 0 0).bind fun q8 => (some q8.2))
set_option maxRecDepth 100000 in
set_option maxHeartbeats 4000000 in
theorem c_X12_manySilent (l : Launch) (g : GG) (aM : Nat) (rM : Nat → Nat) (x1 : Int32) (v_halls : Int32) (v_bidders : Int32) (v_fall : Int32) (v_heard : Int32) (v_asks : Int32) (v_pageLength : Int32) (v_isWhole : Int32) (v_newMany : Int32) (v_seedNow : Int64) (v_isKept : Int32) (v_keptHall : Int32) (v_keptHeard : Int32) (v_h : Int64) (v_kindOf : Nat → Int32) (v_stopsAt : Nat → Int32) {r0 : Int32} (hf : f_X12_manySilent x1 v_bidders v_kindOf v_stopsAt = some r0) : MR l g yX12_manySilent cX12_manySilent 4 (some .int) 1 21 [.ref aM, .int x1] [ob aM 12 (oM rM v_halls v_bidders v_fall v_heard v_asks v_pageLength v_isWhole v_newMany v_seedNow v_isKept v_keptHall v_keptHeard v_h), ia g (rM 3) 5 v_kindOf, ia g (rM 17) 5 v_stopsAt] (some (.int r0)) := by
  refine MR.mk (by decide) (Nat.le_of_ble_eq_true rfl) ?_
  intro p e s m args below meth c ls Q F hK hP hl hQ
  have hx := F.1
  have hb := F.2.1
  have hml := F.2.2.2.1
  have hown := F.2.2.2.2.1
  have hts := F.2.2.2.2.2.1
  have hl : lv_has ls 4 [(0, .ref aM), (1, .int x1)] := hl
  have L4 : ∀ (k : Nat) (y3 : Int32) (y2 : Int32) (q : Int32 × Int32), f_X12_manySilent_4 k x1 v_bidders v_kindOf v_stopsAt y3 y2 = some q → ∀ (ls : Array Slot), lv_has ls 4 [(3, .int y3), (2, .int y2), (0, .ref aM), (1, .int x1)] → (∀ (ls : Array Slot), lv_has ls 4 [(3, .int q.1), (2, .int q.2), (0, .ref aM), (1, .int x1)] → W p l e (rmc 1 0 0 21) s m args below meth c s.heap [] 0 0 Q (F0 m 35 ls [])) → W p l e (rmc 1 0 0 21) s m args below meth c s.heap [] 0 0 Q (F0 m 4 ls []) := by
    intro k
    induction k with
    | zero => intro y3 y2 q hf; rw [f_X12_manySilent_4] at hf; cases hf
    | succ k ih =>
      intro y3 y2 q hf ls hl kx
      rw [f_X12_manySilent_4] at hf
      refine lv_iload_n hx hb dX12_manySilent_4 rfl (lv_at hl 0 rfl) ?_
      refine lv_aload_n hx hb dX12_manySilent_5 rfl (lv_at hl 2 rfl) ?_
      refine w_get (ci := 12) F hK hP fb_X12 0 rfl rfl 1 (by decide) fl_X12_89 (fun _ h => h) rfl dX12_manySilent_6 ?_
      refine lv_icmp_ge (tgt := 35) hx hb dX12_manySilent_9 (by decide) (fun h1 => ?_) (fun h1 => ?_)
      · have hf := o_t h1 hf
        cases hf
        exact kx ls (lv_sub hl [0, 1, 2, 3] rfl)
      · have hf := o_f h1 hf
        refine lv_iload_n hx hb dX12_manySilent_12 rfl (lv_at hl 1 rfl) ?_
        refine lv_aload_n hx hb dX12_manySilent_13 rfl (lv_at hl 2 rfl) ?_
        refine lv_iload_n hx hb dX12_manySilent_14 rfl (lv_at hl 0 rfl) ?_
        obtain ⟨q2, hq2, hf⟩ := o_bind hf
        refine k_rV F (c_X12_silentFrom l g aM rM y3 v_halls v_bidders v_fall v_heard v_asks v_pageLength v_isWhole v_newMany v_seedNow v_isKept v_keptHall v_keptHeard v_h v_kindOf v_stopsAt hq2) qv_X12_silentFrom ml_X12_108 (hP.sub [0, 1, 2] rfl) hK (va_recv hK.1 hP (ci := 12) (q0 := 0) rfl rfl) rfl hl.1 rfl (Nat.le_of_ble_eq_true rfl) dX12_manySilent_15 ⟨(Nat.le_of_ble_eq_true rfl), (Nat.le_of_ble_eq_true rfl)⟩ ⟨(Nat.le_of_ble_eq_true rfl), (Nat.le_of_ble_eq_true rfl)⟩ ?_
        refine W.eq (g2 := F0 m 18 ls (.int q2 :: [.int y2])) rfl ?_
        refine lv_iload_n hx hb dX12_manySilent_18 rfl (lv_at hl 3 rfl) ?_
        refine lv_icmp_ne (tgt := 26) hx hb dX12_manySilent_19 (by decide) (fun h3 => ?_) (fun h3 => ?_)
        · have hf := o_f h3 hf
          refine lv_iconst (v := 0) hx hb dX12_manySilent_26 (by decide) ?_
          refine lv_iadd hx hb dX12_manySilent_27 ?_
          refine lv_topi (fun z4 ez4 => ?_)
          have hf := o_bnd ez4 hf
          refine lv_istore_n (lv' := [(2, .int z4), (3, .int y3), (0, .ref aM), (1, .int x1)]) hx hb dX12_manySilent_28 rfl hl (by decide) rfl (fun ls hl => ?_)
          obtain ⟨z5, ez5⟩ : ∃ y : Int32, y = y3 + 1 := ⟨_, rfl⟩
          have hf := o_bnd ez5 hf
          refine lv_iinc (v := z5) (lv' := [(3, .int z5), (2, .int z4), (0, .ref aM), (1, .int x1)]) hx hb dX12_manySilent_29 hl (k := 1) rfl (by rw [ez5]; rfl) (by decide) rfl (fun ls hl => ?_)
          refine lv_goto (tgt := 4) hx hb dX12_manySilent_32 (by decide) ?_
          exact ih z5 z4 _ hf ls (lv_sub hl [0, 1, 2, 3] rfl) kx
        · have hf := o_t h3 hf
          refine lv_iconst (v := 1) hx hb dX12_manySilent_22 (by decide) ?_
          refine lv_goto (tgt := 27) hx hb dX12_manySilent_23 (by decide) ?_
          refine lv_iadd hx hb dX12_manySilent_27 ?_
          refine lv_topi (fun z6 ez6 => ?_)
          have hf := o_bnd ez6 hf
          refine lv_istore_n (lv' := [(2, .int z6), (3, .int y3), (0, .ref aM), (1, .int x1)]) hx hb dX12_manySilent_28 rfl hl (by decide) rfl (fun ls hl => ?_)
          obtain ⟨z7, ez7⟩ : ∃ y : Int32, y = y3 + 1 := ⟨_, rfl⟩
          have hf := o_bnd ez7 hf
          refine lv_iinc (v := z7) (lv' := [(3, .int z7), (2, .int z6), (0, .ref aM), (1, .int x1)]) hx hb dX12_manySilent_29 hl (k := 1) rfl (by rw [ez7]; rfl) (by decide) rfl (fun ls hl => ?_)
          refine lv_goto (tgt := 4) hx hb dX12_manySilent_32 (by decide) ?_
          exact ih z7 z6 _ hf ls (lv_sub hl [0, 1, 2, 3] rfl) kx
  unfold f_X12_manySilent at hf
  refine lv_iconst (v := 0) hx hb dX12_manySilent_0 (by decide) ?_
  refine lv_istore_n (lv' := [(2, .int 0), (0, .ref aM), (1, .int x1)]) hx hb dX12_manySilent_1 rfl hl (by decide) rfl (fun ls hl => ?_)
  refine lv_iconst (v := 0) hx hb dX12_manySilent_2 (by decide) ?_
  refine lv_istore_n (lv' := [(3, .int 0), (2, .int 0), (0, .ref aM), (1, .int x1)]) hx hb dX12_manySilent_3 rfl hl (by decide) rfl (fun ls hl => ?_)
  obtain ⟨q8, hq8, hf⟩ := o_bind hf
  refine L4 _ 0 0 _ hq8 ls (lv_sub hl [0, 1, 2, 3] rfl) (fun ls hl => ?_)
  refine lv_iload_n hx hb dX12_manySilent_35 rfl (lv_at hl 1 rfl) ?_
  exact r_ri F hQ (Option.some.inj hf) dX12_manySilent_36
def f_X12_getter_37 (fuel : Nat) (v_bidders : Int32) (v_kindOf : Nat → Int32) (v_stopsAt : Nat → Int32) (y4 : Int32) (y3 : Int32) (y2 : Int32) : Option (Int32 × Int32 × Int32) := match fuel with
  | 0 => none
  | k + 1 => (if v_bidders ≤ y4 then (some (y4, y3, y2)) else ((f_X12_silentFrom y4 v_kindOf v_stopsAt).bind fun q8 => (if q8 = y2 then (bnd (y4 + 1 : Int32) fun z11 => (f_X12_getter_37 k v_bidders v_kindOf v_stopsAt z11 y4 y2)) else (bnd (y4 + 1 : Int32) fun z10 => (f_X12_getter_37 k v_bidders v_kindOf v_stopsAt z10 y3 y2)))))
def f_X12_getter (v_bidders : Int32) (v_kindOf : Nat → Int32) (v_stopsAt : Nat → Int32) : Option (Int32) := ((f_X12_nextSilence 0 v_bidders v_kindOf v_stopsAt).bind fun q1 => ((f_X12_nextSilence q1 v_bidders v_kindOf v_stopsAt).bind fun q2 => ((f_X12_manySilent q1 v_bidders v_kindOf v_stopsAt).bind fun q3 => (if q3 = 1 then ((f_X12_manySilent q2 v_bidders v_kindOf v_stopsAt).bind fun q5 => (if q5 = 1 then ((f_X12_getter_37 4096 v_bidders v_kindOf v_stopsAt 0 (-1) q2).bind fun q12 => (some q12.2.1)) else (some (-1)))) else (some (-1))))))
set_option maxRecDepth 100000 in
set_option maxHeartbeats 4000000 in
theorem c_X12_getter (l : Launch) (g : GG) (aM : Nat) (rM : Nat → Nat) (v_halls : Int32) (v_bidders : Int32) (v_fall : Int32) (v_heard : Int32) (v_asks : Int32) (v_pageLength : Int32) (v_isWhole : Int32) (v_newMany : Int32) (v_seedNow : Int64) (v_isKept : Int32) (v_keptHall : Int32) (v_keptHeard : Int32) (v_h : Int64) (v_kindOf : Nat → Int32) (v_stopsAt : Nat → Int32) {r0 : Int32} (hf : f_X12_getter v_bidders v_kindOf v_stopsAt = some r0) : MR l g yX12_getter cX12_getter 5 (some .int) 2 45 [.ref aM] [ob aM 12 (oM rM v_halls v_bidders v_fall v_heard v_asks v_pageLength v_isWhole v_newMany v_seedNow v_isKept v_keptHall v_keptHeard v_h), ia g (rM 3) 5 v_kindOf, ia g (rM 17) 5 v_stopsAt] (some (.int r0)) := by
  refine MR.mk (by decide) (Nat.le_of_ble_eq_true rfl) ?_
  intro p e s m args below meth c ls Q F hK hP hl hQ
  have hx := F.1
  have hb := F.2.1
  have hml := F.2.2.2.1
  have hown := F.2.2.2.2.1
  have hts := F.2.2.2.2.2.1
  have hl : lv_has ls 5 [(0, .ref aM)] := hl
  have L37 : ∀ (k : Nat) (y4 : Int32) (y3 : Int32) (y2 : Int32) (q : Int32 × Int32 × Int32), f_X12_getter_37 k v_bidders v_kindOf v_stopsAt y4 y3 y2 = some q → ∀ (ls : Array Slot), lv_has ls 5 [(4, .int y4), (3, .int y3), (2, .int y2), (0, .ref aM)] → (∀ (ls : Array Slot), lv_has ls 5 [(4, .int q.1), (3, .int q.2.1), (2, .int q.2.2), (0, .ref aM)] → W p l e (rmc 2 0 0 45) s m args below meth c s.heap [] 0 0 Q (F0 m 69 ls [])) → W p l e (rmc 2 0 0 45) s m args below meth c s.heap [] 0 0 Q (F0 m 37 ls []) := by
    intro k
    induction k with
    | zero => intro y4 y3 y2 q hf; rw [f_X12_getter_37] at hf; cases hf
    | succ k ih =>
      intro y4 y3 y2 q hf ls hl kx
      rw [f_X12_getter_37] at hf
      refine lv_iload hx hb dX12_getter_37 (lv_at hl 0 rfl) ?_
      refine lv_aload_n hx hb dX12_getter_39 rfl (lv_at hl 3 rfl) ?_
      refine w_get (ci := 12) F hK hP fb_X12 0 rfl rfl 1 (by decide) fl_X12_89 (fun _ h => h) rfl dX12_getter_40 ?_
      refine lv_icmp_ge (tgt := 69) hx hb dX12_getter_43 (by decide) (fun h7 => ?_) (fun h7 => ?_)
      · have hf := o_t h7 hf
        cases hf
        exact kx ls (lv_sub hl [0, 1, 2, 3] rfl)
      · have hf := o_f h7 hf
        refine lv_aload_n hx hb dX12_getter_46 rfl (lv_at hl 3 rfl) ?_
        refine lv_iload hx hb dX12_getter_47 (lv_at hl 0 rfl) ?_
        obtain ⟨q8, hq8, hf⟩ := o_bind hf
        refine k_rV F (c_X12_silentFrom l g aM rM y4 v_halls v_bidders v_fall v_heard v_asks v_pageLength v_isWhole v_newMany v_seedNow v_isKept v_keptHall v_keptHeard v_h v_kindOf v_stopsAt hq8) qv_X12_silentFrom ml_X12_108 (hP.sub [0, 1, 2] rfl) hK (va_recv hK.1 hP (ci := 12) (q0 := 0) rfl rfl) rfl hl.1 rfl (Nat.le_of_ble_eq_true rfl) dX12_getter_49 ⟨(Nat.le_of_ble_eq_true rfl), (Nat.le_of_ble_eq_true rfl)⟩ ⟨(Nat.le_of_ble_eq_true rfl), (Nat.le_of_ble_eq_true rfl)⟩ ?_
        refine W.eq (g2 := F0 m 52 ls (.int q8 :: [])) rfl ?_
        refine lv_iload_n hx hb dX12_getter_52 rfl (lv_at hl 2 rfl) ?_
        refine lv_icmp_ne (tgt := 61) hx hb dX12_getter_53 (by decide) (fun h9 => ?_) (fun h9 => ?_)
        · have hf := o_f h9 hf
          refine lv_iload_n hx hb dX12_getter_61 rfl (lv_at hl 1 rfl) ?_
          refine lv_istore_n (lv' := [(3, .int y3), (4, .int y4), (2, .int y2), (0, .ref aM)]) hx hb dX12_getter_62 rfl hl (by decide) rfl (fun ls hl => ?_)
          obtain ⟨z10, ez10⟩ : ∃ y : Int32, y = y4 + 1 := ⟨_, rfl⟩
          have hf := o_bnd ez10 hf
          refine lv_iinc (v := z10) (lv' := [(4, .int z10), (3, .int y3), (2, .int y2), (0, .ref aM)]) hx hb dX12_getter_63 hl (k := 1) rfl (by rw [ez10]; rfl) (by decide) rfl (fun ls hl => ?_)
          refine lv_goto (tgt := 37) hx hb dX12_getter_66 (by decide) ?_
          exact ih z10 y3 y2 _ hf ls (lv_sub hl [0, 1, 2, 3] rfl) kx
        · have hf := o_t h9 hf
          refine lv_iload hx hb dX12_getter_56 (lv_at hl 0 rfl) ?_
          refine lv_goto (tgt := 62) hx hb dX12_getter_58 (by decide) ?_
          refine lv_istore_n (lv' := [(3, .int y4), (4, .int y4), (2, .int y2), (0, .ref aM)]) hx hb dX12_getter_62 rfl hl (by decide) rfl (fun ls hl => ?_)
          obtain ⟨z11, ez11⟩ : ∃ y : Int32, y = y4 + 1 := ⟨_, rfl⟩
          have hf := o_bnd ez11 hf
          refine lv_iinc (v := z11) (lv' := [(4, .int z11), (3, .int y4), (2, .int y2), (0, .ref aM)]) hx hb dX12_getter_63 hl (k := 1) rfl (by rw [ez11]; rfl) (by decide) rfl (fun ls hl => ?_)
          refine lv_goto (tgt := 37) hx hb dX12_getter_66 (by decide) ?_
          exact ih z11 y4 y2 _ hf ls (lv_sub hl [0, 1, 2, 3] rfl) kx
  unfold f_X12_getter at hf
  refine lv_aload_n hx hb dX12_getter_0 rfl (lv_at hl 0 rfl) ?_
  refine lv_iconst (v := 0) hx hb dX12_getter_1 (by decide) ?_
  obtain ⟨q1, hq1, hf⟩ := o_bind hf
  refine k_rV F (c_X12_nextSilence l g aM rM 0 v_halls v_bidders v_fall v_heard v_asks v_pageLength v_isWhole v_newMany v_seedNow v_isKept v_keptHall v_keptHeard v_h v_kindOf v_stopsAt hq1) qv_X12_nextSilence ml_X12_111 (hP.sub [0, 1, 2] rfl) hK (va_recv hK.1 hP (ci := 12) (q0 := 0) rfl rfl) rfl hl.1 rfl (Nat.le_of_ble_eq_true rfl) dX12_getter_2 ⟨(Nat.le_of_ble_eq_true rfl), (Nat.le_of_ble_eq_true rfl)⟩ ⟨(Nat.le_of_ble_eq_true rfl), (Nat.le_of_ble_eq_true rfl)⟩ ?_
  refine W.eq (g2 := F0 m 5 ls (.int q1 :: [])) rfl ?_
  refine lv_istore_n (lv' := [(1, .int q1), (0, .ref aM)]) hx hb dX12_getter_5 rfl hl (by decide) rfl (fun ls hl => ?_)
  refine lv_aload_n hx hb dX12_getter_6 rfl (lv_at hl 1 rfl) ?_
  refine lv_iload_n hx hb dX12_getter_7 rfl (lv_at hl 0 rfl) ?_
  obtain ⟨q2, hq2, hf⟩ := o_bind hf
  refine k_rV F (c_X12_nextSilence l g aM rM q1 v_halls v_bidders v_fall v_heard v_asks v_pageLength v_isWhole v_newMany v_seedNow v_isKept v_keptHall v_keptHeard v_h v_kindOf v_stopsAt hq2) qv_X12_nextSilence ml_X12_111 (hP.sub [0, 1, 2] rfl) hK (va_recv hK.1 hP (ci := 12) (q0 := 0) rfl rfl) rfl hl.1 rfl (Nat.le_of_ble_eq_true rfl) dX12_getter_8 ⟨(Nat.le_of_ble_eq_true rfl), (Nat.le_of_ble_eq_true rfl)⟩ ⟨(Nat.le_of_ble_eq_true rfl), (Nat.le_of_ble_eq_true rfl)⟩ ?_
  refine W.eq (g2 := F0 m 11 ls (.int q2 :: [])) rfl ?_
  refine lv_istore_n (lv' := [(2, .int q2), (1, .int q1), (0, .ref aM)]) hx hb dX12_getter_11 rfl hl (by decide) rfl (fun ls hl => ?_)
  refine lv_aload_n hx hb dX12_getter_12 rfl (lv_at hl 2 rfl) ?_
  refine lv_iload_n hx hb dX12_getter_13 rfl (lv_at hl 1 rfl) ?_
  obtain ⟨q3, hq3, hf⟩ := o_bind hf
  refine k_rV F (c_X12_manySilent l g aM rM q1 v_halls v_bidders v_fall v_heard v_asks v_pageLength v_isWhole v_newMany v_seedNow v_isKept v_keptHall v_keptHeard v_h v_kindOf v_stopsAt hq3) qv_X12_manySilent ml_X12_114 (hP.sub [0, 1, 2] rfl) hK (va_recv hK.1 hP (ci := 12) (q0 := 0) rfl rfl) rfl hl.1 rfl (Nat.le_of_ble_eq_true rfl) dX12_getter_14 ⟨(Nat.le_of_ble_eq_true rfl), (Nat.le_of_ble_eq_true rfl)⟩ ⟨(Nat.le_of_ble_eq_true rfl), (Nat.le_of_ble_eq_true rfl)⟩ ?_
  refine W.eq (g2 := F0 m 17 ls (.int q3 :: [])) rfl ?_
  refine lv_iconst (v := 1) hx hb dX12_getter_17 (by decide) ?_
  refine lv_icmp_ne (tgt := 30) hx hb dX12_getter_18 (by decide) (fun h4 => ?_) (fun h4 => ?_)
  · have hf := o_f h4 hf
    refine lv_iconst (v := (-1)) hx hb dX12_getter_30 (by decide) ?_
    exact r_ri F hQ (Option.some.inj hf) dX12_getter_31
  · have hf := o_t h4 hf
    refine lv_aload_n hx hb dX12_getter_21 rfl (lv_at hl 2 rfl) ?_
    refine lv_iload_n hx hb dX12_getter_22 rfl (lv_at hl 0 rfl) ?_
    obtain ⟨q5, hq5, hf⟩ := o_bind hf
    refine k_rV F (c_X12_manySilent l g aM rM q2 v_halls v_bidders v_fall v_heard v_asks v_pageLength v_isWhole v_newMany v_seedNow v_isKept v_keptHall v_keptHeard v_h v_kindOf v_stopsAt hq5) qv_X12_manySilent ml_X12_114 (hP.sub [0, 1, 2] rfl) hK (va_recv hK.1 hP (ci := 12) (q0 := 0) rfl rfl) rfl hl.1 rfl (Nat.le_of_ble_eq_true rfl) dX12_getter_23 ⟨(Nat.le_of_ble_eq_true rfl), (Nat.le_of_ble_eq_true rfl)⟩ ⟨(Nat.le_of_ble_eq_true rfl), (Nat.le_of_ble_eq_true rfl)⟩ ?_
    refine W.eq (g2 := F0 m 26 ls (.int q5 :: [])) rfl ?_
    refine lv_iconst (v := 1) hx hb dX12_getter_26 (by decide) ?_
    refine lv_icmp_eq (tgt := 32) hx hb dX12_getter_27 (by decide) (fun h6 => ?_) (fun h6 => ?_)
    · have hf := o_t h6 hf
      refine lv_iconst (v := (-1)) hx hb dX12_getter_32 (by decide) ?_
      refine lv_istore_n (lv' := [(3, .int (-1)), (2, .int q2), (1, .int q1), (0, .ref aM)]) hx hb dX12_getter_33 rfl hl (by decide) rfl (fun ls hl => ?_)
      refine lv_iconst (v := 0) hx hb dX12_getter_34 (by decide) ?_
      refine lv_istore (lv' := [(4, .int 0), (3, .int (-1)), (2, .int q2), (1, .int q1), (0, .ref aM)]) hx hb dX12_getter_35 hl (by decide) rfl (fun ls hl => ?_)
      obtain ⟨q12, hq12, hf⟩ := o_bind hf
      refine L37 _ 0 (-1) q2 _ hq12 ls (lv_sub hl [0, 1, 2, 4] rfl) (fun ls hl => ?_)
      refine lv_iload_n hx hb dX12_getter_69 rfl (lv_at hl 1 rfl) ?_
      exact r_ri F hQ (Option.some.inj hf) dX12_getter_70
    · have hf := o_f h6 hf
      refine lv_iconst (v := (-1)) hx hb dX12_getter_30 (by decide) ?_
      exact r_ri F hQ (Option.some.inj hf) dX12_getter_31
