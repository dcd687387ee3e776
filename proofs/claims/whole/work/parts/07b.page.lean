def f_X7_fits (x0 : Int32) (x1 : Int32) (x2 : Int32) : Option (Int32) := (if x1 < x2 then (if (x1 - x1 / 5 * 5) = 0 then ((f_X7_kindOf x0).bind fun q3 => (if q3 = (-1) then (some 0) else (some 1))) else (if (x1 - x1 / 5 * 5) = 1 then ((f_X7_isDigit x0).bind fun q6 => (if q6 = 0 then (some 0) else (if x0 = 48 then (some 0) else (some 1)))) else (if (x1 - x1 / 5 * 5) = 2 then ((f_X7_isDigit x0).bind fun q10 => (if ¬ (q10 = 0 ∨ q10 = 1) then none else (some q10))) else (if (x1 - x1 / 5 * 5) = 3 then ((f_X7_isDigit x0).bind fun q13 => (if ¬ (q13 = 0 ∨ q13 = 1) then none else (some q13))) else (if (x1 - x1 / 5 * 5) = 4 then ((f_X7_fitsBehindBidder x0 ((x1 / 5) + 1)).bind fun q16 => (if ¬ (q16 = 0 ∨ q16 = 1) then none else (some q16))) else ((f_X7_isDigit x0).bind fun q18 => (if ¬ (q18 = 0 ∨ q18 = 1) then none else (some q18)))))))) else (if x1 = x2 then ((f_X7_isDigit x0).bind fun q21 => (if q21 = 0 then (some 0) else (some 1))) else (some 0)))
set_option maxRecDepth 100000 in
set_option maxHeartbeats 4000000 in
theorem c_X7_fits (l : Launch) (g : GG) (qs : Nat × Nat) (x0 : Int32) (x1 : Int32) (x2 : Int32) {r0 : Int32} (hf : f_X7_fits x0 x1 x2 = some r0) : MRX l g yX7_fits cX7_fits 3 (some .boolean) 5 111 [.int x0, .int x1, .int x2] [] qs (some (.int r0)) := by
  refine MRX.mk (by decide) (Nat.le_of_ble_eq_true rfl) ?_
  intro p e s m args below meth c ls Q F hK hP hX hl hQ
  have hx := F.1
  have hb := F.2.1
  have hml := F.2.2.2.1
  have hown := F.2.2.2.2.1
  have hts := F.2.2.2.2.2.1
  have hl : lv_has ls 3 [(0, .int x0), (1, .int x1), (2, .int x2)] := hl
  unfold f_X7_fits at hf
  refine lv_iload_n hx hb dX7_fits_0 rfl (lv_at hl 1 rfl) ?_
  refine lv_iload_n hx hb dX7_fits_1 rfl (lv_at hl 2 rfl) ?_
  refine lv_icmp_lt (tgt := 23) hx hb dX7_fits_2 (by decide) (fun h1 => ?_) (fun h1 => ?_)
  · have hf := o_t h1 hf
    refine lv_iload_n hx hb dX7_fits_23 rfl (lv_at hl 1 rfl) ?_
    refine lv_iconst (v := 5) hx hb dX7_fits_24 (by decide) ?_
    refine lv_irem hx hb dX7_fits_25 (by decide) ?_
    by_cases h2 : (x1 - x1 / 5 * 5) = 0
    · have hf := o_t h2 hf
      refine lv_tableIn (off := 34) (tgt := 60) hx hb dX7_fits_26 (by rw [h2]; decide) (by rw [h2]; decide) (by rw [h2]; rfl) (by decide) ?_
      refine lv_iload_n hx hb dX7_fits_60 rfl (lv_at hl 0 rfl) ?_
      obtain ⟨q3, hq3, hf⟩ := o_bind hf
      refine k_xS F (c_X7_kindOf l g qs x0 hq3) qs_X7_kindOf ml_X7_27 (hP.sub [] rfl) hK hX rfl hl.1 rfl (Nat.le_of_ble_eq_true rfl) dX7_fits_61 ⟨(Nat.le_of_ble_eq_true rfl), (Nat.le_of_ble_eq_true rfl)⟩ ⟨(Nat.le_of_ble_eq_true rfl), (Nat.le_of_ble_eq_true rfl)⟩ ?_
      refine W.eq (g2 := F0 m 64 ls (.int q3 :: [])) rfl ?_
      refine lv_iconst (v := (-1)) hx hb dX7_fits_64 (by decide) ?_
      refine lv_icmp_eq (tgt := 72) hx hb dX7_fits_65 (by decide) (fun h4 => ?_) (fun h4 => ?_)
      · have hf := o_t h4 hf
        refine lv_iconst (v := 0) hx hb dX7_fits_72 (by decide) ?_
        exact r_rz F hQ (by decide) (Option.some.inj hf) dX7_fits_73
      · have hf := o_f h4 hf
        refine lv_iconst (v := 1) hx hb dX7_fits_68 (by decide) ?_
        refine lv_goto (tgt := 73) hx hb dX7_fits_69 (by decide) ?_
        exact r_rz F hQ (by decide) (Option.some.inj hf) dX7_fits_73
    · have hf := o_f h2 hf
      by_cases h5 : (x1 - x1 / 5 * 5) = 1
      · have hf := o_t h5 hf
        refine lv_tableIn (off := 48) (tgt := 74) hx hb dX7_fits_26 (by rw [h5]; decide) (by rw [h5]; decide) (by rw [h5]; rfl) (by decide) ?_
        refine lv_iload_n hx hb dX7_fits_74 rfl (lv_at hl 0 rfl) ?_
        obtain ⟨q6, hq6, hf⟩ := o_bind hf
        refine k_rS F (c_X7_isDigit l g x0 hq6) qs_X7_isDigit ml_X7_23 (hP.sub [] rfl) hK rfl hl.1 rfl (Nat.le_of_ble_eq_true rfl) dX7_fits_75 ⟨(Nat.le_of_ble_eq_true rfl), (Nat.le_of_ble_eq_true rfl)⟩ ⟨(Nat.le_of_ble_eq_true rfl), (Nat.le_of_ble_eq_true rfl)⟩ ?_
        refine W.eq (g2 := F0 m 78 ls (.int q6 :: [])) rfl ?_
        refine lv_if_eq (tgt := 91) hx hb dX7_fits_78 (by decide) (fun h7 => ?_) (fun h7 => ?_)
        · have hf := o_t h7 hf
          refine lv_iconst (v := 0) hx hb dX7_fits_91 (by decide) ?_
          exact r_rz F hQ (by decide) (Option.some.inj hf) dX7_fits_92
        · have hf := o_f h7 hf
          refine lv_iload_n hx hb dX7_fits_81 rfl (lv_at hl 0 rfl) ?_
          refine lv_bipush (v := 48) hx hb dX7_fits_82 (by decide) ?_
          refine lv_icmp_eq (tgt := 91) hx hb dX7_fits_84 (by decide) (fun h8 => ?_) (fun h8 => ?_)
          · have hf := o_t h8 hf
            refine lv_iconst (v := 0) hx hb dX7_fits_91 (by decide) ?_
            exact r_rz F hQ (by decide) (Option.some.inj hf) dX7_fits_92
          · have hf := o_f h8 hf
            refine lv_iconst (v := 1) hx hb dX7_fits_87 (by decide) ?_
            refine lv_goto (tgt := 92) hx hb dX7_fits_88 (by decide) ?_
            exact r_rz F hQ (by decide) (Option.some.inj hf) dX7_fits_92
      · have hf := o_f h5 hf
        by_cases h9 : (x1 - x1 / 5 * 5) = 2
        · have hf := o_t h9 hf
          refine lv_tableIn (off := 77) (tgt := 103) hx hb dX7_fits_26 (by rw [h9]; decide) (by rw [h9]; decide) (by rw [h9]; rfl) (by decide) ?_
          refine lv_iload_n hx hb dX7_fits_103 rfl (lv_at hl 0 rfl) ?_
          obtain ⟨q10, hq10, hf⟩ := o_bind hf
          refine k_rS F (c_X7_isDigit l g x0 hq10) qs_X7_isDigit ml_X7_23 (hP.sub [] rfl) hK rfl hl.1 rfl (Nat.le_of_ble_eq_true rfl) dX7_fits_104 ⟨(Nat.le_of_ble_eq_true rfl), (Nat.le_of_ble_eq_true rfl)⟩ ⟨(Nat.le_of_ble_eq_true rfl), (Nat.le_of_ble_eq_true rfl)⟩ ?_
          refine W.eq (g2 := F0 m 107 ls (.int q10 :: [])) rfl ?_
          obtain ⟨h11, hf⟩ := o_chk hf
          exact r_rz F hQ (Decidable.not_not.mp h11) (Option.some.inj hf) dX7_fits_107
        · have hf := o_f h9 hf
          by_cases h12 : (x1 - x1 / 5 * 5) = 3
          · have hf := o_t h12 hf
            refine lv_tableIn (off := 77) (tgt := 103) hx hb dX7_fits_26 (by rw [h12]; decide) (by rw [h12]; decide) (by rw [h12]; rfl) (by decide) ?_
            refine lv_iload_n hx hb dX7_fits_103 rfl (lv_at hl 0 rfl) ?_
            obtain ⟨q13, hq13, hf⟩ := o_bind hf
            refine k_rS F (c_X7_isDigit l g x0 hq13) qs_X7_isDigit ml_X7_23 (hP.sub [] rfl) hK rfl hl.1 rfl (Nat.le_of_ble_eq_true rfl) dX7_fits_104 ⟨(Nat.le_of_ble_eq_true rfl), (Nat.le_of_ble_eq_true rfl)⟩ ⟨(Nat.le_of_ble_eq_true rfl), (Nat.le_of_ble_eq_true rfl)⟩ ?_
            refine W.eq (g2 := F0 m 107 ls (.int q13 :: [])) rfl ?_
            obtain ⟨h14, hf⟩ := o_chk hf
            exact r_rz F hQ (Decidable.not_not.mp h14) (Option.some.inj hf) dX7_fits_107
          · have hf := o_f h12 hf
            by_cases h15 : (x1 - x1 / 5 * 5) = 4
            · have hf := o_t h15 hf
              refine lv_tableIn (off := 67) (tgt := 93) hx hb dX7_fits_26 (by rw [h15]; decide) (by rw [h15]; decide) (by rw [h15]; rfl) (by decide) ?_
              refine lv_iload_n hx hb dX7_fits_93 rfl (lv_at hl 0 rfl) ?_
              refine lv_iload_n hx hb dX7_fits_94 rfl (lv_at hl 1 rfl) ?_
              refine lv_iconst (v := 5) hx hb dX7_fits_95 (by decide) ?_
              refine lv_idiv hx hb dX7_fits_96 (by decide) ?_
              refine lv_iconst (v := 1) hx hb dX7_fits_97 (by decide) ?_
              refine lv_iadd hx hb dX7_fits_98 ?_
              obtain ⟨q16, hq16, hf⟩ := o_bind hf
              refine k_rS F (c_X7_fitsBehindBidder l g x0 ((x1 / 5) + 1) hq16) qs_X7_fitsBehindBidder ml_X7_31 (hP.sub [] rfl) hK rfl hl.1 rfl (Nat.le_of_ble_eq_true rfl) dX7_fits_99 ⟨(Nat.le_of_ble_eq_true rfl), (Nat.le_of_ble_eq_true rfl)⟩ ⟨(Nat.le_of_ble_eq_true rfl), (Nat.le_of_ble_eq_true rfl)⟩ ?_
              refine W.eq (g2 := F0 m 102 ls (.int q16 :: [])) rfl ?_
              obtain ⟨h17, hf⟩ := o_chk hf
              exact r_rz F hQ (Decidable.not_not.mp h17) (Option.some.inj hf) dX7_fits_102
            · have hf := o_f h15 hf
              refine lv_tableOut (tgt := 103) hx hb dX7_fits_26 (by have := tI h2 (k := 0) rfl; have := tI h5 (k := 1) rfl; have := tI h9 (k := 2) rfl; have := tI h12 (k := 3) rfl; have := tI h15 (k := 4) rfl; omega) (by decide) ?_
              refine lv_iload_n hx hb dX7_fits_103 rfl (lv_at hl 0 rfl) ?_
              obtain ⟨q18, hq18, hf⟩ := o_bind hf
              refine k_rS F (c_X7_isDigit l g x0 hq18) qs_X7_isDigit ml_X7_23 (hP.sub [] rfl) hK rfl hl.1 rfl (Nat.le_of_ble_eq_true rfl) dX7_fits_104 ⟨(Nat.le_of_ble_eq_true rfl), (Nat.le_of_ble_eq_true rfl)⟩ ⟨(Nat.le_of_ble_eq_true rfl), (Nat.le_of_ble_eq_true rfl)⟩ ?_
              refine W.eq (g2 := F0 m 107 ls (.int q18 :: [])) rfl ?_
              obtain ⟨h19, hf⟩ := o_chk hf
              exact r_rz F hQ (Decidable.not_not.mp h19) (Option.some.inj hf) dX7_fits_107
  · have hf := o_f h1 hf
    refine lv_iload_n hx hb dX7_fits_5 rfl (lv_at hl 1 rfl) ?_
    refine lv_iload_n hx hb dX7_fits_6 rfl (lv_at hl 2 rfl) ?_
    refine lv_icmp_ne (tgt := 21) hx hb dX7_fits_7 (by decide) (fun h20 => ?_) (fun h20 => ?_)
    · have hf := o_f h20 hf
      refine lv_iconst (v := 0) hx hb dX7_fits_21 (by decide) ?_
      exact r_rz F hQ (by decide) (Option.some.inj hf) dX7_fits_22
    · have hf := o_t h20 hf
      refine lv_iload_n hx hb dX7_fits_10 rfl (lv_at hl 0 rfl) ?_
      obtain ⟨q21, hq21, hf⟩ := o_bind hf
      refine k_rS F (c_X7_isDigit l g x0 hq21) qs_X7_isDigit ml_X7_23 (hP.sub [] rfl) hK rfl hl.1 rfl (Nat.le_of_ble_eq_true rfl) dX7_fits_11 ⟨(Nat.le_of_ble_eq_true rfl), (Nat.le_of_ble_eq_true rfl)⟩ ⟨(Nat.le_of_ble_eq_true rfl), (Nat.le_of_ble_eq_true rfl)⟩ ?_
      refine W.eq (g2 := F0 m 14 ls (.int q21 :: [])) rfl ?_
      refine lv_if_eq (tgt := 21) hx hb dX7_fits_14 (by decide) (fun h22 => ?_) (fun h22 => ?_)
      · have hf := o_t h22 hf
        refine lv_iconst (v := 0) hx hb dX7_fits_21 (by decide) ?_
        exact r_rz F hQ (by decide) (Option.some.inj hf) dX7_fits_22
      · have hf := o_f h22 hf
        refine lv_iconst (v := 1) hx hb dX7_fits_17 (by decide) ?_
        refine lv_goto (tgt := 22) hx hb dX7_fits_18 (by decide) ?_
        exact r_rz F hQ (by decide) (Option.some.inj hf) dX7_fits_22
def f_X7_faultPlace_5 (fuel : Nat) (v_codes : Nat → Int32) (v_length : Int32) (y2 : Int32) (y1 : Int32) : Option (Int32) := match fuel with
  | 0 => none
  | k + 1 => (if v_length ≤ y2 then (some v_length) else (if y2 < 0 ∨ 28 ≤ Int32.toNatClampNeg y2 then none else ((f_X7_fits (v_codes (Int32.toNatClampNeg y2)) y2 y1).bind fun q3 => (if q3 = 0 then (some y2) else (if (v_codes (Int32.toNatClampNeg y2)) = 59 then (bnd (y2 + 1) fun z7 => (bnd (y2 + 1 : Int32) fun z8 => (f_X7_faultPlace_5 k v_codes v_length z8 z7))) else (bnd (y2 + 1 : Int32) fun z6 => (f_X7_faultPlace_5 k v_codes v_length z6 y1)))))))
def f_X7_faultPlace (v_codes : Nat → Int32) (v_length : Int32) : Option (Int32) := (f_X7_faultPlace_5 4096 v_codes v_length 0 28)
set_option maxRecDepth 100000 in
set_option maxHeartbeats 4000000 in
theorem c_X7_faultPlace (l : Launch) (g : GG) (qs : Nat × Nat) (a_this : Nat) (a_this_codes : Nat) (v_length : Int32) (v_codes : Nat → Int32) {r0 : Int32} (hf : f_X7_faultPlace v_codes v_length = some r0) : MRX l g yX7_faultPlace cX7_faultPlace 3 (some .int) 6 133 [.ref a_this] [ob a_this 5 [.ref a_this_codes, .int v_length], ia g a_this_codes 28 v_codes] qs (some (.int r0)) := by
  refine MRX.mk (by decide) (Nat.le_of_ble_eq_true rfl) ?_
  intro p e s m args below meth c ls Q F hK hP hX hl hQ
  have hx := F.1
  have hb := F.2.1
  have hml := F.2.2.2.1
  have hown := F.2.2.2.2.1
  have hts := F.2.2.2.2.2.1
  have hl : lv_has ls 3 [(0, .ref a_this)] := hl
  have L5 : ∀ (k : Nat) (y2 : Int32) (y1 : Int32) (_q : Unit), f_X7_faultPlace_5 k v_codes v_length y2 y1 = some r0 → ∀ (ls : Array Slot), lv_has ls 3 [(2, .int y2), (1, .int y1), (0, .ref a_this)] → W p l e (rmc 6 0 0 133) s m args below meth c s.heap [] 0 0 Q (F0 m 5 ls []) := by
    intro k
    induction k with
    | zero => intro y2 y1 q hf; rw [f_X7_faultPlace_5] at hf; cases hf
    | succ k ih =>
      intro y2 y1 q hf ls hl
      rw [f_X7_faultPlace_5] at hf
      refine lv_iload_n hx hb dX7_faultPlace_5 rfl (lv_at hl 0 rfl) ?_
      refine lv_aload_n hx hb dX7_faultPlace_6 rfl (lv_at hl 2 rfl) ?_
      refine w_get (ci := 5) F hK hP fb_X7 0 rfl rfl 1 (by decide) fl_X7_15 (fun _ h => h) rfl dX7_faultPlace_7 ?_
      refine lv_icmp_ge (tgt := 50) hx hb dX7_faultPlace_10 (by decide) (fun h1 => ?_) (fun h1 => ?_)
      · have hf := o_t h1 hf
        refine lv_aload_n hx hb dX7_faultPlace_50 rfl (lv_at hl 2 rfl) ?_
        refine w_get (ci := 5) F hK hP fb_X7 0 rfl rfl 1 (by decide) fl_X7_15 (fun _ h => h) rfl dX7_faultPlace_51 ?_
        exact r_ri F hQ (Option.some.inj hf) dX7_faultPlace_54
      · have hf := o_f h1 hf
        refine lv_aload_n hx hb dX7_faultPlace_13 rfl (lv_at hl 2 rfl) ?_
        refine w_get (ci := 5) F hK hP fb_X7 0 rfl rfl 0 (by decide) fl_X7_11 (fun _ h => h) rfl dX7_faultPlace_14 ?_
        refine lv_iload_n hx hb dX7_faultPlace_17 rfl (lv_at hl 0 rfl) ?_
        obtain ⟨h2, hf⟩ := o_chk hf
        refine w_iald F hK hP 1 rfl h2 dX7_faultPlace_18 ?_
        refine lv_iload_n hx hb dX7_faultPlace_19 rfl (lv_at hl 0 rfl) ?_
        refine lv_iload_n hx hb dX7_faultPlace_20 rfl (lv_at hl 1 rfl) ?_
        obtain ⟨q3, hq3, hf⟩ := o_bind hf
        refine k_xS F (c_X7_fits l g qs (v_codes (Int32.toNatClampNeg y2)) y2 y1 hq3) qs_X7_fits ml_X7_19 (hP.sub [] rfl) hK hX rfl hl.1 rfl (Nat.le_of_ble_eq_true rfl) dX7_faultPlace_21 ⟨(Nat.le_of_ble_eq_true rfl), (Nat.le_of_ble_eq_true rfl)⟩ ⟨(Nat.le_of_ble_eq_true rfl), (Nat.le_of_ble_eq_true rfl)⟩ ?_
        refine W.eq (g2 := F0 m 24 ls (.int q3 :: [])) rfl ?_
        refine lv_if_ne (tgt := 29) hx hb dX7_faultPlace_24 (by decide) (fun h4 => ?_) (fun h4 => ?_)
        · have hf := o_f h4 hf
          refine lv_aload_n hx hb dX7_faultPlace_29 rfl (lv_at hl 2 rfl) ?_
          refine w_get (ci := 5) F hK hP fb_X7 0 rfl rfl 0 (by decide) fl_X7_11 (fun _ h => h) rfl dX7_faultPlace_30 ?_
          refine lv_iload_n hx hb dX7_faultPlace_33 rfl (lv_at hl 0 rfl) ?_
          refine w_iald F hK hP 1 rfl h2 dX7_faultPlace_34 ?_
          refine lv_bipush (v := 59) hx hb dX7_faultPlace_35 (by decide) ?_
          refine lv_icmp_ne (tgt := 44) hx hb dX7_faultPlace_37 (by decide) (fun h5 => ?_) (fun h5 => ?_)
          · have hf := o_f h5 hf
            obtain ⟨z6, ez6⟩ : ∃ y : Int32, y = y2 + 1 := ⟨_, rfl⟩
            have hf := o_bnd ez6 hf
            refine lv_iinc (v := z6) (lv' := [(2, .int z6), (1, .int y1), (0, .ref a_this)]) hx hb dX7_faultPlace_44 hl (k := 0) rfl (by rw [ez6]; rfl) (by decide) rfl (fun ls hl => ?_)
            refine lv_goto (tgt := 5) hx hb dX7_faultPlace_47 (by decide) ?_
            exact ih z6 y1 () hf ls (lv_sub hl [0, 1, 2] rfl)
          · have hf := o_t h5 hf
            refine lv_iload_n hx hb dX7_faultPlace_40 rfl (lv_at hl 0 rfl) ?_
            refine lv_iconst (v := 1) hx hb dX7_faultPlace_41 (by decide) ?_
            refine lv_iadd hx hb dX7_faultPlace_42 ?_
            refine lv_topi (fun z7 ez7 => ?_)
            have hf := o_bnd ez7 hf
            refine lv_istore_n (lv' := [(1, .int z7), (2, .int y2), (0, .ref a_this)]) hx hb dX7_faultPlace_43 rfl hl (by decide) rfl (fun ls hl => ?_)
            obtain ⟨z8, ez8⟩ : ∃ y : Int32, y = y2 + 1 := ⟨_, rfl⟩
            have hf := o_bnd ez8 hf
            refine lv_iinc (v := z8) (lv' := [(2, .int z8), (1, .int z7), (0, .ref a_this)]) hx hb dX7_faultPlace_44 hl (k := 1) rfl (by rw [ez8]; rfl) (by decide) rfl (fun ls hl => ?_)
            refine lv_goto (tgt := 5) hx hb dX7_faultPlace_47 (by decide) ?_
            exact ih z8 z7 () hf ls (lv_sub hl [0, 1, 2] rfl)
        · have hf := o_t h4 hf
          refine lv_iload_n hx hb dX7_faultPlace_27 rfl (lv_at hl 0 rfl) ?_
          exact r_ri F hQ (Option.some.inj hf) dX7_faultPlace_28
  unfold f_X7_faultPlace at hf
  refine lv_bipush (v := 28) hx hb dX7_faultPlace_0 (by decide) ?_
  refine lv_istore_n (lv' := [(1, .int 28), (0, .ref a_this)]) hx hb dX7_faultPlace_2 rfl hl (by decide) rfl (fun ls hl => ?_)
  refine lv_iconst (v := 0) hx hb dX7_faultPlace_3 (by decide) ?_
  refine lv_istore_n (lv' := [(2, .int 0), (1, .int 28), (0, .ref a_this)]) hx hb dX7_faultPlace_4 rfl hl (by decide) rfl (fun ls hl => ?_)
  exact L5 _ 0 28 () hf ls (lv_sub hl [0, 1, 2] rfl)
def f_X7_isHall (v_codes : Nat → Int32) (v_length : Int32) : Option (Int32) := (if v_length < 2 then (some 0) else (if (v_length - 2) < 0 ∨ 28 ≤ Int32.toNatClampNeg (v_length - 2) then none else (if (v_codes (Int32.toNatClampNeg (v_length - 2))) = 59 then ((f_X7_faultPlace v_codes v_length).bind fun q4 => (if q4 = v_length then (some 1) else (some 0))) else (some 0))))
set_option maxRecDepth 100000 in
set_option maxHeartbeats 4000000 in
theorem c_X7_isHall (l : Launch) (g : GG) (qs : Nat × Nat) (a_this : Nat) (a_this_codes : Nat) (v_length : Int32) (v_codes : Nat → Int32) {r0 : Int32} (hf : f_X7_isHall v_codes v_length = some r0) : MRX l g yX7_isHall cX7_isHall 1 (some .boolean) 7 155 [.ref a_this] [ob a_this 5 [.ref a_this_codes, .int v_length], ia g a_this_codes 28 v_codes] qs (some (.int r0)) := by
  refine MRX.mk (by decide) (Nat.le_of_ble_eq_true rfl) ?_
  intro p e s m args below meth c ls Q F hK hP hX hl hQ
  have hx := F.1
  have hb := F.2.1
  have hml := F.2.2.2.1
  have hown := F.2.2.2.2.1
  have hts := F.2.2.2.2.2.1
  have hl : lv_has ls 1 [(0, .ref a_this)] := hl
  unfold f_X7_isHall at hf
  refine lv_aload_n hx hb dX7_isHall_0 rfl (lv_at hl 0 rfl) ?_
  refine w_get (ci := 5) F hK hP fb_X7 0 rfl rfl 1 (by decide) fl_X7_15 (fun _ h => h) rfl dX7_isHall_1 ?_
  refine lv_iconst (v := 2) hx hb dX7_isHall_4 (by decide) ?_
  refine lv_icmp_lt (tgt := 39) hx hb dX7_isHall_5 (by decide) (fun h1 => ?_) (fun h1 => ?_)
  · have hf := o_t h1 hf
    refine lv_iconst (v := 0) hx hb dX7_isHall_39 (by decide) ?_
    exact r_rz F hQ (by decide) (Option.some.inj hf) dX7_isHall_40
  · have hf := o_f h1 hf
    refine lv_aload_n hx hb dX7_isHall_8 rfl (lv_at hl 0 rfl) ?_
    refine w_get (ci := 5) F hK hP fb_X7 0 rfl rfl 0 (by decide) fl_X7_11 (fun _ h => h) rfl dX7_isHall_9 ?_
    refine lv_aload_n hx hb dX7_isHall_12 rfl (lv_at hl 0 rfl) ?_
    refine w_get (ci := 5) F hK hP fb_X7 0 rfl rfl 1 (by decide) fl_X7_15 (fun _ h => h) rfl dX7_isHall_13 ?_
    refine lv_iconst (v := 2) hx hb dX7_isHall_16 (by decide) ?_
    refine lv_isub hx hb dX7_isHall_17 ?_
    obtain ⟨h2, hf⟩ := o_chk hf
    refine w_iald F hK hP 1 rfl h2 dX7_isHall_18 ?_
    refine lv_bipush (v := 59) hx hb dX7_isHall_19 (by decide) ?_
    refine lv_icmp_ne (tgt := 39) hx hb dX7_isHall_21 (by decide) (fun h3 => ?_) (fun h3 => ?_)
    · have hf := o_f h3 hf
      refine lv_iconst (v := 0) hx hb dX7_isHall_39 (by decide) ?_
      exact r_rz F hQ (by decide) (Option.some.inj hf) dX7_isHall_40
    · have hf := o_t h3 hf
      refine lv_aload_n hx hb dX7_isHall_24 rfl (lv_at hl 0 rfl) ?_
      obtain ⟨q4, hq4, hf⟩ := o_bind hf
      refine k_xV F (c_X7_faultPlace l g qs a_this a_this_codes v_length v_codes hq4) qv_X7_faultPlace ml_X7_42 (hP.sub [0, 1] rfl) hK hX (va_recv hK.1 hP (ci := 5) (q0 := 0) rfl rfl) rfl hl.1 rfl (Nat.le_of_ble_eq_true rfl) dX7_isHall_25 ⟨(Nat.le_of_ble_eq_true rfl), (Nat.le_of_ble_eq_true rfl)⟩ ⟨(Nat.le_of_ble_eq_true rfl), (Nat.le_of_ble_eq_true rfl)⟩ ?_
      refine W.eq (g2 := F0 m 28 ls (.int q4 :: [])) rfl ?_
      refine lv_aload_n hx hb dX7_isHall_28 rfl (lv_at hl 0 rfl) ?_
      refine w_get (ci := 5) F hK hP fb_X7 0 rfl rfl 1 (by decide) fl_X7_15 (fun _ h => h) rfl dX7_isHall_29 ?_
      refine lv_icmp_ne (tgt := 39) hx hb dX7_isHall_32 (by decide) (fun h5 => ?_) (fun h5 => ?_)
      · have hf := o_f h5 hf
        refine lv_iconst (v := 0) hx hb dX7_isHall_39 (by decide) ?_
        exact r_rz F hQ (by decide) (Option.some.inj hf) dX7_isHall_40
      · have hf := o_t h5 hf
        refine lv_iconst (v := 1) hx hb dX7_isHall_35 (by decide) ?_
        refine lv_goto (tgt := 40) hx hb dX7_isHall_36 (by decide) ?_
        exact r_rz F hQ (by decide) (Option.some.inj hf) dX7_isHall_40
def f_X11_fault (v_page_codes : Nat → Int32) (v_page_length : Int32) : Option (Int32) := ((f_X7_faultPlace v_page_codes v_page_length).bind fun q1 => (some q1))
set_option maxRecDepth 100000 in
set_option maxHeartbeats 4000000 in
theorem c_X11_fault (l : Launch) (g : GG) (qs : Nat × Nat) (a_this : Nat) (a_this_page : Nat) (a_this_hall : Nat) (a_this_course : Nat) (a_this_heard : Nat) (a_this_image : Nat) (a_this_rests : Nat) (a_this_page_codes : Nat) (v_hallsRead : Int32) (v_restsDone : Int32) (v_page_length : Int32) (v_page_codes : Nat → Int32) {r0 : Int32} (hf : f_X11_fault v_page_codes v_page_length = some r0) : MRX l g yX11_fault cX11_fault 1 (some .int) 7 155 [.ref a_this] [ob a_this 11 [.ref a_this_page, .ref a_this_hall, .ref a_this_course, .ref a_this_heard, .ref a_this_image, .ref a_this_rests, .int v_hallsRead, .int v_restsDone], ob a_this_page 5 [.ref a_this_page_codes, .int v_page_length], ia g a_this_page_codes 28 v_page_codes] qs (some (.int r0)) := by
  refine MRX.mk (by decide) (Nat.le_of_ble_eq_true rfl) ?_
  intro p e s m args below meth c ls Q F hK hP hX hl hQ
  have hx := F.1
  have hb := F.2.1
  have hml := F.2.2.2.1
  have hown := F.2.2.2.2.1
  have hts := F.2.2.2.2.2.1
  have hl : lv_has ls 1 [(0, .ref a_this)] := hl
  unfold f_X11_fault at hf
  refine lv_aload_n hx hb dX11_fault_0 rfl (lv_at hl 0 rfl) ?_
  refine w_get (ci := 11) F hK hP fb_X11 0 rfl rfl 0 (by decide) fl_X11_10 (fun _ h => h) rfl dX11_fault_1 ?_
  obtain ⟨q1, hq1, hf⟩ := o_bind hf
  refine k_xV F (c_X7_faultPlace l g qs a_this_page a_this_page_codes v_page_length v_page_codes hq1) qv_X7_faultPlace ml_X11_61 (hP.sub [1, 2] rfl) hK hX (va_recv hK.1 hP (ci := 5) (q0 := 1) rfl rfl) rfl hl.1 rfl (Nat.le_of_ble_eq_true rfl) dX11_fault_4 ⟨(Nat.le_of_ble_eq_true rfl), (Nat.le_of_ble_eq_true rfl)⟩ ⟨(Nat.le_of_ble_eq_true rfl), (Nat.le_of_ble_eq_true rfl)⟩ ?_
  refine W.eq (g2 := F0 m 7 ls (.int q1 :: [])) rfl ?_
  exact r_ri F hQ (Option.some.inj hf) dX11_fault_7
