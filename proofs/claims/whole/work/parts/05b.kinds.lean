theorem kc_J6_265 : Cond.constant RJ6 265 1431655765 ∈ Gw := gw_4 (List.mem_of_getElem? (i := 9) rfl) rfl
theorem kc_J6_266 : Cond.constant RJ6 266 858993459 ∈ Gw := gw_4 (List.mem_of_getElem? (i := 10) rfl) rfl
theorem kc_J6_267 : Cond.constant RJ6 267 252645135 ∈ Gw := gw_4 (List.mem_of_getElem? (i := 11) rfl) rfl
theorem qs_J6_bitCount_0f7a4 : QS yJ6_bitCount_0f7a4 cJ6_bitCount_0f7a4 1 (some .int) 1 := ⟨(by decide +kernel), gw_4 (List.mem_of_getElem? (i := 7) rfl) rfl, gw_1 (List.mem_of_getElem? (i := 20) rfl) rfl, gw_4 (List.mem_of_getElem? (i := 8) rfl) rfl⟩
def f_J6_bitCount_0f7a4 (x0 : Int32) : Option (Int32) := (bnd (x0 - ((UInt32.toInt32 (Int32.toUInt32 x0 >>> (Int32.toUInt32 1 &&& Int32.toUInt32 31))) &&& 1431655765)) fun z1 => (bnd ((z1 &&& 858993459) + ((UInt32.toInt32 (Int32.toUInt32 z1 >>> (Int32.toUInt32 2 &&& Int32.toUInt32 31))) &&& 858993459)) fun z2 => (bnd ((z2 + (UInt32.toInt32 (Int32.toUInt32 z2 >>> (Int32.toUInt32 4 &&& Int32.toUInt32 31)))) &&& 252645135) fun z3 => (bnd (z3 + (UInt32.toInt32 (Int32.toUInt32 z3 >>> (Int32.toUInt32 8 &&& Int32.toUInt32 31)))) fun z4 => (bnd (z4 + (UInt32.toInt32 (Int32.toUInt32 z4 >>> (Int32.toUInt32 16 &&& Int32.toUInt32 31)))) fun z5 => (some (z5 &&& 63)))))))
set_option maxRecDepth 100000 in
set_option maxHeartbeats 4000000 in
theorem c_J6_bitCount_0f7a4 (l : Launch) (g : GG) (x0 : Int32) {r0 : Int32} (hf : f_J6_bitCount_0f7a4 x0 = some r0) : MR l g yJ6_bitCount_0f7a4 cJ6_bitCount_0f7a4 1 (some .int) 0 0 [.int x0] [] (some (.int r0)) := by
  refine MR.mk (by decide) (Nat.le_of_ble_eq_true rfl) ?_
  intro p e s m args below meth c ls Q F hK hP hl hQ
  have hx := F.1
  have hb := F.2.1
  have hml := F.2.2.2.1
  have hown := F.2.2.2.2.1
  have hts := F.2.2.2.2.2.1
  have hl : lv_has ls 1 [(0, .int x0)] := hl
  unfold f_J6_bitCount_0f7a4 at hf
  refine lv_iload_n hx hb dJ6_bitCount_0f7a4_0 rfl (lv_at hl 0 rfl) ?_
  refine lv_iload_n hx hb dJ6_bitCount_0f7a4_1 rfl (lv_at hl 0 rfl) ?_
  refine lv_iconst (v := 1) hx hb dJ6_bitCount_0f7a4_2 (by decide) ?_
  refine lv_iushr hx hb dJ6_bitCount_0f7a4_3 rfl ?_
  refine lv_ldcw (v := 1431655765) hx hb hown (hts _ kc_J6_265) dJ6_bitCount_0f7a4_4 ?_
  refine lv_iand hx hb dJ6_bitCount_0f7a4_7 ?_
  refine lv_isub hx hb dJ6_bitCount_0f7a4_8 ?_
  refine lv_topi (fun z1 ez1 => ?_)
  have hf := o_bnd ez1 hf
  refine lv_istore_n (lv' := [(0, .int z1)]) hx hb dJ6_bitCount_0f7a4_9 rfl hl (by decide) rfl (fun ls hl => ?_)
  refine lv_iload_n hx hb dJ6_bitCount_0f7a4_10 rfl (lv_at hl 0 rfl) ?_
  refine lv_ldcw (v := 858993459) hx hb hown (hts _ kc_J6_266) dJ6_bitCount_0f7a4_11 ?_
  refine lv_iand hx hb dJ6_bitCount_0f7a4_14 ?_
  refine lv_iload_n hx hb dJ6_bitCount_0f7a4_15 rfl (lv_at hl 0 rfl) ?_
  refine lv_iconst (v := 2) hx hb dJ6_bitCount_0f7a4_16 (by decide) ?_
  refine lv_iushr hx hb dJ6_bitCount_0f7a4_17 rfl ?_
  refine lv_ldcw (v := 858993459) hx hb hown (hts _ kc_J6_266) dJ6_bitCount_0f7a4_18 ?_
  refine lv_iand hx hb dJ6_bitCount_0f7a4_21 ?_
  refine lv_iadd hx hb dJ6_bitCount_0f7a4_22 ?_
  refine lv_topi (fun z2 ez2 => ?_)
  have hf := o_bnd ez2 hf
  refine lv_istore_n (lv' := [(0, .int z2)]) hx hb dJ6_bitCount_0f7a4_23 rfl hl (by decide) rfl (fun ls hl => ?_)
  refine lv_iload_n hx hb dJ6_bitCount_0f7a4_24 rfl (lv_at hl 0 rfl) ?_
  refine lv_iload_n hx hb dJ6_bitCount_0f7a4_25 rfl (lv_at hl 0 rfl) ?_
  refine lv_iconst (v := 4) hx hb dJ6_bitCount_0f7a4_26 (by decide) ?_
  refine lv_iushr hx hb dJ6_bitCount_0f7a4_27 rfl ?_
  refine lv_iadd hx hb dJ6_bitCount_0f7a4_28 ?_
  refine lv_ldcw (v := 252645135) hx hb hown (hts _ kc_J6_267) dJ6_bitCount_0f7a4_29 ?_
  refine lv_iand hx hb dJ6_bitCount_0f7a4_32 ?_
  refine lv_topi (fun z3 ez3 => ?_)
  have hf := o_bnd ez3 hf
  refine lv_istore_n (lv' := [(0, .int z3)]) hx hb dJ6_bitCount_0f7a4_33 rfl hl (by decide) rfl (fun ls hl => ?_)
  refine lv_iload_n hx hb dJ6_bitCount_0f7a4_34 rfl (lv_at hl 0 rfl) ?_
  refine lv_iload_n hx hb dJ6_bitCount_0f7a4_35 rfl (lv_at hl 0 rfl) ?_
  refine lv_bipush (v := 8) hx hb dJ6_bitCount_0f7a4_36 (by decide) ?_
  refine lv_iushr hx hb dJ6_bitCount_0f7a4_38 rfl ?_
  refine lv_iadd hx hb dJ6_bitCount_0f7a4_39 ?_
  refine lv_topi (fun z4 ez4 => ?_)
  have hf := o_bnd ez4 hf
  refine lv_istore_n (lv' := [(0, .int z4)]) hx hb dJ6_bitCount_0f7a4_40 rfl hl (by decide) rfl (fun ls hl => ?_)
  refine lv_iload_n hx hb dJ6_bitCount_0f7a4_41 rfl (lv_at hl 0 rfl) ?_
  refine lv_iload_n hx hb dJ6_bitCount_0f7a4_42 rfl (lv_at hl 0 rfl) ?_
  refine lv_bipush (v := 16) hx hb dJ6_bitCount_0f7a4_43 (by decide) ?_
  refine lv_iushr hx hb dJ6_bitCount_0f7a4_45 rfl ?_
  refine lv_iadd hx hb dJ6_bitCount_0f7a4_46 ?_
  refine lv_topi (fun z5 ez5 => ?_)
  have hf := o_bnd ez5 hf
  refine lv_istore_n (lv' := [(0, .int z5)]) hx hb dJ6_bitCount_0f7a4_47 rfl hl (by decide) rfl (fun ls hl => ?_)
  refine lv_iload_n hx hb dJ6_bitCount_0f7a4_48 rfl (lv_at hl 0 rfl) ?_
  refine lv_bipush (v := 63) hx hb dJ6_bitCount_0f7a4_49 (by decide) ?_
  refine lv_iand hx hb dJ6_bitCount_0f7a4_51 ?_
  exact r_ri F hQ (Option.some.inj hf) dJ6_bitCount_0f7a4_52
set_option maxRecDepth 100000 in
set_option maxHeartbeats 4000000 in
theorem c_X11_isOfKind (l : Launch) (g : GG) (a kd : Nat) (x1 su wi wd ch tc : Int32) (h5 : kd < 5) {r : Int32} (hf : f_X11_isOfKind kd x1 = some r) : MR l g yX11_isOfKind cX11_isOfKind 2 (some .boolean) 0 0 [.ref a, .int x1] [(a, .inr (kd, bfs su wi wd ch tc))] (some (.int r)) := by
  refine MR.mk (by decide) (Nat.le_of_ble_eq_true rfl) ?_
  intro p e s m args below meth c ls Q F hK hP hl hQ
  have hx := F.1
  have hb := F.2.1
  have hml := F.2.2.2.1
  have hown := F.2.2.2.2.1
  have hts := F.2.2.2.2.2.1
  have hl : lv_has ls 2 [(0, .ref a), (1, .int x1)] := hl
  have hf := Option.some.inj hf
  refine lv_iload_n hx hb dX11_isOfKind_0 rfl (lv_at hl 1 rfl) ?_
  by_cases h1 : x1 = 1
  · have hf := o_t h1 hf
    refine lv_tableIn (off := 31) (tgt := 32) hx hb dX11_isOfKind_1 (by rw [h1]; decide) (by rw [h1]; decide) (by rw [h1]; rfl) (by decide) ?_
    refine lv_aload_n hx hb dX11_isOfKind_32 rfl (lv_at hl 0 rfl) ?_
    match kd, h5, hP, hf with
    | 0, _, hP, hf =>
      refine va_instNo hx hb hown (hts _ cl_X11_130) (hK.2.2.1 (RX0, RX10) (List.mem_of_getElem? (i := 0) rfl)) (va_recv hK.1 hP (ci := 0) (q0 := 0) rfl rfl) dX11_isOfKind_33 ?_
      exact r_rz F hQ (by decide) hf dX11_isOfKind_36
    | 1, _, hP, hf =>
      refine va_instS hx hb hown (hts _ cl_X11_130) (hK.1.1 1 _ rfl).2 (va_recv hK.1 hP (ci := 1) (q0 := 0) rfl rfl) dX11_isOfKind_33 ?_
      exact r_rz F hQ (by decide) hf dX11_isOfKind_36
    | 2, _, hP, hf =>
      refine va_instNo hx hb hown (hts _ cl_X11_130) (hK.2.2.1 (RX9, RX10) (List.mem_of_getElem? (i := 1) rfl)) (va_recv hK.1 hP (ci := 2) (q0 := 0) rfl rfl) dX11_isOfKind_33 ?_
      exact r_rz F hQ (by decide) hf dX11_isOfKind_36
    | 3, _, hP, hf =>
      refine va_instNo hx hb hown (hts _ cl_X11_130) (hK.2.2.1 (RX3, RX10) (List.mem_of_getElem? (i := 2) rfl)) (va_recv hK.1 hP (ci := 3) (q0 := 0) rfl rfl) dX11_isOfKind_33 ?_
      exact r_rz F hQ (by decide) hf dX11_isOfKind_36
    | 4, _, hP, hf =>
      refine va_instY hx hb hown (hts _ cl_X11_130) (hK.2.1 (RX1, RX10) (List.mem_of_getElem? (i := 0) rfl)) (va_recv hK.1 hP (ci := 4) (q0 := 0) rfl rfl) dX11_isOfKind_33 ?_
      exact r_rz F hQ (by decide) hf dX11_isOfKind_36
  · have hf := o_f h1 hf
    by_cases h2 : x1 = 2
    · have hf := o_t h2 hf
      refine lv_tableIn (off := 36) (tgt := 37) hx hb dX11_isOfKind_1 (by rw [h2]; decide) (by rw [h2]; decide) (by rw [h2]; rfl) (by decide) ?_
      refine lv_aload_n hx hb dX11_isOfKind_37 rfl (lv_at hl 0 rfl) ?_
      match kd, h5, hP, hf with
      | 0, _, hP, hf =>
        refine va_instNo hx hb hown (hts _ cl_X11_132) (hK.2.2.1 (RX0, RX9) (List.mem_of_getElem? (i := 3) rfl)) (va_recv hK.1 hP (ci := 0) (q0 := 0) rfl rfl) dX11_isOfKind_38 ?_
        exact r_rz F hQ (by decide) hf dX11_isOfKind_41
      | 1, _, hP, hf =>
        refine va_instNo hx hb hown (hts _ cl_X11_132) (hK.2.2.1 (RX10, RX9) (List.mem_of_getElem? (i := 4) rfl)) (va_recv hK.1 hP (ci := 1) (q0 := 0) rfl rfl) dX11_isOfKind_38 ?_
        exact r_rz F hQ (by decide) hf dX11_isOfKind_41
      | 2, _, hP, hf =>
        refine va_instS hx hb hown (hts _ cl_X11_132) (hK.1.1 2 _ rfl).2 (va_recv hK.1 hP (ci := 2) (q0 := 0) rfl rfl) dX11_isOfKind_38 ?_
        exact r_rz F hQ (by decide) hf dX11_isOfKind_41
      | 3, _, hP, hf =>
        refine va_instNo hx hb hown (hts _ cl_X11_132) (hK.2.2.1 (RX3, RX9) (List.mem_of_getElem? (i := 5) rfl)) (va_recv hK.1 hP (ci := 3) (q0 := 0) rfl rfl) dX11_isOfKind_38 ?_
        exact r_rz F hQ (by decide) hf dX11_isOfKind_41
      | 4, _, hP, hf =>
        refine va_instNo hx hb hown (hts _ cl_X11_132) (hK.2.2.1 (RX1, RX9) (List.mem_of_getElem? (i := 6) rfl)) (va_recv hK.1 hP (ci := 4) (q0 := 0) rfl rfl) dX11_isOfKind_38 ?_
        exact r_rz F hQ (by decide) hf dX11_isOfKind_41
    · have hf := o_f h2 hf
      by_cases h3 : x1 = 3
      · have hf := o_t h3 hf
        refine lv_tableIn (off := 41) (tgt := 42) hx hb dX11_isOfKind_1 (by rw [h3]; decide) (by rw [h3]; decide) (by rw [h3]; rfl) (by decide) ?_
        refine lv_aload_n hx hb dX11_isOfKind_42 rfl (lv_at hl 0 rfl) ?_
        match kd, h5, hP, hf with
        | 0, _, hP, hf =>
          refine va_instNo hx hb hown (hts _ cl_X11_134) (hK.2.2.1 (RX0, RX3) (List.mem_of_getElem? (i := 7) rfl)) (va_recv hK.1 hP (ci := 0) (q0 := 0) rfl rfl) dX11_isOfKind_43 ?_
          exact r_rz F hQ (by decide) hf dX11_isOfKind_46
        | 1, _, hP, hf =>
          refine va_instNo hx hb hown (hts _ cl_X11_134) (hK.2.2.1 (RX10, RX3) (List.mem_of_getElem? (i := 8) rfl)) (va_recv hK.1 hP (ci := 1) (q0 := 0) rfl rfl) dX11_isOfKind_43 ?_
          exact r_rz F hQ (by decide) hf dX11_isOfKind_46
        | 2, _, hP, hf =>
          refine va_instNo hx hb hown (hts _ cl_X11_134) (hK.2.2.1 (RX9, RX3) (List.mem_of_getElem? (i := 9) rfl)) (va_recv hK.1 hP (ci := 2) (q0 := 0) rfl rfl) dX11_isOfKind_43 ?_
          exact r_rz F hQ (by decide) hf dX11_isOfKind_46
        | 3, _, hP, hf =>
          refine va_instS hx hb hown (hts _ cl_X11_134) (hK.1.1 3 _ rfl).2 (va_recv hK.1 hP (ci := 3) (q0 := 0) rfl rfl) dX11_isOfKind_43 ?_
          exact r_rz F hQ (by decide) hf dX11_isOfKind_46
        | 4, _, hP, hf =>
          refine va_instNo hx hb hown (hts _ cl_X11_134) (hK.2.2.1 (RX1, RX3) (List.mem_of_getElem? (i := 10) rfl)) (va_recv hK.1 hP (ci := 4) (q0 := 0) rfl rfl) dX11_isOfKind_43 ?_
          exact r_rz F hQ (by decide) hf dX11_isOfKind_46
      · have hf := o_f h3 hf
        by_cases h4 : x1 = 4
        · have hf := o_t h4 hf
          refine lv_tableIn (off := 46) (tgt := 47) hx hb dX11_isOfKind_1 (by rw [h4]; decide) (by rw [h4]; decide) (by rw [h4]; rfl) (by decide) ?_
          refine lv_aload_n hx hb dX11_isOfKind_47 rfl (lv_at hl 0 rfl) ?_
          match kd, h5, hP, hf with
          | 0, _, hP, hf =>
            refine va_instNo hx hb hown (hts _ cl_X11_136) (hK.2.2.1 (RX0, RX1) (List.mem_of_getElem? (i := 11) rfl)) (va_recv hK.1 hP (ci := 0) (q0 := 0) rfl rfl) dX11_isOfKind_48 ?_
            exact r_rz F hQ (by decide) hf dX11_isOfKind_51
          | 1, _, hP, hf =>
            refine va_instNo hx hb hown (hts _ cl_X11_136) (hK.2.2.1 (RX10, RX1) (List.mem_of_getElem? (i := 12) rfl)) (va_recv hK.1 hP (ci := 1) (q0 := 0) rfl rfl) dX11_isOfKind_48 ?_
            exact r_rz F hQ (by decide) hf dX11_isOfKind_51
          | 2, _, hP, hf =>
            refine va_instNo hx hb hown (hts _ cl_X11_136) (hK.2.2.1 (RX9, RX1) (List.mem_of_getElem? (i := 13) rfl)) (va_recv hK.1 hP (ci := 2) (q0 := 0) rfl rfl) dX11_isOfKind_48 ?_
            exact r_rz F hQ (by decide) hf dX11_isOfKind_51
          | 3, _, hP, hf =>
            refine va_instNo hx hb hown (hts _ cl_X11_136) (hK.2.2.1 (RX3, RX1) (List.mem_of_getElem? (i := 14) rfl)) (va_recv hK.1 hP (ci := 3) (q0 := 0) rfl rfl) dX11_isOfKind_48 ?_
            exact r_rz F hQ (by decide) hf dX11_isOfKind_51
          | 4, _, hP, hf =>
            refine va_instS hx hb hown (hts _ cl_X11_136) (hK.1.1 4 _ rfl).2 (va_recv hK.1 hP (ci := 4) (q0 := 0) rfl rfl) dX11_isOfKind_48 ?_
            exact r_rz F hQ (by decide) hf dX11_isOfKind_51
        · have hf := o_f h4 hf
          refine lv_tableOut (tgt := 52) hx hb dX11_isOfKind_1 (by have := tI h1 (k := 1) rfl; have := tI h2 (k := 2) rfl; have := tI h3 (k := 3) rfl; have := tI h4 (k := 4) rfl; omega) (by decide) ?_
          refine lv_iconst (v := 1) hx hb dX11_isOfKind_52 (by decide) ?_
          exact r_rz F hQ (by decide) hf dX11_isOfKind_53
theorem s_isOfKind {p : Program} {l : Launch} {e : Env} {R : Room} {s : State} {m : MethodId} {args : Array Value} {below : List Frame} {meth : Method} {c : Code} {H : Heap} {locs : List Loc} {cells slots pc nL : Nat} {Q : State → Prop} {ls : Array Slot} {rest : List Value} {cc : ByteArray} {j : Nat} {pre : va_W} {sa K : Nat → Nat} {g : GG} {rt : Option FieldType} {su wi wd ch tc : Nat → Int32} {x r : Int32} (F : CX p s m args meth c cc rt nL RX11) (hK : KK g s) (hP : PP g (pre ++ swl sa K su wi wd ch tc) H) (hj : j < 5) (hK5 : ∀ i, K i < 5) (hq : f_X11_isOfKind (K j) x = some r) (hsz : ls.size = nL) (hR1 : 1 ≤ R.frames) (hR2 : 21 ≤ R.locals) (hc1 : cells ≤ R.cells) (hc2 : slots ≤ R.slots) (hW : (rest.map fun v => v.category).sum ≤ 8) (hd : decode cc pc = .ok (.invokestatic 126, 3))
    (kk : W p l e R s m args below meth c H locs cells slots Q (F0 m (pc + 3) ls (.int r :: rest))) : W p l e R s m args below meth c H locs cells slots Q (F0 m pc ls (.int x :: .ref (sa j) :: rest)) :=
  k_rS F (c_X11_isOfKind l g (sa j) (K j) x (su j) (wi j) (wd j) (ch j) (tc j) (hK5 j) hq) qs_X11_isOfKind ml_X11_126 (pp1 hP (s_at pre hj)) hK rfl hsz rfl hW hd ⟨by omega, by omega⟩ ⟨hc1, hc2⟩ kk
