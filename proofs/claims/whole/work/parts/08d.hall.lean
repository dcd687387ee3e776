def f_X7_readInto_14 (fuel : Nat) (x2 : Int32) (codes : Nat → Int32) (y3 size : Int32) (K : Nat → Nat) (su wi wd ch tc : Nat → Int32) : Option (Int32 × (Nat → Nat) × (Nat → Int32) × (Nat → Int32) × (Nat → Int32) × (Nat → Int32) × (Nat → Int32)) := match fuel with
  | 0 => none
  | k + 1 => if x2 ≤ y3 then some (size, K, su, wi, wd, ch, tc) else bnd (5 * y3 : Int32) fun z => (if z < 0 ∨ 28 ≤ z.toNatClampNeg then none else (f_X7_kindOf (codes z.toNatClampNeg)).bind fun q => if (z + 1) < 0 ∨ 28 ≤ (z + 1).toNatClampNeg then none else if (z + 2) < 0 ∨ 28 ≤ (z + 2).toNatClampNeg then none else if (z + 3) < 0 ∨ 28 ≤ (z + 3).toNatClampNeg then none else if size < 0 ∨ 5 ≤ size.toNatClampNeg then none else
      bnd (y3 + 1 : Int32) fun y => f_X7_readInto_14 k x2 codes y (size + 1) (va_up K size.toNatClampNeg (kdF q)) (upd su size.toNatClampNeg (codes (z + 2).toNatClampNeg - 48)) (upd wi size.toNatClampNeg (codes (z + 3).toNatClampNeg - 48)) (upd wd size.toNatClampNeg (codes (z + 1).toNatClampNeg - 48)) (upd ch size.toNatClampNeg (-1)) (upd tc size.toNatClampNeg 0))
def f_X7_readInto (len : Int32) (codes : Nat → Int32) (K : Nat → Nat) (su wi wd ch tc : Nat → Int32) : Option (Int32 × Int32 × (Nat → Nat) × (Nat → Int32) × (Nat → Int32) × (Nat → Int32) × (Nat → Int32) × (Nat → Int32)) :=
  bnd (len / 5) fun x2 => (f_X7_readInto_14 4096 x2 codes 0 0 K su wi wd ch tc).bind fun q => if (len - 1) < 0 ∨ 28 ≤ (len - 1).toNatClampNeg then none else bnd (codes (len - 1).toNatClampNeg - 48) fun fa => some (fa, q)
set_option maxRecDepth 100000 in
set_option maxHeartbeats 4000000 in
theorem c_X7_readInto (l : Launch) (g : GG) (qs : Nat × Nat) (aP aC aH aS : Nat) (len size fall : Int32) (codes : Nat → Int32) (sa K : Nat → Nat) (su wi wd ch tc : Nat → Int32) (hlen : len / 5 ≤ 5) {q : Int32 × Int32 × (Nat → Nat) × (Nat → Int32) × (Nat → Int32) × (Nat → Int32) × (Nat → Int32) × (Nat → Int32)} (hf : f_X7_readInto len codes K su wi wd ch tc = some q) : MCX l g yX7_readInto cX7_readInto 5 none 6 128 5 25 [.ref aP, .ref aH] ([ob aP 5 [.ref aC, .int len], ia g aC 28 codes, ob aH 6 [.ref aS, .int size, .int fall], ra g aS 5 (fun i => some (sa i))] ++ swl sa K su wi wd ch tc) qs (fun v w1 => v = none ∧ ∃ sa' : Nat → Nat, w1 = ([ob aP 5 [.ref aC, .int len], ia g aC 28 codes, ob aH 6 [.ref aS, .int q.2.1, .int q.1], ra g aS 5 (fun i => some (sa' i))] ++ swl sa' q.2.2.1 q.2.2.2.1 q.2.2.2.2.1 q.2.2.2.2.2.1 q.2.2.2.2.2.2.1 q.2.2.2.2.2.2.2)) := by
  refine MCX.mk (by decide) (Nat.le_of_ble_eq_true rfl) ?_
  intro p e s m args below meth c ls Q A F hnm hK hw hA hX hl hQ
  have hx := F.1
  have hb := F.2.1
  have hml := F.2.2.2.1
  have hown := F.2.2.2.2.1
  have hts := F.2.2.2.2.2.1
  have hl : lv_has ls 5 [(0, .ref aP), (1, .ref aH)] := hl
  have L14 : ∀ (x2 : Int32), x2 ≤ 5 → ∀ (k cl : Nat) (y3 size : Int32) (sa K : Nat → Nat) (su wi wd ch tc : Nat → Int32) (q : Int32 × (Nat → Nat) × (Nat → Int32) × (Nat → Int32) × (Nat → Int32) × (Nat → Int32) × (Nat → Int32)), f_X7_readInto_14 k x2 codes y3 size K su wi wd ch tc = some q → y3 = nI cl → cl ≤ 5 → ∀ (H : Heap) (locs : List Loc) (ls : Array Slot), WD g A s.heap ([ob aP 5 [.ref aC, .int len], ia g aC 28 codes, ob aH 6 [.ref aS, .int size, .int fall], ra g aS 5 (fun i => some (sa i))] ++ swl sa K su wi wd ch tc) H locs → lv_has ls 5 [(3, .int y3), (2, .int x2), (0, .ref aP), (1, .ref aH)] → (∀ (sa' : Nat → Nat) (H : Heap) (locs : List Loc) (ls : Array Slot), WD g A s.heap ([ob aP 5 [.ref aC, .int len], ia g aC 28 codes, ob aH 6 [.ref aS, .int q.1, .int fall], ra g aS 5 (fun i => some (sa' i))] ++ swl sa' q.2.1 q.2.2.1 q.2.2.2.1 q.2.2.2.2.1 q.2.2.2.2.2.1 q.2.2.2.2.2.2) H locs → lv_has ls 5 [(0, .ref aP), (1, .ref aH)] → W p l e (rmc 6 5 25 128) s m args below meth c H locs 5 25 Q (F0 m 80 ls [])) → W p l e (rmc 6 5 25 128) s m args below meth c H locs cl (5 * cl) Q (F0 m 14 ls []) := by
    intro x2 hx2 k
    induction k with
    | zero => intro cl y3 size sa K su wi wd ch tc q hf; rw [f_X7_readInto_14] at hf; cases hf
    | succ k ih =>
      intro cl y3 size sa K su wi wd ch tc q hf hy hc H locs ls hw hl kx
      rw [f_X7_readInto_14] at hf
      refine lv_iload_n hx hb dX7_readInto_14 rfl (lv_at hl 0 rfl) ?_
      refine lv_iload_n hx hb dX7_readInto_15 rfl (lv_at hl 1 rfl) ?_
      refine lv_icmp_ge (tgt := 80) hx hb dX7_readInto_16 (by decide) (fun h1 => ?_) (fun h1 => ?_)
      · have hf := o_t h1 hf
        cases hf
        refine W.widen (k := 5) (n := 25) hc (by omega) ?_
        exact kx sa H locs ls hw (lv_sub hl [2, 3] rfl)
      · have hf := o_f h1 hf
        have hcl : cl < 5 := by
          have a1 := Int32.lt_of_lt_of_le (Int32.not_le.mp h1) hx2
          rw [hy, Int32.lt_iff_toInt_lt, nI_toInt (by omega)] at a1
          have a2 : (5 : Int32).toInt = 5 := rfl
          omega
        refine lv_iconst (v := 5) hx hb dX7_readInto_19 (by decide) ?_
        refine lv_iload_n hx hb dX7_readInto_20 rfl (lv_at hl 0 rfl) ?_
        refine lv_imul hx hb dX7_readInto_21 ?_
        refine lv_topi (fun z ez => ?_)
        have hf := o_bnd ez hf
        refine lv_istore (lv' := [(4, .int z), (3, .int y3), (2, .int x2), (0, .ref aP), (1, .ref aH)]) hx hb dX7_readInto_22 hl (by decide) rfl (fun ls hl => ?_)
        obtain ⟨h2, hf⟩ := o_chk hf
        obtain ⟨kq, hkq, hf⟩ := o_bind hf
        obtain ⟨h3, hf⟩ := o_chk hf
        obtain ⟨h4, hf⟩ := o_chk hf
        obtain ⟨h5, hf⟩ := o_chk hf
        obtain ⟨h6, hf⟩ := o_chk hf
        refine lv_aload_n hx hb dX7_readInto_24 rfl (lv_at hl 4 rfl) ?_
        refine lv_aload_n hx hb dX7_readInto_25 rfl (lv_at hl 3 rfl) ?_
        refine w_get (ci := 5) F hK hw.1 fb_X7 0 rfl rfl 0 (by decide) fl_X7_11 (fun _ h => h) rfl dX7_readInto_26 ?_
        refine lv_iload hx hb dX7_readInto_29 (lv_at hl 0 rfl) ?_
        refine w_iald F hK hw.1 1 rfl h2 dX7_readInto_31 ?_
        refine k_xS F (c_X7_kindOf l g qs (codes z.toNatClampNeg) hkq) qs_X7_kindOf ml_X7_27 (hw.1.sub [] rfl) hK (hX.now hw) rfl hl.1 rfl (Nat.le_of_ble_eq_true rfl) dX7_readInto_32 ⟨(Nat.le_of_ble_eq_true rfl), (Nat.le_of_ble_eq_true rfl)⟩ ⟨by show cl ≤ 5; omega, by show 5 * cl ≤ 25; omega⟩ ?_
        refine W.eq (g2 := F0 m 35 ls (.int kq :: [.ref aH])) rfl ?_
        refine lv_aload_n hx hb dX7_readInto_35 rfl (lv_at hl 3 rfl) ?_
        refine w_get (ci := 5) F hK hw.1 fb_X7 0 rfl rfl 0 (by decide) fl_X7_11 (fun _ h => h) rfl dX7_readInto_36 ?_
        refine lv_iload hx hb dX7_readInto_39 (lv_at hl 0 rfl) ?_
        refine lv_iconst (v := 1) hx hb dX7_readInto_41 (by decide) ?_
        refine lv_iadd hx hb dX7_readInto_42 ?_
        refine w_iald F hK hw.1 1 rfl h3 dX7_readInto_43 ?_
        refine lv_bipush (v := 48) hx hb dX7_readInto_44 (by decide) ?_
        refine lv_isub hx hb dX7_readInto_46 ?_
        refine lv_aload_n hx hb dX7_readInto_47 rfl (lv_at hl 3 rfl) ?_
        refine w_get (ci := 5) F hK hw.1 fb_X7 0 rfl rfl 0 (by decide) fl_X7_11 (fun _ h => h) rfl dX7_readInto_48 ?_
        refine lv_iload hx hb dX7_readInto_51 (lv_at hl 0 rfl) ?_
        refine lv_iconst (v := 2) hx hb dX7_readInto_53 (by decide) ?_
        refine lv_iadd hx hb dX7_readInto_54 ?_
        refine w_iald F hK hw.1 1 rfl h4 dX7_readInto_55 ?_
        refine lv_bipush (v := 48) hx hb dX7_readInto_56 (by decide) ?_
        refine lv_isub hx hb dX7_readInto_58 ?_
        refine lv_aload_n hx hb dX7_readInto_59 rfl (lv_at hl 3 rfl) ?_
        refine w_get (ci := 5) F hK hw.1 fb_X7 0 rfl rfl 0 (by decide) fl_X7_11 (fun _ h => h) rfl dX7_readInto_60 ?_
        refine lv_iload hx hb dX7_readInto_63 (lv_at hl 0 rfl) ?_
        refine lv_iconst (v := 3) hx hb dX7_readInto_65 (by decide) ?_
        refine lv_iadd hx hb dX7_readInto_66 ?_
        refine w_iald F hK hw.1 1 rfl h5 dX7_readInto_67 ?_
        refine lv_bipush (v := 48) hx hb dX7_readInto_68 (by decide) ?_
        refine lv_isub hx hb dX7_readInto_70 ?_
        refine k_cV (wr := [ob aP 5 [.ref aC, .int len], ia g aC 28 codes]) F (c_X4_seat l g aH aS kq _ _ _ size fall sa K su wi wd ch tc h6) qv_X4_seat ml_X7_51 hw hA hK [2, 3, 4, 5, 6, 7, 8] [0, 1] rfl rfl rfl rfl rfl (by decide) (va_recv hK.1 hw.1 (ci := 6) (q0 := 2) rfl rfl) rfl hl.1 rfl (Nat.le_of_ble_eq_true rfl) dX7_readInto_71 ⟨(Nat.le_of_ble_eq_true rfl), (Nat.le_of_ble_eq_true rfl)⟩ ⟨by show cl + 1 ≤ 5; omega, by show 5 * cl + 5 ≤ 25; omega⟩ (fun v w1 H locs hpo hw => ?_)
        obtain ⟨rfl, a, rfl⟩ := hpo
        refine W.eq (g2 := F0 m 74 ls []) rfl ?_
        obtain ⟨y, ey⟩ : ∃ y : Int32, y = y3 + 1 := ⟨_, rfl⟩
        have hf := o_bnd ey hf
        refine lv_iinc (v := y) (lv' := [(3, .int y), (4, .int z), (2, .int x2), (0, .ref aP), (1, .ref aH)]) hx hb dX7_readInto_74 hl (k := 1) rfl (by rw [ey]; rfl) (by decide) rfl (fun ls hl => ?_)
        refine lv_goto (tgt := 14) hx hb dX7_readInto_77 (by decide) ?_
        exact ih (cl + 1) y _ _ _ _ _ _ _ _ _ hf (by rw [ey, hy]; exact nI_1 cl) hcl _ _ ls hw (lv_sub hl [0, 2, 3, 4] rfl) kx
  unfold f_X7_readInto at hf
  refine lv_aload_n hx hb dX7_readInto_0 rfl (lv_at hl 0 rfl) ?_
  refine w_get (ci := 5) F hK hw.1 fb_X7 0 rfl rfl 1 (by decide) fl_X7_15 (fun _ h => h) rfl dX7_readInto_1 ?_
  refine lv_iconst (v := 5) hx hb dX7_readInto_4 (by decide) ?_
  refine lv_idiv hx hb dX7_readInto_5 (by decide) ?_
  refine lv_topi (fun x2 ex2 => ?_)
  have hf := o_bnd ex2 hf
  refine lv_istore_n (lv' := [(2, .int x2), (0, .ref aP), (1, .ref aH)]) hx hb dX7_readInto_6 rfl hl (by decide) rfl (fun ls hl => ?_)
  refine lv_aload_n hx hb dX7_readInto_7 rfl (lv_at hl 2 rfl) ?_
  refine lv_iconst (v := 0) hx hb dX7_readInto_8 (by decide) ?_
  refine w_put (ci := 6) (ws' := ([ob aP 5 [.ref aC, .int len], ia g aC 28 codes, ob aH 6 [.ref aS, .int 0, .int fall], ra g aS 5 (fun i => some (sa i))] ++ swl sa K su wi wd ch tc)) F hK hw fb_X4 2 rfl rfl 1 (by decide) fl_X7_46 (fun _ h => h) rfl rfl rfl rfl (Nat.le_of_ble_eq_true rfl) rfl dX7_readInto_9 (fun H locs hw => ?_)
  refine lv_iconst (v := 0) hx hb dX7_readInto_12 (by decide) ?_
  refine lv_istore_n (lv' := [(3, .int 0), (2, .int x2), (0, .ref aP), (1, .ref aH)]) hx hb dX7_readInto_13 rfl hl (by decide) rfl (fun ls hl => ?_)
  obtain ⟨q1, hq1, hf⟩ := o_bind hf
  obtain ⟨h7, hf⟩ := o_chk hf
  refine L14 x2 (by rw [ex2]; exact hlen) _ 0 0 0 sa K su wi wd ch tc q1 hq1 rfl (by decide) _ _ ls hw (lv_sub hl [0, 1, 2, 3] rfl) (fun sa' H locs ls hw hl => ?_)
  refine lv_aload_n hx hb dX7_readInto_80 rfl (lv_at hl 1 rfl) ?_
  refine lv_aload_n hx hb dX7_readInto_81 rfl (lv_at hl 0 rfl) ?_
  refine w_get (ci := 5) F hK hw.1 fb_X7 0 rfl rfl 0 (by decide) fl_X7_11 (fun _ h => h) rfl dX7_readInto_82 ?_
  refine lv_aload_n hx hb dX7_readInto_85 rfl (lv_at hl 0 rfl) ?_
  refine w_get (ci := 5) F hK hw.1 fb_X7 0 rfl rfl 1 (by decide) fl_X7_15 (fun _ h => h) rfl dX7_readInto_86 ?_
  refine lv_iconst (v := 1) hx hb dX7_readInto_89 (by decide) ?_
  refine lv_isub hx hb dX7_readInto_90 ?_
  refine w_iald F hK hw.1 1 rfl h7 dX7_readInto_91 ?_
  refine lv_bipush (v := 48) hx hb dX7_readInto_92 (by decide) ?_
  refine lv_isub hx hb dX7_readInto_94 ?_
  refine lv_topi (fun fa efa => ?_)
  have hf := o_bnd efa hf
  refine w_put (ci := 6) (ws' := ([ob aP 5 [.ref aC, .int len], ia g aC 28 codes, ob aH 6 [.ref aS, .int q1.1, .int fa], ra g aS 5 (fun i => some (sa' i))] ++ swl sa' q1.2.1 q1.2.2.1 q1.2.2.2.1 q1.2.2.2.2.1 q1.2.2.2.2.2.1 q1.2.2.2.2.2.2)) F hK hw fb_X4 2 rfl rfl 2 (by decide) fl_X7_55 (fun _ h => h) rfl rfl rfl rfl (Nat.le_of_ble_eq_true rfl) rfl dX7_readInto_95 (fun H locs hw => ?_)
  cases hf
  exact r_cv F hQ ⟨rfl, sa', rfl⟩ hw dX7_readInto_98
/-- answer, page length, heard, halls read, fall, kinds and the rest, size -/
def f_X11_hall (len size fall hs hr : Int32) (codes : Nat → Int32) (K : Nat → Nat) (su wi wd ch tc : Nat → Int32) : Option (Int32 × Int32 × Int32 × Int32 × Int32 × (Nat → Nat) × (Nat → Int32) × (Nat → Int32) × (Nat → Int32) × (Nat → Int32) × (Nat → Int32) × Int32) :=
  (f_X7_isHall codes len).bind fun q => if q = 0 then some (-103, len, hs, hr, fall, K, su, wi, wd, ch, tc, size) else (f_X7_readInto len codes K su wi wd ch tc).bind fun r => bnd (hr + 1 : Int32) fun z => some (r.2.1, 0, 0, z, r.1, r.2.2.1, r.2.2.2.1, r.2.2.2.2.1, r.2.2.2.2.2.1, r.2.2.2.2.2.2.1, r.2.2.2.2.2.2.2, r.2.1)
set_option maxRecDepth 100000 in
set_option maxHeartbeats 4000000 in
theorem c_X11_hall (l : Launch) (g : GG) (qs : Nat × Nat) (a aP aC aH aS aK aE aE1 aE2 aI aR : Nat) (len size fall hs hr rd : Int32) (codes : Nat → Int32) (sa K : Nat → Nat) (su wi wd ch tc : Nat → Int32) (hlen : len / 5 ≤ 5) {q : Int32 × Int32 × Int32 × Int32 × Int32 × (Nat → Nat) × (Nat → Int32) × (Nat → Int32) × (Nat → Int32) × (Nat → Int32) × (Nat → Int32) × Int32} (hf : f_X11_hall len size fall hs hr codes K su wi wd ch tc = some q) : MCX l g yX11_hall cX11_hall 1 (some .int) 8 175 5 25 [.ref a] ([ob a 11 [.ref aP, .ref aH, .ref aK, .ref aE, .ref aI, .ref aR, .int hr, .int rd], ob aH 6 [.ref aS, .int size, .int fall], ra g aS 5 (fun i => some (sa i)), ob aE 8 [.ref aE1, .ref aE2, .int hs], ob aP 5 [.ref aC, .int len], ia g aC 28 codes] ++ swl sa K su wi wd ch tc) qs (fun v w1 => v = some (.int q.1) ∧ ∃ sa' : Nat → Nat, w1 = ([ob a 11 [.ref aP, .ref aH, .ref aK, .ref aE, .ref aI, .ref aR, .int q.2.2.2.1, .int rd], ob aH 6 [.ref aS, .int q.2.2.2.2.2.2.2.2.2.2.2, .int q.2.2.2.2.1], ra g aS 5 (fun i => some (sa' i)), ob aE 8 [.ref aE1, .ref aE2, .int q.2.2.1], ob aP 5 [.ref aC, .int q.2.1], ia g aC 28 codes] ++ swl sa' q.2.2.2.2.2.1 q.2.2.2.2.2.2.1 q.2.2.2.2.2.2.2.1 q.2.2.2.2.2.2.2.2.1 q.2.2.2.2.2.2.2.2.2.1 q.2.2.2.2.2.2.2.2.2.2.1)) := by
  refine MCX.mk (by decide) (Nat.le_of_ble_eq_true rfl) ?_
  intro p e s m args below meth c ls Q A F hnm hK hw hA hX hl hQ
  have hx := F.1
  have hb := F.2.1
  have hml := F.2.2.2.1
  have hown := F.2.2.2.2.1
  have hts := F.2.2.2.2.2.1
  have hl : lv_has ls 1 [(0, .ref a)] := hl
  unfold f_X11_hall at hf
  obtain ⟨iq, hiq, hf⟩ := o_bind hf
  refine lv_aload_n hx hb dX11_hall_0 rfl (lv_at hl 0 rfl) ?_
  refine w_get (ci := 11) F hK hw.1 fb_X11 0 rfl rfl 0 (by decide) fl_X11_10 (fun _ h => h) rfl dX11_hall_1 ?_
  refine k_xV F (c_X7_isHall l g qs aP aC len codes hiq) qv_X7_isHall ml_X11_65 (hw.1.sub [4, 5] rfl) hK (hX.now hw) (va_recv hK.1 hw.1 (ci := 5) (q0 := 4) rfl rfl) rfl hl.1 rfl (Nat.le_of_ble_eq_true rfl) dX11_hall_4 ⟨(Nat.le_of_ble_eq_true rfl), (Nat.le_of_ble_eq_true rfl)⟩ ⟨(Nat.le_of_ble_eq_true rfl), (Nat.le_of_ble_eq_true rfl)⟩ ?_
  refine W.eq (g2 := F0 m 7 ls (.int iq :: [])) rfl ?_
  refine lv_if_ne (tgt := 13) hx hb dX11_hall_7 (by decide) (fun h1 => ?_) (fun h1 => ?_)
  · have hf := o_f h1 hf
    obtain ⟨r, hr1, hf⟩ := o_bind hf
    refine lv_aload_n hx hb dX11_hall_13 rfl (lv_at hl 0 rfl) ?_
    refine w_get (ci := 11) F hK hw.1 fb_X11 0 rfl rfl 0 (by decide) fl_X11_10 (fun _ h => h) rfl dX11_hall_14 ?_
    refine lv_aload_n hx hb dX11_hall_17 rfl (lv_at hl 0 rfl) ?_
    refine w_get (ci := 11) F hK hw.1 fb_X11 0 rfl rfl 1 (by decide) fl_X11_27 (fun _ h => h) rfl dX11_hall_18 ?_
    refine k_xcV (wr := [ob a 11 [.ref aP, .ref aH, .ref aK, .ref aE, .ref aI, .ref aR, .int hr, .int rd], ob aE 8 [.ref aE1, .ref aE2, .int hs]]) F (c_X7_readInto l g qs aP aC aH aS len size fall codes sa K su wi wd ch tc hlen hr1) qv_X7_readInto ml_X11_68 hw hA hK hX [4, 5, 1, 2, 6, 7, 8, 9, 10] [0, 3] rfl rfl rfl rfl rfl (by decide) (va_recv hK.1 hw.1 (ci := 5) (q0 := 4) rfl rfl) rfl hl.1 rfl (Nat.le_of_ble_eq_true rfl) dX11_hall_21 ⟨(Nat.le_of_ble_eq_true rfl), (Nat.le_of_ble_eq_true rfl)⟩ ⟨(Nat.le_of_ble_eq_true rfl), (Nat.le_of_ble_eq_true rfl)⟩ (fun v w1 H locs hpo hw => ?_)
    obtain ⟨rfl, sa', rfl⟩ := hpo
    have hw : WD g A s.heap ([ob a 11 [.ref aP, .ref aH, .ref aK, .ref aE, .ref aI, .ref aR, .int hr, .int rd], ob aH 6 [.ref aS, .int r.2.1, .int r.1], ra g aS 5 (fun i => some (sa' i)), ob aE 8 [.ref aE1, .ref aE2, .int hs], ob aP 5 [.ref aC, .int len], ia g aC 28 codes] ++ swl sa' r.2.2.1 r.2.2.2.1 r.2.2.2.2.1 r.2.2.2.2.2.1 r.2.2.2.2.2.2.1 r.2.2.2.2.2.2.2) H locs := hw.sub [0, 4, 5, 1, 2, 3, 6, 7, 8, 9, 10] rfl rfl rfl
    refine W.eq (g2 := F0 m 24 ls []) rfl ?_
    refine lv_aload_n hx hb dX11_hall_24 rfl (lv_at hl 0 rfl) ?_
    refine w_get (ci := 11) F hK hw.1 fb_X11 0 rfl rfl 0 (by decide) fl_X11_10 (fun _ h => h) rfl dX11_hall_25 ?_
    refine lv_iconst (v := 0) hx hb dX11_hall_28 (by decide) ?_
    refine w_put (ci := 5) (ws' := ([ob a 11 [.ref aP, .ref aH, .ref aK, .ref aE, .ref aI, .ref aR, .int hr, .int rd], ob aH 6 [.ref aS, .int r.2.1, .int r.1], ra g aS 5 (fun i => some (sa' i)), ob aE 8 [.ref aE1, .ref aE2, .int hs], ob aP 5 [.ref aC, .int 0], ia g aC 28 codes] ++ swl sa' r.2.2.1 r.2.2.2.1 r.2.2.2.2.1 r.2.2.2.2.2.1 r.2.2.2.2.2.2.1 r.2.2.2.2.2.2.2)) F hK hw fb_X7 4 rfl rfl 1 (by decide) fl_X11_57 (fun _ h => h) rfl rfl rfl rfl (Nat.le_of_ble_eq_true rfl) rfl dX11_hall_29 (fun H locs hw => ?_)
    refine lv_aload_n hx hb dX11_hall_32 rfl (lv_at hl 0 rfl) ?_
    refine w_get (ci := 11) F hK hw.1 fb_X11 0 rfl rfl 3 (by decide) fl_X11_31 (fun _ h => h) rfl dX11_hall_33 ?_
    refine lv_iconst (v := 0) hx hb dX11_hall_36 (by decide) ?_
    refine w_put (ci := 8) (ws' := ([ob a 11 [.ref aP, .ref aH, .ref aK, .ref aE, .ref aI, .ref aR, .int hr, .int rd], ob aH 6 [.ref aS, .int r.2.1, .int r.1], ra g aS 5 (fun i => some (sa' i)), ob aE 8 [.ref aE1, .ref aE2, .int 0], ob aP 5 [.ref aC, .int 0], ia g aC 28 codes] ++ swl sa' r.2.2.1 r.2.2.2.1 r.2.2.2.2.1 r.2.2.2.2.2.1 r.2.2.2.2.2.2.1 r.2.2.2.2.2.2.2)) F hK hw fb_X5 3 rfl rfl 2 (by decide) fl_X11_72 (fun _ h => h) rfl rfl rfl rfl (Nat.le_of_ble_eq_true rfl) rfl dX11_hall_37 (fun H locs hw => ?_)
    refine lv_aload_n hx hb dX11_hall_40 rfl (lv_at hl 0 rfl) ?_
    refine lv_dup hx hb dX11_hall_41 rfl ?_
    refine w_get (ci := 11) F hK hw.1 fb_X11 0 rfl rfl 6 (by decide) fl_X11_75 (fun _ h => h) rfl dX11_hall_42 ?_
    refine lv_iconst (v := 1) hx hb dX11_hall_45 (by decide) ?_
    refine lv_iadd hx hb dX11_hall_46 ?_
    refine lv_topi (fun z ez => ?_)
    have hf := o_bnd ez hf
    refine w_put (ci := 11) (ws' := ([ob a 11 [.ref aP, .ref aH, .ref aK, .ref aE, .ref aI, .ref aR, .int z, .int rd], ob aH 6 [.ref aS, .int r.2.1, .int r.1], ra g aS 5 (fun i => some (sa' i)), ob aE 8 [.ref aE1, .ref aE2, .int 0], ob aP 5 [.ref aC, .int 0], ia g aC 28 codes] ++ swl sa' r.2.2.1 r.2.2.2.1 r.2.2.2.2.1 r.2.2.2.2.2.1 r.2.2.2.2.2.2.1 r.2.2.2.2.2.2.2)) F hK hw fb_X11 0 rfl rfl 6 (by decide) fl_X11_75 (fun _ h => h) rfl rfl rfl rfl (Nat.le_of_ble_eq_true rfl) rfl dX11_hall_47 (fun H locs hw => ?_)
    refine lv_aload_n hx hb dX11_hall_50 rfl (lv_at hl 0 rfl) ?_
    refine w_get (ci := 11) F hK hw.1 fb_X11 0 rfl rfl 1 (by decide) fl_X11_27 (fun _ h => h) rfl dX11_hall_51 ?_
    refine w_get (ci := 6) F hK hw.1 fb_X4 1 rfl rfl 1 (by decide) fl_X11_78 (fun _ h => h) rfl dX11_hall_54 ?_
    cases hf
    exact r_ci F hQ ⟨rfl, sa', rfl⟩ hw dX11_hall_57
  · have hf := o_t h1 hf
    refine lv_bipush (v := (-103)) hx hb dX11_hall_10 (by decide) ?_
    cases hf
    refine W.widen (k := 5) (n := 25) (Nat.le_of_ble_eq_true rfl) (Nat.le_of_ble_eq_true rfl) ?_
    exact r_ci F hQ ⟨rfl, sa, rfl⟩ hw dX11_hall_12
