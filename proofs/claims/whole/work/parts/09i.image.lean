section
/-- what is heard is one -/
def HE (n hc : Nat) (hb hr mb mr : Nat → Int32) : Prop := hc ≤ 8 ∧ ∀ k, k < hc → mb k = hb k ∧ mr k = hr k ∧ ∃ b, b < n ∧ hb k = nI b
/-- the images are one, as far as they can come back: h halls were read -/
def IM (n h : Nat) (ic it iw ib ir : Nat → Int32) (hn is : Int32) (kc kt kw kb kr : Nat → Int32) (isK kH kS : Int32) : Prop := (isK = 0 ∧ hn = 0) ∨ (isK = 1 ∧ ∃ h' : Nat, hn = nI h' ∧ kH = nI h' ∧ 0 < h' ∧ h' ≤ h ∧ (h' = h → ∃ c : Nat, is = nI c ∧ kS = nI c ∧ HE n c ib ir kb kr ∧ ∀ i, i < n → (wdOk (iw i) ∧ kw i = iw i) ∧ (chOk (ic i) ∧ kc i = ic i) ∧ (tcOk n (it i) ∧ kt i = it i)))
theorem lpC {S R : Type} (F : Nat → Int32 → S → Option R) (fin : S → R) (n : Nat) (g1 : S → Nat → Int32) (f1 : Nat → Int32) (st : S) (hn : n < 4096)
    (hstop : ∀ k st, F (k + 1) (nI n) st = some (fin st))
    (hstep : ∀ k i st, i < n → ∃ st', g1 st' = upd (g1 st) i (f1 i) ∧ F (k + 1) (nI i) st = F k (nI (i + 1)) st') :
    ∃ st', (∀ i, i < n → g1 st' i = f1 i) ∧ F 4096 0 st = some (fin st') := lpU0 F fin n (fun i st => ∀ j, j < i → g1 st j = f1 j) st hn (fun j hj => by omega) (fun k st _ => hstop k st) (fun k i st hi hI => by
      obtain ⟨st', h1, h2⟩ := hstep k i st hi
      refine ⟨st', fun j hj => ?_, h2⟩
      rw [h1]
      by_cases hji : j = i
      · rw [hji, upd_eq]
      · rw [upd_ne hji]; exact hI j (by omega))
theorem copy8 (hb hr : Nat → Int32) (sz : Int32) (b0 r0 : Nat → Int32) (s0 : Int32) : ∃ b1 r1 : Nat → Int32, (∀ i, i < 8 → b1 i = hb i ∧ r1 i = hr i) ∧ f_X5_copy b0 r0 hb hr sz s0 = some (b1, r1, sz) := by
  obtain ⟨⟨b1, r1⟩, h1, h2⟩ := lpU0 (fun k y (q : (Nat → Int32) × (Nat → Int32)) => f_X5_copy_2 k hb hr sz y q.1 q.2 s0) (fun q => (nI 8, q.1, q.2, s0)) 8 (fun i q => ∀ j, j < i → q.1 j = hb j ∧ q.2 j = hr j) (b0, r0) (by omega) (fun j hj => by omega)
    (fun k q _ => by show f_X5_copy_2 (k + 1) _ _ _ _ _ _ _ = _; rw [f_X5_copy_2, if_pos (show (8 : Int32) ≤ nI 8 from le_t 8)])
    (fun k i q hi hI => by
      refine ⟨(upd q.1 i (hb i), upd q.2 i (hr i)), fun j hj => ?_, ?_⟩
      · by_cases hji : j = i
        · subst hji; exact ⟨upd_eq _ _ _, upd_eq _ _ _⟩
        · exact ⟨(upd_ne hji).trans (hI j (by omega)).1, (upd_ne hji).trans (hI j (by omega)).2⟩
      · show f_X5_copy_2 (k + 1) _ _ _ _ _ _ _ = _
        rw [f_X5_copy_2, if_neg (show ¬ (8 : Int32) ≤ nI i from le_f (n := 8) hi (by omega)), if_neg (ckN (i := i) (by omega) (by decide)), cl5 (by omega)]
        simp only [bnd, nI_1])
  refine ⟨b1, r1, h1, ?_⟩
  rw [f_X5_copy]
  have h2' : f_X5_copy_2 4096 hb hr sz 0 b0 r0 s0 = some (nI 8, b1, r1, s0) := h2
  rw [h2']
  rfl
variable {n : Nat}
theorem keepC (hn : n ≤ 5) (x3 : Int32) (ch tc wd hb hr : Nat → Int32) (hs : Int32) (ic : Nat → Int32) (hN : Int32) (ib ir : Nat → Int32) (is : Int32) (it iw : Nat → Int32) : ∃ ic' ib' ir' it' iw' : Nat → Int32, (∀ i, i < n → ic' i = ch i ∧ it' i = tc i ∧ iw' i = wd i) ∧ (∀ i, i < 8 → ib' i = hb i ∧ ir' i = hr i) ∧ f_X6_keep x3 ch tc wd ic hN ib ir is (nI n) hb hr hs it iw = some (ic', x3, ib', ir', hs, it', iw') := by
  obtain ⟨⟨c1, t1, w1⟩, h1, h2⟩ := lpU0 (fun k y (q : (Nat → Int32) × (Nat → Int32) × (Nat → Int32)) => f_X6_keep_3 k x3 ch tc wd (nI n) hb hr hs y q.1 hN ib ir is q.2.1 q.2.2) (fun q => (nI n, q.1, hN, ib, ir, is, q.2.1, q.2.2)) n (fun i q => ∀ j, j < i → q.1 j = ch j ∧ q.2.1 j = tc j ∧ q.2.2 j = wd j) (ic, it, iw) (by omega) (fun j hj => by omega)
    (fun k q _ => by show f_X6_keep_3 (k + 1) _ _ _ _ _ _ _ _ _ _ _ _ _ _ _ _ = _; rw [f_X6_keep_3, if_pos (le_t n)])
    (fun k i q hi hI => by
      refine ⟨(upd q.1 i (ch i), upd q.2.1 i (tc i), upd q.2.2 i (wd i)), fun j hj => ?_, ?_⟩
      · by_cases hji : j = i
        · subst hji; exact ⟨upd_eq _ _ _, upd_eq _ _ _, upd_eq _ _ _⟩
        · exact ⟨(upd_ne hji).trans (hI j (by omega)).1, (upd_ne hji).trans (hI j (by omega)).2.1, (upd_ne hji).trans (hI j (by omega)).2.2⟩
      · show f_X6_keep_3 (k + 1) _ _ _ _ _ _ _ _ _ _ _ _ _ _ _ _ = _
        rw [f_X6_keep_3, if_neg (le_f hi (by omega)), if_neg (ckN (i := i) (by omega) (by decide)), cl5 (by omega)]
        simp only [bnd, nI_1])
  obtain ⟨b1, r1, h3, h4⟩ := copy8 hb hr hs ib ir is
  refine ⟨c1, b1, r1, t1, w1, h1, h3, ?_⟩
  rw [f_X6_keep]
  have h2' : f_X6_keep_3 4096 x3 ch tc wd (nI n) hb hr hs 0 ic hN ib ir is it iw = some (nI n, c1, hN, ib, ir, is, t1, w1) := h2
  rw [h2']
  simp only [Option.bind_some]
  rw [h4]
  rfl
theorem giveC (hn : n ≤ 5) (ch tc wd ic ib ir : Nat → Int32) (is : Int32) (hb hr : Nat → Int32) (hs : Int32) (it iw : Nat → Int32) : ∃ ch' tc' wd' hb' hr' : Nat → Int32, (∀ i, i < n → ch' i = ic i ∧ tc' i = it i ∧ wd' i = iw i) ∧ (∀ i, i < 8 → hb' i = ib i ∧ hr' i = ir i) ∧ f_X6_giveBack ch tc wd ic ib ir is (nI n) hb hr hs it iw = some (ch', tc', wd', hb', hr', is) := by
  obtain ⟨⟨c1, t1, w1⟩, h1, h2⟩ := lpU0 (fun k y (q : (Nat → Int32) × (Nat → Int32) × (Nat → Int32)) => f_X6_giveBack_2 k ic ib ir is (nI n) it iw y q.1 q.2.1 q.2.2 hb hr hs) (fun q => (nI n, q.1, q.2.1, q.2.2, hb, hr, hs)) n (fun i q => ∀ j, j < i → q.1 j = ic j ∧ q.2.1 j = it j ∧ q.2.2 j = iw j) (ch, tc, wd) (by omega) (fun j hj => by omega)
    (fun k q _ => by show f_X6_giveBack_2 (k + 1) _ _ _ _ _ _ _ _ _ _ _ _ _ _ = _; rw [f_X6_giveBack_2, if_pos (le_t n)])
    (fun k i q hi hI => by
      refine ⟨(upd q.1 i (ic i), upd q.2.1 i (it i), upd q.2.2 i (iw i)), fun j hj => ?_, ?_⟩
      · by_cases hji : j = i
        · subst hji; exact ⟨upd_eq _ _ _, upd_eq _ _ _, upd_eq _ _ _⟩
        · exact ⟨(upd_ne hji).trans (hI j (by omega)).1, (upd_ne hji).trans (hI j (by omega)).2.1, (upd_ne hji).trans (hI j (by omega)).2.2⟩
      · show f_X6_giveBack_2 (k + 1) _ _ _ _ _ _ _ _ _ _ _ _ _ _ = _
        rw [f_X6_giveBack_2, if_neg (le_f hi (by omega)), if_neg (ckN (i := i) (by omega) (by decide)), cl5 (by omega)]
        simp only [bnd, nI_1])
  obtain ⟨b1, r1, h3, h4⟩ := copy8 ib ir is hb hr hs
  refine ⟨c1, t1, w1, b1, r1, h1, h3, ?_⟩
  rw [f_X6_giveBack]
  have h2' : f_X6_giveBack_2 4096 ic ib ir is (nI n) it iw 0 ch tc wd hb hr hs = some (nI n, c1, t1, w1, hb, hr, hs) := h2
  rw [h2']
  simp only [Option.bind_some]
  rw [h4]
  rfl
theorem imageM (h0 : 0 < n) (hn : n ≤ 5) (co : Nat → Int32) (ha he : Int32) (mb mr : Nat → Int32) (isK : Int32) (kb kr kc : Nat → Int32) (kH kS : Int32) (kt kw tb wo : Nat → Int32) : ∃ kb' kr' kc' kt' kw' : Nat → Int32, (∀ i, i < 5 → kc' i = co i ∧ kt' i = tb i ∧ kw' i = wo i) ∧ (∀ i, i < 8 → kb' i = mb i ∧ kr' i = mr i) ∧ f_X12_image (nI n) co ha he mb mr isK kb kr kc kH kS kt kw tb wo = some (nI n, 1, kb', kr', kc', ha, he, kt', kw') := by
  obtain ⟨⟨c1, t1, w1⟩, h1, h2⟩ := lpU0 (fun k y (q : (Nat → Int32) × (Nat → Int32) × (Nat → Int32)) => f_X12_image_33 k (nI n) co ha he mb mr tb wo y 1 kb kr q.1 ha he q.2.1 q.2.2) (fun q => (nI 5, 1, kb, kr, q.1, ha, he, q.2.1, q.2.2)) 5 (fun i q => ∀ j, j < i → q.1 j = co j ∧ q.2.1 j = tb j ∧ q.2.2 j = wo j) (kc, kt, kw) (by omega) (fun j hj => by omega)
    (fun k q _ => by show f_X12_image_33 (k + 1) _ _ _ _ _ _ _ _ _ _ _ _ _ _ _ _ _ = _; rw [f_X12_image_33, if_pos (show (5 : Int32) ≤ nI 5 from le_t 5)])
    (fun k i q hi hI => by
      refine ⟨(upd q.1 i (co i), upd q.2.1 i (tb i), upd q.2.2 i (wo i)), fun j hj => ?_, ?_⟩
      · by_cases hji : j = i
        · subst hji; exact ⟨upd_eq _ _ _, upd_eq _ _ _, upd_eq _ _ _⟩
        · exact ⟨(upd_ne hji).trans (hI j (by omega)).1, (upd_ne hji).trans (hI j (by omega)).2.1, (upd_ne hji).trans (hI j (by omega)).2.2⟩
      · show f_X12_image_33 (k + 1) _ _ _ _ _ _ _ _ _ _ _ _ _ _ _ _ _ = _
        rw [f_X12_image_33, if_neg (show ¬ (5 : Int32) ≤ nI i from le_f (n := 5) hi (by omega)), if_neg (ckN (i := i) (by omega) (by decide)), cl5 (by omega)]
        simp only [bnd, nI_1])
  obtain ⟨⟨b1, r1⟩, h3, h4⟩ := lpU0 (fun k y (q : (Nat → Int32) × (Nat → Int32)) => f_X12_image_82 k (nI n) co ha he mb mr tb wo y 1 q.1 q.2 c1 ha he t1 w1) (fun q => (nI 8, 1, q.1, q.2, c1, ha, he, t1, w1)) 8 (fun i q => ∀ j, j < i → q.1 j = mb j ∧ q.2 j = mr j) (kb, kr) (by omega) (fun j hj => by omega)
    (fun k q _ => by show f_X12_image_82 (k + 1) _ _ _ _ _ _ _ _ _ _ _ _ _ _ _ _ _ = _; rw [f_X12_image_82, if_pos (show (8 : Int32) ≤ nI 8 from le_t 8)])
    (fun k i q hi hI => by
      refine ⟨(upd q.1 i (mb i), upd q.2 i (mr i)), fun j hj => ?_, ?_⟩
      · by_cases hji : j = i
        · subst hji; exact ⟨upd_eq _ _ _, upd_eq _ _ _⟩
        · exact ⟨(upd_ne hji).trans (hI j (by omega)).1, (upd_ne hji).trans (hI j (by omega)).2⟩
      · show f_X12_image_82 (k + 1) _ _ _ _ _ _ _ _ _ _ _ _ _ _ _ _ _ = _
        rw [f_X12_image_82, if_neg (show ¬ (8 : Int32) ≤ nI i from le_f (n := 8) hi (by omega)), if_neg (ckN (i := i) (by omega) (by decide)), cl5 (by omega)]
        simp only [bnd, nI_1])
  refine ⟨b1, r1, c1, t1, w1, h1, h3, ?_⟩
  rw [f_X12_image, if_neg (nI_ne0 h0 (by omega))]
  have h2' : f_X12_image_33 4096 (nI n) co ha he mb mr tb wo 0 1 kb kr kc ha he kt kw = some (nI 5, 1, kb, kr, c1, ha, he, t1, w1) := h2
  rw [h2']
  simp only [Option.bind_some]
  have h4' : f_X12_image_82 4096 (nI n) co ha he mb mr tb wo 0 1 kb kr c1 ha he t1 w1 = some (nI 8, 1, b1, r1, c1, ha, he, t1, w1) := h4
  rw [h4']
  rfl
theorem restoreM (co : Nat → Int32) (bd ha he : Int32) (mb mr : Nat → Int32) (isK : Int32) (hK : ¬ isK = 0) (kb kr kc : Nat → Int32) (kS : Int32) (kt kw tb wo : Nat → Int32) : ∃ co' mb' mr' tb' wo' : Nat → Int32, (∀ i, i < 5 → co' i = kc i ∧ tb' i = kt i ∧ wo' i = kw i) ∧ (∀ i, i < 8 → mb' i = kb i ∧ mr' i = kr i) ∧ f_X12_restore bd co ha he mb mr isK kb kr kc ha kS kt kw tb wo = some (bd, co', kS, mb', mr', tb', wo') := by
  obtain ⟨⟨c1, t1, w1⟩, h1, h2⟩ := lpU0 (fun k y (q : (Nat → Int32) × (Nat → Int32) × (Nat → Int32)) => f_X12_restore_31 k bd ha isK kb kr kc ha kS kt kw y q.1 kS mb mr q.2.1 q.2.2) (fun q => (nI 5, q.1, kS, mb, mr, q.2.1, q.2.2)) 5 (fun i q => ∀ j, j < i → q.1 j = kc j ∧ q.2.1 j = kt j ∧ q.2.2 j = kw j) (co, tb, wo) (by omega) (fun j hj => by omega)
    (fun k q _ => by show f_X12_restore_31 (k + 1) _ _ _ _ _ _ _ _ _ _ _ _ _ _ _ _ _ = _; rw [f_X12_restore_31, if_pos (show (5 : Int32) ≤ nI 5 from le_t 5)])
    (fun k i q hi hI => by
      refine ⟨(upd q.1 i (kc i), upd q.2.1 i (kt i), upd q.2.2 i (kw i)), fun j hj => ?_, ?_⟩
      · by_cases hji : j = i
        · subst hji; exact ⟨upd_eq _ _ _, upd_eq _ _ _, upd_eq _ _ _⟩
        · exact ⟨(upd_ne hji).trans (hI j (by omega)).1, (upd_ne hji).trans (hI j (by omega)).2.1, (upd_ne hji).trans (hI j (by omega)).2.2⟩
      · show f_X12_restore_31 (k + 1) _ _ _ _ _ _ _ _ _ _ _ _ _ _ _ _ _ = _
        rw [f_X12_restore_31, if_neg (show ¬ (5 : Int32) ≤ nI i from le_f (n := 5) hi (by omega)), if_neg (ckN (i := i) (by omega) (by decide)), cl5 (by omega)]
        simp only [bnd, nI_1])
  obtain ⟨⟨b1, r1⟩, h3, h4⟩ := lpU0 (fun k y (q : (Nat → Int32) × (Nat → Int32)) => f_X12_restore_80 k bd ha isK kb kr kc ha kS kt kw y c1 kS q.1 q.2 t1 w1) (fun q => (nI 8, c1, kS, q.1, q.2, t1, w1)) 8 (fun i q => ∀ j, j < i → q.1 j = kb j ∧ q.2 j = kr j) (mb, mr) (by omega) (fun j hj => by omega)
    (fun k q _ => by show f_X12_restore_80 (k + 1) _ _ _ _ _ _ _ _ _ _ _ _ _ _ _ _ _ = _; rw [f_X12_restore_80, if_pos (show (8 : Int32) ≤ nI 8 from le_t 8)])
    (fun k i q hi hI => by
      refine ⟨(upd q.1 i (kb i), upd q.2 i (kr i)), fun j hj => ?_, ?_⟩
      · by_cases hji : j = i
        · subst hji; exact ⟨upd_eq _ _ _, upd_eq _ _ _⟩
        · exact ⟨(upd_ne hji).trans (hI j (by omega)).1, (upd_ne hji).trans (hI j (by omega)).2⟩
      · show f_X12_restore_80 (k + 1) _ _ _ _ _ _ _ _ _ _ _ _ _ _ _ _ _ = _
        rw [f_X12_restore_80, if_neg (show ¬ (8 : Int32) ≤ nI i from le_f (n := 8) hi (by omega)), if_neg (ckN (i := i) (by omega) (by decide)), cl5 (by omega)]
        simp only [bnd, nI_1])
  refine ⟨c1, b1, r1, t1, w1, h1, h3, ?_⟩
  rw [f_X12_restore, if_neg hK, if_pos rfl]
  have h2' : f_X12_restore_31 4096 bd ha isK kb kr kc ha kS kt kw 0 co kS mb mr tb wo = some (nI 5, c1, kS, mb, mr, t1, w1) := h2
  rw [h2']
  simp only [Option.bind_some]
  have h4' : f_X12_restore_80 4096 bd ha isK kb kr kc ha kS kt kw 0 c1 kS mb mr t1 w1 = some (nI 8, c1, kS, b1, r1, t1, w1) := h4
  rw [h4']
  rfl
variable {K : Nat → Nat} {su wi wd ch tc : Nat → Int32} {ki wo so wio co tb : Nat → Int32} {fa : Int32} {h hc : Nat} {hb hr mb mr ic it iw ib ir kc kt kw kb kr : Nat → Int32} {hN is isK kH kS : Int32}
theorem q_image (hH : HA n K su wi wd ch tc ki wo so wio co tb) (hE : HE n hc hb hr mb mr) (hI : IM n h ic it iw ib ir hN is kc kt kw kb kr isK kH kS) (hh : 0 < n → 0 < h) : ∃ (r : Int32) (ic' : Nat → Int32) (hN' : Int32) (ib' ir' : Nat → Int32) (is' : Int32) (it' iw' : Nat → Int32) (isK' : Int32) (kb' kr' kc' : Nat → Int32) (kH' kS' : Int32) (kt' kw' : Nat → Int32), f_X11_image ch tc wd (nI n) (nI h) hb hr (nI hc) ic hN ib ir is it iw = some (r, ic', hN', ib', ir', is', it', iw') ∧ f_X12_image (nI n) co (nI h) (nI hc) mb mr isK kb kr kc kH kS kt kw tb wo = some (r, isK', kb', kr', kc', kH', kS', kt', kw') ∧ IM n h ic' it' iw' ib' ir' hN' is' kc' kt' kw' kb' kr' isK' kH' kS' := by
  have hn := hH.1
  by_cases h0 : n = 0
  · subst h0
    exact ⟨-103, ic, hN, ib, ir, is, it, iw, isK, kb, kr, kc, kH, kS, kt, kw, rfl, rfl, hI⟩
  · obtain ⟨ic', ib', ir', it', iw', a1, a2, a3⟩ := keepC hn (nI h) ch tc wd hb hr (nI hc) ic hN ib ir is it iw
    obtain ⟨kb', kr', kc', kt', kw', b1, b2, b3⟩ := imageM (by omega) hn co (nI h) (nI hc) mb mr isK kb kr kc kH kS kt kw tb wo
    refine ⟨nI n, ic', nI h, ib', ir', nI hc, it', iw', 1, kb', kr', kc', nI h, nI hc, kt', kw', ?_, b3, Or.inr ⟨rfl, h, rfl, rfl, hh (by omega), Nat.le_refl _, fun _ => ⟨hc, rfl, rfl, ⟨hE.1, fun k hk => ?_⟩, fun i hi => ?_⟩⟩⟩
    · rw [f_X11_image, if_neg (nI_ne0 (by omega) (by omega)), a3]; rfl
    · have h8 := hE.1
      obtain ⟨e1, e2, e3⟩ := hE.2 k hk
      rw [(a2 k (by omega)).1, (a2 k (by omega)).2, (b2 k (by omega)).1, (b2 k (by omega)).2]
      exact ⟨e1, e2, e3⟩
    · rw [(a1 i hi).1, (a1 i hi).2.1, (a1 i hi).2.2, (b1 i (by omega)).1, (b1 i (by omega)).2.1, (b1 i (by omega)).2.2]
      exact ⟨hH.w i hi, hH.c i hi, hH.t i hi⟩
theorem q_restore (hH : HA n K su wi wd ch tc ki wo so wio co tb) (hE : HE n hc hb hr mb mr) (hI : IM n h ic it iw ib ir hN is kc kt kw kb kr isK kH kS) (hh : h < 2 ^ 31) : ∃ (r : Int32) (ch' tc' wd' hb' hr' : Nat → Int32) (hc' : Nat) (co' mb' mr' tb' wo' : Nat → Int32), f_X11_restore ch tc wd (nI n) (nI h) hb hr (nI hc) ic hN ib ir is it iw = some (r, ch', tc', wd', hb', hr', nI hc') ∧ f_X12_restore (nI n) co (nI h) (nI hc) mb mr isK kb kr kc kH kS kt kw tb wo = some (r, co', nI hc', mb', mr', tb', wo') ∧ HA n K su wi wd' ch' tc' ki wo' so wio co' tb' ∧ HE n hc' hb' hr' mb' mr' := by
  have hn := hH.1
  rcases hI with ⟨h1, h2⟩ | ⟨h1, h', h2, h3, h4, h5, h6⟩
  · refine ⟨-103, ch, tc, wd, hb, hr, hc, co, mb, mr, tb, wo, ?_, ?_, hH, hE⟩
    · rw [f_X11_restore, f_X6_isOf, if_pos h2]; rfl
    · rw [f_X12_restore, if_pos h1]
  · have hz : ¬ nI h' = 0 := nI_ne0 h4 (by omega)
    by_cases he : h' = h
    · subst he
      obtain ⟨c, e1, e2, e3, e4⟩ := h6 rfl
      obtain ⟨ch', tc', wd', hb', hr', a1, a2, a3⟩ := giveC hn ch tc wd ic ib ir is hb hr (nI hc) it iw
      obtain ⟨co', mb', mr', tb', wo', b1, b2, b3⟩ := restoreM co (nI n) (nI h') (nI hc) mb mr isK (by rw [h1]; decide) kb kr kc kS kt kw tb wo
      refine ⟨nI n, ch', tc', wd', hb', hr', c, co', mb', mr', tb', wo', ?_, ?_, ?_, ⟨e3.1, fun k hk => ?_⟩⟩
      · rw [f_X11_restore, f_X6_isOf, h2, if_neg hz, if_pos rfl]
        simp only [Option.bind_some]
        rw [if_neg (by decide), a3, e1]
        rfl
      · rw [h3, b3, e2]
      · refine hH.mono (fun i hi => ?_) (fun i hi => ?_) (fun i hi => ?_)
        · rw [(a1 i hi).2.2, (b1 i (by omega)).2.2]; exact (e4 i hi).1
        · rw [(a1 i hi).1, (b1 i (by omega)).1]; exact (e4 i hi).2.1
        · rw [(a1 i hi).2.1, (b1 i (by omega)).2.1]; exact (e4 i hi).2.2
      · have h8 := e3.1
        rw [(a2 k (by omega)).1, (a2 k (by omega)).2, (b2 k (by omega)).1, (b2 k (by omega)).2]
        exact e3.2 k hk
    · have hne : ¬ nI h' = nI h := fun hq => he ((nI_eq (by omega) hh).mp hq)
      refine ⟨-103, ch, tc, wd, hb, hr, hc, co, mb, mr, tb, wo, ?_, ?_, hH, hE⟩
      · rw [f_X11_restore, f_X6_isOf, h2, if_neg hz, if_neg hne]; rfl
      · rw [f_X12_restore, if_neg (by rw [h1]; decide), h3, if_neg hne]
theorem q_hear (hH : HA n K su wi wd ch tc ki wo so wio co tb) (hE : HE n hc hb hr mb mr) (x1 x2 : Int32) : ∃ (r : Int32) (hb' hr' mb' mr' : Nat → Int32) (hc' : Nat), f_X11_hear x1 x2 (nI n) hb hr (nI hc) = some (r, hb', hr', nI hc') ∧ f_X12_hear x1 x2 (nI n) (nI hc) mb mr = some (r, nI hc', mb', mr') ∧ HE n hc' hb' hr' mb' mr' := by
  have hn := hH.1
  have h8 := hE.1
  rcases pk_ix x1 (n := n) (by omega) with h | h | ⟨b, hb0, rfl⟩
  · exact ⟨-101, hb, hr, mb, mr, hc, by rw [f_X11_hear, has_out (Or.inl h)]; rfl, by rw [f_X12_hear, isB_out hn (Or.inl h)]; rfl, hE⟩
  · exact ⟨-101, hb, hr, mb, mr, hc, by rw [f_X11_hear, has_out (Or.inr h)]; rfl, by rw [f_X12_hear, isB_out hn (Or.inr h)]; rfl, hE⟩
  · rw [f_X11_hear, f_X12_hear, has_in hb0 (by omega), isB_in hb0 hn]
    simp only [Option.bind_some, bnd]
    rw [if_neg c10, if_neg c10]
    by_cases h1 : x2 < 1
    · rw [if_pos h1, wi_lo h1]; exact ⟨-102, hb, hr, mb, mr, hc, rfl, rfl, hE⟩
    · rw [if_neg h1]
      by_cases h2 : x2 ≤ 40
      · rw [if_pos h2, wi_in h1 h2]
        simp only [Option.bind_some]
        rw [if_neg c10]
        by_cases h3 : hc = 8
        · subst h3
          exact ⟨-104, hb, hr, mb, mr, 8, rfl, rfl, hE⟩
        · have hlt : hc < 8 := by omega
          have e1 : nI hc < 8 := (nI_ltI (a := hc) (b := 8) (by omega) (by decide)).mpr hlt
          have e2 : ¬ (8 : Int32) ≤ nI hc := Int32.not_le.mpr e1
          have e3 : ¬ nI hc = 8 := fun hq => h3 ((nI_eq (a := hc) (b := 8) (by omega) (by decide)).mp hq)
          have hck : ¬ (nI hc < 0 ∨ 8 ≤ (nI hc).toNatClampNeg) := ckN (i := hc) (by omega) (by decide)
          rw [f_X5_isFull, if_pos e1, if_neg e3, if_neg hck, cl5 (by omega)]
          simp only [Option.bind_some]
          rw [if_pos trivial, f_X5_add, if_neg e2, if_neg hck, cl5 (by omega)]
          simp only [bnd, nI_1, Option.bind_some]
          refine ⟨_, _, _, _, _, hc + 1, rfl, rfl, by omega, fun k hk => ?_⟩
          by_cases hkp : k = hc
          · subst hkp
            rw [upd_eq, upd_eq, upd_eq, upd_eq]
            exact ⟨rfl, rfl, b, hb0, rfl⟩
          · rw [upd_ne hkp, upd_ne hkp, upd_ne hkp, upd_ne hkp]
            exact hE.2 k (by omega)
      · rw [if_neg h2, wi_hi h2]; exact ⟨-102, hb, hr, mb, mr, hc, rfl, rfl, hE⟩
end
