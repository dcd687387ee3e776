section
theorem lpU1 {S R : Type} (F : Nat → Int32 → S → Option R) (fin : S → R) (i0 n : Nat) (I : Nat → S → Prop) (st : S) (hn : n < 4096) (hi : i0 ≤ n) (h0 : I i0 st)
    (hstop : ∀ k st, I n st → F (k + 1) (nI n) st = some (fin st))
    (hstep : ∀ k i st, i0 ≤ i → i < n → I i st → ∃ st', I (i + 1) st' ∧ F (k + 1) (nI i) st = F k (nI (i + 1)) st') :
    ∃ st', I n st' ∧ F 4096 (nI i0) st = some (fin st') := by
  obtain ⟨st', h1, h2⟩ := lpU F fin n (fun i st => i0 ≤ i ∧ I i st) (fun k st h => hstop k st h.2) (fun k i st hi hI => by
    obtain ⟨st', h1, h2⟩ := hstep k i st hI.1 hi hI.2
    exact ⟨st', ⟨by omega, h1⟩, h2⟩) (n - i0) 4096 i0 st rfl (by omega) hi ⟨Nat.le_refl _, h0⟩
  exact ⟨st', h1.2, h2⟩
/-- the best of the choices 1 to k + 1, and its gain -/
def bsF (ga : Nat → Int32) : Nat → Nat × Int32
  | 0 => (1, ga 1)
  | k + 1 => if ga (k + 2) ≤ (bsF ga k).2 then bsF ga k else (k + 2, ga (k + 2))
variable {n : Nat} {K : Nat → Nat} {su wi wd ch tc : Nat → Int32} {ki wo so wio co tb : Nat → Int32} {fa : Int32}
noncomputable def gaC (n : Nat) (K : Nat → Nat) (su wi wd ch tc : Nat → Int32) (fa : Int32) (b c : Nat) : Int32 := gaH n K su wi fa (upd ch b (nI c)) wd tc b
noncomputable def beV (n : Nat) (K : Nat → Nat) (su wi wd ch tc : Nat → Int32) (fa : Int32) (b w : Nat) : Int32 := if w = 0 then nI (bsF (gaC n K su wi wd ch tc fa b) 29).1 else (bsF (gaC n K su wi wd ch tc fa b) 29).2 + 100
theorem Vd_ch (hV : Vd n K ch wd) {b : Nat} {x : Int32} (hx : chOk x) : Vd n K (upd ch b x) wd := fun i hi => by
  refine ⟨(hV i hi).1, (hV i hi).2.1, ?_⟩
  by_cases hib : i = b
  · rw [hib, upd_eq]; exact hx
  · rw [upd_ne hib]; exact (hV i hi).2.2
theorem Vd_wd (hV : Vd n K ch wd) {b : Nat} {x : Int32} (hx : wdOk x) : Vd n K ch (upd wd b x) := fun i hi => by
  refine ⟨(hV i hi).1, ?_, (hV i hi).2.2⟩
  by_cases hib : i = b
  · rw [hib, upd_eq]; exact hx
  · rw [upd_ne hib]; exact (hV i hi).2.1
theorem chOk_N {c : Nat} (h1 : 1 ≤ c) (h2 : c ≤ 30) : chOk (nI c) := Or.inr ⟨c, rfl, h1, h2⟩
/-- ends as they are, but for b -/
def EnB (n : Nat) (K : Nat → Nat) (ch wd : Nat → Int32) (b : Nat) (en : Nat → Int32) : Prop := ∀ i, i < n → i ≠ b → en i = endF (K i) (ch i) (wd i)
theorem cGainBy (hn : n ≤ 5) (hV : Vd n K ch wd) {b c : Nat} (hb : b < n) (hc1 : 1 ≤ c) (hc2 : c ≤ 30) {en tt : Nat → Int32} (he : EnB n K ch wd b en) (ht : ∀ i, i < n → tt i = tc i) (g0 : Int32) (sl st : Nat → Int32) : ∃ (en' : Nat → Int32) (g' : Int32) (sl' st' : Nat → Int32), EnB n K ch wd b en' ∧ f_X11_gainByChoice (nI b) (nI c) K su wd wi en g0 sl st tt fa (nI n) = some (gaC n K su wi wd ch tc fa b c, en', g', sl', st') := by
  have e1 : f_X2_supposeChoice (nI b) (nI c) K wd en = some (upd en b (endF (K b) (nI c) (wd b))) := by
    rw [f_X2_supposeChoice, if_neg (ckN (i := b) (by omega) (by decide)), cl5 (by omega)]
  obtain ⟨sl', st', h1, h2, h3⟩ := cRunH (tc := tc) hn (Vd_ch (b := b) hV (chOk_N hc1 hc2)) (en := upd en b (endF (K b) (nI c) (wd b))) (tb := tt) (fun i hi => by
    by_cases hib : i = b
    · rw [hib, upd_eq, upd_eq]
    · rw [upd_ne hib, upd_ne hib]; exact he i hi hib) ht g0 sl st
  refine ⟨upd en b (endF (K b) (nI c) (wd b)), gH n K (upd ch b (nI c)) wd tc, sl', st', fun i hi hib => ?_, ?_⟩
  rotate_left
  · rw [f_X11_gainByChoice, e1]
    simp only [Option.bind_some]
    rw [h3]
    simp only [Option.bind_some]
    rw [cGain hb hn h1]
    rfl
  · rw [upd_ne hib]; exact he i hi hib
theorem lit30 {i : Nat} (h : i ≤ 30) : ¬ (30 : Int32) < nI i := fun hq => by
  have := (nI_ltI (a := 30) (b := i) (by decide) (by omega)).mp hq
  omega
theorem cBest (hn : n ≤ 5) (hV : Vd n K ch wd) {b w : Nat} (hb : b < n) (hw : w ≤ 1) (en : Nat → Int32) (g0 : Int32) (sl st tt : Nat → Int32) : ∃ (en' : Nat → Int32) (g' : Int32) (sl' st' tt' : Nat → Int32), f_X11_best (nI b) (nI w) K ch su tc wd wi en g0 sl st tt fa (nI n) = some (beV n K su wi wd ch tc fa b w, en', g', sl', st', tt') := by
  obtain ⟨en1, tt1, a1, a2, a3⟩ := cTake (K := K) (ch := ch) (wd := wd) (tc := tc) hn en tt
  obtain ⟨en2, g2, sl2, st2, b1, b2⟩ := cGainBy (su := su) (wi := wi) (fa := fa) (tc := tc) hn hV hb (c := 1) (by omega) (by omega) (en := en1) (fun i hi _ => a1 i hi) a2 g0 sl st
  obtain ⟨⟨m, be, en3, g3, sl3, st3⟩, ⟨c1, c2, c3⟩, c4⟩ := lpU1 (fun k y (q : Int32 × Int32 × (Nat → Int32) × Int32 × (Nat → Int32) × (Nat → Int32)) => f_X11_best_46 k (nI b) (nI w) K ch su tc wd wi fa (nI n) y q.1 q.2.1 q.2.2.1 q.2.2.2.1 q.2.2.2.2.1 q.2.2.2.2.2 tt1) (fun q => (nI 31, q.1, q.2.1, q.2.2.1, q.2.2.2.1, q.2.2.2.2.1, q.2.2.2.2.2, tt1)) 2 31
    (fun i q => EnB n K ch wd b q.2.2.1 ∧ q.1 = (bsF (gaC n K su wi wd ch tc fa b) (i - 2)).2 ∧ q.2.1 = nI (bsF (gaC n K su wi wd ch tc fa b) (i - 2)).1) (gaC n K su wi wd ch tc fa b 1, 1, en2, g2, sl2, st2) (by omega) (by omega) ⟨b1, rfl, rfl⟩
    (fun k q _ => by show f_X11_best_46 (k + 1) _ _ _ _ _ _ _ _ _ _ _ _ _ _ _ _ _ _ = _; rw [f_X11_best_46, if_pos (show (30 : Int32) < nI 31 by decide)])
    (fun k i ⟨m, be, en3, g3, sl3, st3⟩ hi0 hi ⟨h1, h2, h3⟩ => by
      have h2 : m = (bsF (gaC n K su wi wd ch tc fa b) (i - 2)).2 := h2
      have h3 : be = nI (bsF (gaC n K su wi wd ch tc fa b) (i - 2)).1 := h3
      show ∃ st', _ ∧ f_X11_best_46 (k + 1) _ _ _ _ _ _ _ _ _ _ _ _ _ _ _ _ _ _ = _
      obtain ⟨en4, g4, sl4, st4, d1, d2⟩ := cGainBy (su := su) (wi := wi) (fa := fa) (tc := tc) hn hV hb (c := i) (by omega) (by omega) (en := en3) h1 a2 g3 sl3 st3
      rw [f_X11_best_46, if_neg (lit30 (by omega))]
      show ∃ st', _ ∧ ((f_X11_gainByChoice (nI b) (nI i) K su wd wi en3 g3 sl3 st3 tt1 fa (nI n)).bind _) = _
      rw [d2]
      simp only [Option.bind_some, bnd, nI_1]
      have e1 : i + 1 - 2 = (i - 2) + 1 := by omega
      have e2 : i - 2 + 2 = i := by omega
      rw [e1]
      by_cases c : gaC n K su wi wd ch tc fa b i ≤ m
      · rw [if_pos c]
        refine ⟨(m, be, en4, g4, sl4, st4), ⟨d1, ?_, ?_⟩, rfl⟩
        · show m = _
          rw [bsF, e2, if_pos (by rw [← h2]; exact c)]; exact h2
        · show be = _
          rw [bsF, e2, if_pos (by rw [← h2]; exact c)]; exact h3
      · rw [if_neg c]
        refine ⟨(gaC n K su wi wd ch tc fa b i, nI i, en4, g4, sl4, st4), ⟨d1, ?_, ?_⟩, rfl⟩
        · show gaC n K su wi wd ch tc fa b i = _
          rw [bsF, e2, if_neg (by rw [← h2]; exact c)]
        · show nI i = _
          rw [bsF, e2, if_neg (by rw [← h2]; exact c)])
  have c2 : m = (bsF (gaC n K su wi wd ch tc fa b) 29).2 := c2
  have c3 : be = nI (bsF (gaC n K su wi wd ch tc fa b) 29).1 := c3
  have c4' : f_X11_best_46 4096 (nI b) (nI w) K ch su tc wd wi fa (nI n) 2 (gaC n K su wi wd ch tc fa b 1) 1 en2 g2 sl2 st2 tt1 = some (nI 31, m, be, en3, g3, sl3, st3, tt1) := c4
  have b2' : f_X11_gainByChoice (nI b) 1 K su wd wi en1 g0 sl st tt1 fa (nI n) = some (gaC n K su wi wd ch tc fa b 1, en2, g2, sl2, st2) := b2
  refine ⟨en3, g3, sl3, st3, tt1, ?_⟩
  rw [f_X11_best, has_in hb (by omega)]
  simp only [Option.bind_some]
  rw [if_neg c10, if_neg (nI_pos (n := w) (by omega)), if_pos (show nI w ≤ 1 from (nI_b (a := w) (b := 1) (by omega) (by decide)).mpr hw), a3]
  simp only [Option.bind_some]
  rw [b2']
  simp only [Option.bind_some]
  rw [c4', beV, ← c2, ← c3]
  clear c2 c3
  simp only [Option.bind_some]
  rcases (show w = 0 ∨ w = 1 by omega) with rfl | rfl
  · rw [if_pos nL0, if_pos rfl]
  · rw [if_neg (show ¬ nI 1 = 0 by decide), if_neg (show ¬ (1 : Nat) = 0 by decide)]
theorem upd_back (f : Nat → Int32) (b : Nat) (x : Int32) : upd (upd f b x) b (f b) = f := by
  funext j
  by_cases h : j = b
  · rw [h, upd_eq]
  · rw [upd_ne h, upd_ne h]
theorem HA.ch_ (hH : HA n K su wi wd ch tc ki wo so wio co tb) {b : Nat} {x : Int32} (hx : chOk x) : HA n K su wi wd (upd ch b x) tc ki wo so wio (upd co b x) tb := hH.mono hH.w (two_upd hH.c hx) hH.t
theorem mGainBy (hH : HA n K su wi wd ch tc ki wo so wio co tb) {b : Nat} {x : Int32} (hb : b < n) (hx : chOk x) (ms : Nat → Int32) : ∃ ms' : Nat → Int32, f_X12_gainBy (nI b) x (nI n) co fa ki ms so tb wo wio = some (gaH n K su wi fa (upd ch b x) wd tc b, co, ms') := by
  have hn := hH.1
  have h2 := hH.ch_ (b := b) hx
  obtain ⟨ms', b1, b2⟩ := mLay (tc := tc) (by omega) hn h2.V h2.eki h2.eco h2.ewo h2.etb ms
  refine ⟨ms', ?_⟩
  rw [f_X12_gainBy, if_neg (ckN (i := b) (by omega) (by decide)), cl5 (by omega), b2]
  simp only [bnd, Option.bind_some]
  rw [mGain (fa := fa) hb hn h2.V (h2.osu b hb) h2.eki b1 (h2.eso b hb) (h2.ewio b hb)]
  simp only [Option.bind_some]
  rw [upd_back]
theorem mBest (hH : HA n K su wi wd ch tc ki wo so wio co tb) {b w : Nat} (hb : b < n) (hw : w ≤ 1) (ms : Nat → Int32) : ∃ ms' : Nat → Int32, f_X12_bestNow (nI b) (nI w) (nI n) co fa ki ms so tb wo wio = some (beV n K su wi wd ch tc fa b w, co, ms') := by
  obtain ⟨ms1, b2⟩ := mGainBy (fa := fa) hH hb (x := nI 1) (chOk_N (by omega) (by omega)) ms
  obtain ⟨⟨m, be, ms2⟩, ⟨c2, c3⟩, c4⟩ := lpU1 (fun k y (q : Int32 × Int32 × (Nat → Int32)) => f_X12_bestNow_13 k (nI b) (nI w) (nI n) fa ki so tb wo wio y q.1 q.2.1 co q.2.2) (fun q => (nI 31, q.1, q.2.1, co, q.2.2)) 2 31
    (fun i q => q.1 = (bsF (gaC n K su wi wd ch tc fa b) (i - 2)).2 ∧ q.2.1 = nI (bsF (gaC n K su wi wd ch tc fa b) (i - 2)).1) (gaC n K su wi wd ch tc fa b 1, 1, ms1) (by omega) (by omega) ⟨rfl, rfl⟩
    (fun k q _ => by show f_X12_bestNow_13 (k + 1) _ _ _ _ _ _ _ _ _ _ _ _ _ _ = _; rw [f_X12_bestNow_13, if_pos (show (30 : Int32) < nI 31 by decide)])
    (fun k i ⟨m, be, ms2⟩ hi0 hi ⟨h2, h3⟩ => by
      have h2 : m = (bsF (gaC n K su wi wd ch tc fa b) (i - 2)).2 := h2
      have h3 : be = nI (bsF (gaC n K su wi wd ch tc fa b) (i - 2)).1 := h3
      show ∃ st', _ ∧ f_X12_bestNow_13 (k + 1) _ _ _ _ _ _ _ _ _ _ _ _ _ _ = _
      obtain ⟨ms3, d2⟩ := mGainBy (fa := fa) hH hb (x := nI i) (chOk_N (by omega) (by omega)) ms2
      have d2' : f_X12_gainBy (nI b) (nI i) (nI n) co fa ki ms2 so tb wo wio = some (gaC n K su wi wd ch tc fa b i, co, ms3) := d2
      rw [f_X12_bestNow_13, if_neg (lit30 (by omega))]
      show ∃ st', _ ∧ ((f_X12_gainBy (nI b) (nI i) (nI n) co fa ki ms2 so tb wo wio).bind _) = _
      rw [d2']
      simp only [Option.bind_some, bnd, nI_1]
      have e1 : i + 1 - 2 = (i - 2) + 1 := by omega
      have e2 : i - 2 + 2 = i := by omega
      rw [e1]
      by_cases c : gaC n K su wi wd ch tc fa b i ≤ m
      · rw [if_pos c]
        refine ⟨(m, be, ms3), ⟨?_, ?_⟩, rfl⟩
        · show m = _
          rw [bsF, e2, if_pos (by rw [← h2]; exact c)]; exact h2
        · show be = _
          rw [bsF, e2, if_pos (by rw [← h2]; exact c)]; exact h3
      · rw [if_neg c]
        refine ⟨(gaC n K su wi wd ch tc fa b i, nI i, ms3), ⟨?_, ?_⟩, rfl⟩
        · show gaC n K su wi wd ch tc fa b i = _
          rw [bsF, e2, if_neg (by rw [← h2]; exact c)]
        · show nI i = _
          rw [bsF, e2, if_neg (by rw [← h2]; exact c)])
  have c2 : m = (bsF (gaC n K su wi wd ch tc fa b) 29).2 := c2
  have c3 : be = nI (bsF (gaC n K su wi wd ch tc fa b) 29).1 := c3
  have c4' : f_X12_bestNow_13 4096 (nI b) (nI w) (nI n) fa ki so tb wo wio 2 (gaC n K su wi wd ch tc fa b 1) 1 co ms1 = some (nI 31, m, be, co, ms2) := c4
  have b2' : f_X12_gainBy (nI b) 1 (nI n) co fa ki ms so tb wo wio = some (gaC n K su wi wd ch tc fa b 1, co, ms1) := b2
  refine ⟨ms2, ?_⟩
  rw [f_X12_bestNow, b2']
  simp only [Option.bind_some]
  rw [c4', beV, ← c2, ← c3]
  clear c2 c3
  simp only [Option.bind_some]
  rcases (show w = 0 ∨ w = 1 by omega) with rfl | rfl
  · rw [if_pos nL0, if_pos rfl]
  · rw [if_neg (show ¬ nI 1 = 0 by decide), if_neg (show ¬ (1 : Nat) = 0 by decide)]
theorem q_best (hH : HA n K su wi wd ch tc ki wo so wio co tb) (x1 x2 : Int32) (en : Nat → Int32) (g0 : Int32) (sl st tt ms : Nat → Int32) : ∃ (r : Int32) (en' : Nat → Int32) (g' : Int32) (sl' st' tt' ms' : Nat → Int32), f_X11_best x1 x2 K ch su tc wd wi en g0 sl st tt fa (nI n) = some (r, en', g', sl', st', tt') ∧ f_X12_best x1 x2 (nI n) co fa ki ms so tb wo wio = some (r, co, ms') := by
  have hn := hH.1
  rcases pk_ix x1 (n := n) (by omega) with h | h | ⟨b, hb, rfl⟩
  · refine ⟨-101, en, g0, sl, st, tt, ms, ?_, ?_⟩
    · rw [f_X11_best, has_out (Or.inl h)]; rfl
    · rw [f_X12_best, isB_out hn (Or.inl h)]; rfl
  · refine ⟨-101, en, g0, sl, st, tt, ms, ?_, ?_⟩
    · rw [f_X11_best, has_out (Or.inr h)]; rfl
    · rw [f_X12_best, isB_out hn (Or.inr h)]; rfl
  · by_cases h1 : x2 < 0
    · refine ⟨-102, en, g0, sl, st, tt, ms, ?_, ?_⟩
      · rw [f_X11_best, has_in hb (by omega)]; simp only [Option.bind_some]; rw [if_neg c10, if_pos h1]
      · rw [f_X12_best, isB_in hb hn]; simp only [Option.bind_some]; rw [wi_lo h1]; rfl
    · by_cases h2 : x2 ≤ 1
      · obtain ⟨w, rfl, _, hw⟩ := rng (lo := 0) (hi := 1) h1 h2 (by decide) (by decide)
        obtain ⟨en', g', sl', st', tt', hc⟩ := cBest (su := su) (wi := wi) (fa := fa) (tc := tc) hn hH.V hb hw en g0 sl st tt
        obtain ⟨ms', hm⟩ := mBest (fa := fa) hH hb hw ms
        refine ⟨_, en', g', sl', st', tt', ms', hc, ?_⟩
        rw [f_X12_best, isB_in hb hn]; simp only [Option.bind_some]; rw [if_neg c10, wi_in h1 h2]; simp only [Option.bind_some]; rw [if_neg c10, hm]; rfl
      · refine ⟨-102, en, g0, sl, st, tt, ms, ?_, ?_⟩
        · rw [f_X11_best, has_in hb (by omega)]; simp only [Option.bind_some]; rw [if_neg c10, if_neg h1, if_neg h2]
        · rw [f_X12_best, isB_in hb hn]; simp only [Option.bind_some]; rw [if_neg c10, wi_hi h2]; rfl
end
