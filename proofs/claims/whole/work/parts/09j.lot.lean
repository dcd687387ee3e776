section
variable {n : Nat} {K : Nat → Nat} {su wi wd ch tc : Nat → Int32} {ki wo so wio co tb : Nat → Int32} {fa : Int32}
theorem ck5' {g : Nat} (h : g < 5) : ¬ (nI g < 0 ∨ 5 ≤ g) := fun q => q.elim (nI_pos (by omega)) (by omega)
theorem q_saying (hH : HA n K su wi wd ch tc ki wo so wio co tb) (x : Int32) (en : Nat → Int32) (g0 : Int32) (sl st tt ms : Nat → Int32) : ∃ (r : Int32) (en' : Nat → Int32) (g' : Int32) (sl' st' tt' ms' : Nat → Int32), f_X11_saying x K ch tc wd en g0 sl st tt (nI n) = some (r, en', g', sl', st', tt') ∧ f_X12_saying x (nI n) co ki ms tb wo = some (r, ms') := by
  have hn := hH.1
  by_cases h1 : x < 1
  · refine ⟨-102, en, g0, sl, st, tt, ms, ?_, ?_⟩
    · rw [f_X11_saying, if_pos h1]
    · rw [f_X12_saying, wi_lo h1]; rfl
  · by_cases h2 : x ≤ 40
    · by_cases h0 : n = 0
      · subst h0
        refine ⟨-103, en, g0, sl, st, tt, ms, ?_, ?_⟩
        · rw [f_X11_saying, if_neg h1, if_pos h2]; rfl
        · rw [f_X12_saying, wi_in h1 h2]; rfl
      · have hz : ¬ nI n = 0 := nI_ne0 (by omega) (by omega)
        obtain ⟨v, rfl, hv1, hv2⟩ := rng (lo := 1) (hi := 40) h1 h2 (by decide) (by decide)
        obtain ⟨en', sl', st', tt', a1, a2, a3⟩ := cRunAs (tc := tc) hn hH.V en g0 sl st tt
        obtain ⟨ms', b1, b2⟩ := mLay (tc := tc) (by omega) hn hH.V hH.eki hH.eco hH.ewo hH.etb ms
        obtain ⟨y, c1, c2⟩ := lpU0 (fun k y q => f_X11_saying_38 k (nI v) K ch tc wd (nI n) y q en' (gH n K ch wd tc) sl' st' tt') (fun q => (nI n, q, en', gH n K ch wd tc, sl', st', tt')) n (fun i q => q = nI (cnt (fun j => !decide (dH n K ch wd tc j ≤ v)) i)) 0 (by omega) rfl
          (fun k q _ => by show f_X11_saying_38 (k + 1) _ _ _ _ _ _ _ _ _ _ _ _ _ = _; rw [f_X11_saying_38, if_pos (le_t n)])
          (fun k i q hi hI => by
            show ∃ st', _ ∧ f_X11_saying_38 (k + 1) _ _ _ _ _ _ _ _ _ _ _ _ _ = _
            have hd := dH_b (tc := tc) hH.V hi
            rw [f_X11_saying_38, if_neg (le_f hi (by omega)), if_neg (ckN (i := i) (by omega) (by decide)), cl5 (i := i) (by omega), a1 i hi, hI]
            simp only [bnd, nI_1]
            by_cases c : dH n K ch wd tc i ≤ v
            · rw [if_pos ((nI_b (by omega) (by omega)).mpr c)]
              exact ⟨_, by rw [cnt]; simp [c], rfl⟩
            · rw [if_neg (fun h => c ((nI_b (by omega) (by omega)).mp h))]
              exact ⟨_, by rw [cnt]; simp [c], rfl⟩)
        obtain ⟨z, d1, d2⟩ := lpU0 (fun k y q => f_X12_sayingNow_8 k (nI v) (nI n) co ki tb wo y q ms') (fun q => (nI n, q, ms')) n (fun i q => q = nI (cnt (fun j => !decide (dH n K ch wd tc j ≤ v)) i)) 0 (by omega) rfl
          (fun k q _ => by show f_X12_sayingNow_8 (k + 1) _ _ _ _ _ _ _ _ _ = _; rw [f_X12_sayingNow_8, if_pos (le_t n)])
          (fun k i q hi hI => by
            show ∃ st', _ ∧ f_X12_sayingNow_8 (k + 1) _ _ _ _ _ _ _ _ _ = _
            have hd := dH_b (tc := tc) hH.V hi
            rw [f_X12_sayingNow_8, if_neg (le_f hi (by omega)), if_neg (ckN (i := i) (by omega) (by decide)), cl5 (i := i) (by omega), b1 i hi, hI]
            simp only [bnd, nI_1]
            by_cases c : dH n K ch wd tc i ≤ v
            · rw [if_pos ((nI_b (by omega) (by omega)).mpr c)]
              refine ⟨_, ?_, rfl⟩
              rw [cnt]
              simp [c]
            · rw [if_neg (fun h => c ((nI_b (by omega) (by omega)).mp h))]
              refine ⟨_, ?_, rfl⟩
              rw [cnt]
              simp [c])
        refine ⟨nI (cnt (fun j => !decide (dH n K ch wd tc j ≤ v)) n), en', gH n K ch wd tc, sl', st', tt', ms', ?_, ?_⟩
        · rw [f_X11_saying, if_neg h1, if_pos h2, if_neg hz, a3]
          simp only [Option.bind_some]
          have c2' : f_X11_saying_38 4096 (nI v) K ch tc wd (nI n) 0 0 en' (gH n K ch wd tc) sl' st' tt' = some (nI n, y, en', gH n K ch wd tc, sl', st', tt') := c2
          rw [c2', c1]
          rfl
        · rw [f_X12_saying, wi_in h1 h2]
          simp only [Option.bind_some]
          rw [if_neg c10, if_neg hz, f_X12_sayingNow, b2]
          simp only [Option.bind_some]
          have d2' : f_X12_sayingNow_8 4096 (nI v) (nI n) co ki tb wo 0 0 ms' = some (nI n, z, ms') := d2
          rw [d2', d1]
          rfl
    · refine ⟨-102, en, g0, sl, st, tt, ms, ?_, ?_⟩
      · rw [f_X11_saying, if_neg h1, if_neg h2]
      · rw [f_X12_saying, wi_hi h2]; rfl
/-- what lot() tells -/
noncomputable def loV (n : Nat) (K : Nat → Nat) (su : Nat → Int32) (fa : Int32) (ch wd tc : Nat → Int32) (w : Nat) : Int32 := if gH n K ch wd tc = -1 then -1 else if w = 0 then gH n K ch wd tc else if w = 1 then prH n K su fa ch wd tc (gH n K ch wd tc).toNatClampNeg else nI (sH n K ch wd tc (gH n K ch wd tc).toNatClampNeg)
theorem cLot (h0 : 0 < n) (hn : n ≤ 5) (hV : Vd n K ch wd) {w : Nat} (hw : w ≤ 2) (en : Nat → Int32) (g0 : Int32) (sl st tt : Nat → Int32) : ∃ (en' : Nat → Int32) (g' : Int32) (sl' st' tt' : Nat → Int32), f_X11_lot (nI w) K ch su tc wd en g0 sl st tt fa (nI n) = some (loV n K su fa ch wd tc w, en', g', sl', st', tt') := by
  obtain ⟨en', sl', st', tt', a1, a2, a3⟩ := cRunAs (tc := tc) hn hV en g0 sl st tt
  have hz : ¬ nI n = 0 := nI_ne0 (by omega) (by omega)
  rw [f_X11_lot, if_neg (nI_pos (n := w) (by omega)), if_pos (show nI w ≤ 2 from (nI_b (a := w) (b := 2) (by omega) (by decide)).mpr hw), if_neg hz, a3]
  simp only [Option.bind_some]
  rcases gH_cases n K ch wd tc with ⟨g, hg, e⟩ | e
  · rw [loV, e, if_neg (nI_m1 (by omega)), if_neg (nI_m1 (by omega)), cl5 (by omega)]
    match w, hw with
    | 0, _ => exact ⟨_, _, _, _, _, rfl⟩
    | 1, _ =>
      rw [nL1, if_neg (by decide), if_pos rfl, f_X2_priceOf, if_neg (ckN (i := g) (by omega) (by decide)), cl5 (by omega), a1 g hg]
      exact ⟨_, _, _, _, _, rfl⟩
    | 2, _ =>
      rw [nL2, if_neg (by decide), if_neg (by decide), if_neg (ck5' (g := g) (by omega)), a2 g hg]
      exact ⟨_, _, _, _, _, rfl⟩
  · rw [loV, e, if_pos rfl, if_pos rfl]
    exact ⟨_, _, _, _, _, rfl⟩
theorem mLot (h0 : 0 < n) (hH : HA n K su wi wd ch tc ki wo so wio co tb) {w : Nat} (hw : w ≤ 2) (ms : Nat → Int32) : ∃ ms' : Nat → Int32, f_X12_lotNow (nI w) (nI n) co fa ki ms so tb wo = some (loV n K su fa ch wd tc w, ms') := by
  have hn := hH.1
  obtain ⟨ms', b1, b2⟩ := mLay (tc := tc) (by omega) hn hH.V hH.eki hH.eco hH.ewo hH.etb ms
  rw [f_X12_lotNow, b2]
  simp only [Option.bind_some]
  rw [mGet hn hH.V hH.eki b1]
  simp only [Option.bind_some]
  refine ⟨ms', ?_⟩
  rcases gH_cases n K ch wd tc with ⟨g, hg, e⟩ | e
  · rw [loV, e, if_neg (nI_m1 (by omega)), if_neg (nI_m1 (by omega)), cl5 (by omega)]
    match w, hw with
    | 0, _ => rfl
    | 1, _ =>
      rw [nL1, if_neg (by decide), if_pos rfl, mPri (fa := fa) hg hn hH.K5 (hH.osu g hg) hH.eki b1 (hH.eso g hg)]
      rfl
    | 2, _ =>
      rw [nL2, if_neg (by decide), if_neg (by decide), mSil hg hn hH.K5 hH.eki b1]
      rfl
  · rw [loV, e, if_pos rfl, if_pos rfl]
theorem q_lot (hH : HA n K su wi wd ch tc ki wo so wio co tb) (x : Int32) (en : Nat → Int32) (g0 : Int32) (sl st tt ms : Nat → Int32) : ∃ (r : Int32) (en' : Nat → Int32) (g' : Int32) (sl' st' tt' ms' : Nat → Int32), f_X11_lot x K ch su tc wd en g0 sl st tt fa (nI n) = some (r, en', g', sl', st', tt') ∧ f_X12_lot x (nI n) co fa ki ms so tb wo = some (r, ms') := by
  have hn := hH.1
  by_cases h1 : x < 0
  · refine ⟨-102, en, g0, sl, st, tt, ms, ?_, ?_⟩
    · rw [f_X11_lot, if_pos h1]
    · rw [f_X12_lot, wi_lo h1]; rfl
  · by_cases h2 : x ≤ 2
    · by_cases h0 : n = 0
      · subst h0
        refine ⟨-103, en, g0, sl, st, tt, ms, ?_, ?_⟩
        · rw [f_X11_lot, if_neg h1, if_pos h2]; rfl
        · rw [f_X12_lot, wi_in h1 h2]; rfl
      · obtain ⟨w, rfl, _, hw⟩ := rng (lo := 0) (hi := 2) h1 h2 (by decide) (by decide)
        obtain ⟨en', g', sl', st', tt', hc⟩ := cLot (su := su) (fa := fa) (tc := tc) (by omega) hn hH.V hw en g0 sl st tt
        obtain ⟨ms', hm⟩ := mLot (fa := fa) (by omega) hH hw ms
        refine ⟨_, en', g', sl', st', tt', ms', hc, ?_⟩
        rw [f_X12_lot, wi_in h1 h2]
        simp only [Option.bind_some]
        rw [if_neg c10, if_neg (nI_ne0 (by omega) (by omega)), hm]
        rfl
    · refine ⟨-102, en, g0, sl, st, tt, ms, ?_, ?_⟩
      · rw [f_X11_lot, if_neg h1, if_neg h2]
      · rw [f_X12_lot, wi_hi h2]; rfl
/-- count -/
theorem cChosen (hn : n ≤ 5) : f_X4_howManyHaveChosen ch (nI n) = some (nI (cnt (fun j => !decide (ch j = -1)) n)) := by
  obtain ⟨y, c1, c2⟩ := lpU0 (fun k y q => f_X4_howManyHaveChosen_4 k ch (nI n) y q) (fun q => (nI n, q)) n (fun i q => q = nI (cnt (fun j => !decide (ch j = -1)) i)) 0 (by omega) rfl
    (fun k q _ => by show f_X4_howManyHaveChosen_4 (k + 1) _ _ _ _ = _; rw [f_X4_howManyHaveChosen_4, if_pos (le_t n)])
    (fun k i q hi hI => by
      show ∃ st', _ ∧ f_X4_howManyHaveChosen_4 (k + 1) _ _ _ _ = _
      rw [f_X4_howManyHaveChosen_4, if_neg (le_f hi (by omega)), if_neg (ckN (i := i) (by omega) (by decide)), cl5 (i := i) (by omega), hI]
      simp only [bnd, nI_1]
      by_cases c : ch i = -1
      · rw [if_pos c]; exact ⟨_, by rw [cnt]; simp [c], rfl⟩
      · rw [if_neg c]; exact ⟨_, by rw [cnt]; simp [c], rfl⟩)
  rw [f_X4_howManyHaveChosen]
  have c2' : f_X4_howManyHaveChosen_4 4096 ch (nI n) 0 0 = some (nI n, y) := c2
  rw [c2', c1]
  rfl
theorem mChosen (hn : n ≤ 5) (h : ∀ i, i < n → co i = ch i) : f_X12_chosen (nI n) co = some (nI (cnt (fun j => !decide (ch j = -1)) n)) := by
  obtain ⟨y, c1, c2⟩ := lpU0 (fun k y q => f_X12_chosen_4 k (nI n) co y q) (fun q => (nI n, q)) n (fun i q => q = nI (cnt (fun j => !decide (ch j = -1)) i)) 0 (by omega) rfl
    (fun k q _ => by show f_X12_chosen_4 (k + 1) _ _ _ _ = _; rw [f_X12_chosen_4, if_pos (le_t n)])
    (fun k i q hi hI => by
      show ∃ st', _ ∧ f_X12_chosen_4 (k + 1) _ _ _ _ = _
      rw [f_X12_chosen_4, if_neg (le_f hi (by omega)), if_neg (ckN (i := i) (by omega) (by decide)), cl5 (i := i) (by omega), hI, h i hi]
      simp only [bnd, nI_1]
      by_cases c : ch i = -1
      · rw [if_pos c]
        refine ⟨_, ?_, rfl⟩
        rw [cnt]
        simp [c]
      · rw [if_neg c]
        refine ⟨_, ?_, rfl⟩
        rw [cnt]
        simp [c])
  rw [f_X12_chosen]
  have c2' : f_X12_chosen_4 4096 (nI n) co 0 0 = some (nI n, y) := c2
  rw [c2', c1]
  rfl
/-- the bits of t below m -/
def bT (t m : Nat) : Nat := cnt (fun a => decide (((nI t >>> (nI a &&& 31)) &&& 1) = 1)) m
def sB (t : Nat → Nat) (n : Nat) : Nat → Nat
  | 0 => 0
  | j + 1 => sB t n j + bT (t j) n
theorem bits_n : ∀ n : Nat, n < 6 → ∀ t : Nat, t < 2 ^ n → f_J6_bitCount_0f7a4 (nI t) = some (nI (bT t n)) := by decide +kernel
theorem bit_01 : ∀ t : Nat, t < 32 → ∀ a : Nat, a < 5 → ((nI t >>> (nI a &&& 31)) &&& 1) = nI (if decide (((nI t >>> (nI a &&& 31)) &&& 1) = 1) then 1 else 0) := by decide +kernel
theorem cTouches (hn : n ≤ 5) {t : Nat → Nat} (ht : ∀ i, i < n → tc i = nI (t i) ∧ t i < 2 ^ n) : f_X4_howManyTouches tc (nI n) = some (nI (sB t n n)) := by
  obtain ⟨y, c1, c2⟩ := lpU0 (fun k y q => f_X4_howManyTouches_4 k tc (nI n) y q) (fun q => (nI n, q)) n (fun i q => q = nI (sB t n i)) 0 (by omega) rfl
    (fun k q _ => by show f_X4_howManyTouches_4 (k + 1) _ _ _ _ = _; rw [f_X4_howManyTouches_4, if_pos (le_t n)])
    (fun k i q hi hI => by
      show ∃ st', _ ∧ f_X4_howManyTouches_4 (k + 1) _ _ _ _ = _
      rw [f_X4_howManyTouches_4, if_neg (le_f hi (by omega)), if_neg (ckN (i := i) (by omega) (by decide)), cl5 (i := i) (by omega), hI, (ht i hi).1, bits_n n (by omega) (t i) (ht i hi).2]
      simp only [Option.bind_some, bnd, nI_1, nI_add]
      exact ⟨_, rfl, rfl⟩)
  rw [f_X4_howManyTouches]
  have c2' : f_X4_howManyTouches_4 4096 tc (nI n) 0 0 = some (nI n, y) := c2
  rw [c2', c1]
  rfl
theorem mTouches (hn : n ≤ 5) {t : Nat → Nat} (ht : ∀ i, i < n → tb i = nI (t i) ∧ t i < 2 ^ n) : f_X12_touches (nI n) tb = some (nI (sB t n n)) := by
  by_cases h0 : n = 0
  · subst h0; rfl
  · have hn0 : 0 < n := by omega
    have hnn : n * n < 4096 ∧ 2 ^ n ≤ 32 := by
      have : n = 1 ∨ n = 2 ∨ n = 3 ∨ n = 4 ∨ n = 5 := by omega
      rcases this with h | h | h | h | h <;> subst h <;> decide
    obtain ⟨y, c1, c2⟩ := lpU0 (fun k y q => f_X12_touches_4 k (nI n) tb y q) (fun q => (nI (n * n), q)) (n * n) (fun i q => q = nI (sB t n (i / n) + bT (t (i / n)) (i % n))) 0 hnn.1 (by rw [Nat.zero_div, Nat.zero_mod]; rfl)
      (fun k q _ => by show f_X12_touches_4 (k + 1) _ _ _ _ = _; rw [f_X12_touches_4, pk_mul, if_pos (le_t (n * n))])
      (fun k i q hi hI => by
        show ∃ st', _ ∧ f_X12_touches_4 (k + 1) _ _ _ _ = _
        have hq : i / n < n := Nat.div_lt_of_lt_mul hi
        have hm : i % n < n := Nat.mod_lt _ hn0
        have ed : nI i / nI n = nI (i / n) := pk_div (by omega) hn0 (by omega)
        have ea : nI i - nI i / nI n * nI n = nI (i % n) := pk_rem (by omega) hn0 (by omega)
        rw [ed] at ea
        rw [f_X12_touches_4, pk_mul, if_neg (le_f hi (by omega)), if_neg (nI_ne0 hn0 (by omega)), ed, if_neg (ckN (i := i / n) (by omega) (by decide)), cl5 (i := i / n) (by omega), ea, hI, (ht _ hq).1]
        have h32 := (ht _ hq).2
        rw [bit_01 (t (i / n)) (by omega) (i % n) (by omega)]
        simp only [bnd, nI_1, nI_add]
        refine ⟨_, ?_, rfl⟩
        apply congrArg nI
        have hb : bT (t (i / n)) (i % n + 1) = bT (t (i / n)) (i % n) + if decide (((nI (t (i / n)) >>> (nI (i % n) &&& 31)) &&& 1) = 1) then 1 else 0 := rfl
        rw [Nat.add_assoc, ← hb]
        by_cases hw : i % n + 1 < n
        · have q1 : (i + 1) % n = i % n + 1 := by
            rw [Nat.add_mod, Nat.mod_eq_of_lt (a := 1) (by omega), Nat.mod_eq_of_lt hw]
          have q2 : (i + 1) / n = i / n := by
            have e1 := Nat.div_add_mod (i + 1) n
            have e2 := Nat.div_add_mod i n
            rw [q1] at e1
            have : n * ((i + 1) / n) = n * (i / n) := by omega
            exact Nat.eq_of_mul_eq_mul_left hn0 this
          rw [q1, q2]
        · have q0 : i % n + 1 = n := by omega
          have q1 : (i + 1) % n = 0 := by
            rw [← Nat.div_add_mod i n, Nat.add_assoc, q0, ← Nat.mul_succ, Nat.mul_mod_right]
          have q2 : (i + 1) / n = i / n + 1 := by
            have e2 := Nat.div_add_mod i n
            have e1 := Nat.div_add_mod (i + 1) n
            rw [q1] at e1
            have : n * ((i + 1) / n) = n * (i / n + 1) := by rw [Nat.mul_add, Nat.mul_one]; omega
            exact Nat.eq_of_mul_eq_mul_left hn0 this
          rw [q1, q2, q0]
          rfl)
    rw [f_X12_touches]
    have c2' : f_X12_touches_4 4096 (nI n) tb 0 0 = some (nI (n * n), y) := c2
    rw [c2', c1]
    have e1 : n * n / n = n := Nat.mul_div_cancel_left n hn0
    have e2 : n * n % n = 0 := Nat.mul_mod_right n n
    rw [e1, e2]
    rfl
/-- what count() tells -/
def coV (n : Nat) (ch tc : Nat → Int32) (fa hr hs pl rd : Int32) (x : Int32) : Int32 := if x = 0 then nI n else if x = 1 then fa else if x = 2 then nI (cnt (fun j => !decide (ch j = -1)) n) else if x = 3 then nI (sB (fun i => (tc i).toNatClampNeg) n n) else if x = 4 then hs else if x = 5 then pl else if x = 6 then hr else if x = 7 then rd else -102
theorem tc_nat (hn : n ≤ 5) {t : Int32} (h : tcOk n t) : t = nI t.toNatClampNeg ∧ t.toNatClampNeg < 2 ^ n := by
  obtain ⟨k, rfl, hk⟩ := h
  have : 2 ^ n ≤ 32 := by
    have : n = 0 ∨ n = 1 ∨ n = 2 ∨ n = 3 ∨ n = 4 ∨ n = 5 := by omega
    rcases this with h | h | h | h | h | h <;> subst h <;> decide
  rw [cl5 (by omega)]
  exact ⟨rfl, hk⟩
theorem cCount (hH : HA n K su wi wd ch tc ki wo so wio co tb) (x hr hs pl rd : Int32) : f_X11_count x ch tc fa (nI n) hr hs pl rd = some (coV n ch tc fa hr hs pl rd x) := by
  have hn := hH.1
  rw [f_X11_count, cChosen hn, cTouches (t := fun i => (tc i).toNatClampNeg) hn (fun i hi => tc_nat hn (hH.t i hi).1), coV]
  simp only [Option.bind_some]
  repeat' split
  all_goals rfl
theorem mCount (hH : HA n K su wi wd ch tc ki wo so wio co tb) (x hr hs pl rd : Int32) : f_X12_howMany x rd (nI n) co fa hr hs pl tb = some (coV n ch tc fa hr hs pl rd x) := by
  have hn := hH.1
  rw [f_X12_howMany, mChosen hn hH.eco, mTouches (t := fun i => (tc i).toNatClampNeg) hn (fun i hi => by rw [hH.etb i hi]; exact tc_nat hn (hH.t i hi).1), coV]
  simp only [Option.bind_some]
  repeat' split
  all_goals rfl
end
