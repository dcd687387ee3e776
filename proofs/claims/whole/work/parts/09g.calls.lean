section
def tcOk (n : Nat) (t : Int32) : Prop := ∃ k : Nat, t = nI k ∧ k < 2 ^ n
/-- the hall of the class and that of the reference are one -/
def HA (n : Nat) (K : Nat → Nat) (su wi wd ch tc : Nat → Int32) (ki wo so wio co tb : Nat → Int32) : Prop := n ≤ 5 ∧ ∀ i, i < n → (K i < 5 ∧ wdOk (wd i) ∧ chOk (ch i)) ∧ suOk (su i) ∧ suOk (wi i) ∧ tcOk n (tc i) ∧ ki i = nI (K i) ∧ wo i = wd i ∧ so i = su i ∧ wio i = wi i ∧ co i = ch i ∧ tb i = tc i
theorem has_in {n b : Nat} (h : b < n) (hn : n < 2 ^ 31) : f_X4_has (nI b) (nI n) = some 1 := by
  rw [f_X4_has, if_neg (nI_pos (by omega)), if_neg (le_f h hn)]
theorem has_out {n : Nat} {x : Int32} (h : x < 0 ∨ nI n ≤ x) : f_X4_has x (nI n) = some 0 := by
  rw [f_X4_has]
  by_cases h1 : x < 0
  · rw [if_pos h1]
  · rw [if_neg h1, if_pos (h.resolve_left h1)]
theorem wi_in {x lo hi : Int32} (h1 : ¬ x < lo) (h2 : x ≤ hi) : f_X12_within x lo hi = some 1 := by
  rw [f_X12_within, if_neg h1, if_neg (Int32.not_lt.mpr h2)]
theorem wi_lo {x lo hi : Int32} (h1 : x < lo) : f_X12_within x lo hi = some 0 := by rw [f_X12_within, if_pos h1]
theorem wi_hi {x lo hi : Int32} (h2 : ¬ x ≤ hi) : f_X12_within x lo hi = some 0 := by
  rw [f_X12_within]
  by_cases h1 : x < lo
  · rw [if_pos h1]
  · rw [if_neg h1, if_pos (Int32.not_le.mp h2)]
theorem isB_in {n b : Nat} (h : b < n) (hn : n ≤ 5) : f_X12_isBidder (nI b) (nI n) = some 1 := by
  rw [f_X12_isBidder]
  have e : nI n - 1 = nI (n - 1) := pk_sub (b := 1) (by omega)
  rw [e, wi_in (nI_pos (by omega)) ((nI_b (by omega) (by omega)).mpr (by omega))]
  rfl
theorem isB_out {n : Nat} {x : Int32} (hn : n ≤ 5) (h : x < 0 ∨ nI n ≤ x) : f_X12_isBidder x (nI n) = some 0 := by
  rw [f_X12_isBidder]
  have hw : f_X12_within x 0 (nI n - 1) = some 0 := by
    rcases h with h | h
    · exact wi_lo h
    · refine wi_hi (fun hq => ?_)
      rw [Int32.le_iff_toInt_le] at h hq
      have e : (nI n - 1).toInt = (n : Int) - 1 := pk_sub_toInt (a := n) (b := 1) (by omega) (by decide)
      rw [nI_toInt (by omega)] at h
      rw [e] at hq
      omega
  rw [hw]
  rfl
theorem rng {x : Int32} {lo hi : Nat} (h1 : ¬ x < nI lo) (h2 : x ≤ nI hi) (hl : hi < 2 ^ 31) (hlo : lo < 2 ^ 31) : ∃ k : Nat, x = nI k ∧ lo ≤ k ∧ k ≤ hi := by
  have h3 := Int32.not_lt.mp h1
  rw [Int32.le_iff_toInt_le, nI_toInt hlo] at h3
  rw [Int32.le_iff_toInt_le, nI_toInt hl] at h2
  refine ⟨x.toInt.toNat, ?_, by omega, by omega⟩
  apply Int32.toInt_inj.mp
  rw [nI_toInt (by omega)]
  omega
variable {n : Nat} {K : Nat → Nat} {su wi wd ch tc : Nat → Int32} {ki wo so wio co tb : Nat → Int32} {fa : Int32}
theorem HA.V (h : HA n K su wi wd ch tc ki wo so wio co tb) : Vd n K ch wd := fun i hi => (h.2 i hi).1
theorem HA.eki (h : HA n K su wi wd ch tc ki wo so wio co tb) : ∀ i, i < n → ki i = nI (K i) := fun i hi => (h.2 i hi).2.2.2.2.1
theorem HA.ewo (h : HA n K su wi wd ch tc ki wo so wio co tb) : ∀ i, i < n → wo i = wd i := fun i hi => (h.2 i hi).2.2.2.2.2.1
theorem HA.eso (h : HA n K su wi wd ch tc ki wo so wio co tb) : ∀ i, i < n → so i = su i := fun i hi => (h.2 i hi).2.2.2.2.2.2.1
theorem HA.ewio (h : HA n K su wi wd ch tc ki wo so wio co tb) : ∀ i, i < n → wio i = wi i := fun i hi => (h.2 i hi).2.2.2.2.2.2.2.1
theorem HA.eco (h : HA n K su wi wd ch tc ki wo so wio co tb) : ∀ i, i < n → co i = ch i := fun i hi => (h.2 i hi).2.2.2.2.2.2.2.2.1
theorem HA.etb (h : HA n K su wi wd ch tc ki wo so wio co tb) : ∀ i, i < n → tb i = tc i := fun i hi => (h.2 i hi).2.2.2.2.2.2.2.2.2
theorem HA.osu (h : HA n K su wi wd ch tc ki wo so wio co tb) : ∀ i, i < n → suOk (su i) := fun i hi => (h.2 i hi).2.1
theorem HA.K5 (h : HA n K su wi wd ch tc ki wo so wio co tb) : ∀ i, i < n → K i < 5 := fun i hi => (h.2 i hi).1.1
/-- what about() tells -/
noncomputable def abV (n : Nat) (K : Nat → Nat) (su wi wd ch tc : Nat → Int32) (fa : Int32) (b w : Nat) : Int32 := if w = 0 then nI (K b) else if w = 1 then wd b else if w = 2 then su b else if w = 3 then wi b else if w = 4 then ch b else if w = 5 then nI (dH n K ch wd tc b) else if w = 6 then nI (sH n K ch wd tc b) else if w = 7 then prH n K su fa ch wd tc b else if w = 8 then gaH n K su wi fa ch wd tc b else tc b
theorem cRunAs (hn : n ≤ 5) (hV : Vd n K ch wd) (en : Nat → Int32) (g0 : Int32) (sl st tt : Nat → Int32) : ∃ en' sl' st' tt' : Nat → Int32, (∀ i, i < n → st' i = nI (dH n K ch wd tc i)) ∧ (∀ i, i < n → sl' i = nI (sH n K ch wd tc i)) ∧ f_X2_runAsItIs K ch tc wd en g0 (nI n) sl st tt = some (en', gH n K ch wd tc, sl', st', tt') := by
  obtain ⟨en', tt', h1, h2, h3⟩ := cTake (K := K) (ch := ch) (wd := wd) (tc := tc) hn en tt
  obtain ⟨sl', st', h4, h5, h6⟩ := cRunH hn hV h1 h2 g0 sl st
  refine ⟨en', sl', st', tt', h4, h5, ?_⟩
  rw [f_X2_runAsItIs, h3]
  simp only [Option.bind_some]
  rw [h6]
  rfl
theorem nL0 : nI 0 = 0 := rfl
theorem nL1 : nI 1 = 1 := rfl
theorem nL2 : nI 2 = 2 := rfl
theorem nL3 : nI 3 = 3 := rfl
theorem nL4 : nI 4 = 4 := rfl
theorem nL5 : nI 5 = 5 := rfl
theorem nL6 : nI 6 = 6 := rfl
theorem nL7 : nI 7 = 7 := rfl
theorem nL8 : nI 8 = 8 := rfl
theorem nL9 : nI 9 = 9 := rfl
theorem nL10 : nI 10 = 10 := rfl
theorem nL11 : nI 11 = 11 := rfl
theorem nL12 : nI 12 = 12 := rfl
theorem nL13 : nI 13 = 13 := rfl
theorem nL14 : nI 14 = 14 := rfl
theorem nL15 : nI 15 = 15 := rfl
theorem nL16 : nI 16 = 16 := rfl
theorem nL17 : nI 17 = 17 := rfl
theorem nL18 : nI 18 = 18 := rfl
theorem nL19 : nI 19 = 19 := rfl
theorem nL20 : nI 20 = 20 := rfl
theorem nL21 : nI 21 = 21 := rfl
theorem nL22 : nI 22 = 22 := rfl
theorem nL23 : nI 23 = 23 := rfl
theorem nL24 : nI 24 = 24 := rfl
theorem nL25 : nI 25 = 25 := rfl
theorem nL26 : nI 26 = 26 := rfl
theorem nL27 : nI 27 = 27 := rfl
theorem nL28 : nI 28 = 28 := rfl
theorem nL29 : nI 29 = 29 := rfl
theorem nL30 : nI 30 = 30 := rfl
theorem nL31 : nI 31 = 31 := rfl
theorem nL32 : nI 32 = 32 := rfl
theorem nL33 : nI 33 = 33 := rfl
theorem nL34 : nI 34 = 34 := rfl
theorem nL35 : nI 35 = 35 := rfl
theorem nL36 : nI 36 = 36 := rfl
theorem nL37 : nI 37 = 37 := rfl
theorem nL38 : nI 38 = 38 := rfl
theorem nL39 : nI 39 = 39 := rfl
theorem nL40 : nI 40 = 40 := rfl
theorem nI_k {w : Nat} {k : Nat} (hw : w < 2 ^ 31) (hk : k < 2 ^ 31) : (nI w = nI k) = (w = k) := propext (nI_eq hw hk)
theorem cAbout (h5 : n ≤ 5) (hV : Vd n K ch wd) {b w : Nat} (hb : b < n) (hw : w ≤ 9) (en : Nat → Int32) (g0 : Int32) (sl st tt : Nat → Int32) : ∃ (en' : Nat → Int32) (g' : Int32) (sl' st' tt' : Nat → Int32), f_X11_about (nI b) (nI w) K ch su tc wd wi en g0 sl st tt fa (nI n) = some (abV n K su wi wd ch tc fa b w, en', g', sl', st', tt') := by
  obtain ⟨en', sl', st', tt', h1, h2, h3⟩ := cRunAs (tc := tc) h5 hV en g0 sl st tt
  rw [f_X11_about, has_in hb (by omega)]
  simp only [Option.bind_some]
  rw [h3]
  have hp : f_X2_priceOf (nI b) K su fa st' = some (prH n K su fa ch wd tc b) := by
    rw [f_X2_priceOf, if_neg (ckN (i := b) (by omega) (by decide)), cl5 (i := b) (by omega), h1 b hb]; rfl
  have hg := cGain (su := su) (wi := wi) (fa := fa) hb h5 h1
  have q0 : 0 ≤ nI b := nI_pos' (by omega)
  have q1 : ¬ nI b < 0 := nI_pos (by omega)
  have q5 : b < 5 := by omega
  simp only [Option.bind_some]
  match w, hw with
  | 0, _ => rw [nL0]; simp [q0, q1, q5, cl5 (i := b) (by omega), abV, kinF]
  | 1, _ => rw [nL1]; simp [q0, q1, q5, cl5 (i := b) (by omega), abV]
  | 2, _ => rw [nL2]; simp [q0, q1, q5, cl5 (i := b) (by omega), abV]
  | 3, _ => rw [nL3]; simp [q0, q1, q5, cl5 (i := b) (by omega), abV]
  | 4, _ => rw [nL4]; simp [q0, q1, q5, cl5 (i := b) (by omega), abV]
  | 5, _ => rw [nL5]; simp [q0, q1, q5, cl5 (i := b) (by omega), abV, h1 b hb]
  | 6, _ => rw [nL6]; simp [q0, q1, q5, cl5 (i := b) (by omega), abV, h2 b hb]
  | 7, _ => rw [nL7]; simp [q0, q1, q5, cl5 (i := b) (by omega), abV, hp]
  | 8, _ => rw [nL8]; simp [q0, q1, q5, cl5 (i := b) (by omega), abV, hg]
  | 9, _ => rw [nL9]; simp [q0, q1, q5, cl5 (i := b) (by omega), abV]
theorem mAbout (hH : HA n K su wi wd ch tc ki wo so wio co tb) {b w : Nat} (hb : b < n) (hw : w ≤ 9) (st : Nat → Int32) : ∃ st' : Nat → Int32, f_X12_bidderNow (nI b) (nI w) (nI n) co fa ki st so tb wo wio = some (abV n K su wi wd ch tc fa b w, st') := by
  have hn := hH.1
  obtain ⟨st', h1, h2⟩ := mLay (tc := tc) (by omega) hn hH.V hH.eki hH.eco hH.ewo hH.etb st
  have hp := mPri (fa := fa) hb hn hH.K5 (hH.osu b hb) hH.eki h1 (hH.eso b hb)
  have hg := mGain (fa := fa) hb hn hH.V (hH.osu b hb) hH.eki h1 (hH.eso b hb) (hH.ewio b hb)
  have hs := mSil hb hn hH.K5 hH.eki h1
  have q0 : 0 ≤ nI b := nI_pos' (by omega)
  have q1 : ¬ nI b < 0 := nI_pos (by omega)
  have q5 : b < 5 := by omega
  rw [f_X12_bidderNow, h2]
  simp only [Option.bind_some]
  refine ⟨st', ?_⟩
  match w, hw with
  | 0, _ => rw [nL0]; simp [q0, q1, q5, cl5 (i := b) (by omega), abV, hH.eki b hb]
  | 1, _ => rw [nL1]; simp [q0, q1, q5, cl5 (i := b) (by omega), abV, hH.ewo b hb]
  | 2, _ => rw [nL2]; simp [q0, q1, q5, cl5 (i := b) (by omega), abV, hH.eso b hb]
  | 3, _ => rw [nL3]; simp [q0, q1, q5, cl5 (i := b) (by omega), abV, hH.ewio b hb]
  | 4, _ => rw [nL4]; simp [q0, q1, q5, cl5 (i := b) (by omega), abV, hH.eco b hb]
  | 5, _ => rw [nL5]; simp [q0, q1, q5, cl5 (i := b) (by omega), abV, h1 b hb]
  | 6, _ => rw [nL6]; simp [q0, q1, q5, cl5 (i := b) (by omega), abV, hs]
  | 7, _ => rw [nL7]; simp [q0, q1, q5, cl5 (i := b) (by omega), abV, hp]
  | 8, _ => rw [nL8]; simp [q0, q1, q5, cl5 (i := b) (by omega), abV, hg]
  | 9, _ => rw [nL9]; simp [q0, q1, q5, cl5 (i := b) (by omega), abV, hH.etb b hb]
/-- about: both answer alike -/
theorem q_about (hH : HA n K su wi wd ch tc ki wo so wio co tb) (x1 x2 : Int32) (en : Nat → Int32) (g0 : Int32) (sl st tt ms : Nat → Int32) : ∃ (r : Int32) (en' : Nat → Int32) (g' : Int32) (sl' st' tt' ms' : Nat → Int32), f_X11_about x1 x2 K ch su tc wd wi en g0 sl st tt fa (nI n) = some (r, en', g', sl', st', tt') ∧ f_X12_about x1 x2 (nI n) co fa ki ms so tb wo wio = some (r, ms') := by
  have hn := hH.1
  rcases pk_ix x1 (n := n) (by omega) with h | h | ⟨b, hb, rfl⟩
  · refine ⟨-101, en, g0, sl, st, tt, ms, ?_, ?_⟩
    · rw [f_X11_about, has_out (Or.inl h)]; rfl
    · rw [f_X12_about, isB_out hn (Or.inl h)]; rfl
  · refine ⟨-101, en, g0, sl, st, tt, ms, ?_, ?_⟩
    · rw [f_X11_about, has_out (Or.inr h)]; rfl
    · rw [f_X12_about, isB_out hn (Or.inr h)]; rfl
  · by_cases h1 : x2 < 0
    · refine ⟨-102, en, g0, sl, st, tt, ms, ?_, ?_⟩
      · rw [f_X11_about, has_in hb (by omega)]; simp only [Option.bind_some]; rw [if_neg (by decide), if_pos h1]
      · rw [f_X12_about, isB_in hb hn]; simp only [Option.bind_some]; rw [wi_lo h1]; rfl
    · by_cases h2 : x2 ≤ 9
      · obtain ⟨w, rfl, _, hw⟩ := rng (lo := 0) (hi := 9) h1 h2 (by decide) (by decide)
        obtain ⟨en', g', sl', st', tt', hc⟩ := cAbout (su := su) (wi := wi) (fa := fa) (tc := tc) hn hH.V hb hw en g0 sl st tt
        obtain ⟨ms', hm⟩ := mAbout (fa := fa) hH hb hw ms
        refine ⟨_, en', g', sl', st', tt', ms', hc, ?_⟩
        rw [f_X12_about, isB_in hb hn]; simp only [Option.bind_some]; rw [if_neg (by decide), wi_in h1 h2]; simp only [Option.bind_some]; rw [if_neg (by decide), hm]; rfl
      · refine ⟨-102, en, g0, sl, st, tt, ms, ?_, ?_⟩
        · rw [f_X11_about, has_in hb (by omega)]; simp only [Option.bind_some]; rw [if_neg (by decide), if_neg h1, if_neg h2]
        · rw [f_X12_about, isB_in hb hn]; simp only [Option.bind_some]; rw [if_neg (by decide), wi_hi h2]; rfl
end
