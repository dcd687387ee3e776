section
def mx (f : Nat → Int32) (h : Int64) : Nat → Int64
  | 0 => h
  | k + 1 => 31 * mx f h k + (f k).toInt64
theorem mx_congr {f f' : Nat → Int32} (h : Int64) {k : Nat} (e : ∀ i, i < k → f i = f' i) : mx f h k = mx f' h k := by
  induction k with
  | zero => rfl
  | succ k ih => rw [mx, mx, ih (fun i hi => e i (by omega)), e k (by omega)]
theorem mx2 (f : Nat → Int32) (h : Int64) : mx f h 2 = 31 * (31 * h + (f 0).toInt64) + (f 1).toInt64 := rfl
theorem mixE (x h : Int64) : f_X12_mix x h = some (31 * h + x) := rfl
theorem ltL {a b : Nat} {L : Int32} (hL : L = nI a) (h : a < b) (hb : b < 2 ^ 31) : L < nI b := by rw [hL]; exact (nI_ltI (by omega) hb).mpr h
theorem nltL {a b : Nat} {L : Int32} (hL : L = nI a) (h : b ≤ a) (ha : a < 2 ^ 31) : ¬ L < nI b := by rw [hL]; exact fun hq => by have := (nI_ltI (by omega) (by omega)).mp hq; omega
theorem leL {a b : Nat} {L : Int32} (hL : L = nI a) (h : a ≤ b) (hb : b < 2 ^ 31) : L ≤ nI b := by rw [hL]; exact (nI_b (by omega) hb).mpr h
theorem nleL {a b : Nat} {L : Int32} (hL : L = nI a) (h : b < a) (ha : a < 2 ^ 31) : ¬ L ≤ nI b := by rw [hL]; exact fun hq => by have := (nI_b (by omega) (by omega)).mp hq; omega
variable {n hc pl : Nat} {K : Nat → Nat} {su wi wd ch tc : Nat → Int32} {ki wo so wio co tb : Nat → Int32} {fa : Int32} {hb hr mb mr cd pg : Nat → Int32}
/-- what the digest takes of bidder b -/
noncomputable def dB (n hc : Nat) (K : Nat → Nat) (su wi wd ch tc : Nat → Int32) (fa : Int32) (hb hr : Nat → Int32) (h : Int64) (b : Nat) : Int64 := 31 * mx (beV n K su wi wd ch tc fa b) (mx (abV n K su wi wd ch tc fa b) h 10) 2 + (wnV n K ch wd tc hc hb hr b).toInt64
noncomputable def dBs (n hc : Nat) (K : Nat → Nat) (su wi wd ch tc : Nat → Int32) (fa : Int32) (hb hr : Nat → Int32) (h : Int64) : Nat → Int64
  | 0 => h
  | b + 1 => dB n hc K su wi wd ch tc fa hb hr (dBs n hc K su wi wd ch tc fa hb hr h b) b
theorem cDW (hH : HA n K su wi wd ch tc ki wo so wio co tb) (hE : HE n hc hb hr mb mr) (h : Int64) {b : Nat} (hbn : b < n) (en : Nat → Int32) (g0 : Int32) (sl st tt : Nat → Int32) : ∃ (en' : Nat → Int32) (g' : Int32) (sl' st' tt' : Nat → Int32), f_X11_digestWith h (nI b) K ch su tc wd wi en g0 sl st tt fa (nI n) hb hr (nI hc) = some (dB n hc K su wi wd ch tc fa hb hr h b, en', g', sl', st', tt') := by
  have hn := hH.1
  obtain ⟨⟨h1, e1, g1, s1, t1, u1⟩, c0, c1⟩ := lpU0 (fun k y (q : Int64 × (Nat → Int32) × Int32 × (Nat → Int32) × (Nat → Int32) × (Nat → Int32)) => f_X11_digestWith_6 k h (nI b) K ch su tc wd wi fa (nI n) hb hr (nI hc) y q.1 q.2.1 q.2.2.1 q.2.2.2.1 q.2.2.2.2.1 q.2.2.2.2.2) (fun q => (nI 10, q)) 10 (fun i q => q.1 = mx (abV n K su wi wd ch tc fa b) h i) (h, en, g0, sl, st, tt) (by omega) rfl
    (fun k q _ => by show f_X11_digestWith_6 (k + 1) _ _ _ _ _ _ _ _ _ _ _ _ _ _ _ _ _ _ _ _ = _; rw [f_X11_digestWith_6, if_pos (ltL (a := 9) (L := 9) rfl (by omega) (by omega))])
    (fun k i q hi hI => by
      show ∃ st', _ ∧ f_X11_digestWith_6 (k + 1) _ _ _ _ _ _ _ _ _ _ _ _ _ _ _ _ _ _ _ _ = _
      obtain ⟨q0, q1, q2, q3, q4, q5⟩ := q
      dsimp only at hI ⊢
      obtain ⟨e', g', s', t', u', d⟩ := cAbout (su := su) (wi := wi) (fa := fa) (tc := tc) hn hH.V hbn (show i ≤ 9 by omega) q1 q2 q3 q4 q5
      rw [f_X11_digestWith_6, if_neg (nltL (a := 9) (L := 9) rfl (by omega) (by omega)), d]
      simp only [Option.bind_some, bnd, nI_1]
      refine ⟨(31 * q0 + (abV n K su wi wd ch tc fa b i).toInt64, e', g', s', t', u'), ?_, rfl⟩
      show 31 * q0 + _ = _
      rw [mx, hI])
  obtain ⟨⟨h2, e2, g2, s2, t2, u2⟩, c2, c3⟩ := lpU0 (fun k y (q : Int64 × (Nat → Int32) × Int32 × (Nat → Int32) × (Nat → Int32) × (Nat → Int32)) => f_X11_digestWith_39 k h (nI b) K ch su tc wd wi fa (nI n) hb hr (nI hc) y q.1 q.2.1 q.2.2.1 q.2.2.2.1 q.2.2.2.2.1 q.2.2.2.2.2) (fun q => (nI 2, q)) 2 (fun i q => q.1 = mx (beV n K su wi wd ch tc fa b) h1 i) (h1, e1, g1, s1, t1, u1) (by omega) rfl
    (fun k q _ => by show f_X11_digestWith_39 (k + 1) _ _ _ _ _ _ _ _ _ _ _ _ _ _ _ _ _ _ _ _ = _; rw [f_X11_digestWith_39, if_pos (ltL (a := 1) (L := 1) rfl (by omega) (by omega))])
    (fun k i q hi hI => by
      show ∃ st', _ ∧ f_X11_digestWith_39 (k + 1) _ _ _ _ _ _ _ _ _ _ _ _ _ _ _ _ _ _ _ _ = _
      obtain ⟨q0, q1, q2, q3, q4, q5⟩ := q
      dsimp only at hI ⊢
      obtain ⟨e', g', s', t', u', d⟩ := cBest (su := su) (wi := wi) (fa := fa) (tc := tc) hn hH.V hbn (show i ≤ 1 by omega) q1 q2 q3 q4 q5
      rw [f_X11_digestWith_39, if_neg (nltL (a := 1) (L := 1) rfl (by omega) (by omega)), d]
      simp only [Option.bind_some, bnd, nI_1]
      refine ⟨(31 * q0 + (beV n K su wi wd ch tc fa b i).toInt64, e', g', s', t', u'), ?_, rfl⟩
      show 31 * q0 + _ = _
      rw [mx, hI])
  obtain ⟨e', g', s', t', u', d⟩ := cWinds (tc := tc) hn hH.V hE hbn e2 g2 s2 t2 u2
  have c0' : h1 = mx (abV n K su wi wd ch tc fa b) h 10 := c0
  have c2' : h2 = mx (beV n K su wi wd ch tc fa b) h1 2 := c2
  have c1' : f_X11_digestWith_6 4096 h (nI b) K ch su tc wd wi fa (nI n) hb hr (nI hc) 0 h en g0 sl st tt = some (nI 10, h1, e1, g1, s1, t1, u1) := c1
  have c3' : f_X11_digestWith_39 4096 h (nI b) K ch su tc wd wi fa (nI n) hb hr (nI hc) 0 h1 e1 g1 s1 t1 u1 = some (nI 2, h2, e2, g2, s2, t2, u2) := c3
  refine ⟨e', g', s', t', u', ?_⟩
  rw [f_X11_digestWith, c1']
  simp only [Option.bind_some]
  rw [c3']
  simp only [Option.bind_some]
  rw [d, c2', c0']
  rfl
/-- the whole digest -/
noncomputable def dgV (n hc pl : Nat) (K : Nat → Nat) (su wi wd ch tc : Nat → Int32) (fa : Int32) (hb hr cd : Nat → Int32) (hN rD : Int32) : Int64 := mx (fun i => coV n ch tc fa hN (nI hc) (nI pl) rD (nI i)) (mx cd (dBs n hc K su wi wd ch tc fa hb hr (if n = 0 then 911 else mx (thV n K ch wd tc hc hb hr) (mx (loV n K su fa ch wd tc) 911 3) 2) n) pl) 8
theorem cDig (hH : HA n K su wi wd ch tc ki wo so wio co tb) (hE : HE n hc hb hr mb mr) (hpl : pl ≤ 28) (hN rD : Int32) (en : Nat → Int32) (g0 : Int32) (sl st tt : Nat → Int32) : ∃ (en' : Nat → Int32) (g' : Int32) (sl' st' tt' : Nat → Int32), f_X11_digest K ch su tc wd wi en g0 sl st tt fa (nI n) hN hb hr (nI hc) cd (nI pl) rD = some (dgV n hc pl K su wi wd ch tc fa hb hr cd hN rD, en', g', sl', st', tt') := by
  have hn := hH.1
  obtain ⟨y1, y2, h1, e1, g1, s1, t1, u1, h2, e2, g2, s2, t2, u2, a1, a2, a3⟩ : ∃ (y1 y2 : Int32) (h1 : Int64) (e1 : Nat → Int32) (g1 : Int32) (s1 t1 u1 : Nat → Int32) (h2 : Int64) (e2 : Nat → Int32) (g2 : Int32) (s2 t2 u2 : Nat → Int32), h2 = (if n = 0 then 911 else mx (thV n K ch wd tc hc hb hr) (mx (loV n K su fa ch wd tc) 911 3) 2) ∧ f_X11_digest_6 4096 K ch su tc wd wi fa (nI n) hN hb hr (nI hc) cd (nI pl) rD 0 911 en g0 sl st tt = some (y1, h1, e1, g1, s1, t1, u1) ∧ f_X11_digest_42 4096 K ch su tc wd wi fa (nI n) hN hb hr (nI hc) cd (nI pl) rD 0 h1 e1 g1 s1 t1 u1 = some (y2, h2, e2, g2, s2, t2, u2) := by
    by_cases h0 : n = 0
    · subst h0
      refine ⟨0, 0, 911, en, g0, sl, st, tt, 911, en, g0, sl, st, tt, by rw [if_pos rfl], ?_, ?_⟩
      · rw [f_X11_digest_6, if_neg (by decide), if_pos (by decide)]
      · rw [f_X11_digest_42, if_neg (by decide), if_pos (by decide)]
    · have hz : ¬ nI n ≤ 0 := fun h => by have := (nI_b (a := n) (b := 0) (by omega) (by decide)).mp h; omega
      obtain ⟨⟨h1, e1, g1, s1, t1, u1⟩, c0, c1⟩ := lpU0 (fun k y (q : Int64 × (Nat → Int32) × Int32 × (Nat → Int32) × (Nat → Int32) × (Nat → Int32)) => f_X11_digest_6 k K ch su tc wd wi fa (nI n) hN hb hr (nI hc) cd (nI pl) rD y q.1 q.2.1 q.2.2.1 q.2.2.2.1 q.2.2.2.2.1 q.2.2.2.2.2) (fun q => (nI 3, q)) 3 (fun i q => q.1 = mx (loV n K su fa ch wd tc) 911 i) (911, en, g0, sl, st, tt) (by omega) rfl
        (fun k q _ => by show f_X11_digest_6 (k + 1) _ _ _ _ _ _ _ _ _ _ _ _ _ _ _ _ _ _ _ _ _ _ = _; rw [f_X11_digest_6, if_pos (ltL (a := 2) (L := 2) rfl (by omega) (by omega))])
        (fun k i q hi hI => by
          show ∃ st', _ ∧ f_X11_digest_6 (k + 1) _ _ _ _ _ _ _ _ _ _ _ _ _ _ _ _ _ _ _ _ _ _ = _
          obtain ⟨q0, q1, q2, q3, q4, q5⟩ := q
          dsimp only at hI ⊢
          obtain ⟨e', g', s', t', u', d⟩ := cLot (su := su) (fa := fa) (tc := tc) (by omega) hn hH.V (show i ≤ 2 by omega) q1 q2 q3 q4 q5
          rw [f_X11_digest_6, if_neg (nltL (a := 2) (L := 2) rfl (by omega) (by omega)), if_neg hz, d]
          simp only [Option.bind_some, bnd, nI_1]
          refine ⟨(31 * q0 + (loV n K su fa ch wd tc i).toInt64, e', g', s', t', u'), ?_, rfl⟩
          show 31 * q0 + _ = _
          rw [mx, hI])
      obtain ⟨⟨h2, e2, g2, s2, t2, u2⟩, c2, c3⟩ := lpU0 (fun k y (q : Int64 × (Nat → Int32) × Int32 × (Nat → Int32) × (Nat → Int32) × (Nat → Int32)) => f_X11_digest_42 k K ch su tc wd wi fa (nI n) hN hb hr (nI hc) cd (nI pl) rD y q.1 q.2.1 q.2.2.1 q.2.2.2.1 q.2.2.2.2.1 q.2.2.2.2.2) (fun q => (nI 2, q)) 2 (fun i q => q.1 = mx (thV n K ch wd tc hc hb hr) h1 i) (h1, e1, g1, s1, t1, u1) (by omega) rfl
        (fun k q _ => by show f_X11_digest_42 (k + 1) _ _ _ _ _ _ _ _ _ _ _ _ _ _ _ _ _ _ _ _ _ _ = _; rw [f_X11_digest_42, if_pos (ltL (a := 1) (L := 1) rfl (by omega) (by omega))])
        (fun k i q hi hI => by
          show ∃ st', _ ∧ f_X11_digest_42 (k + 1) _ _ _ _ _ _ _ _ _ _ _ _ _ _ _ _ _ _ _ _ _ _ = _
          obtain ⟨q0, q1, q2, q3, q4, q5⟩ := q
          dsimp only at hI ⊢
          obtain ⟨e', g', s', t', u', d⟩ := cTouched (tc := tc) (by omega) hn hH.V hE (show i ≤ 1 by omega) q1 q2 q3 q4 q5
          rw [f_X11_digest_42, if_neg (nltL (a := 1) (L := 1) rfl (by omega) (by omega)), if_neg hz, d]
          simp only [Option.bind_some, bnd, nI_1]
          refine ⟨(31 * q0 + (thV n K ch wd tc hc hb hr i).toInt64, e', g', s', t', u'), ?_, rfl⟩
          show 31 * q0 + _ = _
          rw [mx, hI])
      have c0' : h1 = mx (loV n K su fa ch wd tc) 911 3 := c0
      have c2' : h2 = mx (thV n K ch wd tc hc hb hr) h1 2 := c2
      exact ⟨nI 3, nI 2, h1, e1, g1, s1, t1, u1, h2, e2, g2, s2, t2, u2, by rw [if_neg h0, c2', c0'], c1, c3⟩
  obtain ⟨⟨h3, e3, g3, s3, t3, u3⟩, b0, b1⟩ := lpU0 (fun k y (q : Int64 × (Nat → Int32) × Int32 × (Nat → Int32) × (Nat → Int32) × (Nat → Int32)) => f_X11_digest_78 k K ch su tc wd wi fa (nI n) hN hb hr (nI hc) cd (nI pl) rD y q.1 q.2.1 q.2.2.1 q.2.2.2.1 q.2.2.2.2.1 q.2.2.2.2.2) (fun q => (nI n, q)) n (fun i q => q.1 = dBs n hc K su wi wd ch tc fa hb hr h2 i) (h2, e2, g2, s2, t2, u2) (by omega) rfl
    (fun k q _ => by show f_X11_digest_78 (k + 1) _ _ _ _ _ _ _ _ _ _ _ _ _ _ _ _ _ _ _ _ _ _ = _; rw [f_X11_digest_78, if_pos (le_t _)])
    (fun k i q hi hI => by
      show ∃ st', _ ∧ f_X11_digest_78 (k + 1) _ _ _ _ _ _ _ _ _ _ _ _ _ _ _ _ _ _ _ _ _ _ = _
      obtain ⟨q0, q1, q2, q3, q4, q5⟩ := q
      dsimp only at hI ⊢
      obtain ⟨e', g', s', t', u', d⟩ := cDW (fa := fa) hH hE q0 hi q1 q2 q3 q4 q5
      rw [f_X11_digest_78, if_neg (le_f hi (by omega)), d]
      simp only [Option.bind_some, bnd, nI_1]
      refine ⟨(dB n hc K su wi wd ch tc fa hb hr q0 i, e', g', s', t', u'), ?_, rfl⟩
      show dB n hc K su wi wd ch tc fa hb hr q0 i = _
      rw [dBs, hI])
  obtain ⟨h4, b2, b3⟩ := lpU0 (fun k y q => f_X11_digest_104 k K ch su tc wd wi fa (nI n) hN hb hr (nI hc) cd (nI pl) rD y q e3 g3 s3 t3 u3) (fun q => (nI pl, q, e3, g3, s3, t3, u3)) pl (fun i q => q = mx cd h3 i) h3 (by omega) rfl
    (fun k q _ => by show f_X11_digest_104 (k + 1) _ _ _ _ _ _ _ _ _ _ _ _ _ _ _ _ _ _ _ _ _ _ = _; rw [f_X11_digest_104, if_pos (le_t _)])
    (fun k i q hi hI => by
      show ∃ st', _ ∧ f_X11_digest_104 (k + 1) _ _ _ _ _ _ _ _ _ _ _ _ _ _ _ _ _ _ _ _ _ _ = _
      rw [f_X11_digest_104, if_neg (le_f hi (by omega)), if_neg (ckN (i := i) (by omega) (by decide)), cl5 (by omega)]
      simp only [bnd, nI_1]
      exact ⟨_, by rw [mx, hI], rfl⟩)
  obtain ⟨h5, b4, b5⟩ := lpU0 (fun k y q => f_X11_digest_140 k K ch su tc wd wi fa (nI n) hN hb hr (nI hc) cd (nI pl) rD y q e3 g3 s3 t3 u3) (fun q => (nI 8, q, e3, g3, s3, t3, u3)) 8 (fun i q => q = mx (fun i => coV n ch tc fa hN (nI hc) (nI pl) rD (nI i)) h4 i) h4 (by omega) rfl
    (fun k q _ => by show f_X11_digest_140 (k + 1) _ _ _ _ _ _ _ _ _ _ _ _ _ _ _ _ _ _ _ _ _ _ = _; rw [f_X11_digest_140, if_pos (ltL (a := 7) (L := 7) rfl (by omega) (by omega))])
    (fun k i q hi hI => by
      show ∃ st', _ ∧ f_X11_digest_140 (k + 1) _ _ _ _ _ _ _ _ _ _ _ _ _ _ _ _ _ _ _ _ _ _ = _
      rw [f_X11_digest_140, if_neg (nltL (a := 7) (L := 7) rfl (by omega) (by omega)), cCount (fa := fa) hH]
      simp only [Option.bind_some, bnd, nI_1]
      exact ⟨_, by rw [mx, hI], rfl⟩)
  have b0' : h3 = dBs n hc K su wi wd ch tc fa hb hr h2 n := b0
  have b1' : f_X11_digest_78 4096 K ch su tc wd wi fa (nI n) hN hb hr (nI hc) cd (nI pl) rD 0 h2 e2 g2 s2 t2 u2 = some (nI n, h3, e3, g3, s3, t3, u3) := b1
  have b3' : f_X11_digest_104 4096 K ch su tc wd wi fa (nI n) hN hb hr (nI hc) cd (nI pl) rD 0 h3 e3 g3 s3 t3 u3 = some (nI pl, h4, e3, g3, s3, t3, u3) := b3
  have b5' : f_X11_digest_140 4096 K ch su tc wd wi fa (nI n) hN hb hr (nI hc) cd (nI pl) rD 0 h4 e3 g3 s3 t3 u3 = some (nI 8, h5, e3, g3, s3, t3, u3) := b5
  refine ⟨e3, g3, s3, t3, u3, ?_⟩
  rw [f_X11_digest, a2]
  simp only [Option.bind_some]
  rw [a3]
  simp only [Option.bind_some]
  rw [b1']
  simp only [Option.bind_some]
  rw [b3']
  simp only [Option.bind_some]
  rw [b5', dgV, ← a1, ← b0', ← b2, ← b4]
  rfl
theorem mDig69 (hH : HA n K su wi wd ch tc ki wo so wio co tb) (rD hN h5 pl' : Int32) (pg' : Nat → Int32) (h : Int64) {b : Nat} (hbn : b < n) (ms : Nat → Int32) : ∃ ms' : Nat → Int32, f_X12_digest_69 4096 rD (nI n) fa hN h5 mb mr ki pg' pl' so wio 0 (nI b) co h ms tb wo = some (nI 10, nI b, co, mx (abV n K su wi wd ch tc fa b) h 10, ms', tb, wo) := by
  obtain ⟨⟨h1, ms'⟩, c0, c1⟩ := lpU0 (fun k y (q : Int64 × (Nat → Int32)) => f_X12_digest_69 k rD (nI n) fa hN h5 mb mr ki pg' pl' so wio y (nI b) co q.1 q.2 tb wo) (fun q => (nI 10, nI b, co, q.1, q.2, tb, wo)) 10 (fun i q => q.1 = mx (abV n K su wi wd ch tc fa b) h i) (h, ms) (by omega) rfl
    (fun k q _ => by show f_X12_digest_69 (k + 1) _ _ _ _ _ _ _ _ _ _ _ _ _ _ _ _ _ _ _ = _; rw [f_X12_digest_69, if_pos (leL (a := 10) (L := 10) rfl (by omega) (by omega))])
    (fun k i q hi hI => by
      show ∃ st', _ ∧ f_X12_digest_69 (k + 1) _ _ _ _ _ _ _ _ _ _ _ _ _ _ _ _ _ _ _ = _
      obtain ⟨q0, q1⟩ := q
      dsimp only at hI ⊢
      obtain ⟨t', d⟩ := mAbout (fa := fa) hH hbn (show i ≤ 9 by omega) q1
      rw [f_X12_digest_69, if_neg (nleL (a := 10) (L := 10) rfl (by omega) (by omega)), d]
      simp only [Option.bind_some, bnd, nI_1, mixE]
      refine ⟨(31 * q0 + (abV n K su wi wd ch tc fa b i).toInt64, t'), ?_, rfl⟩
      show 31 * q0 + _ = _
      rw [mx, hI])
  refine ⟨ms', ?_⟩
  have c0' : h1 = mx (abV n K su wi wd ch tc fa b) h 10 := c0
  rw [← c0']
  exact c1
theorem mDig59 (hH : HA n K su wi wd ch tc ki wo so wio co tb) (hE : HE n hc hb hr mb mr) (rD hN pl' : Int32) (pg' : Nat → Int32) (h : Int64) (ms : Nat → Int32) : ∃ ms' : Nat → Int32, f_X12_digest_59 4096 rD (nI n) fa hN (nI hc) mb mr ki pg' pl' so wio 0 co h ms tb wo = some (nI n, co, dBs n hc K su wi wd ch tc fa hb hr h n, ms', tb, wo) := by
  have hn := hH.1
  obtain ⟨⟨h1, ms'⟩, c0, c1⟩ := lpU0 (fun k y (q : Int64 × (Nat → Int32)) => f_X12_digest_59 k rD (nI n) fa hN (nI hc) mb mr ki pg' pl' so wio y co q.1 q.2 tb wo) (fun q => (nI n, co, q.1, q.2, tb, wo)) n (fun i q => q.1 = dBs n hc K su wi wd ch tc fa hb hr h i) (h, ms) (by omega) rfl
    (fun k q _ => by show f_X12_digest_59 (k + 1) _ _ _ _ _ _ _ _ _ _ _ _ _ _ _ _ _ _ = _; rw [f_X12_digest_59, if_pos (le_t _)])
    (fun k i q hi hI => by
      show ∃ st', _ ∧ f_X12_digest_59 (k + 1) _ _ _ _ _ _ _ _ _ _ _ _ _ _ _ _ _ _ = _
      obtain ⟨q0, q1⟩ := q
      dsimp only at hI ⊢
      obtain ⟨m1, d1⟩ := mDig69 (fa := fa) (mb := mb) (mr := mr) hH rD hN (nI hc) pl' pg' q0 hi q1
      obtain ⟨m2, d2⟩ := mBest (fa := fa) hH hi (w := 0) (by omega) m1
      obtain ⟨m3, d3⟩ := mBest (fa := fa) hH hi (w := 1) (by omega) m2
      obtain ⟨m4, d4⟩ := mWinds hH hE hi m3
      have d2' : f_X12_bestNow (nI i) 0 (nI n) co fa ki m1 so tb wo wio = some (beV n K su wi wd ch tc fa i 0, co, m2) := d2
      have d3' : f_X12_bestNow (nI i) 1 (nI n) co fa ki m2 so tb wo wio = some (beV n K su wi wd ch tc fa i 1, co, m3) := d3
      rw [f_X12_digest_59, if_neg (le_f hi (by omega)), d1]
      simp only [Option.bind_some]
      rw [d2']
      simp only [Option.bind_some, mixE]
      rw [d3']
      simp only [Option.bind_some, mixE]
      rw [d4]
      simp only [Option.bind_some, mixE, bnd, nI_1]
      refine ⟨(31 * (31 * (31 * mx (abV n K su wi wd ch tc fa i) q0 10 + (beV n K su wi wd ch tc fa i 0).toInt64) + (beV n K su wi wd ch tc fa i 1).toInt64) + (wnV n K ch wd tc hc hb hr i).toInt64, m4), ?_, rfl⟩
      rw [dBs, ← hI, dB, mx2])
  refine ⟨ms', ?_⟩
  have c0' : h1 = dBs n hc K su wi wd ch tc fa hb hr h n := c0
  rw [← c0']
  exact c1
theorem mDig (hH : HA n K su wi wd ch tc ki wo so wio co tb) (hE : HE n hc hb hr mb mr) (hP : PA pl cd pg) (hN rD : Int32) (h : Int64) (ms : Nat → Int32) : ∃ ms' : Nat → Int32, f_X12_digest rD (nI n) co fa h hN (nI hc) mb mr ki pg (nI pl) ms so tb wo wio = some (dgV n hc pl K su wi wd ch tc fa hb hr cd hN rD, co, dgV n hc pl K su wi wd ch tc fa hb hr cd hN rD, ms', tb, wo) := by
  have hn := hH.1
  have hpl := hP.1
  have tail : ∀ (g : Int64) (m : Nat → Int32), ∃ m' : Nat → Int32, (((f_X12_digest_59 4096 rD (nI n) fa hN (nI hc) mb mr ki pg (nI pl) so wio 0 co g m tb wo).bind fun q15 => ((f_X12_digest_132 4096 rD (nI n) fa hN (nI hc) mb mr ki pg (nI pl) so wio 0 q15.2.1 q15.2.2.1 q15.2.2.2.1 q15.2.2.2.2.1 q15.2.2.2.2.2).bind fun q20 => ((f_X12_digest_159 4096 rD (nI n) fa hN (nI hc) mb mr ki pg (nI pl) so wio 0 q20.2.1 q20.2.2.1 q20.2.2.2.1 q20.2.2.2.2.1 q20.2.2.2.2.2).bind fun q25 => (some (q25.2.2.1, q25.2.1, q25.2.2.1, q25.2.2.2.1, q25.2.2.2.2.1, q25.2.2.2.2.2)))))) = some (mx (fun i => coV n ch tc fa hN (nI hc) (nI pl) rD (nI i)) (mx cd (dBs n hc K su wi wd ch tc fa hb hr g n) pl) 8, co, mx (fun i => coV n ch tc fa hN (nI hc) (nI pl) rD (nI i)) (mx cd (dBs n hc K su wi wd ch tc fa hb hr g n) pl) 8, m', tb, wo) := by
    intro g m
    obtain ⟨m1, d1⟩ := mDig59 (fa := fa) hH hE rD hN (nI pl) pg g m
    obtain ⟨h4, b2, b3⟩ := lpU0 (fun k y q => f_X12_digest_132 k rD (nI n) fa hN (nI hc) mb mr ki pg (nI pl) so wio y co q m1 tb wo) (fun q => (nI pl, co, q, m1, tb, wo)) pl (fun i q => q = mx cd (dBs n hc K su wi wd ch tc fa hb hr g n) i) (dBs n hc K su wi wd ch tc fa hb hr g n) (by omega) rfl
      (fun k q _ => by show f_X12_digest_132 (k + 1) _ _ _ _ _ _ _ _ _ _ _ _ _ _ _ _ _ _ = _; rw [f_X12_digest_132, if_pos (le_t _)])
      (fun k i q hi hI => by
        show ∃ st', _ ∧ f_X12_digest_132 (k + 1) _ _ _ _ _ _ _ _ _ _ _ _ _ _ _ _ _ _ = _
        rw [f_X12_digest_132, if_neg (le_f hi (by omega)), if_neg (ckN (i := i) (by omega) (by decide)), cl5 (by omega), (hP.2 i hi).1]
        simp only [bnd, nI_1, mixE, Option.bind_some]
        exact ⟨_, by rw [mx, hI], rfl⟩)
    obtain ⟨h5, b4, b5⟩ := lpU0 (fun k y q => f_X12_digest_159 k rD (nI n) fa hN (nI hc) mb mr ki pg (nI pl) so wio y co q m1 tb wo) (fun q => (nI 8, co, q, m1, tb, wo)) 8 (fun i q => q = mx (fun i => coV n ch tc fa hN (nI hc) (nI pl) rD (nI i)) h4 i) h4 (by omega) rfl
      (fun k q _ => by show f_X12_digest_159 (k + 1) _ _ _ _ _ _ _ _ _ _ _ _ _ _ _ _ _ _ = _; rw [f_X12_digest_159, if_pos (leL (a := 8) (L := 8) rfl (by omega) (by omega))])
      (fun k i q hi hI => by
        show ∃ st', _ ∧ f_X12_digest_159 (k + 1) _ _ _ _ _ _ _ _ _ _ _ _ _ _ _ _ _ _ = _
        rw [f_X12_digest_159, if_neg (nleL (a := 8) (L := 8) rfl (by omega) (by omega)), mCount (fa := fa) hH]
        simp only [bnd, nI_1, mixE, Option.bind_some]
        exact ⟨_, by rw [mx, hI], rfl⟩)
    have b3' : f_X12_digest_132 4096 rD (nI n) fa hN (nI hc) mb mr ki pg (nI pl) so wio 0 co (dBs n hc K su wi wd ch tc fa hb hr g n) m1 tb wo = some (nI pl, co, h4, m1, tb, wo) := b3
    have b5' : f_X12_digest_159 4096 rD (nI n) fa hN (nI hc) mb mr ki pg (nI pl) so wio 0 co h4 m1 tb wo = some (nI 8, co, h5, m1, tb, wo) := b5
    refine ⟨m1, ?_⟩
    rw [d1]
    simp only [Option.bind_some]
    rw [b3']
    simp only [Option.bind_some]
    rw [b5', ← b2, ← b4]
    rfl
  by_cases h0 : n = 0
  · subst h0
    obtain ⟨m', e⟩ := tail 911 ms
    refine ⟨m', ?_⟩
    rw [f_X12_digest, if_pos (by decide), dgV, if_pos rfl]
    exact e
  · have hz : ¬ nI n ≤ 0 := fun h => by have := (nI_b (a := n) (b := 0) (by omega) (by decide)).mp h; omega
    obtain ⟨⟨h1, m1⟩, c0, c1⟩ := lpU0 (fun k y (q : Int64 × (Nat → Int32)) => f_X12_digest_16 k rD (nI n) fa hN (nI hc) mb mr ki pg (nI pl) so wio y co q.1 q.2 tb wo) (fun q => (nI 3, co, q.1, q.2, tb, wo)) 3 (fun i q => q.1 = mx (loV n K su fa ch wd tc) 911 i) (911, ms) (by omega) rfl
      (fun k q _ => by show f_X12_digest_16 (k + 1) _ _ _ _ _ _ _ _ _ _ _ _ _ _ _ _ _ _ = _; rw [f_X12_digest_16, if_pos (leL (a := 3) (L := 3) rfl (by omega) (by omega))])
      (fun k i q hi hI => by
        show ∃ st', _ ∧ f_X12_digest_16 (k + 1) _ _ _ _ _ _ _ _ _ _ _ _ _ _ _ _ _ _ = _
        obtain ⟨q0, q1⟩ := q
        dsimp only at hI ⊢
        obtain ⟨t', d⟩ := mLot (fa := fa) (by omega) hH (show i ≤ 2 by omega) q1
        rw [f_X12_digest_16, if_neg (nleL (a := 3) (L := 3) rfl (by omega) (by omega)), d]
        simp only [Option.bind_some, bnd, nI_1, mixE]
        refine ⟨(31 * q0 + (loV n K su fa ch wd tc i).toInt64, t'), ?_, rfl⟩
        show 31 * q0 + _ = _
        rw [mx, hI])
    obtain ⟨m2, d2⟩ := mTouched (by omega) hH hE (w := 0) (by omega) m1
    obtain ⟨m3, d3⟩ := mTouched (by omega) hH hE (w := 1) (by omega) m2
    have d2' : f_X12_touchedNow 0 (nI n) co (nI hc) mb mr ki m1 tb wo = some (thV n K ch wd tc hc hb hr 0, m2, tb) := d2
    have d3' : f_X12_touchedNow 1 (nI n) co (nI hc) mb mr ki m2 tb wo = some (thV n K ch wd tc hc hb hr 1, m3, tb) := d3
    have c0' : h1 = mx (loV n K su fa ch wd tc) 911 3 := c0
    have c1' : f_X12_digest_16 4096 rD (nI n) fa hN (nI hc) mb mr ki pg (nI pl) so wio 0 co 911 ms tb wo = some (nI 3, co, h1, m1, tb, wo) := c1
    obtain ⟨m', e⟩ := tail (31 * (31 * h1 + (thV n K ch wd tc hc hb hr 0).toInt64) + (thV n K ch wd tc hc hb hr 1).toInt64) m3
    refine ⟨m', ?_⟩
    rw [f_X12_digest, if_neg hz, c1']
    simp only [Option.bind_some]
    rw [d2']
    simp only [Option.bind_some, mixE]
    rw [d3']
    simp only [Option.bind_some, mixE]
    rw [dgV, if_neg h0, ← c0']
    exact e
end
